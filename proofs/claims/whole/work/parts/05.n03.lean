theorem dX3_firstUnder_24 : decode cX3_firstUnder 24 = .ok (.invokestatic 76, 3) := by decide +kernel
theorem dX3_firstUnder_27 : decode cX3_firstUnder 27 = .ok (.istore 6, 2) := by decide +kernel
theorem dX3_firstUnder_29 : decode cX3_firstUnder 29 = .ok (.lload_n 3, 1) := by decide +kernel
theorem dX3_firstUnder_30 : decode cX3_firstUnder 30 = .ok (.iload 5, 2) := by decide +kernel
theorem dX3_firstUnder_32 : decode cX3_firstUnder 32 = .ok (.iload 6, 2) := by decide +kernel
theorem dX3_firstUnder_34 : decode cX3_firstUnder 34 = .ok (.invokestatic 104, 3) := by decide +kernel
theorem dX3_firstUnder_37 : decode cX3_firstUnder 37 = .ok (.ladd, 1) := by decide +kernel
theorem dX3_firstUnder_38 : decode cX3_firstUnder 38 = .ok (.lstore_n 3, 1) := by decide +kernel
theorem dX3_firstUnder_39 : decode cX3_firstUnder 39 = .ok (.iinc 5 1, 3) := by decide +kernel
theorem dX3_firstUnder_42 : decode cX3_firstUnder 42 = .ok (.goto (-37), 3) := by decide +kernel
theorem dX3_firstUnder_45 : decode cX3_firstUnder 45 = .ok (.iconst 0, 1) := by decide +kernel
theorem dX3_firstUnder_46 : decode cX3_firstUnder 46 = .ok (.istore 5, 2) := by decide +kernel
theorem dX3_firstUnder_48 : decode cX3_firstUnder 48 = .ok (.iload 5, 2) := by decide +kernel
theorem dX3_firstUnder_50 : decode cX3_firstUnder 50 = .ok (.aload_n 0, 1) := by decide +kernel
theorem dX3_firstUnder_51 : decode cX3_firstUnder 51 = .ok (.getfield 32, 3) := by decide +kernel
theorem dX3_firstUnder_54 : decode cX3_firstUnder 54 = .ok (.if_icmp .ge 26, 3) := by decide +kernel
theorem dX3_firstUnder_57 : decode cX3_firstUnder 57 = .ok (.aload_n 0, 1) := by decide +kernel
theorem dX3_firstUnder_58 : decode cX3_firstUnder 58 = .ok (.getfield 9, 3) := by decide +kernel
theorem dX3_firstUnder_61 : decode cX3_firstUnder 61 = .ok (.iload 5, 2) := by decide +kernel
theorem dX3_firstUnder_63 : decode cX3_firstUnder 63 = .ok (.laload, 1) := by decide +kernel
theorem dX3_firstUnder_64 : decode cX3_firstUnder 64 = .ok (.lload_n 3, 1) := by decide +kernel
theorem dX3_firstUnder_65 : decode cX3_firstUnder 65 = .ok (.invokestatic 48, 3) := by decide +kernel
theorem dX3_firstUnder_68 : decode cX3_firstUnder 68 = .ok (.ifCond .eq 6, 3) := by decide +kernel
theorem dX3_firstUnder_71 : decode cX3_firstUnder 71 = .ok (.iload 5, 2) := by decide +kernel
theorem dX3_firstUnder_73 : decode cX3_firstUnder 73 = .ok (.ireturn, 1) := by decide +kernel
theorem dX3_firstUnder_74 : decode cX3_firstUnder 74 = .ok (.iinc 5 1, 3) := by decide +kernel
theorem dX3_firstUnder_77 : decode cX3_firstUnder 77 = .ok (.goto (-29), 3) := by decide +kernel
theorem dX3_firstUnder_80 : decode cX3_firstUnder 80 = .ok (.ldc 108, 2) := by decide +kernel
theorem dX3_firstUnder_82 : decode cX3_firstUnder 82 = .ok (.ireturn, 1) := by decide +kernel
theorem dX4_place_0 : decode cX4_place 0 = .ok (.bipush 48, 2) := by decide +kernel
theorem dX4_place_2 : decode cX4_place 2 = .ok (.bipush 16, 2) := by decide +kernel
theorem dX4_place_4 : decode cX4_place 4 = .ok (.iload_n 0, 1) := by decide +kernel
theorem dX4_place_5 : decode cX4_place 5 = .ok (.imul, 1) := by decide +kernel
theorem dX4_place_6 : decode cX4_place 6 = .ok (.isub, 1) := by decide +kernel
theorem dX4_place_7 : decode cX4_place 7 = .ok (.ireturn, 1) := by decide +kernel
set_option maxRecDepth 20000 in
theorem ggX4_lane_X4_place : GoodIn wsX4_lane wsX4_place := goodIn_r _ [4] (by decide +kernel) (by decide +kernel)
set_option maxRecDepth 20000 in
theorem gX4_lane_X4_place : GoodIn wsX4_lane (va_wsS RX4 9 yX4_place wsX4_place) := goodIn_app (goodIn_of _ (by decide +kernel)) ggX4_lane_X4_place
theorem dX4_lane_0 : decode cX4_lane 0 = .ok (.iload_n 1, 1) := by decide +kernel
theorem dX4_lane_1 : decode cX4_lane 1 = .ok (.sipush 2048, 3) := by decide +kernel
theorem dX4_lane_4 : decode cX4_lane 4 = .ok (.iadd, 1) := by decide +kernel
theorem dX4_lane_5 : decode cX4_lane 5 = .ok (.i2l, 1) := by decide +kernel
theorem dX4_lane_6 : decode cX4_lane 6 = .ok (.iload_n 0, 1) := by decide +kernel
theorem dX4_lane_7 : decode cX4_lane 7 = .ok (.invokestatic 9, 3) := by decide +kernel
theorem dX4_lane_10 : decode cX4_lane 10 = .ok (.lshl, 1) := by decide +kernel
theorem dX4_lane_11 : decode cX4_lane 11 = .ok (.lreturn, 1) := by decide +kernel
set_option maxRecDepth 20000 in
theorem ggX4_number_X4_place : GoodIn wsX4_number wsX4_place := goodIn_r _ [5] (by decide +kernel) (by decide +kernel)
set_option maxRecDepth 20000 in
theorem gX4_number_X4_place : GoodIn wsX4_number (va_wsS RX4 9 yX4_place wsX4_place) := goodIn_app (goodIn_of _ (by decide +kernel)) ggX4_number_X4_place
theorem dX4_number_0 : decode cX4_number 0 = .ok (.lload_n 0, 1) := by decide +kernel
theorem dX4_number_1 : decode cX4_number 1 = .ok (.iload_n 2, 1) := by decide +kernel
theorem dX4_number_2 : decode cX4_number 2 = .ok (.invokestatic 9, 3) := by decide +kernel
theorem dX4_number_5 : decode cX4_number 5 = .ok (.lushr, 1) := by decide +kernel
theorem dX4_number_6 : decode cX4_number 6 = .ok (.ldc2_w 13, 3) := by decide +kernel
theorem dX4_number_9 : decode cX4_number 9 = .ok (.land, 1) := by decide +kernel
theorem dX4_number_10 : decode cX4_number 10 = .ok (.l2i, 1) := by decide +kernel
theorem dX4_number_11 : decode cX4_number 11 = .ok (.sipush 2048, 3) := by decide +kernel
theorem dX4_number_14 : decode cX4_number 14 = .ok (.isub, 1) := by decide +kernel
theorem dX4_number_15 : decode cX4_number 15 = .ok (.ireturn, 1) := by decide +kernel
theorem dX4_inNoneGreater_0 : decode cX4_inNoneGreater 0 = .ok (.lload_n 2, 1) := by decide +kernel
theorem dX4_inNoneGreater_1 : decode cX4_inNoneGreater 1 = .ok (.ldc2_w 15, 3) := by decide +kernel
theorem dX4_inNoneGreater_4 : decode cX4_inNoneGreater 4 = .ok (.ladd, 1) := by decide +kernel
theorem dX4_inNoneGreater_5 : decode cX4_inNoneGreater 5 = .ok (.lload_n 0, 1) := by decide +kernel
theorem dX4_inNoneGreater_6 : decode cX4_inNoneGreater 6 = .ok (.lsub, 1) := by decide +kernel
theorem dX4_inNoneGreater_7 : decode cX4_inNoneGreater 7 = .ok (.ldc2_w 15, 3) := by decide +kernel
theorem dX4_inNoneGreater_10 : decode cX4_inNoneGreater 10 = .ok (.land, 1) := by decide +kernel
theorem dX4_inNoneGreater_11 : decode cX4_inNoneGreater 11 = .ok (.ldc2_w 15, 3) := by decide +kernel
theorem dX4_inNoneGreater_14 : decode cX4_inNoneGreater 14 = .ok (.lcmp, 1) := by decide +kernel
theorem dX4_inNoneGreater_15 : decode cX4_inNoneGreater 15 = .ok (.ifCond .ne 7, 3) := by decide +kernel
theorem dX4_inNoneGreater_18 : decode cX4_inNoneGreater 18 = .ok (.iconst 1, 1) := by decide +kernel
theorem dX4_inNoneGreater_19 : decode cX4_inNoneGreater 19 = .ok (.goto 4, 3) := by decide +kernel
theorem dX4_inNoneGreater_22 : decode cX4_inNoneGreater 22 = .ok (.iconst 0, 1) := by decide +kernel
theorem dX4_inNoneGreater_23 : decode cX4_inNoneGreater 23 = .ok (.ireturn, 1) := by decide +kernel
theorem dX5_init_0 : decode cX5_init 0 = .ok (.aload_n 0, 1) := by decide +kernel
theorem dX5_init_1 : decode cX5_init 1 = .ok (.invokespecial 3, 3) := by decide +kernel
theorem dX5_init_4 : decode cX5_init 4 = .ok (.aload_n 0, 1) := by decide +kernel
theorem dX5_init_5 : decode cX5_init 5 = .ok (.bipush 8, 2) := by decide +kernel
theorem dX5_init_7 : decode cX5_init 7 = .ok (.newarray .int, 2) := by decide +kernel
theorem dX5_init_9 : decode cX5_init 9 = .ok (.putfield 9, 3) := by decide +kernel
theorem dX5_init_12 : decode cX5_init 12 = .ok (.aload_n 0, 1) := by decide +kernel
theorem dX5_init_13 : decode cX5_init 13 = .ok (.bipush 8, 2) := by decide +kernel
theorem dX5_init_15 : decode cX5_init 15 = .ok (.newarray .int, 2) := by decide +kernel
theorem dX5_init_17 : decode cX5_init 17 = .ok (.putfield 15, 3) := by decide +kernel
theorem dX5_init_20 : decode cX5_init 20 = .ok (.aload_n 0, 1) := by decide +kernel
theorem dX5_init_21 : decode cX5_init 21 = .ok (.bipush 8, 2) := by decide +kernel
theorem dX5_init_23 : decode cX5_init 23 = .ok (.newarray .int, 2) := by decide +kernel
theorem dX5_init_25 : decode cX5_init 25 = .ok (.putfield 18, 3) := by decide +kernel
theorem dX5_init_28 : decode cX5_init 28 = .ok (.aload_n 0, 1) := by decide +kernel
theorem dX5_init_29 : decode cX5_init 29 = .ok (.bipush 8, 2) := by decide +kernel
theorem dX5_init_31 : decode cX5_init 31 = .ok (.bipush 8, 2) := by decide +kernel
theorem dX5_init_33 : decode cX5_init 33 = .ok (.multianewarray 21 2, 4) := by decide +kernel
theorem dX5_init_37 : decode cX5_init 37 = .ok (.putfield 23, 3) := by decide +kernel
theorem dX5_init_40 : decode cX5_init 40 = .ok (.aload_n 0, 1) := by decide +kernel
theorem dX5_init_41 : decode cX5_init 41 = .ok (.iconst 4, 1) := by decide +kernel
theorem dX5_init_42 : decode cX5_init 42 = .ok (.newarray .int, 2) := by decide +kernel
theorem dX5_init_44 : decode cX5_init 44 = .ok (.putfield 26, 3) := by decide +kernel
theorem dX5_init_47 : decode cX5_init 47 = .ok (.aload_n 0, 1) := by decide +kernel
theorem dX5_init_48 : decode cX5_init 48 = .ok (.iconst 4, 1) := by decide +kernel
theorem dX5_init_49 : decode cX5_init 49 = .ok (.newarray .int, 2) := by decide +kernel
theorem dX5_init_51 : decode cX5_init 51 = .ok (.putfield 29, 3) := by decide +kernel
theorem dX5_init_54 : decode cX5_init 54 = .ok (.aload_n 0, 1) := by decide +kernel
theorem dX5_init_55 : decode cX5_init 55 = .ok (.iconst 4, 1) := by decide +kernel
theorem dX5_init_56 : decode cX5_init 56 = .ok (.bipush 8, 2) := by decide +kernel
theorem dX5_init_58 : decode cX5_init 58 = .ok (.multianewarray 21 2, 4) := by decide +kernel
theorem dX5_init_62 : decode cX5_init 62 = .ok (.putfield 32, 3) := by decide +kernel
theorem dX5_init_65 : decode cX5_init 65 = .ok (.aload_n 0, 1) := by decide +kernel
theorem dX5_init_66 : decode cX5_init 66 = .ok (.iconst 1, 1) := by decide +kernel
theorem dX5_init_67 : decode cX5_init 67 = .ok (.putfield 35, 3) := by decide +kernel
theorem dX5_init_70 : decode cX5_init 70 = .ok (.return_, 1) := by decide +kernel
theorem dX5_addColumn_0 : decode cX5_addColumn 0 = .ok (.aload_n 0, 1) := by decide +kernel
theorem dX5_addColumn_1 : decode cX5_addColumn 1 = .ok (.getfield 9, 3) := by decide +kernel
theorem dX5_addColumn_4 : decode cX5_addColumn 4 = .ok (.aload_n 0, 1) := by decide +kernel
theorem dX5_addColumn_5 : decode cX5_addColumn 5 = .ok (.getfield 39, 3) := by decide +kernel
theorem dX5_addColumn_8 : decode cX5_addColumn 8 = .ok (.iload_n 1, 1) := by decide +kernel
theorem dX5_addColumn_9 : decode cX5_addColumn 9 = .ok (.iastore, 1) := by decide +kernel
theorem dX5_addColumn_10 : decode cX5_addColumn 10 = .ok (.aload_n 0, 1) := by decide +kernel
theorem dX5_addColumn_11 : decode cX5_addColumn 11 = .ok (.getfield 15, 3) := by decide +kernel
theorem dX5_addColumn_14 : decode cX5_addColumn 14 = .ok (.aload_n 0, 1) := by decide +kernel
theorem dX5_addColumn_15 : decode cX5_addColumn 15 = .ok (.getfield 39, 3) := by decide +kernel
theorem dX5_addColumn_18 : decode cX5_addColumn 18 = .ok (.iload_n 2, 1) := by decide +kernel
theorem dX5_addColumn_19 : decode cX5_addColumn 19 = .ok (.iastore, 1) := by decide +kernel
theorem dX5_addColumn_20 : decode cX5_addColumn 20 = .ok (.aload_n 0, 1) := by decide +kernel
theorem dX5_addColumn_21 : decode cX5_addColumn 21 = .ok (.dup, 1) := by decide +kernel
theorem dX5_addColumn_22 : decode cX5_addColumn 22 = .ok (.getfield 35, 3) := by decide +kernel
theorem dX5_addColumn_25 : decode cX5_addColumn 25 = .ok (.iload_n 2, 1) := by decide +kernel
theorem dX5_addColumn_26 : decode cX5_addColumn 26 = .ok (.iload_n 1, 1) := by decide +kernel
theorem dX5_addColumn_27 : decode cX5_addColumn 27 = .ok (.isub, 1) := by decide +kernel
theorem dX5_addColumn_28 : decode cX5_addColumn 28 = .ok (.iconst 1, 1) := by decide +kernel
theorem dX5_addColumn_29 : decode cX5_addColumn 29 = .ok (.iadd, 1) := by decide +kernel
theorem dX5_addColumn_30 : decode cX5_addColumn 30 = .ok (.imul, 1) := by decide +kernel
theorem dX5_addColumn_31 : decode cX5_addColumn 31 = .ok (.putfield 35, 3) := by decide +kernel
theorem dX5_addColumn_34 : decode cX5_addColumn 34 = .ok (.aload_n 0, 1) := by decide +kernel
theorem dX5_addColumn_35 : decode cX5_addColumn 35 = .ok (.dup, 1) := by decide +kernel
theorem dX5_addColumn_36 : decode cX5_addColumn 36 = .ok (.getfield 39, 3) := by decide +kernel
theorem dX5_addColumn_39 : decode cX5_addColumn 39 = .ok (.dup_x1, 1) := by decide +kernel
theorem dX5_addColumn_40 : decode cX5_addColumn 40 = .ok (.iconst 1, 1) := by decide +kernel
theorem dX5_addColumn_41 : decode cX5_addColumn 41 = .ok (.iadd, 1) := by decide +kernel
theorem dX5_addColumn_42 : decode cX5_addColumn 42 = .ok (.putfield 39, 3) := by decide +kernel
theorem dX5_addColumn_45 : decode cX5_addColumn 45 = .ok (.ireturn, 1) := by decide +kernel
theorem dX5_addRow_0 : decode cX5_addRow 0 = .ok (.aload_n 0, 1) := by decide +kernel
theorem dX5_addRow_1 : decode cX5_addRow 1 = .ok (.getfield 18, 3) := by decide +kernel
theorem dX5_addRow_4 : decode cX5_addRow 4 = .ok (.aload_n 0, 1) := by decide +kernel
theorem dX5_addRow_5 : decode cX5_addRow 5 = .ok (.getfield 42, 3) := by decide +kernel
theorem dX5_addRow_8 : decode cX5_addRow 8 = .ok (.iload_n 1, 1) := by decide +kernel
theorem dX5_addRow_9 : decode cX5_addRow 9 = .ok (.iastore, 1) := by decide +kernel
theorem dX5_addRow_10 : decode cX5_addRow 10 = .ok (.aload_n 0, 1) := by decide +kernel
theorem dX5_addRow_11 : decode cX5_addRow 11 = .ok (.dup, 1) := by decide +kernel
theorem dX5_addRow_12 : decode cX5_addRow 12 = .ok (.getfield 42, 3) := by decide +kernel
theorem dX5_addRow_15 : decode cX5_addRow 15 = .ok (.dup_x1, 1) := by decide +kernel
theorem dX5_addRow_16 : decode cX5_addRow 16 = .ok (.iconst 1, 1) := by decide +kernel
theorem dX5_addRow_17 : decode cX5_addRow 17 = .ok (.iadd, 1) := by decide +kernel
theorem dX5_addRow_18 : decode cX5_addRow 18 = .ok (.putfield 42, 3) := by decide +kernel
theorem dX5_addRow_21 : decode cX5_addRow 21 = .ok (.ireturn, 1) := by decide +kernel
theorem dX5_addAim_0 : decode cX5_addAim 0 = .ok (.aload_n 0, 1) := by decide +kernel
theorem dX5_addAim_1 : decode cX5_addAim 1 = .ok (.getfield 26, 3) := by decide +kernel
theorem dX5_addAim_4 : decode cX5_addAim 4 = .ok (.aload_n 0, 1) := by decide +kernel
theorem dX5_addAim_5 : decode cX5_addAim 5 = .ok (.getfield 45, 3) := by decide +kernel
theorem dX5_addAim_8 : decode cX5_addAim 8 = .ok (.sipush (-2000), 3) := by decide +kernel
theorem dX5_addAim_11 : decode cX5_addAim 11 = .ok (.iastore, 1) := by decide +kernel
theorem dX5_addAim_12 : decode cX5_addAim 12 = .ok (.aload_n 0, 1) := by decide +kernel
theorem dX5_addAim_13 : decode cX5_addAim 13 = .ok (.getfield 29, 3) := by decide +kernel
theorem dX5_addAim_16 : decode cX5_addAim 16 = .ok (.aload_n 0, 1) := by decide +kernel
theorem dX5_addAim_17 : decode cX5_addAim 17 = .ok (.getfield 45, 3) := by decide +kernel
theorem dX5_addAim_20 : decode cX5_addAim 20 = .ok (.sipush 2000, 3) := by decide +kernel
theorem dX5_addAim_23 : decode cX5_addAim 23 = .ok (.iastore, 1) := by decide +kernel
theorem dX5_addAim_24 : decode cX5_addAim 24 = .ok (.aload_n 0, 1) := by decide +kernel
theorem dX5_addAim_25 : decode cX5_addAim 25 = .ok (.dup, 1) := by decide +kernel
theorem dX5_addAim_26 : decode cX5_addAim 26 = .ok (.getfield 45, 3) := by decide +kernel
theorem dX5_addAim_29 : decode cX5_addAim 29 = .ok (.dup_x1, 1) := by decide +kernel
theorem dX5_addAim_30 : decode cX5_addAim 30 = .ok (.iconst 1, 1) := by decide +kernel
theorem dX5_addAim_31 : decode cX5_addAim 31 = .ok (.iadd, 1) := by decide +kernel
theorem dX5_addAim_32 : decode cX5_addAim 32 = .ok (.putfield 45, 3) := by decide +kernel
theorem dX5_addAim_35 : decode cX5_addAim 35 = .ok (.ireturn, 1) := by decide +kernel
set_option maxRecDepth 20000 in
theorem ggX5_forget_J7_fill_53178 : GoodIn wsX5_forget wsJ7_fill_53178 := goodIn_r _ [10] (by decide +kernel) (by decide +kernel)
set_option maxRecDepth 20000 in
theorem gX5_forget_J7_fill_53178 : GoodIn wsX5_forget (va_wsS RX5 48 yJ7_fill_53178 wsJ7_fill_53178) := goodIn_app (goodIn_of _ (by decide +kernel)) ggX5_forget_J7_fill_53178
theorem dX5_forget_0 : decode cX5_forget 0 = .ok (.aload_n 0, 1) := by decide +kernel
theorem dX5_forget_1 : decode cX5_forget 1 = .ok (.iconst 0, 1) := by decide +kernel
theorem dX5_forget_2 : decode cX5_forget 2 = .ok (.putfield 39, 3) := by decide +kernel
theorem dX5_forget_5 : decode cX5_forget 5 = .ok (.aload_n 0, 1) := by decide +kernel
theorem dX5_forget_6 : decode cX5_forget 6 = .ok (.iconst 0, 1) := by decide +kernel
theorem dX5_forget_7 : decode cX5_forget 7 = .ok (.putfield 42, 3) := by decide +kernel
theorem dX5_forget_10 : decode cX5_forget 10 = .ok (.aload_n 0, 1) := by decide +kernel
theorem dX5_forget_11 : decode cX5_forget 11 = .ok (.iconst 0, 1) := by decide +kernel
theorem dX5_forget_12 : decode cX5_forget 12 = .ok (.putfield 45, 3) := by decide +kernel
theorem dX5_forget_15 : decode cX5_forget 15 = .ok (.aload_n 0, 1) := by decide +kernel
theorem dX5_forget_16 : decode cX5_forget 16 = .ok (.iconst 1, 1) := by decide +kernel
theorem dX5_forget_17 : decode cX5_forget 17 = .ok (.putfield 35, 3) := by decide +kernel
theorem dX5_forget_20 : decode cX5_forget 20 = .ok (.aload_n 0, 1) := by decide +kernel
theorem dX5_forget_21 : decode cX5_forget 21 = .ok (.getfield 23, 3) := by decide +kernel
theorem dX5_forget_24 : decode cX5_forget 24 = .ok (.astore_n 1, 1) := by decide +kernel
theorem dX5_forget_25 : decode cX5_forget 25 = .ok (.aload_n 1, 1) := by decide +kernel
theorem dX5_forget_26 : decode cX5_forget 26 = .ok (.arraylength, 1) := by decide +kernel
theorem dX5_forget_27 : decode cX5_forget 27 = .ok (.istore_n 2, 1) := by decide +kernel
theorem dX5_forget_28 : decode cX5_forget 28 = .ok (.iconst 0, 1) := by decide +kernel
theorem dX5_forget_29 : decode cX5_forget 29 = .ok (.istore_n 3, 1) := by decide +kernel
theorem dX5_forget_30 : decode cX5_forget 30 = .ok (.iload_n 3, 1) := by decide +kernel
theorem dX5_forget_31 : decode cX5_forget 31 = .ok (.iload_n 2, 1) := by decide +kernel
theorem dX5_forget_32 : decode cX5_forget 32 = .ok (.if_icmp .ge 20, 3) := by decide +kernel
theorem dX5_forget_35 : decode cX5_forget 35 = .ok (.aload_n 1, 1) := by decide +kernel
theorem dX5_forget_36 : decode cX5_forget 36 = .ok (.iload_n 3, 1) := by decide +kernel
theorem dX5_forget_37 : decode cX5_forget 37 = .ok (.aaload, 1) := by decide +kernel
theorem dX5_forget_38 : decode cX5_forget 38 = .ok (.astore 4, 2) := by decide +kernel
theorem dX5_forget_40 : decode cX5_forget 40 = .ok (.aload 4, 2) := by decide +kernel
theorem dX5_forget_42 : decode cX5_forget 42 = .ok (.iconst 0, 1) := by decide +kernel
theorem dX5_forget_43 : decode cX5_forget 43 = .ok (.invokestatic 48, 3) := by decide +kernel
theorem dX5_forget_46 : decode cX5_forget 46 = .ok (.iinc 3 1, 3) := by decide +kernel
theorem dX5_forget_49 : decode cX5_forget 49 = .ok (.goto (-19), 3) := by decide +kernel
theorem dX5_forget_52 : decode cX5_forget 52 = .ok (.aload_n 0, 1) := by decide +kernel
theorem dX5_forget_53 : decode cX5_forget 53 = .ok (.getfield 32, 3) := by decide +kernel
theorem dX5_forget_56 : decode cX5_forget 56 = .ok (.astore_n 1, 1) := by decide +kernel
theorem dX5_forget_57 : decode cX5_forget 57 = .ok (.aload_n 1, 1) := by decide +kernel
theorem dX5_forget_58 : decode cX5_forget 58 = .ok (.arraylength, 1) := by decide +kernel
theorem dX5_forget_59 : decode cX5_forget 59 = .ok (.istore_n 2, 1) := by decide +kernel
theorem dX5_forget_60 : decode cX5_forget 60 = .ok (.iconst 0, 1) := by decide +kernel
theorem dX5_forget_61 : decode cX5_forget 61 = .ok (.istore_n 3, 1) := by decide +kernel
theorem dX5_forget_62 : decode cX5_forget 62 = .ok (.iload_n 3, 1) := by decide +kernel
theorem dX5_forget_63 : decode cX5_forget 63 = .ok (.iload_n 2, 1) := by decide +kernel
theorem dX5_forget_64 : decode cX5_forget 64 = .ok (.if_icmp .ge 20, 3) := by decide +kernel
theorem dX5_forget_67 : decode cX5_forget 67 = .ok (.aload_n 1, 1) := by decide +kernel
theorem dX5_forget_68 : decode cX5_forget 68 = .ok (.iload_n 3, 1) := by decide +kernel
theorem dX5_forget_69 : decode cX5_forget 69 = .ok (.aaload, 1) := by decide +kernel
theorem dX5_forget_70 : decode cX5_forget 70 = .ok (.astore 4, 2) := by decide +kernel
theorem dX5_forget_72 : decode cX5_forget 72 = .ok (.aload 4, 2) := by decide +kernel
theorem dX5_forget_74 : decode cX5_forget 74 = .ok (.iconst 0, 1) := by decide +kernel
theorem dX5_forget_75 : decode cX5_forget 75 = .ok (.invokestatic 48, 3) := by decide +kernel
theorem dX5_forget_78 : decode cX5_forget 78 = .ok (.iinc 3 1, 3) := by decide +kernel
theorem dX5_forget_81 : decode cX5_forget 81 = .ok (.goto (-19), 3) := by decide +kernel
theorem dX5_forget_84 : decode cX5_forget 84 = .ok (.return_, 1) := by decide +kernel
theorem dX5_fill_0 : decode cX5_fill 0 = .ok (.iload_n 1, 1) := by decide +kernel
theorem dX5_fill_1 : decode cX5_fill 1 = .ok (.istore_n 3, 1) := by decide +kernel
theorem dX5_fill_2 : decode cX5_fill 2 = .ok (.aload_n 0, 1) := by decide +kernel
theorem dX5_fill_3 : decode cX5_fill 3 = .ok (.getfield 39, 3) := by decide +kernel
theorem dX5_fill_6 : decode cX5_fill 6 = .ok (.iconst 1, 1) := by decide +kernel
theorem dX5_fill_7 : decode cX5_fill 7 = .ok (.isub, 1) := by decide +kernel
theorem dX5_fill_8 : decode cX5_fill 8 = .ok (.istore 4, 2) := by decide +kernel
theorem dX5_fill_10 : decode cX5_fill 10 = .ok (.iload 4, 2) := by decide +kernel
theorem dX5_fill_12 : decode cX5_fill 12 = .ok (.ifCond .lt 53, 3) := by decide +kernel
theorem dX5_fill_15 : decode cX5_fill 15 = .ok (.iconst 1, 1) := by decide +kernel
theorem dX5_fill_16 : decode cX5_fill 16 = .ok (.aload_n 0, 1) := by decide +kernel
theorem dX5_fill_17 : decode cX5_fill 17 = .ok (.getfield 15, 3) := by decide +kernel
theorem dX5_fill_20 : decode cX5_fill 20 = .ok (.iload 4, 2) := by decide +kernel
theorem dX5_fill_22 : decode cX5_fill 22 = .ok (.iaload, 1) := by decide +kernel
theorem dX5_fill_23 : decode cX5_fill 23 = .ok (.aload_n 0, 1) := by decide +kernel
theorem dX5_fill_24 : decode cX5_fill 24 = .ok (.getfield 9, 3) := by decide +kernel
theorem dX5_fill_27 : decode cX5_fill 27 = .ok (.iload 4, 2) := by decide +kernel
theorem dX5_fill_29 : decode cX5_fill 29 = .ok (.iaload, 1) := by decide +kernel
theorem dX5_fill_30 : decode cX5_fill 30 = .ok (.isub, 1) := by decide +kernel
theorem dX5_fill_31 : decode cX5_fill 31 = .ok (.iconst 1, 1) := by decide +kernel
theorem dX5_fill_32 : decode cX5_fill 32 = .ok (.iadd, 1) := by decide +kernel
theorem dX5_fill_33 : decode cX5_fill 33 = .ok (.invokestatic 54, 3) := by decide +kernel
theorem dX5_fill_36 : decode cX5_fill 36 = .ok (.istore 5, 2) := by decide +kernel
theorem dX5_fill_38 : decode cX5_fill 38 = .ok (.aload_n 2, 1) := by decide +kernel
theorem dX5_fill_39 : decode cX5_fill 39 = .ok (.iload 4, 2) := by decide +kernel
theorem dX5_fill_41 : decode cX5_fill 41 = .ok (.aload_n 0, 1) := by decide +kernel
theorem dX5_fill_42 : decode cX5_fill 42 = .ok (.getfield 9, 3) := by decide +kernel
theorem dX5_fill_45 : decode cX5_fill 45 = .ok (.iload 4, 2) := by decide +kernel
theorem dX5_fill_47 : decode cX5_fill 47 = .ok (.iaload, 1) := by decide +kernel
theorem dX5_fill_48 : decode cX5_fill 48 = .ok (.iload_n 3, 1) := by decide +kernel
theorem dX5_fill_49 : decode cX5_fill 49 = .ok (.iload 5, 2) := by decide +kernel
theorem dX5_fill_51 : decode cX5_fill 51 = .ok (.irem, 1) := by decide +kernel
theorem dX5_fill_52 : decode cX5_fill 52 = .ok (.iadd, 1) := by decide +kernel
theorem dX5_fill_53 : decode cX5_fill 53 = .ok (.iastore, 1) := by decide +kernel
theorem dX5_fill_54 : decode cX5_fill 54 = .ok (.iload_n 3, 1) := by decide +kernel
theorem dX5_fill_55 : decode cX5_fill 55 = .ok (.iload 5, 2) := by decide +kernel
theorem dX5_fill_57 : decode cX5_fill 57 = .ok (.idiv, 1) := by decide +kernel
theorem dX5_fill_58 : decode cX5_fill 58 = .ok (.istore_n 3, 1) := by decide +kernel
theorem dX5_fill_59 : decode cX5_fill 59 = .ok (.iinc 4 (-1), 3) := by decide +kernel
theorem dX5_fill_62 : decode cX5_fill 62 = .ok (.goto (-52), 3) := by decide +kernel
theorem dX5_fill_65 : decode cX5_fill 65 = .ok (.return_, 1) := by decide +kernel
set_option maxRecDepth 20000 in
theorem ggX5_scoreOf_X5_sum : GoodIn wsX5_scoreOf wsX5_sum := goodIn_r _ [13, 14, 22, 23, 24, 25, 26, 27, 28, 29, 30, 31, 32] (by decide +kernel) (by decide +kernel)
set_option maxRecDepth 20000 in
theorem gX5_scoreOf_X5_sum : GoodIn wsX5_scoreOf (wsV RX5 60 RX5 yX5_sum wsX5_sum) := goodIn_app (goodIn_of _ (by decide +kernel)) ggX5_scoreOf_X5_sum
set_option maxRecDepth 20000 in
theorem ggX5_scoreOf_X4_lane : GoodIn wsX5_scoreOf wsX4_lane := goodIn_r _ [18, 19, 20, 17, 21] (by decide +kernel) (by decide +kernel)
set_option maxRecDepth 20000 in
theorem gX5_scoreOf_X4_lane : GoodIn wsX5_scoreOf (va_wsS RX5 66 yX4_lane wsX4_lane) := goodIn_app (goodIn_of _ (by decide +kernel)) ggX5_scoreOf_X4_lane
theorem dX5_scoreOf_0 : decode cX5_scoreOf 0 = .ok (.iconst 0, 1) := by decide +kernel
theorem dX5_scoreOf_1 : decode cX5_scoreOf 1 = .ok (.istore_n 2, 1) := by decide +kernel
theorem dX5_scoreOf_2 : decode cX5_scoreOf 2 = .ok (.iload_n 2, 1) := by decide +kernel
theorem dX5_scoreOf_3 : decode cX5_scoreOf 3 = .ok (.aload_n 0, 1) := by decide +kernel
theorem dX5_scoreOf_4 : decode cX5_scoreOf 4 = .ok (.getfield 42, 3) := by decide +kernel
theorem dX5_scoreOf_7 : decode cX5_scoreOf 7 = .ok (.if_icmp .ge 33, 3) := by decide +kernel
theorem dX5_scoreOf_10 : decode cX5_scoreOf 10 = .ok (.aload_n 0, 1) := by decide +kernel
theorem dX5_scoreOf_11 : decode cX5_scoreOf 11 = .ok (.aload_n 0, 1) := by decide +kernel
theorem dX5_scoreOf_12 : decode cX5_scoreOf 12 = .ok (.getfield 23, 3) := by decide +kernel
theorem dX5_scoreOf_15 : decode cX5_scoreOf 15 = .ok (.iload_n 2, 1) := by decide +kernel
theorem dX5_scoreOf_16 : decode cX5_scoreOf 16 = .ok (.aaload, 1) := by decide +kernel
theorem dX5_scoreOf_17 : decode cX5_scoreOf 17 = .ok (.aload_n 1, 1) := by decide +kernel
theorem dX5_scoreOf_18 : decode cX5_scoreOf 18 = .ok (.invokevirtual 60, 3) := by decide +kernel
theorem dX5_scoreOf_21 : decode cX5_scoreOf 21 = .ok (.aload_n 0, 1) := by decide +kernel
theorem dX5_scoreOf_22 : decode cX5_scoreOf 22 = .ok (.getfield 18, 3) := by decide +kernel
theorem dX5_scoreOf_25 : decode cX5_scoreOf 25 = .ok (.iload_n 2, 1) := by decide +kernel
theorem dX5_scoreOf_26 : decode cX5_scoreOf 26 = .ok (.iaload, 1) := by decide +kernel
theorem dX5_scoreOf_27 : decode cX5_scoreOf 27 = .ok (.if_icmp .le 7, 3) := by decide +kernel
theorem dX5_scoreOf_30 : decode cX5_scoreOf 30 = .ok (.ldc2_w 64, 3) := by decide +kernel
theorem dX5_scoreOf_33 : decode cX5_scoreOf 33 = .ok (.lreturn, 1) := by decide +kernel
theorem dX5_scoreOf_34 : decode cX5_scoreOf 34 = .ok (.iinc 2 1, 3) := by decide +kernel
theorem dX5_scoreOf_37 : decode cX5_scoreOf 37 = .ok (.goto (-35), 3) := by decide +kernel
theorem dX5_scoreOf_40 : decode cX5_scoreOf 40 = .ok (.lconst 0, 1) := by decide +kernel
theorem dX5_scoreOf_41 : decode cX5_scoreOf 41 = .ok (.lstore_n 2, 1) := by decide +kernel
theorem dX5_scoreOf_42 : decode cX5_scoreOf 42 = .ok (.iconst 0, 1) := by decide +kernel
theorem dX5_scoreOf_43 : decode cX5_scoreOf 43 = .ok (.istore 4, 2) := by decide +kernel
theorem dX5_scoreOf_45 : decode cX5_scoreOf 45 = .ok (.iload 4, 2) := by decide +kernel
theorem dX5_scoreOf_47 : decode cX5_scoreOf 47 = .ok (.aload_n 0, 1) := by decide +kernel
theorem dX5_scoreOf_48 : decode cX5_scoreOf 48 = .ok (.getfield 45, 3) := by decide +kernel
theorem dX5_scoreOf_51 : decode cX5_scoreOf 51 = .ok (.if_icmp .ge 61, 3) := by decide +kernel
theorem dX5_scoreOf_54 : decode cX5_scoreOf 54 = .ok (.aload_n 0, 1) := by decide +kernel
theorem dX5_scoreOf_55 : decode cX5_scoreOf 55 = .ok (.aload_n 0, 1) := by decide +kernel
theorem dX5_scoreOf_56 : decode cX5_scoreOf 56 = .ok (.getfield 32, 3) := by decide +kernel
theorem dX5_scoreOf_59 : decode cX5_scoreOf 59 = .ok (.iload 4, 2) := by decide +kernel
theorem dX5_scoreOf_61 : decode cX5_scoreOf 61 = .ok (.aaload, 1) := by decide +kernel
theorem dX5_scoreOf_62 : decode cX5_scoreOf 62 = .ok (.aload_n 1, 1) := by decide +kernel
theorem dX5_scoreOf_63 : decode cX5_scoreOf 63 = .ok (.invokevirtual 60, 3) := by decide +kernel
theorem dX5_scoreOf_66 : decode cX5_scoreOf 66 = .ok (.istore 5, 2) := by decide +kernel
theorem dX5_scoreOf_68 : decode cX5_scoreOf 68 = .ok (.iload 5, 2) := by decide +kernel
theorem dX5_scoreOf_70 : decode cX5_scoreOf 70 = .ok (.aload_n 0, 1) := by decide +kernel
theorem dX5_scoreOf_71 : decode cX5_scoreOf 71 = .ok (.getfield 26, 3) := by decide +kernel
theorem dX5_scoreOf_74 : decode cX5_scoreOf 74 = .ok (.iload 4, 2) := by decide +kernel
theorem dX5_scoreOf_76 : decode cX5_scoreOf 76 = .ok (.iaload, 1) := by decide +kernel
theorem dX5_scoreOf_77 : decode cX5_scoreOf 77 = .ok (.if_icmp .lt 15, 3) := by decide +kernel
theorem dX5_scoreOf_80 : decode cX5_scoreOf 80 = .ok (.iload 5, 2) := by decide +kernel
theorem dX5_scoreOf_82 : decode cX5_scoreOf 82 = .ok (.aload_n 0, 1) := by decide +kernel
theorem dX5_scoreOf_83 : decode cX5_scoreOf 83 = .ok (.getfield 29, 3) := by decide +kernel
theorem dX5_scoreOf_86 : decode cX5_scoreOf 86 = .ok (.iload 4, 2) := by decide +kernel
theorem dX5_scoreOf_88 : decode cX5_scoreOf 88 = .ok (.iaload, 1) := by decide +kernel
theorem dX5_scoreOf_89 : decode cX5_scoreOf 89 = .ok (.if_icmp .le 7, 3) := by decide +kernel
theorem dX5_scoreOf_92 : decode cX5_scoreOf 92 = .ok (.ldc2_w 64, 3) := by decide +kernel
theorem dX5_scoreOf_95 : decode cX5_scoreOf 95 = .ok (.lreturn, 1) := by decide +kernel
theorem dX5_scoreOf_96 : decode cX5_scoreOf 96 = .ok (.lload_n 2, 1) := by decide +kernel
theorem dX5_scoreOf_97 : decode cX5_scoreOf 97 = .ok (.iload 4, 2) := by decide +kernel
theorem dX5_scoreOf_99 : decode cX5_scoreOf 99 = .ok (.iload 5, 2) := by decide +kernel
theorem dX5_scoreOf_101 : decode cX5_scoreOf 101 = .ok (.invokestatic 66, 3) := by decide +kernel
theorem dX5_scoreOf_104 : decode cX5_scoreOf 104 = .ok (.ladd, 1) := by decide +kernel
theorem dX5_scoreOf_105 : decode cX5_scoreOf 105 = .ok (.lstore_n 2, 1) := by decide +kernel
theorem dX5_scoreOf_106 : decode cX5_scoreOf 106 = .ok (.iinc 4 1, 3) := by decide +kernel
theorem dX5_scoreOf_109 : decode cX5_scoreOf 109 = .ok (.goto (-64), 3) := by decide +kernel
theorem dX5_scoreOf_112 : decode cX5_scoreOf 112 = .ok (.lload_n 2, 1) := by decide +kernel
theorem dX5_scoreOf_113 : decode cX5_scoreOf 113 = .ok (.lreturn, 1) := by decide +kernel
theorem dX5_sum_0 : decode cX5_sum 0 = .ok (.iconst 0, 1) := by decide +kernel
theorem dX5_sum_1 : decode cX5_sum 1 = .ok (.istore_n 3, 1) := by decide +kernel
theorem dX5_sum_2 : decode cX5_sum 2 = .ok (.iconst 0, 1) := by decide +kernel
theorem dX5_sum_3 : decode cX5_sum 3 = .ok (.istore 4, 2) := by decide +kernel
theorem dX5_sum_5 : decode cX5_sum 5 = .ok (.iload 4, 2) := by decide +kernel
theorem dX5_sum_7 : decode cX5_sum 7 = .ok (.aload_n 0, 1) := by decide +kernel
theorem dX5_sum_8 : decode cX5_sum 8 = .ok (.getfield 39, 3) := by decide +kernel
theorem dX5_sum_11 : decode cX5_sum 11 = .ok (.if_icmp .ge 21, 3) := by decide +kernel
theorem dX5_sum_14 : decode cX5_sum 14 = .ok (.iload_n 3, 1) := by decide +kernel
theorem dX5_sum_15 : decode cX5_sum 15 = .ok (.aload_n 1, 1) := by decide +kernel
theorem dX5_sum_16 : decode cX5_sum 16 = .ok (.iload 4, 2) := by decide +kernel
theorem dX5_sum_18 : decode cX5_sum 18 = .ok (.iaload, 1) := by decide +kernel
theorem dX5_sum_19 : decode cX5_sum 19 = .ok (.aload_n 2, 1) := by decide +kernel
theorem dX5_sum_20 : decode cX5_sum 20 = .ok (.iload 4, 2) := by decide +kernel
theorem dX5_sum_22 : decode cX5_sum 22 = .ok (.iaload, 1) := by decide +kernel
theorem dX5_sum_23 : decode cX5_sum 23 = .ok (.imul, 1) := by decide +kernel
theorem dX5_sum_24 : decode cX5_sum 24 = .ok (.iadd, 1) := by decide +kernel
theorem dX5_sum_25 : decode cX5_sum 25 = .ok (.istore_n 3, 1) := by decide +kernel
theorem dX5_sum_26 : decode cX5_sum 26 = .ok (.iinc 4 1, 3) := by decide +kernel
theorem dX5_sum_29 : decode cX5_sum 29 = .ok (.goto (-24), 3) := by decide +kernel
theorem dX5_sum_32 : decode cX5_sum 32 = .ok (.iload_n 3, 1) := by decide +kernel
theorem dX5_sum_33 : decode cX5_sum 33 = .ok (.ireturn, 1) := by decide +kernel
set_option maxRecDepth 20000 in
theorem ggX6_init_X5_init : GoodIn wsX6_init wsX5_init := goodIn_r _ [28, 29, 2, 3, 24, 30, 31, 32, 33, 34, 35, 36, 37, 38, 67, 68, 69, 70, 71, 72, 73, 74, 75, 76, 77] (by decide +kernel) (by decide +kernel)
set_option maxRecDepth 20000 in
theorem gX6_init_X5_init_n9 : GoodIn wsX6_init (wsX5_init) := ggX6_init_X5_init
set_option maxRecDepth 20000 in
theorem ggX6_init_X3_init : GoodIn wsX6_init wsX3_init := goodIn_r _ [40, 41, 2, 3, 42, 43, 24, 44, 45, 46, 47, 87, 88, 89, 90, 91, 92] (by decide +kernel) (by decide +kernel)
set_option maxRecDepth 20000 in
theorem gX6_init_X3_init_n18 : GoodIn wsX6_init (wsX3_init) := ggX6_init_X3_init
set_option maxRecDepth 20000 in
theorem ggX6_init_X2_init : GoodIn wsX6_init wsX2_init := goodIn_r _ [49, 50, 2, 3, 24, 51, 52, 53, 54, 93, 94, 95, 96, 97] (by decide +kernel) (by decide +kernel)
set_option maxRecDepth 20000 in
theorem gX6_init_X2_init_n25 : GoodIn wsX6_init (wsX2_init) := ggX6_init_X2_init
set_option maxRecDepth 20000 in
theorem ggX6_init_X0_init : GoodIn wsX6_init wsX0_init := goodIn_r _ [56, 57, 2, 3, 42, 58, 59, 24, 60, 61, 62, 98, 99, 100, 101, 102, 103, 104, 105, 106] (by decide +kernel) (by decide +kernel)
set_option maxRecDepth 20000 in
theorem gX6_init_X0_init_n32 : GoodIn wsX6_init (wsX0_init) := ggX6_init_X0_init
set_option maxRecDepth 20000 in
theorem ggX6_init_X1_init : GoodIn wsX6_init wsX1_init := goodIn_r _ [64, 65, 2, 3, 24, 66, 107, 108] (by decide +kernel) (by decide +kernel)
set_option maxRecDepth 20000 in
theorem gX6_init_X1_init_n39 : GoodIn wsX6_init (wsX1_init) := ggX6_init_X1_init
theorem dX6_init_0 : decode cX6_init 0 = .ok (.aload_n 0, 1) := by decide +kernel
theorem dX6_init_1 : decode cX6_init 1 = .ok (.invokespecial 1, 3) := by decide +kernel
theorem dX6_init_4 : decode cX6_init 4 = .ok (.aload_n 0, 1) := by decide +kernel
theorem dX6_init_5 : decode cX6_init 5 = .ok (.new 7, 3) := by decide +kernel
theorem dX6_init_8 : decode cX6_init 8 = .ok (.dup, 1) := by decide +kernel
theorem dX6_init_9 : decode cX6_init 9 = .ok (.invokespecial 9, 3) := by decide +kernel
theorem dX6_init_12 : decode cX6_init 12 = .ok (.putfield 10, 3) := by decide +kernel
theorem dX6_init_15 : decode cX6_init 15 = .ok (.aload_n 0, 1) := by decide +kernel
theorem dX6_init_16 : decode cX6_init 16 = .ok (.new 16, 3) := by decide +kernel
theorem dX6_init_19 : decode cX6_init 19 = .ok (.dup, 1) := by decide +kernel
theorem dX6_init_20 : decode cX6_init 20 = .ok (.invokespecial 18, 3) := by decide +kernel
theorem dX6_init_23 : decode cX6_init 23 = .ok (.putfield 19, 3) := by decide +kernel
theorem dX6_init_26 : decode cX6_init 26 = .ok (.aload_n 0, 1) := by decide +kernel
theorem dX6_init_27 : decode cX6_init 27 = .ok (.new 23, 3) := by decide +kernel
theorem dX6_init_30 : decode cX6_init 30 = .ok (.dup, 1) := by decide +kernel
theorem dX6_init_31 : decode cX6_init 31 = .ok (.invokespecial 25, 3) := by decide +kernel
theorem dX6_init_34 : decode cX6_init 34 = .ok (.putfield 26, 3) := by decide +kernel
theorem dX6_init_37 : decode cX6_init 37 = .ok (.aload_n 0, 1) := by decide +kernel
theorem dX6_init_38 : decode cX6_init 38 = .ok (.new 30, 3) := by decide +kernel
theorem dX6_init_41 : decode cX6_init 41 = .ok (.dup, 1) := by decide +kernel
theorem dX6_init_42 : decode cX6_init 42 = .ok (.invokespecial 32, 3) := by decide +kernel
theorem dX6_init_45 : decode cX6_init 45 = .ok (.putfield 33, 3) := by decide +kernel
theorem dX6_init_48 : decode cX6_init 48 = .ok (.aload_n 0, 1) := by decide +kernel
theorem dX6_init_49 : decode cX6_init 49 = .ok (.new 37, 3) := by decide +kernel
theorem dX6_init_52 : decode cX6_init 52 = .ok (.dup, 1) := by decide +kernel
theorem dX6_init_53 : decode cX6_init 53 = .ok (.invokespecial 39, 3) := by decide +kernel
theorem dX6_init_56 : decode cX6_init 56 = .ok (.putfield 40, 3) := by decide +kernel
theorem dX6_init_59 : decode cX6_init 59 = .ok (.aload_n 0, 1) := by decide +kernel
theorem dX6_init_60 : decode cX6_init 60 = .ok (.bipush 8, 2) := by decide +kernel
theorem dX6_init_62 : decode cX6_init 62 = .ok (.newarray .int, 2) := by decide +kernel
theorem dX6_init_64 : decode cX6_init 64 = .ok (.putfield 44, 3) := by decide +kernel
theorem dX6_init_67 : decode cX6_init 67 = .ok (.aload_n 0, 1) := by decide +kernel
theorem dX6_init_68 : decode cX6_init 68 = .ok (.iconst 4, 1) := by decide +kernel
theorem dX6_init_69 : decode cX6_init 69 = .ok (.newarray .int, 2) := by decide +kernel
theorem dX6_init_71 : decode cX6_init 71 = .ok (.putfield 48, 3) := by decide +kernel
theorem dX6_init_74 : decode cX6_init 74 = .ok (.return_, 1) := by decide +kernel
set_option maxRecDepth 20000 in
theorem ggX6_column_X6_within : GoodIn wsX6_column wsX6_within := goodIn_r _ [9] (by decide +kernel) (by decide +kernel)
set_option maxRecDepth 20000 in
theorem gX6_column_X6_within : GoodIn wsX6_column (va_wsS RX6 51 yX6_within wsX6_within) := goodIn_app (goodIn_of _ (by decide +kernel)) ggX6_column_X6_within
set_option maxRecDepth 20000 in
theorem ggX6_column_X6_beginAnew : GoodIn wsX6_column wsX6_beginAnew := goodIn_r _ [13, 14, 15, 16, 17, 18, 19, 20, 21, 22, 23, 24, 25, 26, 27, 28, 29, 30, 31, 32, 33, 43, 44, 45, 46, 47, 48, 49, 50, 51, 63, 64, 65, 66, 67, 68, 69, 70, 71, 72, 73, 74, 75, 76, 77, 78, 79, 80, 81, 82, 83, 84] (by decide +kernel) (by decide +kernel)
set_option maxRecDepth 20000 in
theorem gX6_column_X6_beginAnew : GoodIn wsX6_column (wsV RX6 64 RX6 yX6_beginAnew wsX6_beginAnew) := goodIn_app (goodIn_of _ (by decide +kernel)) ggX6_column_X6_beginAnew
set_option maxRecDepth 20000 in
theorem ggX6_column_X5_addColumn : GoodIn wsX6_column wsX5_addColumn := goodIn_r _ [38, 39, 40, 41, 42, 52, 53, 54, 55, 56, 57, 58, 59, 60, 61, 62] (by decide +kernel) (by decide +kernel)
set_option maxRecDepth 20000 in
theorem gX6_column_X5_addColumn : GoodIn wsX6_column (wsV RX6 67 RX5 yX5_addColumn wsX5_addColumn) := goodIn_app (goodIn_of _ (by decide +kernel)) ggX6_column_X5_addColumn
theorem dX6_column_0 : decode cX6_column 0 = .ok (.iload_n 1, 1) := by decide +kernel
theorem dX6_column_1 : decode cX6_column 1 = .ok (.bipush 20, 2) := by decide +kernel
theorem dX6_column_3 : decode cX6_column 3 = .ok (.invokestatic 51, 3) := by decide +kernel
theorem dX6_column_6 : decode cX6_column 6 = .ok (.ifCond .eq 17, 3) := by decide +kernel
theorem dX6_column_9 : decode cX6_column 9 = .ok (.iload_n 2, 1) := by decide +kernel
theorem dX6_column_10 : decode cX6_column 10 = .ok (.bipush 20, 2) := by decide +kernel
theorem dX6_column_12 : decode cX6_column 12 = .ok (.invokestatic 51, 3) := by decide +kernel
theorem dX6_column_15 : decode cX6_column 15 = .ok (.ifCond .eq 8, 3) := by decide +kernel
theorem dX6_column_18 : decode cX6_column 18 = .ok (.iload_n 1, 1) := by decide +kernel
theorem dX6_column_19 : decode cX6_column 19 = .ok (.iload_n 2, 1) := by decide +kernel
theorem dX6_column_20 : decode cX6_column 20 = .ok (.if_icmp .le 6, 3) := by decide +kernel
theorem dX6_column_23 : decode cX6_column 23 = .ok (.ldc 55, 2) := by decide +kernel
theorem dX6_column_25 : decode cX6_column 25 = .ok (.ireturn, 1) := by decide +kernel
theorem dX6_column_26 : decode cX6_column 26 = .ok (.aload_n 0, 1) := by decide +kernel
theorem dX6_column_27 : decode cX6_column 27 = .ok (.getfield 10, 3) := by decide +kernel
theorem dX6_column_30 : decode cX6_column 30 = .ok (.getfield 56, 3) := by decide +kernel
theorem dX6_column_33 : decode cX6_column 33 = .ok (.bipush 8, 2) := by decide +kernel
theorem dX6_column_35 : decode cX6_column 35 = .ok (.if_icmp .eq 22, 3) := by decide +kernel
theorem dX6_column_38 : decode cX6_column 38 = .ok (.aload_n 0, 1) := by decide +kernel
theorem dX6_column_39 : decode cX6_column 39 = .ok (.getfield 10, 3) := by decide +kernel
theorem dX6_column_42 : decode cX6_column 42 = .ok (.getfield 60, 3) := by decide +kernel
theorem dX6_column_45 : decode cX6_column 45 = .ok (.iload_n 2, 1) := by decide +kernel
theorem dX6_column_46 : decode cX6_column 46 = .ok (.iload_n 1, 1) := by decide +kernel
theorem dX6_column_47 : decode cX6_column 47 = .ok (.isub, 1) := by decide +kernel
theorem dX6_column_48 : decode cX6_column 48 = .ok (.iconst 1, 1) := by decide +kernel
theorem dX6_column_49 : decode cX6_column 49 = .ok (.iadd, 1) := by decide +kernel
theorem dX6_column_50 : decode cX6_column 50 = .ok (.imul, 1) := by decide +kernel
theorem dX6_column_51 : decode cX6_column 51 = .ok (.sipush 2000, 3) := by decide +kernel
theorem dX6_column_54 : decode cX6_column 54 = .ok (.if_icmp .le 6, 3) := by decide +kernel
theorem dX6_column_57 : decode cX6_column 57 = .ok (.ldc 63, 2) := by decide +kernel
theorem dX6_column_59 : decode cX6_column 59 = .ok (.ireturn, 1) := by decide +kernel
theorem dX6_column_60 : decode cX6_column 60 = .ok (.aload_n 0, 1) := by decide +kernel
theorem dX6_column_61 : decode cX6_column 61 = .ok (.invokevirtual 64, 3) := by decide +kernel
theorem dX6_column_64 : decode cX6_column 64 = .ok (.aload_n 0, 1) := by decide +kernel
theorem dX6_column_65 : decode cX6_column 65 = .ok (.getfield 10, 3) := by decide +kernel
theorem dX6_column_68 : decode cX6_column 68 = .ok (.iload_n 1, 1) := by decide +kernel
theorem dX6_column_69 : decode cX6_column 69 = .ok (.iload_n 2, 1) := by decide +kernel
theorem dX6_column_70 : decode cX6_column 70 = .ok (.invokevirtual 67, 3) := by decide +kernel
theorem dX6_column_73 : decode cX6_column 73 = .ok (.ireturn, 1) := by decide +kernel
set_option maxRecDepth 20000 in
theorem ggX6_row_X6_within : GoodIn wsX6_row wsX6_within := goodIn_r _ [8] (by decide +kernel) (by decide +kernel)
set_option maxRecDepth 20000 in
theorem gX6_row_X6_within : GoodIn wsX6_row (va_wsS RX6 51 yX6_within wsX6_within) := goodIn_app (goodIn_of _ (by decide +kernel)) ggX6_row_X6_within
set_option maxRecDepth 20000 in
theorem ggX6_row_X6_beginAnew : GoodIn wsX6_row wsX6_beginAnew := goodIn_r _ [12, 13, 14, 15, 16, 17, 18, 19, 20, 21, 22, 23, 24, 25, 26, 27, 28, 29, 30, 31, 32, 40, 41, 42, 43, 44, 45, 46, 47, 48, 60, 61, 62, 63, 64, 65, 66, 67, 68, 69, 70, 71, 72, 73, 74, 75, 76, 77, 78, 79, 80, 81] (by decide +kernel) (by decide +kernel)
set_option maxRecDepth 20000 in
theorem gX6_row_X6_beginAnew : GoodIn wsX6_row (wsV RX6 64 RX6 yX6_beginAnew wsX6_beginAnew) := goodIn_app (goodIn_of _ (by decide +kernel)) ggX6_row_X6_beginAnew
set_option maxRecDepth 20000 in
theorem ggX6_row_X5_addRow : GoodIn wsX6_row wsX5_addRow := goodIn_r _ [37, 38, 39, 49, 50, 51, 52, 53, 54, 55, 56, 57, 58, 59] (by decide +kernel) (by decide +kernel)
set_option maxRecDepth 20000 in
theorem gX6_row_X5_addRow : GoodIn wsX6_row (wsV RX6 74 RX5 yX5_addRow wsX5_addRow) := goodIn_app (goodIn_of _ (by decide +kernel)) ggX6_row_X5_addRow
theorem dX6_row_0 : decode cX6_row 0 = .ok (.iload_n 1, 1) := by decide +kernel
theorem dX6_row_1 : decode cX6_row 1 = .ok (.sipush 1000, 3) := by decide +kernel
theorem dX6_row_4 : decode cX6_row 4 = .ok (.invokestatic 51, 3) := by decide +kernel
theorem dX6_row_7 : decode cX6_row 7 = .ok (.ifCond .ne 6, 3) := by decide +kernel
theorem dX6_row_10 : decode cX6_row 10 = .ok (.ldc 55, 2) := by decide +kernel
theorem dX6_row_12 : decode cX6_row 12 = .ok (.ireturn, 1) := by decide +kernel
theorem dX6_row_13 : decode cX6_row 13 = .ok (.aload_n 0, 1) := by decide +kernel
theorem dX6_row_14 : decode cX6_row 14 = .ok (.getfield 10, 3) := by decide +kernel
theorem dX6_row_17 : decode cX6_row 17 = .ok (.getfield 71, 3) := by decide +kernel
theorem dX6_row_20 : decode cX6_row 20 = .ok (.bipush 8, 2) := by decide +kernel
theorem dX6_row_22 : decode cX6_row 22 = .ok (.if_icmp .ne 6, 3) := by decide +kernel
theorem dX6_row_25 : decode cX6_row 25 = .ok (.ldc 63, 2) := by decide +kernel
theorem dX6_row_27 : decode cX6_row 27 = .ok (.ireturn, 1) := by decide +kernel
theorem dX6_row_28 : decode cX6_row 28 = .ok (.aload_n 0, 1) := by decide +kernel
theorem dX6_row_29 : decode cX6_row 29 = .ok (.invokevirtual 64, 3) := by decide +kernel
theorem dX6_row_32 : decode cX6_row 32 = .ok (.aload_n 0, 1) := by decide +kernel
theorem dX6_row_33 : decode cX6_row 33 = .ok (.getfield 10, 3) := by decide +kernel
theorem dX6_row_36 : decode cX6_row 36 = .ok (.iload_n 1, 1) := by decide +kernel
theorem dX6_row_37 : decode cX6_row 37 = .ok (.invokevirtual 74, 3) := by decide +kernel
theorem dX6_row_40 : decode cX6_row 40 = .ok (.ireturn, 1) := by decide +kernel
set_option maxRecDepth 20000 in
theorem ggX6_term_X6_among : GoodIn wsX6_term wsX6_among := goodIn_r _ [9] (by decide +kernel) (by decide +kernel)
set_option maxRecDepth 20000 in
theorem gX6_term_X6_among : GoodIn wsX6_term (va_wsS RX6 78 yX6_among wsX6_among) := goodIn_app (goodIn_of _ (by decide +kernel)) ggX6_term_X6_among
set_option maxRecDepth 20000 in
theorem ggX6_term_X6_within : GoodIn wsX6_term wsX6_within := goodIn_r _ [12] (by decide +kernel) (by decide +kernel)
set_option maxRecDepth 20000 in
theorem gX6_term_X6_within : GoodIn wsX6_term (va_wsS RX6 51 yX6_within wsX6_within) := goodIn_app (goodIn_of _ (by decide +kernel)) ggX6_term_X6_within
set_option maxRecDepth 20000 in
theorem ggX6_term_X6_beginAnew : GoodIn wsX6_term wsX6_beginAnew := goodIn_r _ [16, 17, 18, 19, 20, 21, 22, 23, 24, 25, 26, 27, 28, 29, 30, 31, 32, 33, 34, 35, 36, 37, 38, 39, 40, 41, 42, 43, 44, 45, 57, 58, 59, 60, 61, 62, 63, 64, 65, 66, 67, 68, 69, 70, 71, 72, 73, 74, 75, 76, 77, 78] (by decide +kernel) (by decide +kernel)
set_option maxRecDepth 20000 in
theorem gX6_term_X6_beginAnew : GoodIn wsX6_term (wsV RX6 64 RX6 yX6_beginAnew wsX6_beginAnew) := goodIn_app (goodIn_of _ (by decide +kernel)) ggX6_term_X6_beginAnew
theorem dX6_term_0 : decode cX6_term 0 = .ok (.iload_n 1, 1) := by decide +kernel
theorem dX6_term_1 : decode cX6_term 1 = .ok (.aload_n 0, 1) := by decide +kernel
theorem dX6_term_2 : decode cX6_term 2 = .ok (.getfield 10, 3) := by decide +kernel
theorem dX6_term_5 : decode cX6_term 5 = .ok (.getfield 71, 3) := by decide +kernel
theorem dX6_term_8 : decode cX6_term 8 = .ok (.invokestatic 78, 3) := by decide +kernel
theorem dX6_term_11 : decode cX6_term 11 = .ok (.ifCond .eq 26, 3) := by decide +kernel
theorem dX6_term_14 : decode cX6_term 14 = .ok (.iload_n 2, 1) := by decide +kernel
theorem dX6_term_15 : decode cX6_term 15 = .ok (.aload_n 0, 1) := by decide +kernel
theorem dX6_term_16 : decode cX6_term 16 = .ok (.getfield 10, 3) := by decide +kernel
theorem dX6_term_19 : decode cX6_term 19 = .ok (.getfield 56, 3) := by decide +kernel
theorem dX6_term_22 : decode cX6_term 22 = .ok (.invokestatic 78, 3) := by decide +kernel
theorem dX6_term_25 : decode cX6_term 25 = .ok (.ifCond .eq 12, 3) := by decide +kernel
theorem dX6_term_28 : decode cX6_term 28 = .ok (.iload_n 3, 1) := by decide +kernel
theorem dX6_term_29 : decode cX6_term 29 = .ok (.bipush 9, 2) := by decide +kernel
theorem dX6_term_31 : decode cX6_term 31 = .ok (.invokestatic 51, 3) := by decide +kernel
theorem dX6_term_34 : decode cX6_term 34 = .ok (.ifCond .ne 6, 3) := by decide +kernel
theorem dX6_term_37 : decode cX6_term 37 = .ok (.ldc 55, 2) := by decide +kernel
theorem dX6_term_39 : decode cX6_term 39 = .ok (.ireturn, 1) := by decide +kernel
theorem dX6_term_40 : decode cX6_term 40 = .ok (.aload_n 0, 1) := by decide +kernel
theorem dX6_term_41 : decode cX6_term 41 = .ok (.getfield 10, 3) := by decide +kernel
theorem dX6_term_44 : decode cX6_term 44 = .ok (.getfield 81, 3) := by decide +kernel
theorem dX6_term_47 : decode cX6_term 47 = .ok (.iload_n 1, 1) := by decide +kernel
theorem dX6_term_48 : decode cX6_term 48 = .ok (.aaload, 1) := by decide +kernel
theorem dX6_term_49 : decode cX6_term 49 = .ok (.iload_n 2, 1) := by decide +kernel
theorem dX6_term_50 : decode cX6_term 50 = .ok (.iaload, 1) := by decide +kernel
theorem dX6_term_51 : decode cX6_term 51 = .ok (.istore 4, 2) := by decide +kernel
theorem dX6_term_53 : decode cX6_term 53 = .ok (.aload_n 0, 1) := by decide +kernel
theorem dX6_term_54 : decode cX6_term 54 = .ok (.invokevirtual 64, 3) := by decide +kernel
theorem dX6_term_57 : decode cX6_term 57 = .ok (.aload_n 0, 1) := by decide +kernel
theorem dX6_term_58 : decode cX6_term 58 = .ok (.getfield 10, 3) := by decide +kernel
theorem dX6_term_61 : decode cX6_term 61 = .ok (.getfield 81, 3) := by decide +kernel
theorem dX6_term_64 : decode cX6_term 64 = .ok (.iload_n 1, 1) := by decide +kernel
theorem dX6_term_65 : decode cX6_term 65 = .ok (.aaload, 1) := by decide +kernel
theorem dX6_term_66 : decode cX6_term 66 = .ok (.iload_n 2, 1) := by decide +kernel
theorem dX6_term_67 : decode cX6_term 67 = .ok (.iload_n 3, 1) := by decide +kernel
theorem dX6_term_68 : decode cX6_term 68 = .ok (.iastore, 1) := by decide +kernel
theorem dX6_term_69 : decode cX6_term 69 = .ok (.iload 4, 2) := by decide +kernel
theorem dX6_term_71 : decode cX6_term 71 = .ok (.ireturn, 1) := by decide +kernel
set_option maxRecDepth 20000 in
theorem ggX6_aim_X6_beginAnew : GoodIn wsX6_aim wsX6_beginAnew := goodIn_r _ [8, 9, 10, 11, 12, 13, 14, 15, 16, 17, 18, 19, 20, 21, 22, 23, 24, 25, 26, 27, 28, 37, 38, 39, 40, 41, 42, 43, 44, 45, 57, 58, 59, 60, 61, 62, 63, 64, 65, 66, 67, 68, 69, 70, 71, 72, 73, 74, 75, 76, 77, 78] (by decide +kernel) (by decide +kernel)
set_option maxRecDepth 20000 in
theorem gX6_aim_X6_beginAnew : GoodIn wsX6_aim (wsV RX6 64 RX6 yX6_beginAnew wsX6_beginAnew) := goodIn_app (goodIn_of _ (by decide +kernel)) ggX6_aim_X6_beginAnew
set_option maxRecDepth 20000 in
theorem ggX6_aim_X5_addAim : GoodIn wsX6_aim wsX5_addAim := goodIn_r _ [33, 34, 35, 36, 46, 47, 48, 49, 50, 51, 52, 53, 54, 55, 56] (by decide +kernel) (by decide +kernel)
set_option maxRecDepth 20000 in
theorem gX6_aim_X5_addAim : GoodIn wsX6_aim (wsV RX6 88 RX5 yX5_addAim wsX5_addAim) := goodIn_app (goodIn_of _ (by decide +kernel)) ggX6_aim_X5_addAim
theorem dX6_aim_0 : decode cX6_aim 0 = .ok (.aload_n 0, 1) := by decide +kernel
theorem dX6_aim_1 : decode cX6_aim 1 = .ok (.getfield 10, 3) := by decide +kernel
theorem dX6_aim_4 : decode cX6_aim 4 = .ok (.getfield 85, 3) := by decide +kernel
theorem dX6_aim_7 : decode cX6_aim 7 = .ok (.iconst 4, 1) := by decide +kernel
theorem dX6_aim_8 : decode cX6_aim 8 = .ok (.if_icmp .ne 6, 3) := by decide +kernel
theorem dX6_aim_11 : decode cX6_aim 11 = .ok (.ldc 63, 2) := by decide +kernel
theorem dX6_aim_13 : decode cX6_aim 13 = .ok (.ireturn, 1) := by decide +kernel
theorem dX6_aim_14 : decode cX6_aim 14 = .ok (.aload_n 0, 1) := by decide +kernel
theorem dX6_aim_15 : decode cX6_aim 15 = .ok (.invokevirtual 64, 3) := by decide +kernel
theorem dX6_aim_18 : decode cX6_aim 18 = .ok (.aload_n 0, 1) := by decide +kernel
theorem dX6_aim_19 : decode cX6_aim 19 = .ok (.getfield 10, 3) := by decide +kernel
theorem dX6_aim_22 : decode cX6_aim 22 = .ok (.invokevirtual 88, 3) := by decide +kernel
theorem dX6_aim_25 : decode cX6_aim 25 = .ok (.ireturn, 1) := by decide +kernel
set_option maxRecDepth 20000 in
theorem ggX6_cost_X6_among : GoodIn wsX6_cost wsX6_among := goodIn_r _ [9] (by decide +kernel) (by decide +kernel)
set_option maxRecDepth 20000 in
theorem gX6_cost_X6_among : GoodIn wsX6_cost (va_wsS RX6 78 yX6_among wsX6_among) := goodIn_app (goodIn_of _ (by decide +kernel)) ggX6_cost_X6_among
set_option maxRecDepth 20000 in
theorem ggX6_cost_X6_within : GoodIn wsX6_cost wsX6_within := goodIn_r _ [12] (by decide +kernel) (by decide +kernel)
set_option maxRecDepth 20000 in
theorem gX6_cost_X6_within : GoodIn wsX6_cost (va_wsS RX6 51 yX6_within wsX6_within) := goodIn_app (goodIn_of _ (by decide +kernel)) ggX6_cost_X6_within
set_option maxRecDepth 20000 in
theorem ggX6_cost_X6_beginAnew : GoodIn wsX6_cost wsX6_beginAnew := goodIn_r _ [16, 17, 18, 19, 20, 21, 22, 23, 24, 25, 26, 27, 28, 29, 30, 31, 32, 33, 34, 35, 36, 37, 38, 39, 40, 41, 42, 43, 44, 45, 57, 58, 59, 60, 61, 62, 63, 64, 65, 66, 67, 68, 69, 70, 71, 72, 73, 74, 75, 76, 77, 78] (by decide +kernel) (by decide +kernel)
set_option maxRecDepth 20000 in
theorem gX6_cost_X6_beginAnew : GoodIn wsX6_cost (wsV RX6 64 RX6 yX6_beginAnew wsX6_beginAnew) := goodIn_app (goodIn_of _ (by decide +kernel)) ggX6_cost_X6_beginAnew
theorem dX6_cost_0 : decode cX6_cost 0 = .ok (.iload_n 1, 1) := by decide +kernel
theorem dX6_cost_1 : decode cX6_cost 1 = .ok (.aload_n 0, 1) := by decide +kernel
theorem dX6_cost_2 : decode cX6_cost 2 = .ok (.getfield 10, 3) := by decide +kernel
theorem dX6_cost_5 : decode cX6_cost 5 = .ok (.getfield 85, 3) := by decide +kernel
theorem dX6_cost_8 : decode cX6_cost 8 = .ok (.invokestatic 78, 3) := by decide +kernel
theorem dX6_cost_11 : decode cX6_cost 11 = .ok (.ifCond .eq 26, 3) := by decide +kernel
theorem dX6_cost_14 : decode cX6_cost 14 = .ok (.iload_n 2, 1) := by decide +kernel
theorem dX6_cost_15 : decode cX6_cost 15 = .ok (.aload_n 0, 1) := by decide +kernel
theorem dX6_cost_16 : decode cX6_cost 16 = .ok (.getfield 10, 3) := by decide +kernel
theorem dX6_cost_19 : decode cX6_cost 19 = .ok (.getfield 56, 3) := by decide +kernel
theorem dX6_cost_22 : decode cX6_cost 22 = .ok (.invokestatic 78, 3) := by decide +kernel
theorem dX6_cost_25 : decode cX6_cost 25 = .ok (.ifCond .eq 12, 3) := by decide +kernel
theorem dX6_cost_28 : decode cX6_cost 28 = .ok (.iload_n 3, 1) := by decide +kernel
theorem dX6_cost_29 : decode cX6_cost 29 = .ok (.bipush 9, 2) := by decide +kernel
theorem dX6_cost_31 : decode cX6_cost 31 = .ok (.invokestatic 51, 3) := by decide +kernel
theorem dX6_cost_34 : decode cX6_cost 34 = .ok (.ifCond .ne 6, 3) := by decide +kernel
theorem dX6_cost_37 : decode cX6_cost 37 = .ok (.ldc 55, 2) := by decide +kernel
theorem dX6_cost_39 : decode cX6_cost 39 = .ok (.ireturn, 1) := by decide +kernel
theorem dX6_cost_40 : decode cX6_cost 40 = .ok (.aload_n 0, 1) := by decide +kernel
theorem dX6_cost_41 : decode cX6_cost 41 = .ok (.getfield 10, 3) := by decide +kernel
theorem dX6_cost_44 : decode cX6_cost 44 = .ok (.getfield 92, 3) := by decide +kernel
theorem dX6_cost_47 : decode cX6_cost 47 = .ok (.iload_n 1, 1) := by decide +kernel
theorem dX6_cost_48 : decode cX6_cost 48 = .ok (.aaload, 1) := by decide +kernel
theorem dX6_cost_49 : decode cX6_cost 49 = .ok (.iload_n 2, 1) := by decide +kernel
theorem dX6_cost_50 : decode cX6_cost 50 = .ok (.iaload, 1) := by decide +kernel
theorem dX6_cost_51 : decode cX6_cost 51 = .ok (.istore 4, 2) := by decide +kernel
theorem dX6_cost_53 : decode cX6_cost 53 = .ok (.aload_n 0, 1) := by decide +kernel
theorem dX6_cost_54 : decode cX6_cost 54 = .ok (.invokevirtual 64, 3) := by decide +kernel
theorem dX6_cost_57 : decode cX6_cost 57 = .ok (.aload_n 0, 1) := by decide +kernel
theorem dX6_cost_58 : decode cX6_cost 58 = .ok (.getfield 10, 3) := by decide +kernel
theorem dX6_cost_61 : decode cX6_cost 61 = .ok (.getfield 92, 3) := by decide +kernel
theorem dX6_cost_64 : decode cX6_cost 64 = .ok (.iload_n 1, 1) := by decide +kernel
theorem dX6_cost_65 : decode cX6_cost 65 = .ok (.aaload, 1) := by decide +kernel
theorem dX6_cost_66 : decode cX6_cost 66 = .ok (.iload_n 2, 1) := by decide +kernel
theorem dX6_cost_67 : decode cX6_cost 67 = .ok (.iload_n 3, 1) := by decide +kernel
theorem dX6_cost_68 : decode cX6_cost 68 = .ok (.iastore, 1) := by decide +kernel
theorem dX6_cost_69 : decode cX6_cost 69 = .ok (.iload 4, 2) := by decide +kernel
theorem dX6_cost_71 : decode cX6_cost 71 = .ok (.ireturn, 1) := by decide +kernel
set_option maxRecDepth 20000 in
theorem ggX6_part_X6_among : GoodIn wsX6_part wsX6_among := goodIn_r _ [9] (by decide +kernel) (by decide +kernel)
set_option maxRecDepth 20000 in
theorem gX6_part_X6_among : GoodIn wsX6_part (va_wsS RX6 78 yX6_among wsX6_among) := goodIn_app (goodIn_of _ (by decide +kernel)) ggX6_part_X6_among
set_option maxRecDepth 20000 in
theorem ggX6_part_X6_within : GoodIn wsX6_part wsX6_within := goodIn_r _ [12] (by decide +kernel) (by decide +kernel)
set_option maxRecDepth 20000 in
theorem gX6_part_X6_within : GoodIn wsX6_part (va_wsS RX6 51 yX6_within wsX6_within) := goodIn_app (goodIn_of _ (by decide +kernel)) ggX6_part_X6_within
set_option maxRecDepth 20000 in
theorem ggX6_part_X6_beginAnew : GoodIn wsX6_part wsX6_beginAnew := goodIn_r _ [16, 17, 18, 19, 20, 21, 22, 23, 24, 25, 26, 27, 28, 29, 30, 31, 32, 33, 34, 35, 36, 37, 38, 39, 40, 41, 42, 43, 44, 45, 57, 58, 59, 60, 61, 62, 63, 64, 65, 66, 67, 68, 69, 70, 71, 72, 73, 74, 75, 76, 77, 78] (by decide +kernel) (by decide +kernel)
set_option maxRecDepth 20000 in
theorem gX6_part_X6_beginAnew : GoodIn wsX6_part (wsV RX6 64 RX6 yX6_beginAnew wsX6_beginAnew) := goodIn_app (goodIn_of _ (by decide +kernel)) ggX6_part_X6_beginAnew
theorem dX6_part_0 : decode cX6_part 0 = .ok (.iload_n 1, 1) := by decide +kernel
theorem dX6_part_1 : decode cX6_part 1 = .ok (.aload_n 0, 1) := by decide +kernel
theorem dX6_part_2 : decode cX6_part 2 = .ok (.getfield 10, 3) := by decide +kernel
theorem dX6_part_5 : decode cX6_part 5 = .ok (.getfield 85, 3) := by decide +kernel
theorem dX6_part_8 : decode cX6_part 8 = .ok (.invokestatic 78, 3) := by decide +kernel
theorem dX6_part_11 : decode cX6_part 11 = .ok (.ifCond .eq 28, 3) := by decide +kernel
theorem dX6_part_14 : decode cX6_part 14 = .ok (.iload_n 2, 1) := by decide +kernel
theorem dX6_part_15 : decode cX6_part 15 = .ok (.sipush 2000, 3) := by decide +kernel
theorem dX6_part_18 : decode cX6_part 18 = .ok (.invokestatic 51, 3) := by decide +kernel
theorem dX6_part_21 : decode cX6_part 21 = .ok (.ifCond .eq 18, 3) := by decide +kernel
theorem dX6_part_24 : decode cX6_part 24 = .ok (.iload_n 3, 1) := by decide +kernel
theorem dX6_part_25 : decode cX6_part 25 = .ok (.sipush 2000, 3) := by decide +kernel
theorem dX6_part_28 : decode cX6_part 28 = .ok (.invokestatic 51, 3) := by decide +kernel
theorem dX6_part_31 : decode cX6_part 31 = .ok (.ifCond .eq 8, 3) := by decide +kernel
theorem dX6_part_34 : decode cX6_part 34 = .ok (.iload_n 2, 1) := by decide +kernel
theorem dX6_part_35 : decode cX6_part 35 = .ok (.iload_n 3, 1) := by decide +kernel
theorem dX6_part_36 : decode cX6_part 36 = .ok (.if_icmp .le 6, 3) := by decide +kernel
theorem dX6_part_39 : decode cX6_part 39 = .ok (.ldc 55, 2) := by decide +kernel
theorem dX6_part_41 : decode cX6_part 41 = .ok (.ireturn, 1) := by decide +kernel
theorem dX6_part_42 : decode cX6_part 42 = .ok (.aload_n 0, 1) := by decide +kernel
theorem dX6_part_43 : decode cX6_part 43 = .ok (.invokevirtual 64, 3) := by decide +kernel
theorem dX6_part_46 : decode cX6_part 46 = .ok (.aload_n 0, 1) := by decide +kernel
theorem dX6_part_47 : decode cX6_part 47 = .ok (.getfield 10, 3) := by decide +kernel
theorem dX6_part_50 : decode cX6_part 50 = .ok (.getfield 95, 3) := by decide +kernel
theorem dX6_part_53 : decode cX6_part 53 = .ok (.iload_n 1, 1) := by decide +kernel
theorem dX6_part_54 : decode cX6_part 54 = .ok (.iload_n 2, 1) := by decide +kernel
theorem dX6_part_55 : decode cX6_part 55 = .ok (.iastore, 1) := by decide +kernel
theorem dX6_part_56 : decode cX6_part 56 = .ok (.aload_n 0, 1) := by decide +kernel
theorem dX6_part_57 : decode cX6_part 57 = .ok (.getfield 10, 3) := by decide +kernel
theorem dX6_part_60 : decode cX6_part 60 = .ok (.getfield 98, 3) := by decide +kernel
theorem dX6_part_63 : decode cX6_part 63 = .ok (.iload_n 1, 1) := by decide +kernel
theorem dX6_part_64 : decode cX6_part 64 = .ok (.iload_n 3, 1) := by decide +kernel
theorem dX6_part_65 : decode cX6_part 65 = .ok (.iastore, 1) := by decide +kernel
theorem dX6_part_66 : decode cX6_part 66 = .ok (.iconst 1, 1) := by decide +kernel
theorem dX6_part_67 : decode cX6_part 67 = .ok (.ireturn, 1) := by decide +kernel
set_option maxRecDepth 20000 in
theorem ggX6_clear_X6_beginAnew : GoodIn wsX6_clear wsX6_beginAnew := goodIn_r _ [7, 8, 9, 10, 11, 12, 13, 14, 15, 16, 17, 18, 19, 20, 21, 22, 23, 24, 25, 26, 27, 43, 44, 45, 46, 47, 48, 49, 50, 51, 63, 64, 65, 66, 67, 68, 69, 70, 71, 72, 73, 74, 75, 76, 77, 78, 79, 80, 81, 82, 83, 84] (by decide +kernel) (by decide +kernel)
set_option maxRecDepth 20000 in
theorem gX6_clear_X6_beginAnew : GoodIn wsX6_clear (wsV RX6 64 RX6 yX6_beginAnew wsX6_beginAnew) := goodIn_app (goodIn_of _ (by decide +kernel)) ggX6_clear_X6_beginAnew
set_option maxRecDepth 20000 in
theorem ggX6_clear_X5_forget : GoodIn wsX6_clear wsX5_forget := goodIn_r _ [32, 33, 34, 35, 36, 37, 38, 39, 40, 41, 42, 52, 53, 54, 55, 56, 57, 58, 59, 60, 61, 62] (by decide +kernel) (by decide +kernel)
set_option maxRecDepth 20000 in
theorem gX6_clear_X5_forget : GoodIn wsX6_clear (wsV RX6 101 RX5 yX5_forget wsX5_forget) := goodIn_app (goodIn_of _ (by decide +kernel)) ggX6_clear_X5_forget
theorem dX6_clear_0 : decode cX6_clear 0 = .ok (.aload_n 0, 1) := by decide +kernel
theorem dX6_clear_1 : decode cX6_clear 1 = .ok (.getfield 10, 3) := by decide +kernel
theorem dX6_clear_4 : decode cX6_clear 4 = .ok (.getfield 56, 3) := by decide +kernel
theorem dX6_clear_7 : decode cX6_clear 7 = .ok (.istore_n 1, 1) := by decide +kernel
theorem dX6_clear_8 : decode cX6_clear 8 = .ok (.aload_n 0, 1) := by decide +kernel
theorem dX6_clear_9 : decode cX6_clear 9 = .ok (.invokevirtual 64, 3) := by decide +kernel
theorem dX6_clear_12 : decode cX6_clear 12 = .ok (.aload_n 0, 1) := by decide +kernel
theorem dX6_clear_13 : decode cX6_clear 13 = .ok (.getfield 10, 3) := by decide +kernel
theorem dX6_clear_16 : decode cX6_clear 16 = .ok (.invokevirtual 101, 3) := by decide +kernel
theorem dX6_clear_19 : decode cX6_clear 19 = .ok (.iload_n 1, 1) := by decide +kernel
theorem dX6_clear_20 : decode cX6_clear 20 = .ok (.ireturn, 1) := by decide +kernel
set_option maxRecDepth 20000 in
theorem ggX6_run_X2_end : GoodIn wsX6_run wsX2_end := goodIn_r _ [19, 20, 132, 133, 134, 135, 136] (by decide +kernel) (by decide +kernel)
set_option maxRecDepth 20000 in
theorem gX6_run_X2_end : GoodIn wsX6_run (wsV RX6 105 RX2 yX2_end wsX2_end) := goodIn_app (goodIn_of _ (by decide +kernel)) ggX6_run_X2_end
set_option maxRecDepth 20000 in
theorem ggX6_run_X0_forget : GoodIn wsX6_run wsX0_forget := goodIn_r _ [25, 26, 137, 138, 139, 140, 141, 142, 143, 144, 145] (by decide +kernel) (by decide +kernel)
set_option maxRecDepth 20000 in
theorem gX6_run_X0_forget : GoodIn wsX6_run (wsV RX6 108 RX0 yX0_forget wsX0_forget) := goodIn_app (goodIn_of _ (by decide +kernel)) ggX6_run_X0_forget
set_option maxRecDepth 20000 in
theorem ggX6_run_X6_goThrough : GoodIn wsX6_run wsX6_goThrough := goodIn_r _ [31, 2, 32, 33, 34, 13, 35, 36, 37, 38, 39, 40, 41, 42, 43, 44, 11, 45, 46, 47, 48, 49, 50, 51, 52, 53, 54, 55, 56, 57, 58, 59, 60, 61, 62, 63, 64, 65, 66, 67, 68, 69, 70, 71, 72, 73, 74, 75, 76, 77, 78, 79, 80, 81, 82, 83, 84, 85, 86, 87, 88, 89, 90, 91, 92, 93, 94, 95, 96, 97, 98, 99, 100, 101, 102, 103, 104, 105, 106, 107, 108, 109, 110, 111, 112, 113, 114, 115, 116, 117, 118, 119, 120, 121, 122, 123, 124, 125, 126, 127, 128, 129, 130, 131] (by decide +kernel) (by decide +kernel)
set_option maxRecDepth 20000 in
theorem gX6_run_X6_goThrough : GoodIn wsX6_run (wsV RX6 117 RX6 yX6_goThrough wsX6_goThrough) := goodIn_app (goodIn_of _ (by decide +kernel)) ggX6_run_X6_goThrough
theorem dX6_run_0 : decode cX6_run 0 = .ok (.iload_n 1, 1) := by decide +kernel
theorem dX6_run_1 : decode cX6_run 1 = .ok (.ifCond .lt 10, 3) := by decide +kernel
theorem dX6_run_4 : decode cX6_run 4 = .ok (.iload_n 1, 1) := by decide +kernel
theorem dX6_run_5 : decode cX6_run 5 = .ok (.sipush 2000, 3) := by decide +kernel
theorem dX6_run_8 : decode cX6_run 8 = .ok (.if_icmp .le 6, 3) := by decide +kernel
theorem dX6_run_11 : decode cX6_run 11 = .ok (.ldc 55, 2) := by decide +kernel
theorem dX6_run_13 : decode cX6_run 13 = .ok (.ireturn, 1) := by decide +kernel
theorem dX6_run_14 : decode cX6_run 14 = .ok (.aload_n 0, 1) := by decide +kernel
theorem dX6_run_15 : decode cX6_run 15 = .ok (.getfield 10, 3) := by decide +kernel
theorem dX6_run_18 : decode cX6_run 18 = .ok (.getfield 85, 3) := by decide +kernel
theorem dX6_run_21 : decode cX6_run 21 = .ok (.ifCond .ne 6, 3) := by decide +kernel
theorem dX6_run_24 : decode cX6_run 24 = .ok (.ldc 104, 2) := by decide +kernel
theorem dX6_run_26 : decode cX6_run 26 = .ok (.ireturn, 1) := by decide +kernel
theorem dX6_run_27 : decode cX6_run 27 = .ok (.aload_n 0, 1) := by decide +kernel
theorem dX6_run_28 : decode cX6_run 28 = .ok (.getfield 26, 3) := by decide +kernel
theorem dX6_run_31 : decode cX6_run 31 = .ok (.invokevirtual 105, 3) := by decide +kernel
theorem dX6_run_34 : decode cX6_run 34 = .ok (.aload_n 0, 1) := by decide +kernel
theorem dX6_run_35 : decode cX6_run 35 = .ok (.getfield 33, 3) := by decide +kernel
theorem dX6_run_38 : decode cX6_run 38 = .ok (.invokevirtual 108, 3) := by decide +kernel
theorem dX6_run_41 : decode cX6_run 41 = .ok (.aload_n 0, 1) := by decide +kernel
theorem dX6_run_42 : decode cX6_run 42 = .ok (.getfield 109, 3) := by decide +kernel
theorem dX6_run_45 : decode cX6_run 45 = .ok (.iload_n 1, 1) := by decide +kernel
theorem dX6_run_46 : decode cX6_run 46 = .ok (.aload_n 0, 1) := by decide +kernel
theorem dX6_run_47 : decode cX6_run 47 = .ok (.getfield 10, 3) := by decide +kernel
theorem dX6_run_50 : decode cX6_run 50 = .ok (.getfield 60, 3) := by decide +kernel
theorem dX6_run_53 : decode cX6_run 53 = .ok (.aload_n 0, 1) := by decide +kernel
theorem dX6_run_54 : decode cX6_run 54 = .ok (.getfield 109, 3) := by decide +kernel
theorem dX6_run_57 : decode cX6_run 57 = .ok (.isub, 1) := by decide +kernel
theorem dX6_run_58 : decode cX6_run 58 = .ok (.invokestatic 112, 3) := by decide +kernel
theorem dX6_run_61 : decode cX6_run 61 = .ok (.iadd, 1) := by decide +kernel
theorem dX6_run_62 : decode cX6_run 62 = .ok (.istore_n 2, 1) := by decide +kernel
theorem dX6_run_63 : decode cX6_run 63 = .ok (.aload_n 0, 1) := by decide +kernel
theorem dX6_run_64 : decode cX6_run 64 = .ok (.getfield 109, 3) := by decide +kernel
theorem dX6_run_67 : decode cX6_run 67 = .ok (.istore_n 3, 1) := by decide +kernel
theorem dX6_run_68 : decode cX6_run 68 = .ok (.iload_n 3, 1) := by decide +kernel
theorem dX6_run_69 : decode cX6_run 69 = .ok (.iload_n 2, 1) := by decide +kernel
theorem dX6_run_70 : decode cX6_run 70 = .ok (.if_icmp .ge 14, 3) := by decide +kernel
theorem dX6_run_73 : decode cX6_run 73 = .ok (.aload_n 0, 1) := by decide +kernel
theorem dX6_run_74 : decode cX6_run 74 = .ok (.iload_n 3, 1) := by decide +kernel
theorem dX6_run_75 : decode cX6_run 75 = .ok (.invokevirtual 117, 3) := by decide +kernel
theorem dX6_run_78 : decode cX6_run 78 = .ok (.iinc 3 1, 3) := by decide +kernel
theorem dX6_run_81 : decode cX6_run 81 = .ok (.goto (-13), 3) := by decide +kernel
theorem dX6_run_84 : decode cX6_run 84 = .ok (.aload_n 0, 1) := by decide +kernel
theorem dX6_run_85 : decode cX6_run 85 = .ok (.iload_n 2, 1) := by decide +kernel
theorem dX6_run_86 : decode cX6_run 86 = .ok (.putfield 109, 3) := by decide +kernel
theorem dX6_run_89 : decode cX6_run 89 = .ok (.aload_n 0, 1) := by decide +kernel
theorem dX6_run_90 : decode cX6_run 90 = .ok (.getfield 19, 3) := by decide +kernel
theorem dX6_run_93 : decode cX6_run 93 = .ok (.getfield 121, 3) := by decide +kernel
theorem dX6_run_96 : decode cX6_run 96 = .ok (.ireturn, 1) := by decide +kernel
theorem dX6_left_0 : decode cX6_left 0 = .ok (.aload_n 0, 1) := by decide +kernel
theorem dX6_left_1 : decode cX6_left 1 = .ok (.getfield 10, 3) := by decide +kernel
theorem dX6_left_4 : decode cX6_left 4 = .ok (.getfield 60, 3) := by decide +kernel
theorem dX6_left_7 : decode cX6_left 7 = .ok (.aload_n 0, 1) := by decide +kernel
theorem dX6_left_8 : decode cX6_left 8 = .ok (.getfield 109, 3) := by decide +kernel
theorem dX6_left_11 : decode cX6_left 11 = .ok (.isub, 1) := by decide +kernel
theorem dX6_left_12 : decode cX6_left 12 = .ok (.ireturn, 1) := by decide +kernel
theorem dX6_plans_0 : decode cX6_plans 0 = .ok (.aload_n 0, 1) := by decide +kernel
theorem dX6_plans_1 : decode cX6_plans 1 = .ok (.getfield 124, 3) := by decide +kernel
theorem dX6_plans_4 : decode cX6_plans 4 = .ok (.ireturn, 1) := by decide +kernel
set_option maxRecDepth 20000 in
theorem ggX6_score_X6_among : GoodIn wsX6_score wsX6_among := goodIn_r _ [9] (by decide +kernel) (by decide +kernel)
set_option maxRecDepth 20000 in
theorem gX6_score_X6_among : GoodIn wsX6_score (va_wsS RX6 78 yX6_among wsX6_among) := goodIn_app (goodIn_of _ (by decide +kernel)) ggX6_score_X6_among
