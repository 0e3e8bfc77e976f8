theorem dX0_init_0 : decode cX0_init 0 = .ok (.aload_n 0, 1) := by decide +kernel
theorem dX0_init_1 : decode cX0_init 1 = .ok (.invokespecial 5, 3) := by decide +kernel
theorem dX0_init_4 : decode cX0_init 4 = .ok (.aload_n 0, 1) := by decide +kernel
theorem dX0_init_5 : decode cX0_init 5 = .ok (.sipush 2197, 3) := by decide +kernel
theorem dX0_init_8 : decode cX0_init 8 = .ok (.newarray .long, 2) := by decide +kernel
theorem dX0_init_10 : decode cX0_init 10 = .ok (.putfield 11, 3) := by decide +kernel
theorem dX0_init_13 : decode cX0_init 13 = .ok (.aload_n 0, 1) := by decide +kernel
theorem dX0_init_14 : decode cX0_init 14 = .ok (.iconst 4, 1) := by decide +kernel
theorem dX0_init_15 : decode cX0_init 15 = .ok (.bipush 13, 2) := by decide +kernel
theorem dX0_init_17 : decode cX0_init 17 = .ok (.multianewarray 15 2, 4) := by decide +kernel
theorem dX0_init_21 : decode cX0_init 21 = .ok (.putfield 17, 3) := by decide +kernel
theorem dX0_init_24 : decode cX0_init 24 = .ok (.aload_n 0, 1) := by decide +kernel
theorem dX0_init_25 : decode cX0_init 25 = .ok (.iconst 4, 1) := by decide +kernel
theorem dX0_init_26 : decode cX0_init 26 = .ok (.newarray .int, 2) := by decide +kernel
theorem dX0_init_28 : decode cX0_init 28 = .ok (.putfield 20, 3) := by decide +kernel
theorem dX0_init_31 : decode cX0_init 31 = .ok (.aload_n 0, 1) := by decide +kernel
theorem dX0_init_32 : decode cX0_init 32 = .ok (.iconst 4, 1) := by decide +kernel
theorem dX0_init_33 : decode cX0_init 33 = .ok (.newarray .int, 2) := by decide +kernel
theorem dX0_init_35 : decode cX0_init 35 = .ok (.putfield 24, 3) := by decide +kernel
theorem dX0_init_38 : decode cX0_init 38 = .ok (.return_, 1) := by decide +kernel
theorem dX0_forget_0 : decode cX0_forget 0 = .ok (.aload_n 0, 1) := by decide +kernel
theorem dX0_forget_1 : decode cX0_forget 1 = .ok (.iconst 0, 1) := by decide +kernel
theorem dX0_forget_2 : decode cX0_forget 2 = .ok (.putfield 27, 3) := by decide +kernel
theorem dX0_forget_5 : decode cX0_forget 5 = .ok (.return_, 1) := by decide +kernel
theorem dX0_fits_0 : decode cX0_fits 0 = .ok (.aload_n 1, 1) := by decide +kernel
theorem dX0_fits_1 : decode cX0_fits 1 = .ok (.getfield 31, 3) := by decide +kernel
theorem dX0_fits_4 : decode cX0_fits 4 = .ok (.ifCond .le 16, 3) := by decide +kernel
theorem dX0_fits_7 : decode cX0_fits 7 = .ok (.aload_n 1, 1) := by decide +kernel
theorem dX0_fits_8 : decode cX0_fits 8 = .ok (.getfield 31, 3) := by decide +kernel
theorem dX0_fits_11 : decode cX0_fits 11 = .ok (.bipush 12, 2) := by decide +kernel
theorem dX0_fits_13 : decode cX0_fits 13 = .ok (.if_icmp .gt 7, 3) := by decide +kernel
theorem dX0_fits_16 : decode cX0_fits 16 = .ok (.iconst 1, 1) := by decide +kernel
theorem dX0_fits_17 : decode cX0_fits 17 = .ok (.goto 4, 3) := by decide +kernel
theorem dX0_fits_20 : decode cX0_fits 20 = .ok (.iconst 0, 1) := by decide +kernel
theorem dX0_fits_21 : decode cX0_fits 21 = .ok (.ireturn, 1) := by decide +kernel
set_option maxRecDepth 20000 in
theorem ggX0_work_X0_fits : GoodIn wsX0_work wsX0_fits := goodIn_r _ [11, 12, 88, 89, 90, 91, 92, 93] (by decide +kernel) (by decide +kernel)
set_option maxRecDepth 20000 in
theorem gX0_work_X0_fits : GoodIn wsX0_work (wsV RX0 37 RX0 yX0_fits wsX0_fits) := goodIn_app (goodIn_of _ (by decide +kernel)) ggX0_work_X0_fits
set_option maxRecDepth 20000 in
theorem ggX0_work_X4_place : GoodIn wsX0_work wsX4_place := goodIn_r _ [16] (by decide +kernel) (by decide +kernel)
set_option maxRecDepth 20000 in
theorem gX0_work_X4_place : GoodIn wsX0_work (va_wsS RX0 52 yX4_place wsX4_place) := goodIn_app (goodIn_of _ (by decide +kernel)) ggX0_work_X4_place
set_option maxRecDepth 20000 in
theorem ggX0_work_X0_setLevels : GoodIn wsX0_work wsX0_setLevels := goodIn_r _ [20, 12, 21, 22, 23, 24, 25, 26, 27, 28, 29, 30, 15, 31, 32, 33, 14, 16, 34, 35, 36, 10, 37, 38, 39, 40, 41, 88, 89, 90, 91, 92, 93, 79, 80, 81, 82, 83, 84, 85, 86, 87] (by decide +kernel) (by decide +kernel)
set_option maxRecDepth 20000 in
theorem gX0_work_X0_setLevels : GoodIn wsX0_work (wsV RX0 58 RX0 yX0_setLevels wsX0_setLevels) := goodIn_app (goodIn_of _ (by decide +kernel)) ggX0_work_X0_setLevels
set_option maxRecDepth 20000 in
theorem ggX0_work_X0_openCorner : GoodIn wsX0_work wsX0_openCorner := goodIn_r _ [45, 4, 21, 6, 46, 47, 15, 48, 33, 14, 16, 79, 80, 81, 82, 83, 84, 85, 86, 87] (by decide +kernel) (by decide +kernel)
set_option maxRecDepth 20000 in
theorem gX0_work_X0_openCorner : GoodIn wsX0_work (wsV RX0 62 RX0 yX0_openCorner wsX0_openCorner) := goodIn_app (goodIn_of _ (by decide +kernel)) ggX0_work_X0_openCorner
set_option maxRecDepth 20000 in
theorem ggX0_work_X0_addBox : GoodIn wsX0_work wsX0_addBox := goodIn_r _ [52, 5, 4, 6, 22, 21, 2, 53, 54, 55, 56, 10, 57, 12, 58, 59, 60, 61, 62, 63, 64, 15, 65, 66, 23, 24, 25, 26, 27, 28, 29, 30, 31, 32, 33, 14, 16, 46, 47, 48, 13, 67, 68, 69, 70, 79, 80, 81, 82, 83, 84, 85, 86, 87, 88, 89, 90, 91, 92, 93] (by decide +kernel) (by decide +kernel)
set_option maxRecDepth 20000 in
theorem gX0_work_X0_addBox : GoodIn wsX0_work (wsV RX0 66 RX0 yX0_addBox wsX0_addBox) := goodIn_app (goodIn_of _ (by decide +kernel)) ggX0_work_X0_addBox
set_option maxRecDepth 20000 in
theorem ggX0_work_X0_addContent : GoodIn wsX0_work wsX0_addContent := goodIn_r _ [74, 21, 4, 22, 6, 3, 54, 55, 56, 10, 57, 12, 58, 59, 60, 61, 62, 63, 64, 15, 65, 66, 23, 24, 25, 26, 27, 28, 29, 30, 31, 32, 33, 14, 16, 79, 80, 81, 82, 83, 84, 85, 86, 87, 88, 89, 90, 91, 92, 93] (by decide +kernel) (by decide +kernel)
set_option maxRecDepth 20000 in
theorem gX0_work_X0_addContent : GoodIn wsX0_work (wsV RX0 70 RX0 yX0_addContent wsX0_addContent) := goodIn_app (goodIn_of _ (by decide +kernel)) ggX0_work_X0_addContent
set_option maxRecDepth 20000 in
theorem ggX0_work_X0_chooseNext : GoodIn wsX0_work wsX0_chooseNext := goodIn_r _ [78, 4, 6, 22, 79, 80, 81, 82, 83, 84, 85, 86, 87] (by decide +kernel) (by decide +kernel)
set_option maxRecDepth 20000 in
theorem gX0_work_X0_chooseNext : GoodIn wsX0_work (wsV RX0 73 RX0 yX0_chooseNext wsX0_chooseNext) := goodIn_app (goodIn_of _ (by decide +kernel)) ggX0_work_X0_chooseNext
theorem dX0_work_0 : decode cX0_work 0 = .ok (.aload_n 0, 1) := by decide +kernel
theorem dX0_work_1 : decode cX0_work 1 = .ok (.getfield 27, 3) := by decide +kernel
theorem dX0_work_4 : decode cX0_work 4 = .ok (.ifCond .ne 16, 3) := by decide +kernel
theorem dX0_work_7 : decode cX0_work 7 = .ok (.iload_n 2, 1) := by decide +kernel
theorem dX0_work_8 : decode cX0_work 8 = .ok (.iconst 1, 1) := by decide +kernel
theorem dX0_work_9 : decode cX0_work 9 = .ok (.if_icmp .lt 11, 3) := by decide +kernel
theorem dX0_work_12 : decode cX0_work 12 = .ok (.aload_n 0, 1) := by decide +kernel
theorem dX0_work_13 : decode cX0_work 13 = .ok (.aload_n 1, 1) := by decide +kernel
theorem dX0_work_14 : decode cX0_work 14 = .ok (.invokevirtual 37, 3) := by decide +kernel
theorem dX0_work_17 : decode cX0_work 17 = .ok (.ifCond .ne 4, 3) := by decide +kernel
theorem dX0_work_20 : decode cX0_work 20 = .ok (.return_, 1) := by decide +kernel
theorem dX0_work_21 : decode cX0_work 21 = .ok (.aload_n 0, 1) := by decide +kernel
theorem dX0_work_22 : decode cX0_work 22 = .ok (.iconst 1, 1) := by decide +kernel
theorem dX0_work_23 : decode cX0_work 23 = .ok (.putfield 27, 3) := by decide +kernel
theorem dX0_work_26 : decode cX0_work 26 = .ok (.aload_n 0, 1) := by decide +kernel
theorem dX0_work_27 : decode cX0_work 27 = .ok (.iconst 0, 1) := by decide +kernel
theorem dX0_work_28 : decode cX0_work 28 = .ok (.putfield 41, 3) := by decide +kernel
theorem dX0_work_31 : decode cX0_work 31 = .ok (.aload_n 0, 1) := by decide +kernel
theorem dX0_work_32 : decode cX0_work 32 = .ok (.lconst 0, 1) := by decide +kernel
theorem dX0_work_33 : decode cX0_work 33 = .ok (.putfield 42, 3) := by decide +kernel
theorem dX0_work_36 : decode cX0_work 36 = .ok (.aload_n 0, 1) := by decide +kernel
theorem dX0_work_37 : decode cX0_work 37 = .ok (.iload_n 2, 1) := by decide +kernel
theorem dX0_work_38 : decode cX0_work 38 = .ok (.iconst 1, 1) := by decide +kernel
theorem dX0_work_39 : decode cX0_work 39 = .ok (.isub, 1) := by decide +kernel
theorem dX0_work_40 : decode cX0_work 40 = .ok (.putfield 46, 3) := by decide +kernel
theorem dX0_work_43 : decode cX0_work 43 = .ok (.aload_n 0, 1) := by decide +kernel
theorem dX0_work_44 : decode cX0_work 44 = .ok (.lconst 0, 1) := by decide +kernel
theorem dX0_work_45 : decode cX0_work 45 = .ok (.putfield 49, 3) := by decide +kernel
theorem dX0_work_48 : decode cX0_work 48 = .ok (.iconst 0, 1) := by decide +kernel
theorem dX0_work_49 : decode cX0_work 49 = .ok (.istore_n 3, 1) := by decide +kernel
theorem dX0_work_50 : decode cX0_work 50 = .ok (.iload_n 3, 1) := by decide +kernel
theorem dX0_work_51 : decode cX0_work 51 = .ok (.iload_n 2, 1) := by decide +kernel
theorem dX0_work_52 : decode cX0_work 52 = .ok (.if_icmp .ge 37, 3) := by decide +kernel
theorem dX0_work_55 : decode cX0_work 55 = .ok (.aload_n 0, 1) := by decide +kernel
theorem dX0_work_56 : decode cX0_work 56 = .ok (.dup, 1) := by decide +kernel
theorem dX0_work_57 : decode cX0_work 57 = .ok (.getfield 49, 3) := by decide +kernel
theorem dX0_work_60 : decode cX0_work 60 = .ok (.lconst 1, 1) := by decide +kernel
theorem dX0_work_61 : decode cX0_work 61 = .ok (.iload_n 3, 1) := by decide +kernel
theorem dX0_work_62 : decode cX0_work 62 = .ok (.invokestatic 52, 3) := by decide +kernel
theorem dX0_work_65 : decode cX0_work 65 = .ok (.lshl, 1) := by decide +kernel
theorem dX0_work_66 : decode cX0_work 66 = .ok (.ladd, 1) := by decide +kernel
theorem dX0_work_67 : decode cX0_work 67 = .ok (.putfield 49, 3) := by decide +kernel
theorem dX0_work_70 : decode cX0_work 70 = .ok (.aload_n 0, 1) := by decide +kernel
theorem dX0_work_71 : decode cX0_work 71 = .ok (.aload_n 1, 1) := by decide +kernel
theorem dX0_work_72 : decode cX0_work 72 = .ok (.iload_n 3, 1) := by decide +kernel
theorem dX0_work_73 : decode cX0_work 73 = .ok (.invokevirtual 58, 3) := by decide +kernel
theorem dX0_work_76 : decode cX0_work 76 = .ok (.aload_n 0, 1) := by decide +kernel
theorem dX0_work_77 : decode cX0_work 77 = .ok (.getfield 24, 3) := by decide +kernel
theorem dX0_work_80 : decode cX0_work 80 = .ok (.iload_n 3, 1) := by decide +kernel
theorem dX0_work_81 : decode cX0_work 81 = .ok (.iconst 0, 1) := by decide +kernel
theorem dX0_work_82 : decode cX0_work 82 = .ok (.iastore, 1) := by decide +kernel
theorem dX0_work_83 : decode cX0_work 83 = .ok (.iinc 3 1, 3) := by decide +kernel
theorem dX0_work_86 : decode cX0_work 86 = .ok (.goto (-36), 3) := by decide +kernel
theorem dX0_work_89 : decode cX0_work 89 = .ok (.iconst 0, 1) := by decide +kernel
theorem dX0_work_90 : decode cX0_work 90 = .ok (.istore_n 3, 1) := by decide +kernel
theorem dX0_work_91 : decode cX0_work 91 = .ok (.aload_n 0, 1) := by decide +kernel
theorem dX0_work_92 : decode cX0_work 92 = .ok (.invokevirtual 62, 3) := by decide +kernel
theorem dX0_work_95 : decode cX0_work 95 = .ok (.lstore 4, 2) := by decide +kernel
theorem dX0_work_97 : decode cX0_work 97 = .ok (.aload_n 0, 1) := by decide +kernel
theorem dX0_work_98 : decode cX0_work 98 = .ok (.aload_n 1, 1) := by decide +kernel
theorem dX0_work_99 : decode cX0_work 99 = .ok (.lload 4, 2) := by decide +kernel
theorem dX0_work_101 : decode cX0_work 101 = .ok (.invokevirtual 66, 3) := by decide +kernel
theorem dX0_work_104 : decode cX0_work 104 = .ok (.aload_n 0, 1) := by decide +kernel
theorem dX0_work_105 : decode cX0_work 105 = .ok (.aload_n 1, 1) := by decide +kernel
theorem dX0_work_106 : decode cX0_work 106 = .ok (.lload 4, 2) := by decide +kernel
theorem dX0_work_108 : decode cX0_work 108 = .ok (.invokevirtual 70, 3) := by decide +kernel
theorem dX0_work_111 : decode cX0_work 111 = .ok (.iinc 3 1, 3) := by decide +kernel
theorem dX0_work_114 : decode cX0_work 114 = .ok (.aload_n 0, 1) := by decide +kernel
theorem dX0_work_115 : decode cX0_work 115 = .ok (.invokevirtual 73, 3) := by decide +kernel
theorem dX0_work_118 : decode cX0_work 118 = .ok (.ifCond .eq 10, 3) := by decide +kernel
theorem dX0_work_121 : decode cX0_work 121 = .ok (.iload_n 3, 1) := by decide +kernel
theorem dX0_work_122 : decode cX0_work 122 = .ok (.sipush 2197, 3) := by decide +kernel
theorem dX0_work_125 : decode cX0_work 125 = .ok (.if_icmp .lt (-34), 3) := by decide +kernel
theorem dX0_work_128 : decode cX0_work 128 = .ok (.return_, 1) := by decide +kernel
set_option maxRecDepth 20000 in
theorem ggX0_setLevels_X3_number : GoodIn wsX0_setLevels wsX3_number := goodIn_r _ [8, 9, 10, 11, 12, 13, 14, 15, 16, 17, 27, 28, 29, 30, 31, 32] (by decide +kernel) (by decide +kernel)
set_option maxRecDepth 20000 in
theorem gX0_setLevels_X3_number : GoodIn wsX0_setLevels (wsV RX0 77 RX3 yX3_number wsX3_number) := goodIn_app (goodIn_of _ (by decide +kernel)) ggX0_setLevels_X3_number
set_option maxRecDepth 20000 in
theorem ggX0_setLevels_X0_putLevel : GoodIn wsX0_setLevels wsX0_putLevel := goodIn_r _ [22, 23, 24, 25, 26] (by decide +kernel) (by decide +kernel)
set_option maxRecDepth 20000 in
theorem gX0_setLevels_X0_putLevel : GoodIn wsX0_setLevels (wsV RX0 81 RX0 yX0_putLevel wsX0_putLevel) := goodIn_app (goodIn_of _ (by decide +kernel)) ggX0_setLevels_X0_putLevel
theorem dX0_setLevels_0 : decode cX0_setLevels 0 = .ok (.iconst 0, 1) := by decide +kernel
theorem dX0_setLevels_1 : decode cX0_setLevels 1 = .ok (.istore_n 3, 1) := by decide +kernel
theorem dX0_setLevels_2 : decode cX0_setLevels 2 = .ok (.iconst 0, 1) := by decide +kernel
theorem dX0_setLevels_3 : decode cX0_setLevels 3 = .ok (.istore 4, 2) := by decide +kernel
theorem dX0_setLevels_5 : decode cX0_setLevels 5 = .ok (.iload 4, 2) := by decide +kernel
theorem dX0_setLevels_7 : decode cX0_setLevels 7 = .ok (.aload_n 1, 1) := by decide +kernel
theorem dX0_setLevels_8 : decode cX0_setLevels 8 = .ok (.getfield 31, 3) := by decide +kernel
theorem dX0_setLevels_11 : decode cX0_setLevels 11 = .ok (.if_icmp .ge 28, 3) := by decide +kernel
theorem dX0_setLevels_14 : decode cX0_setLevels 14 = .ok (.aload_n 0, 1) := by decide +kernel
theorem dX0_setLevels_15 : decode cX0_setLevels 15 = .ok (.aload_n 0, 1) := by decide +kernel
theorem dX0_setLevels_16 : decode cX0_setLevels 16 = .ok (.getfield 17, 3) := by decide +kernel
theorem dX0_setLevels_19 : decode cX0_setLevels 19 = .ok (.iload_n 2, 1) := by decide +kernel
theorem dX0_setLevels_20 : decode cX0_setLevels 20 = .ok (.aaload, 1) := by decide +kernel
theorem dX0_setLevels_21 : decode cX0_setLevels 21 = .ok (.iload_n 3, 1) := by decide +kernel
theorem dX0_setLevels_22 : decode cX0_setLevels 22 = .ok (.aload_n 1, 1) := by decide +kernel
theorem dX0_setLevels_23 : decode cX0_setLevels 23 = .ok (.iload 4, 2) := by decide +kernel
theorem dX0_setLevels_25 : decode cX0_setLevels 25 = .ok (.iload_n 2, 1) := by decide +kernel
theorem dX0_setLevels_26 : decode cX0_setLevels 26 = .ok (.invokevirtual 77, 3) := by decide +kernel
theorem dX0_setLevels_29 : decode cX0_setLevels 29 = .ok (.invokevirtual 81, 3) := by decide +kernel
theorem dX0_setLevels_32 : decode cX0_setLevels 32 = .ok (.istore_n 3, 1) := by decide +kernel
theorem dX0_setLevels_33 : decode cX0_setLevels 33 = .ok (.iinc 4 1, 3) := by decide +kernel
theorem dX0_setLevels_36 : decode cX0_setLevels 36 = .ok (.goto (-31), 3) := by decide +kernel
theorem dX0_setLevels_39 : decode cX0_setLevels 39 = .ok (.iload_n 3, 1) := by decide +kernel
theorem dX0_setLevels_40 : decode cX0_setLevels 40 = .ok (.ifCond .le 36, 3) := by decide +kernel
theorem dX0_setLevels_43 : decode cX0_setLevels 43 = .ok (.iload_n 3, 1) := by decide +kernel
theorem dX0_setLevels_44 : decode cX0_setLevels 44 = .ok (.bipush 13, 2) := by decide +kernel
theorem dX0_setLevels_46 : decode cX0_setLevels 46 = .ok (.if_icmp .ge 30, 3) := by decide +kernel
theorem dX0_setLevels_49 : decode cX0_setLevels 49 = .ok (.aload_n 0, 1) := by decide +kernel
theorem dX0_setLevels_50 : decode cX0_setLevels 50 = .ok (.getfield 17, 3) := by decide +kernel
theorem dX0_setLevels_53 : decode cX0_setLevels 53 = .ok (.iload_n 2, 1) := by decide +kernel
theorem dX0_setLevels_54 : decode cX0_setLevels 54 = .ok (.aaload, 1) := by decide +kernel
theorem dX0_setLevels_55 : decode cX0_setLevels 55 = .ok (.iload_n 3, 1) := by decide +kernel
theorem dX0_setLevels_56 : decode cX0_setLevels 56 = .ok (.aload_n 0, 1) := by decide +kernel
theorem dX0_setLevels_57 : decode cX0_setLevels 57 = .ok (.getfield 17, 3) := by decide +kernel
theorem dX0_setLevels_60 : decode cX0_setLevels 60 = .ok (.iload_n 2, 1) := by decide +kernel
theorem dX0_setLevels_61 : decode cX0_setLevels 61 = .ok (.aaload, 1) := by decide +kernel
theorem dX0_setLevels_62 : decode cX0_setLevels 62 = .ok (.iload_n 3, 1) := by decide +kernel
theorem dX0_setLevels_63 : decode cX0_setLevels 63 = .ok (.iconst 1, 1) := by decide +kernel
theorem dX0_setLevels_64 : decode cX0_setLevels 64 = .ok (.isub, 1) := by decide +kernel
theorem dX0_setLevels_65 : decode cX0_setLevels 65 = .ok (.iaload, 1) := by decide +kernel
theorem dX0_setLevels_66 : decode cX0_setLevels 66 = .ok (.iconst 1, 1) := by decide +kernel
theorem dX0_setLevels_67 : decode cX0_setLevels 67 = .ok (.iadd, 1) := by decide +kernel
theorem dX0_setLevels_68 : decode cX0_setLevels 68 = .ok (.iastore, 1) := by decide +kernel
theorem dX0_setLevels_69 : decode cX0_setLevels 69 = .ok (.aload_n 0, 1) := by decide +kernel
theorem dX0_setLevels_70 : decode cX0_setLevels 70 = .ok (.getfield 20, 3) := by decide +kernel
theorem dX0_setLevels_73 : decode cX0_setLevels 73 = .ok (.iload_n 2, 1) := by decide +kernel
theorem dX0_setLevels_74 : decode cX0_setLevels 74 = .ok (.iload_n 3, 1) := by decide +kernel
theorem dX0_setLevels_75 : decode cX0_setLevels 75 = .ok (.iastore, 1) := by decide +kernel
theorem dX0_setLevels_76 : decode cX0_setLevels 76 = .ok (.return_, 1) := by decide +kernel
theorem dX0_putLevel_0 : decode cX0_putLevel 0 = .ok (.iconst 0, 1) := by decide +kernel
theorem dX0_putLevel_1 : decode cX0_putLevel 1 = .ok (.istore 4, 2) := by decide +kernel
theorem dX0_putLevel_3 : decode cX0_putLevel 3 = .ok (.iload 4, 2) := by decide +kernel
theorem dX0_putLevel_5 : decode cX0_putLevel 5 = .ok (.iload_n 2, 1) := by decide +kernel
theorem dX0_putLevel_6 : decode cX0_putLevel 6 = .ok (.if_icmp .ge 17, 3) := by decide +kernel
theorem dX0_putLevel_9 : decode cX0_putLevel 9 = .ok (.aload_n 1, 1) := by decide +kernel
theorem dX0_putLevel_10 : decode cX0_putLevel 10 = .ok (.iload 4, 2) := by decide +kernel
theorem dX0_putLevel_12 : decode cX0_putLevel 12 = .ok (.iaload, 1) := by decide +kernel
theorem dX0_putLevel_13 : decode cX0_putLevel 13 = .ok (.iload_n 3, 1) := by decide +kernel
theorem dX0_putLevel_14 : decode cX0_putLevel 14 = .ok (.if_icmp .ge 9, 3) := by decide +kernel
theorem dX0_putLevel_17 : decode cX0_putLevel 17 = .ok (.iinc 4 1, 3) := by decide +kernel
theorem dX0_putLevel_20 : decode cX0_putLevel 20 = .ok (.goto (-17), 3) := by decide +kernel
theorem dX0_putLevel_23 : decode cX0_putLevel 23 = .ok (.iload 4, 2) := by decide +kernel
theorem dX0_putLevel_25 : decode cX0_putLevel 25 = .ok (.iload_n 2, 1) := by decide +kernel
theorem dX0_putLevel_26 : decode cX0_putLevel 26 = .ok (.if_icmp .ge 11, 3) := by decide +kernel
theorem dX0_putLevel_29 : decode cX0_putLevel 29 = .ok (.aload_n 1, 1) := by decide +kernel
theorem dX0_putLevel_30 : decode cX0_putLevel 30 = .ok (.iload 4, 2) := by decide +kernel
theorem dX0_putLevel_32 : decode cX0_putLevel 32 = .ok (.iaload, 1) := by decide +kernel
theorem dX0_putLevel_33 : decode cX0_putLevel 33 = .ok (.iload_n 3, 1) := by decide +kernel
theorem dX0_putLevel_34 : decode cX0_putLevel 34 = .ok (.if_icmp .eq 9, 3) := by decide +kernel
theorem dX0_putLevel_37 : decode cX0_putLevel 37 = .ok (.iload_n 2, 1) := by decide +kernel
theorem dX0_putLevel_38 : decode cX0_putLevel 38 = .ok (.bipush 12, 2) := by decide +kernel
theorem dX0_putLevel_40 : decode cX0_putLevel 40 = .ok (.if_icmp .lt 5, 3) := by decide +kernel
theorem dX0_putLevel_43 : decode cX0_putLevel 43 = .ok (.iload_n 2, 1) := by decide +kernel
theorem dX0_putLevel_44 : decode cX0_putLevel 44 = .ok (.ireturn, 1) := by decide +kernel
theorem dX0_putLevel_45 : decode cX0_putLevel 45 = .ok (.aload_n 1, 1) := by decide +kernel
theorem dX0_putLevel_46 : decode cX0_putLevel 46 = .ok (.iload 4, 2) := by decide +kernel
theorem dX0_putLevel_48 : decode cX0_putLevel 48 = .ok (.aload_n 1, 1) := by decide +kernel
theorem dX0_putLevel_49 : decode cX0_putLevel 49 = .ok (.iload 4, 2) := by decide +kernel
theorem dX0_putLevel_51 : decode cX0_putLevel 51 = .ok (.iconst 1, 1) := by decide +kernel
theorem dX0_putLevel_52 : decode cX0_putLevel 52 = .ok (.iadd, 1) := by decide +kernel
theorem dX0_putLevel_53 : decode cX0_putLevel 53 = .ok (.iload_n 2, 1) := by decide +kernel
theorem dX0_putLevel_54 : decode cX0_putLevel 54 = .ok (.iload 4, 2) := by decide +kernel
theorem dX0_putLevel_56 : decode cX0_putLevel 56 = .ok (.isub, 1) := by decide +kernel
theorem dX0_putLevel_57 : decode cX0_putLevel 57 = .ok (.invokestatic 85, 3) := by decide +kernel
theorem dX0_putLevel_60 : decode cX0_putLevel 60 = .ok (.aload_n 1, 1) := by decide +kernel
theorem dX0_putLevel_61 : decode cX0_putLevel 61 = .ok (.iload 4, 2) := by decide +kernel
theorem dX0_putLevel_63 : decode cX0_putLevel 63 = .ok (.iload_n 3, 1) := by decide +kernel
theorem dX0_putLevel_64 : decode cX0_putLevel 64 = .ok (.iastore, 1) := by decide +kernel
theorem dX0_putLevel_65 : decode cX0_putLevel 65 = .ok (.iload_n 2, 1) := by decide +kernel
theorem dX0_putLevel_66 : decode cX0_putLevel 66 = .ok (.iconst 1, 1) := by decide +kernel
theorem dX0_putLevel_67 : decode cX0_putLevel 67 = .ok (.iadd, 1) := by decide +kernel
theorem dX0_putLevel_68 : decode cX0_putLevel 68 = .ok (.ireturn, 1) := by decide +kernel
theorem dX0_chooseNext_0 : decode cX0_chooseNext 0 = .ok (.aload_n 0, 1) := by decide +kernel
theorem dX0_chooseNext_1 : decode cX0_chooseNext 1 = .ok (.getfield 46, 3) := by decide +kernel
theorem dX0_chooseNext_4 : decode cX0_chooseNext 4 = .ok (.iconst 1, 1) := by decide +kernel
theorem dX0_chooseNext_5 : decode cX0_chooseNext 5 = .ok (.isub, 1) := by decide +kernel
theorem dX0_chooseNext_6 : decode cX0_chooseNext 6 = .ok (.istore_n 1, 1) := by decide +kernel
theorem dX0_chooseNext_7 : decode cX0_chooseNext 7 = .ok (.iload_n 1, 1) := by decide +kernel
theorem dX0_chooseNext_8 : decode cX0_chooseNext 8 = .ok (.ifCond .lt 43, 3) := by decide +kernel
theorem dX0_chooseNext_11 : decode cX0_chooseNext 11 = .ok (.aload_n 0, 1) := by decide +kernel
theorem dX0_chooseNext_12 : decode cX0_chooseNext 12 = .ok (.getfield 24, 3) := by decide +kernel
theorem dX0_chooseNext_15 : decode cX0_chooseNext 15 = .ok (.iload_n 1, 1) := by decide +kernel
theorem dX0_chooseNext_16 : decode cX0_chooseNext 16 = .ok (.iaload, 1) := by decide +kernel
theorem dX0_chooseNext_17 : decode cX0_chooseNext 17 = .ok (.aload_n 0, 1) := by decide +kernel
theorem dX0_chooseNext_18 : decode cX0_chooseNext 18 = .ok (.getfield 20, 3) := by decide +kernel
theorem dX0_chooseNext_21 : decode cX0_chooseNext 21 = .ok (.iload_n 1, 1) := by decide +kernel
theorem dX0_chooseNext_22 : decode cX0_chooseNext 22 = .ok (.iaload, 1) := by decide +kernel
theorem dX0_chooseNext_23 : decode cX0_chooseNext 23 = .ok (.if_icmp .ge 15, 3) := by decide +kernel
theorem dX0_chooseNext_26 : decode cX0_chooseNext 26 = .ok (.aload_n 0, 1) := by decide +kernel
theorem dX0_chooseNext_27 : decode cX0_chooseNext 27 = .ok (.getfield 24, 3) := by decide +kernel
theorem dX0_chooseNext_30 : decode cX0_chooseNext 30 = .ok (.iload_n 1, 1) := by decide +kernel
theorem dX0_chooseNext_31 : decode cX0_chooseNext 31 = .ok (.dup2, 1) := by decide +kernel
theorem dX0_chooseNext_32 : decode cX0_chooseNext 32 = .ok (.iaload, 1) := by decide +kernel
theorem dX0_chooseNext_33 : decode cX0_chooseNext 33 = .ok (.iconst 1, 1) := by decide +kernel
theorem dX0_chooseNext_34 : decode cX0_chooseNext 34 = .ok (.iadd, 1) := by decide +kernel
theorem dX0_chooseNext_35 : decode cX0_chooseNext 35 = .ok (.iastore, 1) := by decide +kernel
theorem dX0_chooseNext_36 : decode cX0_chooseNext 36 = .ok (.iconst 1, 1) := by decide +kernel
theorem dX0_chooseNext_37 : decode cX0_chooseNext 37 = .ok (.ireturn, 1) := by decide +kernel
theorem dX0_chooseNext_38 : decode cX0_chooseNext 38 = .ok (.aload_n 0, 1) := by decide +kernel
theorem dX0_chooseNext_39 : decode cX0_chooseNext 39 = .ok (.getfield 24, 3) := by decide +kernel
theorem dX0_chooseNext_42 : decode cX0_chooseNext 42 = .ok (.iload_n 1, 1) := by decide +kernel
theorem dX0_chooseNext_43 : decode cX0_chooseNext 43 = .ok (.iconst 0, 1) := by decide +kernel
theorem dX0_chooseNext_44 : decode cX0_chooseNext 44 = .ok (.iastore, 1) := by decide +kernel
theorem dX0_chooseNext_45 : decode cX0_chooseNext 45 = .ok (.iinc 1 (-1), 3) := by decide +kernel
theorem dX0_chooseNext_48 : decode cX0_chooseNext 48 = .ok (.goto (-41), 3) := by decide +kernel
theorem dX0_chooseNext_51 : decode cX0_chooseNext 51 = .ok (.iconst 0, 1) := by decide +kernel
theorem dX0_chooseNext_52 : decode cX0_chooseNext 52 = .ok (.ireturn, 1) := by decide +kernel
set_option maxRecDepth 20000 in
theorem ggX0_openCorner_X4_lane : GoodIn wsX0_openCorner wsX4_lane := goodIn_r _ [7, 8, 9, 6, 10] (by decide +kernel) (by decide +kernel)
set_option maxRecDepth 20000 in
theorem gX0_openCorner_X4_lane : GoodIn wsX0_openCorner (va_wsS RX0 91 yX4_lane wsX4_lane) := goodIn_app (goodIn_of _ (by decide +kernel)) ggX0_openCorner_X4_lane
theorem dX0_openCorner_0 : decode cX0_openCorner 0 = .ok (.aload_n 0, 1) := by decide +kernel
theorem dX0_openCorner_1 : decode cX0_openCorner 1 = .ok (.getfield 46, 3) := by decide +kernel
theorem dX0_openCorner_4 : decode cX0_openCorner 4 = .ok (.sipush 2047, 3) := by decide +kernel
theorem dX0_openCorner_7 : decode cX0_openCorner 7 = .ok (.invokestatic 91, 3) := by decide +kernel
theorem dX0_openCorner_10 : decode cX0_openCorner 10 = .ok (.lstore_n 1, 1) := by decide +kernel
theorem dX0_openCorner_11 : decode cX0_openCorner 11 = .ok (.iconst 0, 1) := by decide +kernel
theorem dX0_openCorner_12 : decode cX0_openCorner 12 = .ok (.istore_n 3, 1) := by decide +kernel
theorem dX0_openCorner_13 : decode cX0_openCorner 13 = .ok (.iload_n 3, 1) := by decide +kernel
theorem dX0_openCorner_14 : decode cX0_openCorner 14 = .ok (.aload_n 0, 1) := by decide +kernel
theorem dX0_openCorner_15 : decode cX0_openCorner 15 = .ok (.getfield 46, 3) := by decide +kernel
theorem dX0_openCorner_18 : decode cX0_openCorner 18 = .ok (.if_icmp .ge 29, 3) := by decide +kernel
theorem dX0_openCorner_21 : decode cX0_openCorner 21 = .ok (.lload_n 1, 1) := by decide +kernel
theorem dX0_openCorner_22 : decode cX0_openCorner 22 = .ok (.iload_n 3, 1) := by decide +kernel
theorem dX0_openCorner_23 : decode cX0_openCorner 23 = .ok (.aload_n 0, 1) := by decide +kernel
theorem dX0_openCorner_24 : decode cX0_openCorner 24 = .ok (.getfield 17, 3) := by decide +kernel
theorem dX0_openCorner_27 : decode cX0_openCorner 27 = .ok (.iload_n 3, 1) := by decide +kernel
theorem dX0_openCorner_28 : decode cX0_openCorner 28 = .ok (.aaload, 1) := by decide +kernel
theorem dX0_openCorner_29 : decode cX0_openCorner 29 = .ok (.aload_n 0, 1) := by decide +kernel
theorem dX0_openCorner_30 : decode cX0_openCorner 30 = .ok (.getfield 24, 3) := by decide +kernel
theorem dX0_openCorner_33 : decode cX0_openCorner 33 = .ok (.iload_n 3, 1) := by decide +kernel
theorem dX0_openCorner_34 : decode cX0_openCorner 34 = .ok (.iaload, 1) := by decide +kernel
theorem dX0_openCorner_35 : decode cX0_openCorner 35 = .ok (.iaload, 1) := by decide +kernel
theorem dX0_openCorner_36 : decode cX0_openCorner 36 = .ok (.invokestatic 91, 3) := by decide +kernel
theorem dX0_openCorner_39 : decode cX0_openCorner 39 = .ok (.ladd, 1) := by decide +kernel
theorem dX0_openCorner_40 : decode cX0_openCorner 40 = .ok (.lstore_n 1, 1) := by decide +kernel
theorem dX0_openCorner_41 : decode cX0_openCorner 41 = .ok (.iinc 3 1, 3) := by decide +kernel
theorem dX0_openCorner_44 : decode cX0_openCorner 44 = .ok (.goto (-31), 3) := by decide +kernel
theorem dX0_openCorner_47 : decode cX0_openCorner 47 = .ok (.lload_n 1, 1) := by decide +kernel
theorem dX0_openCorner_48 : decode cX0_openCorner 48 = .ok (.lreturn, 1) := by decide +kernel
set_option maxRecDepth 20000 in
theorem ggX0_addBox_X0_leastLast : GoodIn wsX0_addBox wsX0_leastLast := goodIn_r _ [12, 5, 2, 4, 13, 14, 15, 16, 17, 18, 19, 20, 21, 22, 23, 24, 25, 26, 27, 28, 29, 30, 31, 32, 33, 34, 35, 36, 45, 46, 47, 48, 49, 50, 51, 52, 53, 54, 55, 56, 57, 58, 59] (by decide +kernel) (by decide +kernel)
set_option maxRecDepth 20000 in
theorem gX0_addBox_X0_leastLast : GoodIn wsX0_addBox (wsV RX0 95 RX0 yX0_leastLast wsX0_leastLast) := goodIn_app (goodIn_of _ (by decide +kernel)) ggX0_addBox_X0_leastLast
set_option maxRecDepth 20000 in
theorem ggX0_addBox_X4_lane : GoodIn wsX0_addBox wsX4_lane := goodIn_r _ [39, 34, 35, 21, 36] (by decide +kernel) (by decide +kernel)
set_option maxRecDepth 20000 in
theorem gX0_addBox_X4_lane : GoodIn wsX0_addBox (va_wsS RX0 91 yX4_lane wsX4_lane) := goodIn_app (goodIn_of _ (by decide +kernel)) ggX0_addBox_X4_lane
set_option maxRecDepth 20000 in
theorem ggX0_addBox_X4_place : GoodIn wsX0_addBox wsX4_place := goodIn_r _ [36] (by decide +kernel) (by decide +kernel)
set_option maxRecDepth 20000 in
theorem gX0_addBox_X4_place : GoodIn wsX0_addBox (va_wsS RX0 52 yX4_place wsX4_place) := goodIn_app (goodIn_of _ (by decide +kernel)) ggX0_addBox_X4_place
set_option maxRecDepth 20000 in
theorem ggX0_addBox_X0_holdsScore : GoodIn wsX0_addBox wsX0_holdsScore := goodIn_r _ [44, 13, 14, 1, 19, 20, 21, 22, 23, 54, 55, 56, 57, 58, 59, 45, 46, 47, 48, 49, 50, 51, 52, 53] (by decide +kernel) (by decide +kernel)
set_option maxRecDepth 20000 in
theorem gX0_addBox_X0_holdsScore : GoodIn wsX0_addBox (wsV RX0 99 RX0 yX0_holdsScore wsX0_holdsScore) := goodIn_app (goodIn_of _ (by decide +kernel)) ggX0_addBox_X0_holdsScore
theorem dX0_addBox_0 : decode cX0_addBox 0 = .ok (.aload_n 0, 1) := by decide +kernel
theorem dX0_addBox_1 : decode cX0_addBox 1 = .ok (.aload_n 1, 1) := by decide +kernel
theorem dX0_addBox_2 : decode cX0_addBox 2 = .ok (.lload_n 2, 1) := by decide +kernel
theorem dX0_addBox_3 : decode cX0_addBox 3 = .ok (.aload_n 0, 1) := by decide +kernel
theorem dX0_addBox_4 : decode cX0_addBox 4 = .ok (.getfield 49, 3) := by decide +kernel
theorem dX0_addBox_7 : decode cX0_addBox 7 = .ok (.lsub, 1) := by decide +kernel
theorem dX0_addBox_8 : decode cX0_addBox 8 = .ok (.invokevirtual 95, 3) := by decide +kernel
theorem dX0_addBox_11 : decode cX0_addBox 11 = .ok (.istore 4, 2) := by decide +kernel
theorem dX0_addBox_13 : decode cX0_addBox 13 = .ok (.lload_n 2, 1) := by decide +kernel
theorem dX0_addBox_14 : decode cX0_addBox 14 = .ok (.aload_n 0, 1) := by decide +kernel
theorem dX0_addBox_15 : decode cX0_addBox 15 = .ok (.getfield 46, 3) := by decide +kernel
theorem dX0_addBox_18 : decode cX0_addBox 18 = .ok (.sipush 2047, 3) := by decide +kernel
theorem dX0_addBox_21 : decode cX0_addBox 21 = .ok (.invokestatic 91, 3) := by decide +kernel
theorem dX0_addBox_24 : decode cX0_addBox 24 = .ok (.lsub, 1) := by decide +kernel
theorem dX0_addBox_25 : decode cX0_addBox 25 = .ok (.aload_n 0, 1) := by decide +kernel
theorem dX0_addBox_26 : decode cX0_addBox 26 = .ok (.getfield 46, 3) := by decide +kernel
theorem dX0_addBox_29 : decode cX0_addBox 29 = .ok (.iload 4, 2) := by decide +kernel
theorem dX0_addBox_31 : decode cX0_addBox 31 = .ok (.invokestatic 91, 3) := by decide +kernel
theorem dX0_addBox_34 : decode cX0_addBox 34 = .ok (.ladd, 1) := by decide +kernel
theorem dX0_addBox_35 : decode cX0_addBox 35 = .ok (.lstore 5, 2) := by decide +kernel
theorem dX0_addBox_37 : decode cX0_addBox 37 = .ok (.iconst 0, 1) := by decide +kernel
theorem dX0_addBox_38 : decode cX0_addBox 38 = .ok (.istore 7, 2) := by decide +kernel
theorem dX0_addBox_40 : decode cX0_addBox 40 = .ok (.iload 7, 2) := by decide +kernel
theorem dX0_addBox_42 : decode cX0_addBox 42 = .ok (.aload_n 0, 1) := by decide +kernel
theorem dX0_addBox_43 : decode cX0_addBox 43 = .ok (.getfield 46, 3) := by decide +kernel
theorem dX0_addBox_46 : decode cX0_addBox 46 = .ok (.if_icmp .ge 82, 3) := by decide +kernel
theorem dX0_addBox_49 : decode cX0_addBox 49 = .ok (.aload_n 0, 1) := by decide +kernel
theorem dX0_addBox_50 : decode cX0_addBox 50 = .ok (.getfield 24, 3) := by decide +kernel
theorem dX0_addBox_53 : decode cX0_addBox 53 = .ok (.iload 7, 2) := by decide +kernel
theorem dX0_addBox_55 : decode cX0_addBox 55 = .ok (.iaload, 1) := by decide +kernel
theorem dX0_addBox_56 : decode cX0_addBox 56 = .ok (.aload_n 0, 1) := by decide +kernel
theorem dX0_addBox_57 : decode cX0_addBox 57 = .ok (.getfield 20, 3) := by decide +kernel
theorem dX0_addBox_60 : decode cX0_addBox 60 = .ok (.iload 7, 2) := by decide +kernel
theorem dX0_addBox_62 : decode cX0_addBox 62 = .ok (.iaload, 1) := by decide +kernel
theorem dX0_addBox_63 : decode cX0_addBox 63 = .ok (.if_icmp .ge 59, 3) := by decide +kernel
theorem dX0_addBox_66 : decode cX0_addBox 66 = .ok (.aload_n 0, 1) := by decide +kernel
theorem dX0_addBox_67 : decode cX0_addBox 67 = .ok (.getfield 17, 3) := by decide +kernel
theorem dX0_addBox_70 : decode cX0_addBox 70 = .ok (.iload 7, 2) := by decide +kernel
theorem dX0_addBox_72 : decode cX0_addBox 72 = .ok (.aaload, 1) := by decide +kernel
theorem dX0_addBox_73 : decode cX0_addBox 73 = .ok (.aload_n 0, 1) := by decide +kernel
theorem dX0_addBox_74 : decode cX0_addBox 74 = .ok (.getfield 24, 3) := by decide +kernel
theorem dX0_addBox_77 : decode cX0_addBox 77 = .ok (.iload 7, 2) := by decide +kernel
theorem dX0_addBox_79 : decode cX0_addBox 79 = .ok (.iaload, 1) := by decide +kernel
theorem dX0_addBox_80 : decode cX0_addBox 80 = .ok (.iconst 1, 1) := by decide +kernel
theorem dX0_addBox_81 : decode cX0_addBox 81 = .ok (.iadd, 1) := by decide +kernel
theorem dX0_addBox_82 : decode cX0_addBox 82 = .ok (.iaload, 1) := by decide +kernel
theorem dX0_addBox_83 : decode cX0_addBox 83 = .ok (.aload_n 0, 1) := by decide +kernel
theorem dX0_addBox_84 : decode cX0_addBox 84 = .ok (.getfield 17, 3) := by decide +kernel
theorem dX0_addBox_87 : decode cX0_addBox 87 = .ok (.iload 7, 2) := by decide +kernel
theorem dX0_addBox_89 : decode cX0_addBox 89 = .ok (.aaload, 1) := by decide +kernel
theorem dX0_addBox_90 : decode cX0_addBox 90 = .ok (.aload_n 0, 1) := by decide +kernel
theorem dX0_addBox_91 : decode cX0_addBox 91 = .ok (.getfield 24, 3) := by decide +kernel
theorem dX0_addBox_94 : decode cX0_addBox 94 = .ok (.iload 7, 2) := by decide +kernel
theorem dX0_addBox_96 : decode cX0_addBox 96 = .ok (.iaload, 1) := by decide +kernel
theorem dX0_addBox_97 : decode cX0_addBox 97 = .ok (.iaload, 1) := by decide +kernel
theorem dX0_addBox_98 : decode cX0_addBox 98 = .ok (.isub, 1) := by decide +kernel
theorem dX0_addBox_99 : decode cX0_addBox 99 = .ok (.istore 8, 2) := by decide +kernel
theorem dX0_addBox_101 : decode cX0_addBox 101 = .ok (.aload_n 0, 1) := by decide +kernel
theorem dX0_addBox_102 : decode cX0_addBox 102 = .ok (.aload_n 1, 1) := by decide +kernel
theorem dX0_addBox_103 : decode cX0_addBox 103 = .ok (.lload 5, 2) := by decide +kernel
theorem dX0_addBox_105 : decode cX0_addBox 105 = .ok (.iload 8, 2) := by decide +kernel
theorem dX0_addBox_107 : decode cX0_addBox 107 = .ok (.i2l, 1) := by decide +kernel
theorem dX0_addBox_108 : decode cX0_addBox 108 = .ok (.iload 7, 2) := by decide +kernel
theorem dX0_addBox_110 : decode cX0_addBox 110 = .ok (.invokestatic 52, 3) := by decide +kernel
theorem dX0_addBox_113 : decode cX0_addBox 113 = .ok (.lshl, 1) := by decide +kernel
theorem dX0_addBox_114 : decode cX0_addBox 114 = .ok (.ladd, 1) := by decide +kernel
theorem dX0_addBox_115 : decode cX0_addBox 115 = .ok (.invokevirtual 99, 3) := by decide +kernel
theorem dX0_addBox_118 : decode cX0_addBox 118 = .ok (.ifCond .ne 4, 3) := by decide +kernel
theorem dX0_addBox_121 : decode cX0_addBox 121 = .ok (.return_, 1) := by decide +kernel
theorem dX0_addBox_122 : decode cX0_addBox 122 = .ok (.iinc 7 1, 3) := by decide +kernel
theorem dX0_addBox_125 : decode cX0_addBox 125 = .ok (.goto (-85), 3) := by decide +kernel
theorem dX0_addBox_128 : decode cX0_addBox 128 = .ok (.aload_n 0, 1) := by decide +kernel
theorem dX0_addBox_129 : decode cX0_addBox 129 = .ok (.getfield 41, 3) := by decide +kernel
theorem dX0_addBox_132 : decode cX0_addBox 132 = .ok (.sipush 2197, 3) := by decide +kernel
theorem dX0_addBox_135 : decode cX0_addBox 135 = .ok (.if_icmp .ge 24, 3) := by decide +kernel
theorem dX0_addBox_138 : decode cX0_addBox 138 = .ok (.aload_n 0, 1) := by decide +kernel
theorem dX0_addBox_139 : decode cX0_addBox 139 = .ok (.getfield 11, 3) := by decide +kernel
theorem dX0_addBox_142 : decode cX0_addBox 142 = .ok (.aload_n 0, 1) := by decide +kernel
theorem dX0_addBox_143 : decode cX0_addBox 143 = .ok (.getfield 41, 3) := by decide +kernel
theorem dX0_addBox_146 : decode cX0_addBox 146 = .ok (.lload 5, 2) := by decide +kernel
theorem dX0_addBox_148 : decode cX0_addBox 148 = .ok (.lastore, 1) := by decide +kernel
theorem dX0_addBox_149 : decode cX0_addBox 149 = .ok (.aload_n 0, 1) := by decide +kernel
theorem dX0_addBox_150 : decode cX0_addBox 150 = .ok (.dup, 1) := by decide +kernel
theorem dX0_addBox_151 : decode cX0_addBox 151 = .ok (.getfield 41, 3) := by decide +kernel
theorem dX0_addBox_154 : decode cX0_addBox 154 = .ok (.iconst 1, 1) := by decide +kernel
theorem dX0_addBox_155 : decode cX0_addBox 155 = .ok (.iadd, 1) := by decide +kernel
theorem dX0_addBox_156 : decode cX0_addBox 156 = .ok (.putfield 41, 3) := by decide +kernel
theorem dX0_addBox_159 : decode cX0_addBox 159 = .ok (.return_, 1) := by decide +kernel
set_option maxRecDepth 20000 in
theorem ggX0_addContent_X0_leastLast : GoodIn wsX0_addContent wsX0_leastLast := goodIn_r _ [10, 1, 2, 3, 11, 12, 13, 14, 15, 16, 17, 18, 19, 20, 21, 22, 23, 24, 25, 26, 27, 28, 29, 30, 31, 32, 33, 34, 35, 36, 37, 38, 39, 40, 41, 42, 43, 44, 45, 46, 47, 48, 49] (by decide +kernel) (by decide +kernel)
set_option maxRecDepth 20000 in
theorem gX0_addContent_X0_leastLast : GoodIn wsX0_addContent (wsV RX0 95 RX0 yX0_leastLast wsX0_leastLast) := goodIn_app (goodIn_of _ (by decide +kernel)) ggX0_addContent_X0_leastLast
theorem dX0_addContent_0 : decode cX0_addContent 0 = .ok (.aload_n 0, 1) := by decide +kernel
theorem dX0_addContent_1 : decode cX0_addContent 1 = .ok (.getfield 17, 3) := by decide +kernel
theorem dX0_addContent_4 : decode cX0_addContent 4 = .ok (.aload_n 0, 1) := by decide +kernel
theorem dX0_addContent_5 : decode cX0_addContent 5 = .ok (.getfield 46, 3) := by decide +kernel
theorem dX0_addContent_8 : decode cX0_addContent 8 = .ok (.aaload, 1) := by decide +kernel
theorem dX0_addContent_9 : decode cX0_addContent 9 = .ok (.aload_n 0, 1) := by decide +kernel
theorem dX0_addContent_10 : decode cX0_addContent 10 = .ok (.getfield 20, 3) := by decide +kernel
theorem dX0_addContent_13 : decode cX0_addContent 13 = .ok (.aload_n 0, 1) := by decide +kernel
theorem dX0_addContent_14 : decode cX0_addContent 14 = .ok (.getfield 46, 3) := by decide +kernel
theorem dX0_addContent_17 : decode cX0_addContent 17 = .ok (.iaload, 1) := by decide +kernel
theorem dX0_addContent_18 : decode cX0_addContent 18 = .ok (.iaload, 1) := by decide +kernel
theorem dX0_addContent_19 : decode cX0_addContent 19 = .ok (.aload_n 0, 1) := by decide +kernel
theorem dX0_addContent_20 : decode cX0_addContent 20 = .ok (.aload_n 1, 1) := by decide +kernel
theorem dX0_addContent_21 : decode cX0_addContent 21 = .ok (.lload_n 2, 1) := by decide +kernel
theorem dX0_addContent_22 : decode cX0_addContent 22 = .ok (.invokevirtual 95, 3) := by decide +kernel
theorem dX0_addContent_25 : decode cX0_addContent 25 = .ok (.isub, 1) := by decide +kernel
theorem dX0_addContent_26 : decode cX0_addContent 26 = .ok (.i2l, 1) := by decide +kernel
theorem dX0_addContent_27 : decode cX0_addContent 27 = .ok (.lstore 4, 2) := by decide +kernel
theorem dX0_addContent_29 : decode cX0_addContent 29 = .ok (.iconst 0, 1) := by decide +kernel
theorem dX0_addContent_30 : decode cX0_addContent 30 = .ok (.istore 6, 2) := by decide +kernel
theorem dX0_addContent_32 : decode cX0_addContent 32 = .ok (.iload 6, 2) := by decide +kernel
theorem dX0_addContent_34 : decode cX0_addContent 34 = .ok (.aload_n 0, 1) := by decide +kernel
theorem dX0_addContent_35 : decode cX0_addContent 35 = .ok (.getfield 46, 3) := by decide +kernel
theorem dX0_addContent_38 : decode cX0_addContent 38 = .ok (.if_icmp .ge 66, 3) := by decide +kernel
theorem dX0_addContent_41 : decode cX0_addContent 41 = .ok (.aload_n 0, 1) := by decide +kernel
theorem dX0_addContent_42 : decode cX0_addContent 42 = .ok (.getfield 24, 3) := by decide +kernel
theorem dX0_addContent_45 : decode cX0_addContent 45 = .ok (.iload 6, 2) := by decide +kernel
theorem dX0_addContent_47 : decode cX0_addContent 47 = .ok (.iaload, 1) := by decide +kernel
theorem dX0_addContent_48 : decode cX0_addContent 48 = .ok (.aload_n 0, 1) := by decide +kernel
theorem dX0_addContent_49 : decode cX0_addContent 49 = .ok (.getfield 20, 3) := by decide +kernel
theorem dX0_addContent_52 : decode cX0_addContent 52 = .ok (.iload 6, 2) := by decide +kernel
theorem dX0_addContent_54 : decode cX0_addContent 54 = .ok (.iaload, 1) := by decide +kernel
theorem dX0_addContent_55 : decode cX0_addContent 55 = .ok (.if_icmp .lt 4, 3) := by decide +kernel
theorem dX0_addContent_58 : decode cX0_addContent 58 = .ok (.return_, 1) := by decide +kernel
theorem dX0_addContent_59 : decode cX0_addContent 59 = .ok (.lload 4, 2) := by decide +kernel
theorem dX0_addContent_61 : decode cX0_addContent 61 = .ok (.aload_n 0, 1) := by decide +kernel
theorem dX0_addContent_62 : decode cX0_addContent 62 = .ok (.getfield 17, 3) := by decide +kernel
theorem dX0_addContent_65 : decode cX0_addContent 65 = .ok (.iload 6, 2) := by decide +kernel
theorem dX0_addContent_67 : decode cX0_addContent 67 = .ok (.aaload, 1) := by decide +kernel
theorem dX0_addContent_68 : decode cX0_addContent 68 = .ok (.aload_n 0, 1) := by decide +kernel
theorem dX0_addContent_69 : decode cX0_addContent 69 = .ok (.getfield 24, 3) := by decide +kernel
theorem dX0_addContent_72 : decode cX0_addContent 72 = .ok (.iload 6, 2) := by decide +kernel
theorem dX0_addContent_74 : decode cX0_addContent 74 = .ok (.iaload, 1) := by decide +kernel
theorem dX0_addContent_75 : decode cX0_addContent 75 = .ok (.iconst 1, 1) := by decide +kernel
theorem dX0_addContent_76 : decode cX0_addContent 76 = .ok (.iadd, 1) := by decide +kernel
theorem dX0_addContent_77 : decode cX0_addContent 77 = .ok (.iaload, 1) := by decide +kernel
theorem dX0_addContent_78 : decode cX0_addContent 78 = .ok (.aload_n 0, 1) := by decide +kernel
theorem dX0_addContent_79 : decode cX0_addContent 79 = .ok (.getfield 17, 3) := by decide +kernel
theorem dX0_addContent_82 : decode cX0_addContent 82 = .ok (.iload 6, 2) := by decide +kernel
theorem dX0_addContent_84 : decode cX0_addContent 84 = .ok (.aaload, 1) := by decide +kernel
theorem dX0_addContent_85 : decode cX0_addContent 85 = .ok (.aload_n 0, 1) := by decide +kernel
theorem dX0_addContent_86 : decode cX0_addContent 86 = .ok (.getfield 24, 3) := by decide +kernel
theorem dX0_addContent_89 : decode cX0_addContent 89 = .ok (.iload 6, 2) := by decide +kernel
theorem dX0_addContent_91 : decode cX0_addContent 91 = .ok (.iaload, 1) := by decide +kernel
theorem dX0_addContent_92 : decode cX0_addContent 92 = .ok (.iaload, 1) := by decide +kernel
theorem dX0_addContent_93 : decode cX0_addContent 93 = .ok (.isub, 1) := by decide +kernel
theorem dX0_addContent_94 : decode cX0_addContent 94 = .ok (.i2l, 1) := by decide +kernel
theorem dX0_addContent_95 : decode cX0_addContent 95 = .ok (.lmul, 1) := by decide +kernel
theorem dX0_addContent_96 : decode cX0_addContent 96 = .ok (.lstore 4, 2) := by decide +kernel
theorem dX0_addContent_98 : decode cX0_addContent 98 = .ok (.iinc 6 1, 3) := by decide +kernel
theorem dX0_addContent_101 : decode cX0_addContent 101 = .ok (.goto (-69), 3) := by decide +kernel
theorem dX0_addContent_104 : decode cX0_addContent 104 = .ok (.aload_n 0, 1) := by decide +kernel
theorem dX0_addContent_105 : decode cX0_addContent 105 = .ok (.dup, 1) := by decide +kernel
theorem dX0_addContent_106 : decode cX0_addContent 106 = .ok (.getfield 42, 3) := by decide +kernel
theorem dX0_addContent_109 : decode cX0_addContent 109 = .ok (.lload 4, 2) := by decide +kernel
theorem dX0_addContent_111 : decode cX0_addContent 111 = .ok (.ladd, 1) := by decide +kernel
theorem dX0_addContent_112 : decode cX0_addContent 112 = .ok (.putfield 42, 3) := by decide +kernel
theorem dX0_addContent_115 : decode cX0_addContent 115 = .ok (.return_, 1) := by decide +kernel
set_option maxRecDepth 20000 in
theorem ggX0_leastLast_X4_inNoneGreater : GoodIn wsX0_leastLast wsX4_inNoneGreater := goodIn_r _ [13, 14] (by decide +kernel) (by decide +kernel)
set_option maxRecDepth 20000 in
theorem gX0_leastLast_X4_inNoneGreater : GoodIn wsX0_leastLast (va_wsS RX0 106 yX4_inNoneGreater wsX4_inNoneGreater) := goodIn_app (goodIn_of _ (by decide +kernel)) ggX0_leastLast_X4_inNoneGreater
set_option maxRecDepth 20000 in
theorem ggX0_leastLast_X3_number : GoodIn wsX0_leastLast wsX3_number := goodIn_r _ [19, 20, 21, 22, 12, 23, 24, 25, 26, 27, 37, 38, 39, 40, 41, 42] (by decide +kernel) (by decide +kernel)
set_option maxRecDepth 20000 in
theorem gX0_leastLast_X3_number : GoodIn wsX0_leastLast (wsV RX0 77 RX3 yX3_number wsX3_number) := goodIn_app (goodIn_of _ (by decide +kernel)) ggX0_leastLast_X3_number
theorem dX0_leastLast_0 : decode cX0_leastLast 0 = .ok (.aload_n 0, 1) := by decide +kernel
theorem dX0_leastLast_1 : decode cX0_leastLast 1 = .ok (.getfield 17, 3) := by decide +kernel
theorem dX0_leastLast_4 : decode cX0_leastLast 4 = .ok (.aload_n 0, 1) := by decide +kernel
theorem dX0_leastLast_5 : decode cX0_leastLast 5 = .ok (.getfield 46, 3) := by decide +kernel
theorem dX0_leastLast_8 : decode cX0_leastLast 8 = .ok (.aaload, 1) := by decide +kernel
theorem dX0_leastLast_9 : decode cX0_leastLast 9 = .ok (.aload_n 0, 1) := by decide +kernel
theorem dX0_leastLast_10 : decode cX0_leastLast 10 = .ok (.getfield 20, 3) := by decide +kernel
theorem dX0_leastLast_13 : decode cX0_leastLast 13 = .ok (.aload_n 0, 1) := by decide +kernel
theorem dX0_leastLast_14 : decode cX0_leastLast 14 = .ok (.getfield 46, 3) := by decide +kernel
theorem dX0_leastLast_17 : decode cX0_leastLast 17 = .ok (.iaload, 1) := by decide +kernel
theorem dX0_leastLast_18 : decode cX0_leastLast 18 = .ok (.iaload, 1) := by decide +kernel
theorem dX0_leastLast_19 : decode cX0_leastLast 19 = .ok (.istore 4, 2) := by decide +kernel
theorem dX0_leastLast_21 : decode cX0_leastLast 21 = .ok (.iconst 0, 1) := by decide +kernel
theorem dX0_leastLast_22 : decode cX0_leastLast 22 = .ok (.istore 5, 2) := by decide +kernel
theorem dX0_leastLast_24 : decode cX0_leastLast 24 = .ok (.iload 5, 2) := by decide +kernel
theorem dX0_leastLast_26 : decode cX0_leastLast 26 = .ok (.aload_n 1, 1) := by decide +kernel
theorem dX0_leastLast_27 : decode cX0_leastLast 27 = .ok (.getfield 31, 3) := by decide +kernel
theorem dX0_leastLast_30 : decode cX0_leastLast 30 = .ok (.if_icmp .ge 40, 3) := by decide +kernel
theorem dX0_leastLast_33 : decode cX0_leastLast 33 = .ok (.aload_n 1, 1) := by decide +kernel
theorem dX0_leastLast_34 : decode cX0_leastLast 34 = .ok (.getfield 103, 3) := by decide +kernel
theorem dX0_leastLast_37 : decode cX0_leastLast 37 = .ok (.iload 5, 2) := by decide +kernel
theorem dX0_leastLast_39 : decode cX0_leastLast 39 = .ok (.laload, 1) := by decide +kernel
theorem dX0_leastLast_40 : decode cX0_leastLast 40 = .ok (.lload_n 2, 1) := by decide +kernel
theorem dX0_leastLast_41 : decode cX0_leastLast 41 = .ok (.invokestatic 106, 3) := by decide +kernel
theorem dX0_leastLast_44 : decode cX0_leastLast 44 = .ok (.ifCond .eq 20, 3) := by decide +kernel
theorem dX0_leastLast_47 : decode cX0_leastLast 47 = .ok (.iload 4, 2) := by decide +kernel
theorem dX0_leastLast_49 : decode cX0_leastLast 49 = .ok (.aload_n 1, 1) := by decide +kernel
theorem dX0_leastLast_50 : decode cX0_leastLast 50 = .ok (.iload 5, 2) := by decide +kernel
theorem dX0_leastLast_52 : decode cX0_leastLast 52 = .ok (.aload_n 0, 1) := by decide +kernel
theorem dX0_leastLast_53 : decode cX0_leastLast 53 = .ok (.getfield 46, 3) := by decide +kernel
theorem dX0_leastLast_56 : decode cX0_leastLast 56 = .ok (.invokevirtual 77, 3) := by decide +kernel
theorem dX0_leastLast_59 : decode cX0_leastLast 59 = .ok (.invokestatic 110, 3) := by decide +kernel
theorem dX0_leastLast_62 : decode cX0_leastLast 62 = .ok (.istore 4, 2) := by decide +kernel
theorem dX0_leastLast_64 : decode cX0_leastLast 64 = .ok (.iinc 5 1, 3) := by decide +kernel
theorem dX0_leastLast_67 : decode cX0_leastLast 67 = .ok (.goto (-43), 3) := by decide +kernel
theorem dX0_leastLast_70 : decode cX0_leastLast 70 = .ok (.iload 4, 2) := by decide +kernel
theorem dX0_leastLast_72 : decode cX0_leastLast 72 = .ok (.ireturn, 1) := by decide +kernel
set_option maxRecDepth 20000 in
theorem ggX0_holdsScore_X4_inNoneGreater : GoodIn wsX0_holdsScore wsX4_inNoneGreater := goodIn_r _ [7, 8] (by decide +kernel) (by decide +kernel)
set_option maxRecDepth 20000 in
theorem gX0_holdsScore_X4_inNoneGreater : GoodIn wsX0_holdsScore (va_wsS RX0 106 yX4_inNoneGreater wsX4_inNoneGreater) := goodIn_app (goodIn_of _ (by decide +kernel)) ggX0_holdsScore_X4_inNoneGreater
theorem dX0_holdsScore_0 : decode cX0_holdsScore 0 = .ok (.iconst 0, 1) := by decide +kernel
theorem dX0_holdsScore_1 : decode cX0_holdsScore 1 = .ok (.istore 4, 2) := by decide +kernel
theorem dX0_holdsScore_3 : decode cX0_holdsScore 3 = .ok (.iload 4, 2) := by decide +kernel
theorem dX0_holdsScore_5 : decode cX0_holdsScore 5 = .ok (.aload_n 1, 1) := by decide +kernel
theorem dX0_holdsScore_6 : decode cX0_holdsScore 6 = .ok (.getfield 31, 3) := by decide +kernel
theorem dX0_holdsScore_9 : decode cX0_holdsScore 9 = .ok (.if_icmp .ge 30, 3) := by decide +kernel
theorem dX0_holdsScore_12 : decode cX0_holdsScore 12 = .ok (.aload_n 1, 1) := by decide +kernel
theorem dX0_holdsScore_13 : decode cX0_holdsScore 13 = .ok (.getfield 103, 3) := by decide +kernel
theorem dX0_holdsScore_16 : decode cX0_holdsScore 16 = .ok (.iload 4, 2) := by decide +kernel
theorem dX0_holdsScore_18 : decode cX0_holdsScore 18 = .ok (.laload, 1) := by decide +kernel
theorem dX0_holdsScore_19 : decode cX0_holdsScore 19 = .ok (.lload_n 2, 1) := by decide +kernel
theorem dX0_holdsScore_20 : decode cX0_holdsScore 20 = .ok (.aload_n 0, 1) := by decide +kernel
theorem dX0_holdsScore_21 : decode cX0_holdsScore 21 = .ok (.getfield 49, 3) := by decide +kernel
theorem dX0_holdsScore_24 : decode cX0_holdsScore 24 = .ok (.lsub, 1) := by decide +kernel
theorem dX0_holdsScore_25 : decode cX0_holdsScore 25 = .ok (.invokestatic 106, 3) := by decide +kernel
theorem dX0_holdsScore_28 : decode cX0_holdsScore 28 = .ok (.ifCond .eq 5, 3) := by decide +kernel
theorem dX0_holdsScore_31 : decode cX0_holdsScore 31 = .ok (.iconst 1, 1) := by decide +kernel
theorem dX0_holdsScore_32 : decode cX0_holdsScore 32 = .ok (.ireturn, 1) := by decide +kernel
theorem dX0_holdsScore_33 : decode cX0_holdsScore 33 = .ok (.iinc 4 1, 3) := by decide +kernel
theorem dX0_holdsScore_36 : decode cX0_holdsScore 36 = .ok (.goto (-33), 3) := by decide +kernel
theorem dX0_holdsScore_39 : decode cX0_holdsScore 39 = .ok (.iconst 0, 1) := by decide +kernel
theorem dX0_holdsScore_40 : decode cX0_holdsScore 40 = .ok (.ireturn, 1) := by decide +kernel
theorem dX1_init_0 : decode cX1_init 0 = .ok (.aload_n 0, 1) := by decide +kernel
theorem dX1_init_1 : decode cX1_init 1 = .ok (.invokespecial 3, 3) := by decide +kernel
theorem dX1_init_4 : decode cX1_init 4 = .ok (.aload_n 0, 1) := by decide +kernel
theorem dX1_init_5 : decode cX1_init 5 = .ok (.bipush 8, 2) := by decide +kernel
theorem dX1_init_7 : decode cX1_init 7 = .ok (.newarray .int, 2) := by decide +kernel
theorem dX1_init_9 : decode cX1_init 9 = .ok (.putfield 9, 3) := by decide +kernel
theorem dX1_init_12 : decode cX1_init 12 = .ok (.return_, 1) := by decide +kernel
set_option maxRecDepth 20000 in
theorem ggX1_climbFrom_X5_scoreOf : GoodIn wsX1_climbFrom wsX5_scoreOf := goodIn_r _ [12, 13, 14, 15, 16, 17, 18, 19, 20, 21, 22, 23, 11, 24, 25, 26, 27, 28, 29, 30, 31, 32, 51, 52, 53, 54, 55, 56, 57, 58, 59, 60, 61] (by decide +kernel) (by decide +kernel)
set_option maxRecDepth 20000 in
theorem gX1_climbFrom_X5_scoreOf : GoodIn wsX1_climbFrom (wsV RX1 25 RX5 yX5_scoreOf wsX5_scoreOf) := goodIn_app (goodIn_of _ (by decide +kernel)) ggX1_climbFrom_X5_scoreOf
set_option maxRecDepth 20000 in
theorem ggX1_climbFrom_X1_step : GoodIn wsX1_climbFrom wsX1_step := goodIn_r _ [37, 38, 1, 7, 39, 40, 41, 36, 42, 43, 44, 8, 9, 10, 11, 12, 13, 14, 15, 16, 17, 18, 19, 20, 21, 22, 23, 24, 25, 26, 27, 28, 29, 30, 31, 32, 45, 46, 47, 48, 51, 52, 53, 54, 55, 56, 57, 58, 59, 60, 61, 49, 50] (by decide +kernel) (by decide +kernel)
set_option maxRecDepth 20000 in
theorem gX1_climbFrom_X1_step : GoodIn wsX1_climbFrom (wsV RX1 31 RX1 yX1_step wsX1_step) := goodIn_app (goodIn_of _ (by decide +kernel)) ggX1_climbFrom_X1_step
theorem dX1_climbFrom_0 : decode cX1_climbFrom 0 = .ok (.aload_n 2, 1) := by decide +kernel
theorem dX1_climbFrom_1 : decode cX1_climbFrom 1 = .ok (.iconst 0, 1) := by decide +kernel
theorem dX1_climbFrom_2 : decode cX1_climbFrom 2 = .ok (.aload_n 0, 1) := by decide +kernel
theorem dX1_climbFrom_3 : decode cX1_climbFrom 3 = .ok (.getfield 9, 3) := by decide +kernel
theorem dX1_climbFrom_6 : decode cX1_climbFrom 6 = .ok (.iconst 0, 1) := by decide +kernel
theorem dX1_climbFrom_7 : decode cX1_climbFrom 7 = .ok (.bipush 8, 2) := by decide +kernel
theorem dX1_climbFrom_9 : decode cX1_climbFrom 9 = .ok (.invokestatic 15, 3) := by decide +kernel
theorem dX1_climbFrom_12 : decode cX1_climbFrom 12 = .ok (.aload_n 0, 1) := by decide +kernel
theorem dX1_climbFrom_13 : decode cX1_climbFrom 13 = .ok (.iconst 1, 1) := by decide +kernel
theorem dX1_climbFrom_14 : decode cX1_climbFrom 14 = .ok (.putfield 21, 3) := by decide +kernel
theorem dX1_climbFrom_17 : decode cX1_climbFrom 17 = .ok (.aload_n 1, 1) := by decide +kernel
theorem dX1_climbFrom_18 : decode cX1_climbFrom 18 = .ok (.aload_n 0, 1) := by decide +kernel
theorem dX1_climbFrom_19 : decode cX1_climbFrom 19 = .ok (.getfield 9, 3) := by decide +kernel
theorem dX1_climbFrom_22 : decode cX1_climbFrom 22 = .ok (.invokevirtual 25, 3) := by decide +kernel
theorem dX1_climbFrom_25 : decode cX1_climbFrom 25 = .ok (.lstore_n 3, 1) := by decide +kernel
theorem dX1_climbFrom_26 : decode cX1_climbFrom 26 = .ok (.iconst 0, 1) := by decide +kernel
theorem dX1_climbFrom_27 : decode cX1_climbFrom 27 = .ok (.istore 5, 2) := by decide +kernel
theorem dX1_climbFrom_29 : decode cX1_climbFrom 29 = .ok (.iload 5, 2) := by decide +kernel
theorem dX1_climbFrom_31 : decode cX1_climbFrom 31 = .ok (.sipush 2000, 3) := by decide +kernel
theorem dX1_climbFrom_34 : decode cX1_climbFrom 34 = .ok (.if_icmp .ge 32, 3) := by decide +kernel
theorem dX1_climbFrom_37 : decode cX1_climbFrom 37 = .ok (.aload_n 0, 1) := by decide +kernel
theorem dX1_climbFrom_38 : decode cX1_climbFrom 38 = .ok (.aload_n 1, 1) := by decide +kernel
theorem dX1_climbFrom_39 : decode cX1_climbFrom 39 = .ok (.lload_n 3, 1) := by decide +kernel
theorem dX1_climbFrom_40 : decode cX1_climbFrom 40 = .ok (.invokevirtual 31, 3) := by decide +kernel
theorem dX1_climbFrom_43 : decode cX1_climbFrom 43 = .ok (.lstore 6, 2) := by decide +kernel
theorem dX1_climbFrom_45 : decode cX1_climbFrom 45 = .ok (.lload 6, 2) := by decide +kernel
theorem dX1_climbFrom_47 : decode cX1_climbFrom 47 = .ok (.ldc2_w 35, 3) := by decide +kernel
theorem dX1_climbFrom_50 : decode cX1_climbFrom 50 = .ok (.lcmp, 1) := by decide +kernel
theorem dX1_climbFrom_51 : decode cX1_climbFrom 51 = .ok (.ifCond .ne 6, 3) := by decide +kernel
theorem dX1_climbFrom_54 : decode cX1_climbFrom 54 = .ok (.iload 5, 2) := by decide +kernel
theorem dX1_climbFrom_56 : decode cX1_climbFrom 56 = .ok (.ireturn, 1) := by decide +kernel
theorem dX1_climbFrom_57 : decode cX1_climbFrom 57 = .ok (.lload 6, 2) := by decide +kernel
theorem dX1_climbFrom_59 : decode cX1_climbFrom 59 = .ok (.lstore_n 3, 1) := by decide +kernel
theorem dX1_climbFrom_60 : decode cX1_climbFrom 60 = .ok (.iinc 5 1, 3) := by decide +kernel
theorem dX1_climbFrom_63 : decode cX1_climbFrom 63 = .ok (.goto (-34), 3) := by decide +kernel
theorem dX1_climbFrom_66 : decode cX1_climbFrom 66 = .ok (.sipush 2000, 3) := by decide +kernel
theorem dX1_climbFrom_69 : decode cX1_climbFrom 69 = .ok (.ireturn, 1) := by decide +kernel
set_option maxRecDepth 20000 in
theorem ggX1_step_X1_boundedScore : GoodIn wsX1_step wsX1_boundedScore := goodIn_r _ [8, 2, 9, 10, 3, 11, 12, 13, 14, 15, 16, 17, 18, 19, 20, 21, 22, 23, 24, 25, 26, 27, 28, 29, 30, 31, 32, 33, 34, 35, 51, 52, 40, 41, 42, 43, 44, 45, 46, 47, 48, 49, 50] (by decide +kernel) (by decide +kernel)
set_option maxRecDepth 20000 in
theorem gX1_step_X1_boundedScore : GoodIn wsX1_step (wsV RX1 41 RX1 yX1_boundedScore wsX1_boundedScore) := goodIn_app (goodIn_of _ (by decide +kernel)) ggX1_step_X1_boundedScore
set_option maxRecDepth 20000 in
theorem ggX1_step_X4_inNoneGreater : GoodIn wsX1_step wsX4_inNoneGreater := goodIn_r _ [38, 39] (by decide +kernel) (by decide +kernel)
set_option maxRecDepth 20000 in
theorem gX1_step_X4_inNoneGreater : GoodIn wsX1_step (va_wsS RX1 45 yX4_inNoneGreater wsX4_inNoneGreater) := goodIn_app (goodIn_of _ (by decide +kernel)) ggX1_step_X4_inNoneGreater
theorem dX1_step_0 : decode cX1_step 0 = .ok (.iconst 0, 1) := by decide +kernel
theorem dX1_step_1 : decode cX1_step 1 = .ok (.istore 4, 2) := by decide +kernel
theorem dX1_step_3 : decode cX1_step 3 = .ok (.iload 4, 2) := by decide +kernel
theorem dX1_step_5 : decode cX1_step 5 = .ok (.aload_n 1, 1) := by decide +kernel
theorem dX1_step_6 : decode cX1_step 6 = .ok (.getfield 37, 3) := by decide +kernel
theorem dX1_step_9 : decode cX1_step 9 = .ok (.if_icmp .ge 91, 3) := by decide +kernel
theorem dX1_step_12 : decode cX1_step 12 = .ok (.aload_n 0, 1) := by decide +kernel
theorem dX1_step_13 : decode cX1_step 13 = .ok (.getfield 9, 3) := by decide +kernel
theorem dX1_step_16 : decode cX1_step 16 = .ok (.iload 4, 2) := by decide +kernel
theorem dX1_step_18 : decode cX1_step 18 = .ok (.iaload, 1) := by decide +kernel
theorem dX1_step_19 : decode cX1_step 19 = .ok (.istore 5, 2) := by decide +kernel
theorem dX1_step_21 : decode cX1_step 21 = .ok (.iconst (-1), 1) := by decide +kernel
theorem dX1_step_22 : decode cX1_step 22 = .ok (.istore 6, 2) := by decide +kernel
theorem dX1_step_24 : decode cX1_step 24 = .ok (.iload 6, 2) := by decide +kernel
theorem dX1_step_26 : decode cX1_step 26 = .ok (.iconst 1, 1) := by decide +kernel
theorem dX1_step_27 : decode cX1_step 27 = .ok (.if_icmp .gt 58, 3) := by decide +kernel
theorem dX1_step_30 : decode cX1_step 30 = .ok (.aload_n 0, 1) := by decide +kernel
theorem dX1_step_31 : decode cX1_step 31 = .ok (.getfield 9, 3) := by decide +kernel
theorem dX1_step_34 : decode cX1_step 34 = .ok (.iload 4, 2) := by decide +kernel
theorem dX1_step_36 : decode cX1_step 36 = .ok (.iload 5, 2) := by decide +kernel
theorem dX1_step_38 : decode cX1_step 38 = .ok (.iload 6, 2) := by decide +kernel
theorem dX1_step_40 : decode cX1_step 40 = .ok (.iadd, 1) := by decide +kernel
theorem dX1_step_41 : decode cX1_step 41 = .ok (.iastore, 1) := by decide +kernel
theorem dX1_step_42 : decode cX1_step 42 = .ok (.aload_n 0, 1) := by decide +kernel
theorem dX1_step_43 : decode cX1_step 43 = .ok (.aload_n 1, 1) := by decide +kernel
theorem dX1_step_44 : decode cX1_step 44 = .ok (.iload 4, 2) := by decide +kernel
theorem dX1_step_46 : decode cX1_step 46 = .ok (.invokevirtual 41, 3) := by decide +kernel
theorem dX1_step_49 : decode cX1_step 49 = .ok (.lstore 7, 2) := by decide +kernel
theorem dX1_step_51 : decode cX1_step 51 = .ok (.lload 7, 2) := by decide +kernel
theorem dX1_step_53 : decode cX1_step 53 = .ok (.ldc2_w 35, 3) := by decide +kernel
theorem dX1_step_56 : decode cX1_step 56 = .ok (.lcmp, 1) := by decide +kernel
theorem dX1_step_57 : decode cX1_step 57 = .ok (.ifCond .eq 22, 3) := by decide +kernel
theorem dX1_step_60 : decode cX1_step 60 = .ok (.lload 7, 2) := by decide +kernel
theorem dX1_step_62 : decode cX1_step 62 = .ok (.lload_n 2, 1) := by decide +kernel
theorem dX1_step_63 : decode cX1_step 63 = .ok (.lcmp, 1) := by decide +kernel
theorem dX1_step_64 : decode cX1_step 64 = .ok (.ifCond .eq 15, 3) := by decide +kernel
theorem dX1_step_67 : decode cX1_step 67 = .ok (.lload 7, 2) := by decide +kernel
theorem dX1_step_69 : decode cX1_step 69 = .ok (.lload_n 2, 1) := by decide +kernel
theorem dX1_step_70 : decode cX1_step 70 = .ok (.invokestatic 45, 3) := by decide +kernel
theorem dX1_step_73 : decode cX1_step 73 = .ok (.ifCond .eq 6, 3) := by decide +kernel
theorem dX1_step_76 : decode cX1_step 76 = .ok (.lload 7, 2) := by decide +kernel
theorem dX1_step_78 : decode cX1_step 78 = .ok (.lreturn, 1) := by decide +kernel
theorem dX1_step_79 : decode cX1_step 79 = .ok (.iinc 6 2, 3) := by decide +kernel
theorem dX1_step_82 : decode cX1_step 82 = .ok (.goto (-58), 3) := by decide +kernel
theorem dX1_step_85 : decode cX1_step 85 = .ok (.aload_n 0, 1) := by decide +kernel
theorem dX1_step_86 : decode cX1_step 86 = .ok (.getfield 9, 3) := by decide +kernel
theorem dX1_step_89 : decode cX1_step 89 = .ok (.iload 4, 2) := by decide +kernel
theorem dX1_step_91 : decode cX1_step 91 = .ok (.iload 5, 2) := by decide +kernel
theorem dX1_step_93 : decode cX1_step 93 = .ok (.iastore, 1) := by decide +kernel
theorem dX1_step_94 : decode cX1_step 94 = .ok (.iinc 4 1, 3) := by decide +kernel
theorem dX1_step_97 : decode cX1_step 97 = .ok (.goto (-94), 3) := by decide +kernel
theorem dX1_step_100 : decode cX1_step 100 = .ok (.ldc2_w 35, 3) := by decide +kernel
theorem dX1_step_103 : decode cX1_step 103 = .ok (.lreturn, 1) := by decide +kernel
set_option maxRecDepth 20000 in
theorem ggX1_boundedScore_X5_scoreOf : GoodIn wsX1_boundedScore wsX5_scoreOf := goodIn_r _ [9, 10, 11, 12, 13, 14, 15, 16, 17, 18, 19, 20, 8, 21, 22, 23, 24, 25, 26, 27, 28, 29, 32, 33, 34, 35, 36, 37, 38, 39, 40, 41, 42] (by decide +kernel) (by decide +kernel)
set_option maxRecDepth 20000 in
theorem gX1_boundedScore_X5_scoreOf : GoodIn wsX1_boundedScore (wsV RX1 25 RX5 yX5_scoreOf wsX5_scoreOf) := goodIn_app (goodIn_of _ (by decide +kernel)) ggX1_boundedScore_X5_scoreOf
theorem dX1_boundedScore_0 : decode cX1_boundedScore 0 = .ok (.aload_n 0, 1) := by decide +kernel
theorem dX1_boundedScore_1 : decode cX1_boundedScore 1 = .ok (.getfield 9, 3) := by decide +kernel
theorem dX1_boundedScore_4 : decode cX1_boundedScore 4 = .ok (.iload_n 2, 1) := by decide +kernel
theorem dX1_boundedScore_5 : decode cX1_boundedScore 5 = .ok (.iaload, 1) := by decide +kernel
theorem dX1_boundedScore_6 : decode cX1_boundedScore 6 = .ok (.aload_n 1, 1) := by decide +kernel
theorem dX1_boundedScore_7 : decode cX1_boundedScore 7 = .ok (.getfield 51, 3) := by decide +kernel
theorem dX1_boundedScore_10 : decode cX1_boundedScore 10 = .ok (.iload_n 2, 1) := by decide +kernel
theorem dX1_boundedScore_11 : decode cX1_boundedScore 11 = .ok (.iaload, 1) := by decide +kernel
theorem dX1_boundedScore_12 : decode cX1_boundedScore 12 = .ok (.if_icmp .lt 18, 3) := by decide +kernel
theorem dX1_boundedScore_15 : decode cX1_boundedScore 15 = .ok (.aload_n 0, 1) := by decide +kernel
theorem dX1_boundedScore_16 : decode cX1_boundedScore 16 = .ok (.getfield 9, 3) := by decide +kernel
theorem dX1_boundedScore_19 : decode cX1_boundedScore 19 = .ok (.iload_n 2, 1) := by decide +kernel
theorem dX1_boundedScore_20 : decode cX1_boundedScore 20 = .ok (.iaload, 1) := by decide +kernel
theorem dX1_boundedScore_21 : decode cX1_boundedScore 21 = .ok (.aload_n 1, 1) := by decide +kernel
theorem dX1_boundedScore_22 : decode cX1_boundedScore 22 = .ok (.getfield 54, 3) := by decide +kernel
theorem dX1_boundedScore_25 : decode cX1_boundedScore 25 = .ok (.iload_n 2, 1) := by decide +kernel
theorem dX1_boundedScore_26 : decode cX1_boundedScore 26 = .ok (.iaload, 1) := by decide +kernel
theorem dX1_boundedScore_27 : decode cX1_boundedScore 27 = .ok (.if_icmp .le 7, 3) := by decide +kernel
theorem dX1_boundedScore_30 : decode cX1_boundedScore 30 = .ok (.ldc2_w 35, 3) := by decide +kernel
theorem dX1_boundedScore_33 : decode cX1_boundedScore 33 = .ok (.lreturn, 1) := by decide +kernel
theorem dX1_boundedScore_34 : decode cX1_boundedScore 34 = .ok (.aload_n 1, 1) := by decide +kernel
theorem dX1_boundedScore_35 : decode cX1_boundedScore 35 = .ok (.aload_n 0, 1) := by decide +kernel
theorem dX1_boundedScore_36 : decode cX1_boundedScore 36 = .ok (.getfield 9, 3) := by decide +kernel
theorem dX1_boundedScore_39 : decode cX1_boundedScore 39 = .ok (.invokevirtual 25, 3) := by decide +kernel
theorem dX1_boundedScore_42 : decode cX1_boundedScore 42 = .ok (.lreturn, 1) := by decide +kernel
theorem dX2_init_0 : decode cX2_init 0 = .ok (.aload_n 0, 1) := by decide +kernel
theorem dX2_init_1 : decode cX2_init 1 = .ok (.invokespecial 1, 3) := by decide +kernel
theorem dX2_init_4 : decode cX2_init 4 = .ok (.aload_n 0, 1) := by decide +kernel
theorem dX2_init_5 : decode cX2_init 5 = .ok (.bipush 100, 2) := by decide +kernel
theorem dX2_init_7 : decode cX2_init 7 = .ok (.newarray .int, 2) := by decide +kernel
theorem dX2_init_9 : decode cX2_init 9 = .ok (.putfield 9, 3) := by decide +kernel
theorem dX2_init_12 : decode cX2_init 12 = .ok (.aload_n 0, 1) := by decide +kernel
theorem dX2_init_13 : decode cX2_init 13 = .ok (.bipush 100, 2) := by decide +kernel
theorem dX2_init_15 : decode cX2_init 15 = .ok (.newarray .int, 2) := by decide +kernel
theorem dX2_init_17 : decode cX2_init 17 = .ok (.putfield 13, 3) := by decide +kernel
theorem dX2_init_20 : decode cX2_init 20 = .ok (.aload_n 0, 1) := by decide +kernel
theorem dX2_init_21 : decode cX2_init 21 = .ok (.bipush 100, 2) := by decide +kernel
theorem dX2_init_23 : decode cX2_init 23 = .ok (.newarray .boolean, 2) := by decide +kernel
theorem dX2_init_25 : decode cX2_init 25 = .ok (.putfield 16, 3) := by decide +kernel
theorem dX2_init_28 : decode cX2_init 28 = .ok (.return_, 1) := by decide +kernel
theorem dX2_end_0 : decode cX2_end 0 = .ok (.aload_n 0, 1) := by decide +kernel
theorem dX2_end_1 : decode cX2_end 1 = .ok (.iconst 0, 1) := by decide +kernel
theorem dX2_end_2 : decode cX2_end 2 = .ok (.putfield 20, 3) := by decide +kernel
theorem dX2_end_5 : decode cX2_end 5 = .ok (.return_, 1) := by decide +kernel
set_option maxRecDepth 20000 in
theorem ggX2_pick_X2_changeReach : GoodIn wsX2_pick wsX2_changeReach := goodIn_r _ [16, 7, 9, 17, 18, 19, 15, 20, 21, 22, 23, 24, 25, 26, 41, 42, 43, 44, 45, 35, 36, 37, 38, 39, 40] (by decide +kernel) (by decide +kernel)
set_option maxRecDepth 20000 in
theorem gX2_pick_X2_changeReach : GoodIn wsX2_pick (wsV RX2 40 RX2 yX2_changeReach wsX2_changeReach) := goodIn_app (goodIn_of _ (by decide +kernel)) ggX2_pick_X2_changeReach
set_option maxRecDepth 20000 in
theorem ggX2_pick_X2_furthest : GoodIn wsX2_pick wsX2_furthest := goodIn_r _ [30, 7, 9, 41, 42, 43, 44, 45] (by decide +kernel) (by decide +kernel)
set_option maxRecDepth 20000 in
theorem gX2_pick_X2_furthest : GoodIn wsX2_pick (wsV RX2 44 RX2 yX2_furthest wsX2_furthest) := goodIn_app (goodIn_of _ (by decide +kernel)) ggX2_pick_X2_furthest
set_option maxRecDepth 20000 in
theorem ggX2_pick_X2_coverFrom : GoodIn wsX2_pick wsX2_coverFrom := goodIn_r _ [34, 7, 8, 17, 18, 19, 15, 20, 21, 22, 23, 24, 25, 26, 12, 13, 14, 16, 9, 41, 42, 43, 44, 45, 35, 36, 37, 38, 39, 40] (by decide +kernel) (by decide +kernel)
set_option maxRecDepth 20000 in
theorem gX2_pick_X2_coverFrom : GoodIn wsX2_pick (wsV RX2 48 RX2 yX2_coverFrom wsX2_coverFrom) := goodIn_app (goodIn_of _ (by decide +kernel)) ggX2_pick_X2_coverFrom
theorem dX2_pick_0 : decode cX2_pick 0 = .ok (.iload_n 2, 1) := by decide +kernel
theorem dX2_pick_1 : decode cX2_pick 1 = .ok (.i2l, 1) := by decide +kernel
theorem dX2_pick_2 : decode cX2_pick 2 = .ok (.ldc2_w 26, 3) := by decide +kernel
theorem dX2_pick_5 : decode cX2_pick 5 = .ok (.lmul, 1) := by decide +kernel
theorem dX2_pick_6 : decode cX2_pick 6 = .ok (.lstore_n 3, 1) := by decide +kernel
theorem dX2_pick_7 : decode cX2_pick 7 = .ok (.aload_n 0, 1) := by decide +kernel
theorem dX2_pick_8 : decode cX2_pick 8 = .ok (.aload_n 1, 1) := by decide +kernel
theorem dX2_pick_9 : decode cX2_pick 9 = .ok (.getfield 28, 3) := by decide +kernel
theorem dX2_pick_12 : decode cX2_pick 12 = .ok (.bipush 100, 2) := by decide +kernel
theorem dX2_pick_14 : decode cX2_pick 14 = .ok (.invokestatic 31, 3) := by decide +kernel
theorem dX2_pick_17 : decode cX2_pick 17 = .ok (.putfield 37, 3) := by decide +kernel
theorem dX2_pick_20 : decode cX2_pick 20 = .ok (.iconst 0, 1) := by decide +kernel
theorem dX2_pick_21 : decode cX2_pick 21 = .ok (.istore 5, 2) := by decide +kernel
theorem dX2_pick_23 : decode cX2_pick 23 = .ok (.iload 5, 2) := by decide +kernel
theorem dX2_pick_25 : decode cX2_pick 25 = .ok (.aload_n 0, 1) := by decide +kernel
theorem dX2_pick_26 : decode cX2_pick 26 = .ok (.getfield 37, 3) := by decide +kernel
theorem dX2_pick_29 : decode cX2_pick 29 = .ok (.if_icmp .ge 25, 3) := by decide +kernel
theorem dX2_pick_32 : decode cX2_pick 32 = .ok (.aload_n 0, 1) := by decide +kernel
theorem dX2_pick_33 : decode cX2_pick 33 = .ok (.getfield 16, 3) := by decide +kernel
theorem dX2_pick_36 : decode cX2_pick 36 = .ok (.iload 5, 2) := by decide +kernel
theorem dX2_pick_38 : decode cX2_pick 38 = .ok (.iconst 0, 1) := by decide +kernel
theorem dX2_pick_39 : decode cX2_pick 39 = .ok (.bastore, 1) := by decide +kernel
theorem dX2_pick_40 : decode cX2_pick 40 = .ok (.aload_n 0, 1) := by decide +kernel
theorem dX2_pick_41 : decode cX2_pick 41 = .ok (.getfield 13, 3) := by decide +kernel
theorem dX2_pick_44 : decode cX2_pick 44 = .ok (.iload 5, 2) := by decide +kernel
theorem dX2_pick_46 : decode cX2_pick 46 = .ok (.iconst 0, 1) := by decide +kernel
theorem dX2_pick_47 : decode cX2_pick 47 = .ok (.iastore, 1) := by decide +kernel
