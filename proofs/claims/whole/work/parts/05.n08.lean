theorem dX7_box_52 : decode cX7_box 52 = .ok (.getfield 72, 3) := by decide +kernel
theorem dX7_box_55 : decode cX7_box 55 = .ok (.iload_n 2, 1) := by decide +kernel
theorem dX7_box_56 : decode cX7_box 56 = .ok (.iaload, 1) := by decide +kernel
theorem dX7_box_57 : decode cX7_box 57 = .ok (.iadd, 1) := by decide +kernel
theorem dX7_box_58 : decode cX7_box 58 = .ok (.iaload, 1) := by decide +kernel
theorem dX7_box_59 : decode cX7_box 59 = .ok (.ireturn, 1) := by decide +kernel
set_option maxRecDepth 20000 in
theorem ggX7_volume_X7_firstPlace : GoodIn wsX7_volume wsX7_firstPlace := goodIn_r _ [10, 5, 11, 12, 13, 9, 14, 15, 3, 4, 16, 17, 18, 19, 1, 20, 21, 22, 23, 24, 25, 26, 27, 28, 29, 30, 31, 32, 33, 34, 35, 36, 37, 42, 43, 44, 45, 46, 47, 48, 49, 50, 51, 52, 53, 54, 55, 56, 57, 58, 59, 60, 61, 62, 63, 64, 65, 66, 67, 68, 69, 70, 71] (by decide +kernel) (by decide +kernel)
set_option maxRecDepth 20000 in
theorem gX7_volume_X7_firstPlace : GoodIn wsX7_volume (wsV RX7 220 RX7 yX7_firstPlace wsX7_firstPlace) := goodIn_app (goodIn_of _ (by decide +kernel)) ggX7_volume_X7_firstPlace
set_option maxRecDepth 20000 in
theorem ggX7_volume_X7_at : GoodIn wsX7_volume wsX7_at := goodIn_r _ [23, 24, 25, 26, 27, 9, 28, 29, 42, 43, 44, 45, 46, 47, 48, 49, 50, 51, 52, 53, 54, 55, 56, 57, 58, 59, 60, 61, 62, 63, 64, 65, 66, 67, 68, 69, 70, 71] (by decide +kernel) (by decide +kernel)
set_option maxRecDepth 20000 in
theorem gX7_volume_X7_at : GoodIn wsX7_volume (wsV RX7 176 RX7 yX7_at wsX7_at) := goodIn_app (goodIn_of _ (by decide +kernel)) ggX7_volume_X7_at
set_option maxRecDepth 20000 in
theorem ggX7_volume_X7_nextPlace : GoodIn wsX7_volume wsX7_nextPlace := goodIn_r _ [41, 3, 5, 15, 42, 43, 44, 45, 46, 47, 48, 49, 50, 51, 52, 53, 54, 55, 56, 57, 58, 59, 60, 61, 62, 63, 64, 65, 66, 67, 68, 69, 70, 71] (by decide +kernel) (by decide +kernel)
set_option maxRecDepth 20000 in
theorem gX7_volume_X7_nextPlace : GoodIn wsX7_volume (wsV RX7 226 RX7 yX7_nextPlace wsX7_nextPlace) := goodIn_app (goodIn_of _ (by decide +kernel)) ggX7_volume_X7_nextPlace
theorem dX7_volume_0 : decode cX7_volume 0 = .ok (.aload_n 0, 1) := by decide +kernel
theorem dX7_volume_1 : decode cX7_volume 1 = .ok (.getfield 98, 3) := by decide +kernel
theorem dX7_volume_4 : decode cX7_volume 4 = .ok (.ifCond .ne 5, 3) := by decide +kernel
theorem dX7_volume_7 : decode cX7_volume 7 = .ok (.lconst 0, 1) := by decide +kernel
theorem dX7_volume_8 : decode cX7_volume 8 = .ok (.lreturn, 1) := by decide +kernel
theorem dX7_volume_9 : decode cX7_volume 9 = .ok (.aload_n 0, 1) := by decide +kernel
theorem dX7_volume_10 : decode cX7_volume 10 = .ok (.getfield 98, 3) := by decide +kernel
theorem dX7_volume_13 : decode cX7_volume 13 = .ok (.bipush 12, 2) := by decide +kernel
theorem dX7_volume_15 : decode cX7_volume 15 = .ok (.if_icmp .le 7, 3) := by decide +kernel
theorem dX7_volume_18 : decode cX7_volume 18 = .ok (.ldc2_w 236, 3) := by decide +kernel
theorem dX7_volume_21 : decode cX7_volume 21 = .ok (.lreturn, 1) := by decide +kernel
theorem dX7_volume_22 : decode cX7_volume 22 = .ok (.aload_n 0, 1) := by decide +kernel
theorem dX7_volume_23 : decode cX7_volume 23 = .ok (.invokevirtual 220, 3) := by decide +kernel
theorem dX7_volume_26 : decode cX7_volume 26 = .ok (.lconst 0, 1) := by decide +kernel
theorem dX7_volume_27 : decode cX7_volume 27 = .ok (.lstore_n 1, 1) := by decide +kernel
theorem dX7_volume_28 : decode cX7_volume 28 = .ok (.iconst 1, 1) := by decide +kernel
theorem dX7_volume_29 : decode cX7_volume 29 = .ok (.istore_n 3, 1) := by decide +kernel
theorem dX7_volume_30 : decode cX7_volume 30 = .ok (.iload_n 3, 1) := by decide +kernel
theorem dX7_volume_31 : decode cX7_volume 31 = .ok (.ifCond .eq 180, 3) := by decide +kernel
theorem dX7_volume_34 : decode cX7_volume 34 = .ok (.iconst 0, 1) := by decide +kernel
theorem dX7_volume_35 : decode cX7_volume 35 = .ok (.istore 4, 2) := by decide +kernel
theorem dX7_volume_37 : decode cX7_volume 37 = .ok (.iconst 0, 1) := by decide +kernel
theorem dX7_volume_38 : decode cX7_volume 38 = .ok (.istore 5, 2) := by decide +kernel
theorem dX7_volume_40 : decode cX7_volume 40 = .ok (.iload 5, 2) := by decide +kernel
theorem dX7_volume_42 : decode cX7_volume 42 = .ok (.aload_n 0, 1) := by decide +kernel
theorem dX7_volume_43 : decode cX7_volume 43 = .ok (.getfield 98, 3) := by decide +kernel
theorem dX7_volume_46 : decode cX7_volume 46 = .ok (.if_icmp .ge 76, 3) := by decide +kernel
theorem dX7_volume_49 : decode cX7_volume 49 = .ok (.iload 4, 2) := by decide +kernel
theorem dX7_volume_51 : decode cX7_volume 51 = .ok (.ifCond .ne 71, 3) := by decide +kernel
theorem dX7_volume_54 : decode cX7_volume 54 = .ok (.iconst 1, 1) := by decide +kernel
theorem dX7_volume_55 : decode cX7_volume 55 = .ok (.istore 4, 2) := by decide +kernel
theorem dX7_volume_57 : decode cX7_volume 57 = .ok (.iconst 0, 1) := by decide +kernel
theorem dX7_volume_58 : decode cX7_volume 58 = .ok (.istore 6, 2) := by decide +kernel
theorem dX7_volume_60 : decode cX7_volume 60 = .ok (.iload 6, 2) := by decide +kernel
theorem dX7_volume_62 : decode cX7_volume 62 = .ok (.aload_n 0, 1) := by decide +kernel
theorem dX7_volume_63 : decode cX7_volume 63 = .ok (.getfield 89, 3) := by decide +kernel
theorem dX7_volume_66 : decode cX7_volume 66 = .ok (.if_icmp .ge 50, 3) := by decide +kernel
theorem dX7_volume_69 : decode cX7_volume 69 = .ok (.iload 4, 2) := by decide +kernel
theorem dX7_volume_71 : decode cX7_volume 71 = .ok (.ifCond .eq 36, 3) := by decide +kernel
theorem dX7_volume_74 : decode cX7_volume 74 = .ok (.aload_n 0, 1) := by decide +kernel
theorem dX7_volume_75 : decode cX7_volume 75 = .ok (.iload 5, 2) := by decide +kernel
theorem dX7_volume_77 : decode cX7_volume 77 = .ok (.iload 6, 2) := by decide +kernel
theorem dX7_volume_79 : decode cX7_volume 79 = .ok (.invokevirtual 176, 3) := by decide +kernel
theorem dX7_volume_82 : decode cX7_volume 82 = .ok (.aload_n 0, 1) := by decide +kernel
theorem dX7_volume_83 : decode cX7_volume 83 = .ok (.getfield 66, 3) := by decide +kernel
theorem dX7_volume_86 : decode cX7_volume 86 = .ok (.bipush 13, 2) := by decide +kernel
theorem dX7_volume_88 : decode cX7_volume 88 = .ok (.iload 6, 2) := by decide +kernel
theorem dX7_volume_90 : decode cX7_volume 90 = .ok (.imul, 1) := by decide +kernel
theorem dX7_volume_91 : decode cX7_volume 91 = .ok (.aload_n 0, 1) := by decide +kernel
theorem dX7_volume_92 : decode cX7_volume 92 = .ok (.getfield 72, 3) := by decide +kernel
theorem dX7_volume_95 : decode cX7_volume 95 = .ok (.iload 6, 2) := by decide +kernel
theorem dX7_volume_97 : decode cX7_volume 97 = .ok (.iaload, 1) := by decide +kernel
theorem dX7_volume_98 : decode cX7_volume 98 = .ok (.iadd, 1) := by decide +kernel
theorem dX7_volume_99 : decode cX7_volume 99 = .ok (.iaload, 1) := by decide +kernel
theorem dX7_volume_100 : decode cX7_volume 100 = .ok (.if_icmp .gt 7, 3) := by decide +kernel
theorem dX7_volume_103 : decode cX7_volume 103 = .ok (.iconst 1, 1) := by decide +kernel
theorem dX7_volume_104 : decode cX7_volume 104 = .ok (.goto 4, 3) := by decide +kernel
theorem dX7_volume_107 : decode cX7_volume 107 = .ok (.iconst 0, 1) := by decide +kernel
theorem dX7_volume_108 : decode cX7_volume 108 = .ok (.istore 4, 2) := by decide +kernel
theorem dX7_volume_110 : decode cX7_volume 110 = .ok (.iinc 6 1, 3) := by decide +kernel
theorem dX7_volume_113 : decode cX7_volume 113 = .ok (.goto (-53), 3) := by decide +kernel
theorem dX7_volume_116 : decode cX7_volume 116 = .ok (.iinc 5 1, 3) := by decide +kernel
theorem dX7_volume_119 : decode cX7_volume 119 = .ok (.goto (-79), 3) := by decide +kernel
theorem dX7_volume_122 : decode cX7_volume 122 = .ok (.lconst 1, 1) := by decide +kernel
theorem dX7_volume_123 : decode cX7_volume 123 = .ok (.lstore 5, 2) := by decide +kernel
theorem dX7_volume_125 : decode cX7_volume 125 = .ok (.iconst 0, 1) := by decide +kernel
theorem dX7_volume_126 : decode cX7_volume 126 = .ok (.istore 7, 2) := by decide +kernel
theorem dX7_volume_128 : decode cX7_volume 128 = .ok (.iload 7, 2) := by decide +kernel
theorem dX7_volume_130 : decode cX7_volume 130 = .ok (.aload_n 0, 1) := by decide +kernel
theorem dX7_volume_131 : decode cX7_volume 131 = .ok (.getfield 89, 3) := by decide +kernel
theorem dX7_volume_134 : decode cX7_volume 134 = .ok (.if_icmp .ge 54, 3) := by decide +kernel
theorem dX7_volume_137 : decode cX7_volume 137 = .ok (.lload 5, 2) := by decide +kernel
theorem dX7_volume_139 : decode cX7_volume 139 = .ok (.aload_n 0, 1) := by decide +kernel
theorem dX7_volume_140 : decode cX7_volume 140 = .ok (.getfield 66, 3) := by decide +kernel
theorem dX7_volume_143 : decode cX7_volume 143 = .ok (.bipush 13, 2) := by decide +kernel
theorem dX7_volume_145 : decode cX7_volume 145 = .ok (.iload 7, 2) := by decide +kernel
theorem dX7_volume_147 : decode cX7_volume 147 = .ok (.imul, 1) := by decide +kernel
theorem dX7_volume_148 : decode cX7_volume 148 = .ok (.aload_n 0, 1) := by decide +kernel
theorem dX7_volume_149 : decode cX7_volume 149 = .ok (.getfield 72, 3) := by decide +kernel
theorem dX7_volume_152 : decode cX7_volume 152 = .ok (.iload 7, 2) := by decide +kernel
theorem dX7_volume_154 : decode cX7_volume 154 = .ok (.iaload, 1) := by decide +kernel
theorem dX7_volume_155 : decode cX7_volume 155 = .ok (.iadd, 1) := by decide +kernel
theorem dX7_volume_156 : decode cX7_volume 156 = .ok (.iconst 1, 1) := by decide +kernel
theorem dX7_volume_157 : decode cX7_volume 157 = .ok (.iadd, 1) := by decide +kernel
theorem dX7_volume_158 : decode cX7_volume 158 = .ok (.iaload, 1) := by decide +kernel
theorem dX7_volume_159 : decode cX7_volume 159 = .ok (.aload_n 0, 1) := by decide +kernel
theorem dX7_volume_160 : decode cX7_volume 160 = .ok (.getfield 66, 3) := by decide +kernel
theorem dX7_volume_163 : decode cX7_volume 163 = .ok (.bipush 13, 2) := by decide +kernel
theorem dX7_volume_165 : decode cX7_volume 165 = .ok (.iload 7, 2) := by decide +kernel
theorem dX7_volume_167 : decode cX7_volume 167 = .ok (.imul, 1) := by decide +kernel
theorem dX7_volume_168 : decode cX7_volume 168 = .ok (.aload_n 0, 1) := by decide +kernel
theorem dX7_volume_169 : decode cX7_volume 169 = .ok (.getfield 72, 3) := by decide +kernel
theorem dX7_volume_172 : decode cX7_volume 172 = .ok (.iload 7, 2) := by decide +kernel
theorem dX7_volume_174 : decode cX7_volume 174 = .ok (.iaload, 1) := by decide +kernel
theorem dX7_volume_175 : decode cX7_volume 175 = .ok (.iadd, 1) := by decide +kernel
theorem dX7_volume_176 : decode cX7_volume 176 = .ok (.iaload, 1) := by decide +kernel
theorem dX7_volume_177 : decode cX7_volume 177 = .ok (.isub, 1) := by decide +kernel
theorem dX7_volume_178 : decode cX7_volume 178 = .ok (.i2l, 1) := by decide +kernel
theorem dX7_volume_179 : decode cX7_volume 179 = .ok (.lmul, 1) := by decide +kernel
theorem dX7_volume_180 : decode cX7_volume 180 = .ok (.lstore 5, 2) := by decide +kernel
theorem dX7_volume_182 : decode cX7_volume 182 = .ok (.iinc 7 1, 3) := by decide +kernel
theorem dX7_volume_185 : decode cX7_volume 185 = .ok (.goto (-57), 3) := by decide +kernel
theorem dX7_volume_188 : decode cX7_volume 188 = .ok (.lload_n 1, 1) := by decide +kernel
theorem dX7_volume_189 : decode cX7_volume 189 = .ok (.iload 4, 2) := by decide +kernel
theorem dX7_volume_191 : decode cX7_volume 191 = .ok (.ifCond .eq 8, 3) := by decide +kernel
theorem dX7_volume_194 : decode cX7_volume 194 = .ok (.lload 5, 2) := by decide +kernel
theorem dX7_volume_196 : decode cX7_volume 196 = .ok (.goto 4, 3) := by decide +kernel
theorem dX7_volume_199 : decode cX7_volume 199 = .ok (.lconst 0, 1) := by decide +kernel
theorem dX7_volume_200 : decode cX7_volume 200 = .ok (.ladd, 1) := by decide +kernel
theorem dX7_volume_201 : decode cX7_volume 201 = .ok (.lstore_n 1, 1) := by decide +kernel
theorem dX7_volume_202 : decode cX7_volume 202 = .ok (.aload_n 0, 1) := by decide +kernel
theorem dX7_volume_203 : decode cX7_volume 203 = .ok (.iconst 1, 1) := by decide +kernel
theorem dX7_volume_204 : decode cX7_volume 204 = .ok (.invokevirtual 226, 3) := by decide +kernel
theorem dX7_volume_207 : decode cX7_volume 207 = .ok (.istore_n 3, 1) := by decide +kernel
theorem dX7_volume_208 : decode cX7_volume 208 = .ok (.goto (-178), 3) := by decide +kernel
theorem dX7_volume_211 : decode cX7_volume 211 = .ok (.lload_n 1, 1) := by decide +kernel
theorem dX7_volume_212 : decode cX7_volume 212 = .ok (.lreturn, 1) := by decide +kernel
set_option maxRecDepth 20000 in
theorem ggX7_isBetter_X7_isPlan : GoodIn wsX7_isBetter wsX7_isPlan := goodIn_r _ [8, 9, 10, 11, 12, 13, 14, 15, 1, 2, 16, 17, 18, 19, 20, 7, 21, 22, 23, 24, 25, 26, 27, 28, 29, 30, 31, 32, 33, 34, 35, 36, 37, 38, 39, 40, 41, 42, 43, 44, 45, 46, 47, 48, 49, 50, 51] (by decide +kernel) (by decide +kernel)
set_option maxRecDepth 20000 in
theorem gX7_isBetter_X7_isPlan : GoodIn wsX7_isBetter (wsV RX7 166 RX7 yX7_isPlan wsX7_isPlan) := goodIn_app (goodIn_of _ (by decide +kernel)) ggX7_isBetter_X7_isPlan
theorem dX7_isBetter_0 : decode cX7_isBetter 0 = .ok (.aload_n 0, 1) := by decide +kernel
theorem dX7_isBetter_1 : decode cX7_isBetter 1 = .ok (.invokevirtual 166, 3) := by decide +kernel
theorem dX7_isBetter_4 : decode cX7_isBetter 4 = .ok (.ifCond .ne 5, 3) := by decide +kernel
theorem dX7_isBetter_7 : decode cX7_isBetter 7 = .ok (.iconst 0, 1) := by decide +kernel
theorem dX7_isBetter_8 : decode cX7_isBetter 8 = .ok (.ireturn, 1) := by decide +kernel
theorem dX7_isBetter_9 : decode cX7_isBetter 9 = .ok (.iconst 0, 1) := by decide +kernel
theorem dX7_isBetter_10 : decode cX7_isBetter 10 = .ok (.istore_n 1, 1) := by decide +kernel
theorem dX7_isBetter_11 : decode cX7_isBetter 11 = .ok (.iconst 0, 1) := by decide +kernel
theorem dX7_isBetter_12 : decode cX7_isBetter 12 = .ok (.istore_n 2, 1) := by decide +kernel
theorem dX7_isBetter_13 : decode cX7_isBetter 13 = .ok (.iconst 0, 1) := by decide +kernel
theorem dX7_isBetter_14 : decode cX7_isBetter 14 = .ok (.istore_n 3, 1) := by decide +kernel
theorem dX7_isBetter_15 : decode cX7_isBetter 15 = .ok (.iload_n 3, 1) := by decide +kernel
theorem dX7_isBetter_16 : decode cX7_isBetter 16 = .ok (.aload_n 0, 1) := by decide +kernel
theorem dX7_isBetter_17 : decode cX7_isBetter 17 = .ok (.getfield 89, 3) := by decide +kernel
theorem dX7_isBetter_20 : decode cX7_isBetter 20 = .ok (.if_icmp .ge 59, 3) := by decide +kernel
theorem dX7_isBetter_23 : decode cX7_isBetter 23 = .ok (.iload_n 1, 1) := by decide +kernel
theorem dX7_isBetter_24 : decode cX7_isBetter 24 = .ok (.ifCond .ne 18, 3) := by decide +kernel
theorem dX7_isBetter_27 : decode cX7_isBetter 27 = .ok (.aload_n 0, 1) := by decide +kernel
theorem dX7_isBetter_28 : decode cX7_isBetter 28 = .ok (.getfield 52, 3) := by decide +kernel
theorem dX7_isBetter_31 : decode cX7_isBetter 31 = .ok (.iload_n 3, 1) := by decide +kernel
theorem dX7_isBetter_32 : decode cX7_isBetter 32 = .ok (.iaload, 1) := by decide +kernel
theorem dX7_isBetter_33 : decode cX7_isBetter 33 = .ok (.aload_n 0, 1) := by decide +kernel
theorem dX7_isBetter_34 : decode cX7_isBetter 34 = .ok (.getfield 75, 3) := by decide +kernel
theorem dX7_isBetter_37 : decode cX7_isBetter 37 = .ok (.iload_n 3, 1) := by decide +kernel
theorem dX7_isBetter_38 : decode cX7_isBetter 38 = .ok (.iaload, 1) := by decide +kernel
theorem dX7_isBetter_39 : decode cX7_isBetter 39 = .ok (.if_icmp .ge 7, 3) := by decide +kernel
theorem dX7_isBetter_42 : decode cX7_isBetter 42 = .ok (.iconst 1, 1) := by decide +kernel
theorem dX7_isBetter_43 : decode cX7_isBetter 43 = .ok (.goto 4, 3) := by decide +kernel
theorem dX7_isBetter_46 : decode cX7_isBetter 46 = .ok (.iconst 0, 1) := by decide +kernel
theorem dX7_isBetter_47 : decode cX7_isBetter 47 = .ok (.istore_n 1, 1) := by decide +kernel
theorem dX7_isBetter_48 : decode cX7_isBetter 48 = .ok (.iload_n 2, 1) := by decide +kernel
theorem dX7_isBetter_49 : decode cX7_isBetter 49 = .ok (.ifCond .ne 18, 3) := by decide +kernel
theorem dX7_isBetter_52 : decode cX7_isBetter 52 = .ok (.aload_n 0, 1) := by decide +kernel
theorem dX7_isBetter_53 : decode cX7_isBetter 53 = .ok (.getfield 52, 3) := by decide +kernel
theorem dX7_isBetter_56 : decode cX7_isBetter 56 = .ok (.iload_n 3, 1) := by decide +kernel
theorem dX7_isBetter_57 : decode cX7_isBetter 57 = .ok (.iaload, 1) := by decide +kernel
theorem dX7_isBetter_58 : decode cX7_isBetter 58 = .ok (.aload_n 0, 1) := by decide +kernel
theorem dX7_isBetter_59 : decode cX7_isBetter 59 = .ok (.getfield 75, 3) := by decide +kernel
theorem dX7_isBetter_62 : decode cX7_isBetter 62 = .ok (.iload_n 3, 1) := by decide +kernel
theorem dX7_isBetter_63 : decode cX7_isBetter 63 = .ok (.iaload, 1) := by decide +kernel
theorem dX7_isBetter_64 : decode cX7_isBetter 64 = .ok (.if_icmp .le 7, 3) := by decide +kernel
theorem dX7_isBetter_67 : decode cX7_isBetter 67 = .ok (.iconst 1, 1) := by decide +kernel
theorem dX7_isBetter_68 : decode cX7_isBetter 68 = .ok (.goto 4, 3) := by decide +kernel
theorem dX7_isBetter_71 : decode cX7_isBetter 71 = .ok (.iconst 0, 1) := by decide +kernel
theorem dX7_isBetter_72 : decode cX7_isBetter 72 = .ok (.istore_n 2, 1) := by decide +kernel
theorem dX7_isBetter_73 : decode cX7_isBetter 73 = .ok (.iinc 3 1, 3) := by decide +kernel
theorem dX7_isBetter_76 : decode cX7_isBetter 76 = .ok (.goto (-61), 3) := by decide +kernel
theorem dX7_isBetter_79 : decode cX7_isBetter 79 = .ok (.iload_n 1, 1) := by decide +kernel
theorem dX7_isBetter_80 : decode cX7_isBetter 80 = .ok (.ifCond .eq 11, 3) := by decide +kernel
theorem dX7_isBetter_83 : decode cX7_isBetter 83 = .ok (.iload_n 2, 1) := by decide +kernel
theorem dX7_isBetter_84 : decode cX7_isBetter 84 = .ok (.ifCond .ne 7, 3) := by decide +kernel
theorem dX7_isBetter_87 : decode cX7_isBetter 87 = .ok (.iconst 1, 1) := by decide +kernel
theorem dX7_isBetter_88 : decode cX7_isBetter 88 = .ok (.goto 4, 3) := by decide +kernel
theorem dX7_isBetter_91 : decode cX7_isBetter 91 = .ok (.iconst 0, 1) := by decide +kernel
theorem dX7_isBetter_92 : decode cX7_isBetter 92 = .ok (.ireturn, 1) := by decide +kernel
set_option maxRecDepth 20000 in
theorem ggX7_step_X7_isBetter : GoodIn wsX7_step wsX7_isBetter := goodIn_r _ [7, 8, 9, 10, 11, 12, 13, 6, 14, 1, 2, 15, 16, 17, 18, 19, 20, 21, 22, 23, 24, 25, 26, 27, 28, 29, 30, 31, 32, 33, 34, 35, 36, 37, 38, 39, 40, 41, 42, 43, 44, 45, 46, 47, 48, 49, 50, 51, 52, 53, 54, 55] (by decide +kernel) (by decide +kernel)
set_option maxRecDepth 20000 in
theorem gX7_step_X7_isBetter : GoodIn wsX7_step (wsV RX7 238 RX7 yX7_isBetter wsX7_isBetter) := goodIn_app (goodIn_of _ (by decide +kernel)) ggX7_step_X7_isBetter
theorem dX7_step_0 : decode cX7_step 0 = .ok (.iconst 0, 1) := by decide +kernel
theorem dX7_step_1 : decode cX7_step 1 = .ok (.istore_n 1, 1) := by decide +kernel
theorem dX7_step_2 : decode cX7_step 2 = .ok (.iload_n 1, 1) := by decide +kernel
theorem dX7_step_3 : decode cX7_step 3 = .ok (.aload_n 0, 1) := by decide +kernel
theorem dX7_step_4 : decode cX7_step 4 = .ok (.getfield 78, 3) := by decide +kernel
theorem dX7_step_7 : decode cX7_step 7 = .ok (.if_icmp .ge 57, 3) := by decide +kernel
theorem dX7_step_10 : decode cX7_step 10 = .ok (.aload_n 0, 1) := by decide +kernel
theorem dX7_step_11 : decode cX7_step 11 = .ok (.getfield 49, 3) := by decide +kernel
theorem dX7_step_14 : decode cX7_step 14 = .ok (.iload_n 1, 1) := by decide +kernel
theorem dX7_step_15 : decode cX7_step 15 = .ok (.dup2, 1) := by decide +kernel
theorem dX7_step_16 : decode cX7_step 16 = .ok (.iaload, 1) := by decide +kernel
theorem dX7_step_17 : decode cX7_step 17 = .ok (.iconst 1, 1) := by decide +kernel
theorem dX7_step_18 : decode cX7_step 18 = .ok (.isub, 1) := by decide +kernel
theorem dX7_step_19 : decode cX7_step 19 = .ok (.iastore, 1) := by decide +kernel
theorem dX7_step_20 : decode cX7_step 20 = .ok (.aload_n 0, 1) := by decide +kernel
theorem dX7_step_21 : decode cX7_step 21 = .ok (.invokevirtual 238, 3) := by decide +kernel
theorem dX7_step_24 : decode cX7_step 24 = .ok (.ifCond .eq 5, 3) := by decide +kernel
theorem dX7_step_27 : decode cX7_step 27 = .ok (.iconst 1, 1) := by decide +kernel
theorem dX7_step_28 : decode cX7_step 28 = .ok (.ireturn, 1) := by decide +kernel
theorem dX7_step_29 : decode cX7_step 29 = .ok (.aload_n 0, 1) := by decide +kernel
theorem dX7_step_30 : decode cX7_step 30 = .ok (.getfield 49, 3) := by decide +kernel
theorem dX7_step_33 : decode cX7_step 33 = .ok (.iload_n 1, 1) := by decide +kernel
theorem dX7_step_34 : decode cX7_step 34 = .ok (.dup2, 1) := by decide +kernel
theorem dX7_step_35 : decode cX7_step 35 = .ok (.iaload, 1) := by decide +kernel
theorem dX7_step_36 : decode cX7_step 36 = .ok (.iconst 2, 1) := by decide +kernel
theorem dX7_step_37 : decode cX7_step 37 = .ok (.iadd, 1) := by decide +kernel
theorem dX7_step_38 : decode cX7_step 38 = .ok (.iastore, 1) := by decide +kernel
theorem dX7_step_39 : decode cX7_step 39 = .ok (.aload_n 0, 1) := by decide +kernel
theorem dX7_step_40 : decode cX7_step 40 = .ok (.invokevirtual 238, 3) := by decide +kernel
theorem dX7_step_43 : decode cX7_step 43 = .ok (.ifCond .eq 5, 3) := by decide +kernel
theorem dX7_step_46 : decode cX7_step 46 = .ok (.iconst 1, 1) := by decide +kernel
theorem dX7_step_47 : decode cX7_step 47 = .ok (.ireturn, 1) := by decide +kernel
theorem dX7_step_48 : decode cX7_step 48 = .ok (.aload_n 0, 1) := by decide +kernel
theorem dX7_step_49 : decode cX7_step 49 = .ok (.getfield 49, 3) := by decide +kernel
theorem dX7_step_52 : decode cX7_step 52 = .ok (.iload_n 1, 1) := by decide +kernel
theorem dX7_step_53 : decode cX7_step 53 = .ok (.dup2, 1) := by decide +kernel
theorem dX7_step_54 : decode cX7_step 54 = .ok (.iaload, 1) := by decide +kernel
theorem dX7_step_55 : decode cX7_step 55 = .ok (.iconst 1, 1) := by decide +kernel
theorem dX7_step_56 : decode cX7_step 56 = .ok (.isub, 1) := by decide +kernel
theorem dX7_step_57 : decode cX7_step 57 = .ok (.iastore, 1) := by decide +kernel
theorem dX7_step_58 : decode cX7_step 58 = .ok (.iinc 1 1, 3) := by decide +kernel
theorem dX7_step_61 : decode cX7_step 61 = .ok (.goto (-59), 3) := by decide +kernel
theorem dX7_step_64 : decode cX7_step 64 = .ok (.iconst 0, 1) := by decide +kernel
theorem dX7_step_65 : decode cX7_step 65 = .ok (.ireturn, 1) := by decide +kernel
set_option maxRecDepth 20000 in
theorem ggX7_climb_X7_points : GoodIn wsX7_climb wsX7_points := goodIn_r _ [14, 6, 15, 16, 42, 43, 44, 45, 46, 47, 48, 49, 50, 51, 52, 53, 54, 55, 56, 57, 58, 59, 60, 61, 62, 63, 64, 65, 66, 67, 68, 69, 70, 71] (by decide +kernel) (by decide +kernel)
set_option maxRecDepth 20000 in
theorem gX7_climb_X7_points : GoodIn wsX7_climb (wsV RX7 113 RX7 yX7_points wsX7_points) := goodIn_app (goodIn_of _ (by decide +kernel)) ggX7_climb_X7_points
set_option maxRecDepth 20000 in
theorem ggX7_climb_X7_in : GoodIn wsX7_climb wsX7_in := goodIn_r _ [19] (by decide +kernel) (by decide +kernel)
set_option maxRecDepth 20000 in
theorem gX7_climb_X7_in : GoodIn wsX7_climb (va_wsS RX7 82 yX7_in wsX7_in) := goodIn_app (goodIn_of _ (by decide +kernel)) ggX7_climb_X7_in
set_option maxRecDepth 20000 in
theorem ggX7_climb_X7_toPoint : GoodIn wsX7_climb wsX7_toPoint := goodIn_r _ [23, 6, 15, 16, 8, 42, 43, 44, 45, 46, 47, 48, 49, 50, 51, 52, 53, 54, 55, 56, 57, 58, 59, 60, 61, 62, 63, 64, 65, 66, 67, 68, 69, 70, 71] (by decide +kernel) (by decide +kernel)
set_option maxRecDepth 20000 in
theorem gX7_climb_X7_toPoint : GoodIn wsX7_climb (wsV RX7 162 RX7 yX7_toPoint wsX7_toPoint) := goodIn_app (goodIn_of _ (by decide +kernel)) ggX7_climb_X7_toPoint
set_option maxRecDepth 20000 in
theorem ggX7_climb_X7_isPlan : GoodIn wsX7_climb wsX7_isPlan := goodIn_r _ [27, 6, 8, 16, 15, 28, 29, 30, 2, 5, 31, 32, 33, 17, 18, 13, 19, 42, 43, 44, 45, 46, 47, 48, 49, 50, 51, 52, 53, 54, 55, 56, 57, 58, 59, 60, 61, 62, 63, 64, 65, 66, 67, 68, 69, 70, 71] (by decide +kernel) (by decide +kernel)
set_option maxRecDepth 20000 in
theorem gX7_climb_X7_isPlan : GoodIn wsX7_climb (wsV RX7 166 RX7 yX7_isPlan wsX7_isPlan) := goodIn_app (goodIn_of _ (by decide +kernel)) ggX7_climb_X7_isPlan
set_option maxRecDepth 20000 in
theorem ggX7_climb_X7_step : GoodIn wsX7_climb wsX7_step := goodIn_r _ [37, 6, 8, 38, 39, 40, 13, 41, 2, 5, 4, 24, 25, 26, 27, 16, 15, 28, 29, 30, 31, 32, 33, 17, 18, 19, 42, 43, 44, 45, 46, 47, 48, 49, 50, 51, 52, 53, 54, 55, 56, 57, 58, 59, 60, 61, 62, 63, 64, 65, 66, 67, 68, 69, 70, 71] (by decide +kernel) (by decide +kernel)
set_option maxRecDepth 20000 in
theorem gX7_climb_X7_step : GoodIn wsX7_climb (wsV RX7 241 RX7 yX7_step wsX7_step) := goodIn_app (goodIn_of _ (by decide +kernel)) ggX7_climb_X7_step
theorem dX7_climb_0 : decode cX7_climb 0 = .ok (.iload_n 1, 1) := by decide +kernel
theorem dX7_climb_1 : decode cX7_climb 1 = .ok (.i2l, 1) := by decide +kernel
theorem dX7_climb_2 : decode cX7_climb 2 = .ok (.lconst 0, 1) := by decide +kernel
theorem dX7_climb_3 : decode cX7_climb 3 = .ok (.aload_n 0, 1) := by decide +kernel
theorem dX7_climb_4 : decode cX7_climb 4 = .ok (.invokevirtual 113, 3) := by decide +kernel
theorem dX7_climb_7 : decode cX7_climb 7 = .ok (.iconst 1, 1) := by decide +kernel
theorem dX7_climb_8 : decode cX7_climb 8 = .ok (.isub, 1) := by decide +kernel
theorem dX7_climb_9 : decode cX7_climb 9 = .ok (.i2l, 1) := by decide +kernel
theorem dX7_climb_10 : decode cX7_climb 10 = .ok (.invokestatic 82, 3) := by decide +kernel
theorem dX7_climb_13 : decode cX7_climb 13 = .ok (.ifCond .ne 6, 3) := by decide +kernel
theorem dX7_climb_16 : decode cX7_climb 16 = .ok (.ldc 112, 2) := by decide +kernel
theorem dX7_climb_18 : decode cX7_climb 18 = .ok (.ireturn, 1) := by decide +kernel
theorem dX7_climb_19 : decode cX7_climb 19 = .ok (.aload_n 0, 1) := by decide +kernel
theorem dX7_climb_20 : decode cX7_climb 20 = .ok (.iload_n 1, 1) := by decide +kernel
theorem dX7_climb_21 : decode cX7_climb 21 = .ok (.invokevirtual 162, 3) := by decide +kernel
theorem dX7_climb_24 : decode cX7_climb 24 = .ok (.aload_n 0, 1) := by decide +kernel
theorem dX7_climb_25 : decode cX7_climb 25 = .ok (.getfield 89, 3) := by decide +kernel
theorem dX7_climb_28 : decode cX7_climb 28 = .ok (.ifCond .eq 10, 3) := by decide +kernel
theorem dX7_climb_31 : decode cX7_climb 31 = .ok (.aload_n 0, 1) := by decide +kernel
theorem dX7_climb_32 : decode cX7_climb 32 = .ok (.invokevirtual 166, 3) := by decide +kernel
theorem dX7_climb_35 : decode cX7_climb 35 = .ok (.ifCond .ne 6, 3) := by decide +kernel
theorem dX7_climb_38 : decode cX7_climb 38 = .ok (.ldc 161, 2) := by decide +kernel
theorem dX7_climb_40 : decode cX7_climb 40 = .ok (.ireturn, 1) := by decide +kernel
theorem dX7_climb_41 : decode cX7_climb 41 = .ok (.iconst 0, 1) := by decide +kernel
theorem dX7_climb_42 : decode cX7_climb 42 = .ok (.istore_n 2, 1) := by decide +kernel
theorem dX7_climb_43 : decode cX7_climb 43 = .ok (.iconst 1, 1) := by decide +kernel
theorem dX7_climb_44 : decode cX7_climb 44 = .ok (.istore_n 3, 1) := by decide +kernel
theorem dX7_climb_45 : decode cX7_climb 45 = .ok (.iload_n 3, 1) := by decide +kernel
theorem dX7_climb_46 : decode cX7_climb 46 = .ok (.ifCond .eq 55, 3) := by decide +kernel
theorem dX7_climb_49 : decode cX7_climb 49 = .ok (.iconst 0, 1) := by decide +kernel
theorem dX7_climb_50 : decode cX7_climb 50 = .ok (.istore 4, 2) := by decide +kernel
theorem dX7_climb_52 : decode cX7_climb 52 = .ok (.iload 4, 2) := by decide +kernel
theorem dX7_climb_54 : decode cX7_climb 54 = .ok (.aload_n 0, 1) := by decide +kernel
theorem dX7_climb_55 : decode cX7_climb 55 = .ok (.getfield 89, 3) := by decide +kernel
theorem dX7_climb_58 : decode cX7_climb 58 = .ok (.if_icmp .ge 23, 3) := by decide +kernel
theorem dX7_climb_61 : decode cX7_climb 61 = .ok (.aload_n 0, 1) := by decide +kernel
theorem dX7_climb_62 : decode cX7_climb 62 = .ok (.getfield 75, 3) := by decide +kernel
theorem dX7_climb_65 : decode cX7_climb 65 = .ok (.iload 4, 2) := by decide +kernel
theorem dX7_climb_67 : decode cX7_climb 67 = .ok (.aload_n 0, 1) := by decide +kernel
theorem dX7_climb_68 : decode cX7_climb 68 = .ok (.getfield 52, 3) := by decide +kernel
theorem dX7_climb_71 : decode cX7_climb 71 = .ok (.iload 4, 2) := by decide +kernel
theorem dX7_climb_73 : decode cX7_climb 73 = .ok (.iaload, 1) := by decide +kernel
theorem dX7_climb_74 : decode cX7_climb 74 = .ok (.iastore, 1) := by decide +kernel
theorem dX7_climb_75 : decode cX7_climb 75 = .ok (.iinc 4 1, 3) := by decide +kernel
theorem dX7_climb_78 : decode cX7_climb 78 = .ok (.goto (-26), 3) := by decide +kernel
theorem dX7_climb_81 : decode cX7_climb 81 = .ok (.aload_n 0, 1) := by decide +kernel
theorem dX7_climb_82 : decode cX7_climb 82 = .ok (.invokevirtual 241, 3) := by decide +kernel
theorem dX7_climb_85 : decode cX7_climb 85 = .ok (.istore_n 3, 1) := by decide +kernel
theorem dX7_climb_86 : decode cX7_climb 86 = .ok (.iload_n 2, 1) := by decide +kernel
theorem dX7_climb_87 : decode cX7_climb 87 = .ok (.iload_n 3, 1) := by decide +kernel
theorem dX7_climb_88 : decode cX7_climb 88 = .ok (.ifCond .eq 7, 3) := by decide +kernel
theorem dX7_climb_91 : decode cX7_climb 91 = .ok (.iconst 1, 1) := by decide +kernel
theorem dX7_climb_92 : decode cX7_climb 92 = .ok (.goto 4, 3) := by decide +kernel
theorem dX7_climb_95 : decode cX7_climb 95 = .ok (.iconst 0, 1) := by decide +kernel
theorem dX7_climb_96 : decode cX7_climb 96 = .ok (.iadd, 1) := by decide +kernel
theorem dX7_climb_97 : decode cX7_climb 97 = .ok (.istore_n 2, 1) := by decide +kernel
theorem dX7_climb_98 : decode cX7_climb 98 = .ok (.goto (-53), 3) := by decide +kernel
theorem dX7_climb_101 : decode cX7_climb 101 = .ok (.iconst 0, 1) := by decide +kernel
theorem dX7_climb_102 : decode cX7_climb 102 = .ok (.istore 4, 2) := by decide +kernel
theorem dX7_climb_104 : decode cX7_climb 104 = .ok (.iload 4, 2) := by decide +kernel
theorem dX7_climb_106 : decode cX7_climb 106 = .ok (.aload_n 0, 1) := by decide +kernel
theorem dX7_climb_107 : decode cX7_climb 107 = .ok (.getfield 78, 3) := by decide +kernel
theorem dX7_climb_110 : decode cX7_climb 110 = .ok (.if_icmp .ge 23, 3) := by decide +kernel
theorem dX7_climb_113 : decode cX7_climb 113 = .ok (.aload_n 0, 1) := by decide +kernel
theorem dX7_climb_114 : decode cX7_climb 114 = .ok (.getfield 46, 3) := by decide +kernel
theorem dX7_climb_117 : decode cX7_climb 117 = .ok (.iload 4, 2) := by decide +kernel
theorem dX7_climb_119 : decode cX7_climb 119 = .ok (.aload_n 0, 1) := by decide +kernel
theorem dX7_climb_120 : decode cX7_climb 120 = .ok (.getfield 49, 3) := by decide +kernel
theorem dX7_climb_123 : decode cX7_climb 123 = .ok (.iload 4, 2) := by decide +kernel
theorem dX7_climb_125 : decode cX7_climb 125 = .ok (.iaload, 1) := by decide +kernel
theorem dX7_climb_126 : decode cX7_climb 126 = .ok (.iastore, 1) := by decide +kernel
theorem dX7_climb_127 : decode cX7_climb 127 = .ok (.iinc 4 1, 3) := by decide +kernel
theorem dX7_climb_130 : decode cX7_climb 130 = .ok (.goto (-26), 3) := by decide +kernel
theorem dX7_climb_133 : decode cX7_climb 133 = .ok (.aload_n 0, 1) := by decide +kernel
theorem dX7_climb_134 : decode cX7_climb 134 = .ok (.iconst 1, 1) := by decide +kernel
theorem dX7_climb_135 : decode cX7_climb 135 = .ok (.putfield 104, 3) := by decide +kernel
theorem dX7_climb_138 : decode cX7_climb 138 = .ok (.iload_n 2, 1) := by decide +kernel
theorem dX7_climb_139 : decode cX7_climb 139 = .ok (.ireturn, 1) := by decide +kernel
set_option maxRecDepth 20000 in
theorem ggX7_climbed_X7_isColumn : GoodIn wsX7_climbed wsX7_isColumn := goodIn_r _ [9, 10, 11, 12, 8, 13, 14, 15, 16, 17, 18, 19, 20, 21, 22, 23, 24, 25, 26, 27, 28, 29, 30, 31, 32, 33, 34, 35, 36, 37, 38, 39, 40, 41, 42, 43] (by decide +kernel) (by decide +kernel)
set_option maxRecDepth 20000 in
theorem gX7_climbed_X7_isColumn : GoodIn wsX7_climbed (wsV RX7 129 RX7 yX7_isColumn wsX7_isColumn) := goodIn_app (goodIn_of _ (by decide +kernel)) ggX7_climbed_X7_isColumn
theorem dX7_climbed_0 : decode cX7_climbed 0 = .ok (.aload_n 0, 1) := by decide +kernel
theorem dX7_climbed_1 : decode cX7_climbed 1 = .ok (.iload_n 1, 1) := by decide +kernel
theorem dX7_climbed_2 : decode cX7_climbed 2 = .ok (.invokevirtual 129, 3) := by decide +kernel
theorem dX7_climbed_5 : decode cX7_climbed 5 = .ok (.ifCond .ne 8, 3) := by decide +kernel
theorem dX7_climbed_8 : decode cX7_climbed 8 = .ok (.ldc 112, 2) := by decide +kernel
theorem dX7_climbed_10 : decode cX7_climbed 10 = .ok (.goto 21, 3) := by decide +kernel
theorem dX7_climbed_13 : decode cX7_climbed 13 = .ok (.aload_n 0, 1) := by decide +kernel
theorem dX7_climbed_14 : decode cX7_climbed 14 = .ok (.getfield 104, 3) := by decide +kernel
theorem dX7_climbed_17 : decode cX7_climbed 17 = .ok (.ifCond .ne 8, 3) := by decide +kernel
theorem dX7_climbed_20 : decode cX7_climbed 20 = .ok (.ldc 161, 2) := by decide +kernel
theorem dX7_climbed_22 : decode cX7_climbed 22 = .ok (.goto 9, 3) := by decide +kernel
theorem dX7_climbed_25 : decode cX7_climbed 25 = .ok (.aload_n 0, 1) := by decide +kernel
theorem dX7_climbed_26 : decode cX7_climbed 26 = .ok (.getfield 46, 3) := by decide +kernel
theorem dX7_climbed_29 : decode cX7_climbed 29 = .ok (.iload_n 1, 1) := by decide +kernel
theorem dX7_climbed_30 : decode cX7_climbed 30 = .ok (.iaload, 1) := by decide +kernel
theorem dX7_climbed_31 : decode cX7_climbed 31 = .ok (.ireturn, 1) := by decide +kernel
theorem dJ9_max_7cf53_0 : decode cJ9_max_7cf53 0 = .ok (.iload_n 0, 1) := by decide +kernel
theorem dJ9_max_7cf53_1 : decode cJ9_max_7cf53 1 = .ok (.iload_n 1, 1) := by decide +kernel
theorem dJ9_max_7cf53_2 : decode cJ9_max_7cf53 2 = .ok (.if_icmp .lt 7, 3) := by decide +kernel
theorem dJ9_max_7cf53_5 : decode cJ9_max_7cf53 5 = .ok (.iload_n 0, 1) := by decide +kernel
theorem dJ9_max_7cf53_6 : decode cJ9_max_7cf53 6 = .ok (.goto 4, 3) := by decide +kernel
theorem dJ9_max_7cf53_9 : decode cJ9_max_7cf53 9 = .ok (.iload_n 1, 1) := by decide +kernel
theorem dJ9_max_7cf53_10 : decode cJ9_max_7cf53 10 = .ok (.ireturn, 1) := by decide +kernel
theorem dJ9_max_f86c9_0 : decode cJ9_max_f86c9 0 = .ok (.lload_n 0, 1) := by decide +kernel
theorem dJ9_max_f86c9_1 : decode cJ9_max_f86c9 1 = .ok (.lload_n 2, 1) := by decide +kernel
theorem dJ9_max_f86c9_2 : decode cJ9_max_f86c9 2 = .ok (.lcmp, 1) := by decide +kernel
theorem dJ9_max_f86c9_3 : decode cJ9_max_f86c9 3 = .ok (.ifCond .lt 7, 3) := by decide +kernel
theorem dJ9_max_f86c9_6 : decode cJ9_max_f86c9 6 = .ok (.lload_n 0, 1) := by decide +kernel
theorem dJ9_max_f86c9_7 : decode cJ9_max_f86c9 7 = .ok (.goto 4, 3) := by decide +kernel
theorem dJ9_max_f86c9_10 : decode cJ9_max_f86c9 10 = .ok (.lload_n 2, 1) := by decide +kernel
theorem dJ9_max_f86c9_11 : decode cJ9_max_f86c9 11 = .ok (.lreturn, 1) := by decide +kernel
theorem dJ9_min_7cf53_0 : decode cJ9_min_7cf53 0 = .ok (.iload_n 0, 1) := by decide +kernel
theorem dJ9_min_7cf53_1 : decode cJ9_min_7cf53 1 = .ok (.iload_n 1, 1) := by decide +kernel
theorem dJ9_min_7cf53_2 : decode cJ9_min_7cf53 2 = .ok (.if_icmp .gt 7, 3) := by decide +kernel
theorem dJ9_min_7cf53_5 : decode cJ9_min_7cf53 5 = .ok (.iload_n 0, 1) := by decide +kernel
theorem dJ9_min_7cf53_6 : decode cJ9_min_7cf53 6 = .ok (.goto 4, 3) := by decide +kernel
theorem dJ9_min_7cf53_9 : decode cJ9_min_7cf53 9 = .ok (.iload_n 1, 1) := by decide +kernel
theorem dJ9_min_7cf53_10 : decode cJ9_min_7cf53 10 = .ok (.ireturn, 1) := by decide +kernel
theorem dJ7_fill_53178_0 : decode cJ7_fill_53178 0 = .ok (.iconst 0, 1) := by decide +kernel
theorem dJ7_fill_53178_1 : decode cJ7_fill_53178 1 = .ok (.istore_n 2, 1) := by decide +kernel
theorem dJ7_fill_53178_2 : decode cJ7_fill_53178 2 = .ok (.aload_n 0, 1) := by decide +kernel
theorem dJ7_fill_53178_3 : decode cJ7_fill_53178 3 = .ok (.arraylength, 1) := by decide +kernel
theorem dJ7_fill_53178_4 : decode cJ7_fill_53178 4 = .ok (.istore_n 3, 1) := by decide +kernel
theorem dJ7_fill_53178_5 : decode cJ7_fill_53178 5 = .ok (.iload_n 2, 1) := by decide +kernel
theorem dJ7_fill_53178_6 : decode cJ7_fill_53178 6 = .ok (.iload_n 3, 1) := by decide +kernel
theorem dJ7_fill_53178_7 : decode cJ7_fill_53178 7 = .ok (.if_icmp .ge 13, 3) := by decide +kernel
theorem dJ7_fill_53178_10 : decode cJ7_fill_53178 10 = .ok (.aload_n 0, 1) := by decide +kernel
theorem dJ7_fill_53178_11 : decode cJ7_fill_53178 11 = .ok (.iload_n 2, 1) := by decide +kernel
theorem dJ7_fill_53178_12 : decode cJ7_fill_53178 12 = .ok (.iload_n 1, 1) := by decide +kernel
theorem dJ7_fill_53178_13 : decode cJ7_fill_53178 13 = .ok (.iastore, 1) := by decide +kernel
theorem dJ7_fill_53178_14 : decode cJ7_fill_53178 14 = .ok (.iinc 2 1, 3) := by decide +kernel
theorem dJ7_fill_53178_17 : decode cJ7_fill_53178 17 = .ok (.goto (-12), 3) := by decide +kernel
theorem dJ7_fill_53178_20 : decode cJ7_fill_53178 20 = .ok (.return_, 1) := by decide +kernel
