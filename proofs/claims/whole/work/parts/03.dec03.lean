theorem dX9_seen_4 : decode cX9_seen 4 = .ok (.ifCond .eq 62, 3) := by decide +kernel
theorem dX9_seen_7 : decode cX9_seen 7 = .ok (.iload_n 2, 1) := by decide +kernel
theorem dX9_seen_8 : decode cX9_seen 8 = .ok (.invokestatic 289, 3) := by decide +kernel
theorem dX9_seen_11 : decode cX9_seen 11 = .ok (.ifCond .eq 55, 3) := by decide +kernel
theorem dX9_seen_14 : decode cX9_seen 14 = .ok (.iload 4, 2) := by decide +kernel
theorem dX9_seen_16 : decode cX9_seen 16 = .ok (.iconst 1, 1) := by decide +kernel
theorem dX9_seen_17 : decode cX9_seen 17 = .ok (.iconst 4, 1) := by decide +kernel
theorem dX9_seen_18 : decode cX9_seen 18 = .ok (.invokestatic 91, 3) := by decide +kernel
theorem dX9_seen_21 : decode cX9_seen 21 = .ok (.ifCond .eq 45, 3) := by decide +kernel
theorem dX9_seen_24 : decode cX9_seen 24 = .ok (.iload 5, 2) := by decide +kernel
theorem dX9_seen_26 : decode cX9_seen 26 = .ok (.invokestatic 239, 3) := by decide +kernel
theorem dX9_seen_29 : decode cX9_seen 29 = .ok (.ifCond .eq 37, 3) := by decide +kernel
theorem dX9_seen_32 : decode cX9_seen 32 = .ok (.iload 6, 2) := by decide +kernel
theorem dX9_seen_34 : decode cX9_seen 34 = .ok (.iconst 1, 1) := by decide +kernel
theorem dX9_seen_35 : decode cX9_seen 35 = .ok (.iconst 4, 1) := by decide +kernel
theorem dX9_seen_36 : decode cX9_seen 36 = .ok (.invokestatic 91, 3) := by decide +kernel
theorem dX9_seen_39 : decode cX9_seen 39 = .ok (.ifCond .eq 27, 3) := by decide +kernel
theorem dX9_seen_42 : decode cX9_seen 42 = .ok (.iload 7, 2) := by decide +kernel
theorem dX9_seen_44 : decode cX9_seen 44 = .ok (.iconst 0, 1) := by decide +kernel
theorem dX9_seen_45 : decode cX9_seen 45 = .ok (.bipush 99, 2) := by decide +kernel
theorem dX9_seen_47 : decode cX9_seen 47 = .ok (.invokestatic 91, 3) := by decide +kernel
theorem dX9_seen_50 : decode cX9_seen 50 = .ok (.ifCond .eq 16, 3) := by decide +kernel
theorem dX9_seen_53 : decode cX9_seen 53 = .ok (.iload 8, 2) := by decide +kernel
theorem dX9_seen_55 : decode cX9_seen 55 = .ok (.iconst (-1), 1) := by decide +kernel
theorem dX9_seen_56 : decode cX9_seen 56 = .ok (.iload 4, 2) := by decide +kernel
theorem dX9_seen_58 : decode cX9_seen 58 = .ok (.iconst 1, 1) := by decide +kernel
theorem dX9_seen_59 : decode cX9_seen 59 = .ok (.isub, 1) := by decide +kernel
theorem dX9_seen_60 : decode cX9_seen 60 = .ok (.invokestatic 91, 3) := by decide +kernel
theorem dX9_seen_63 : decode cX9_seen 63 = .ok (.ifCond .ne 5, 3) := by decide +kernel
theorem dX9_seen_66 : decode cX9_seen 66 = .ok (.iconst (-1), 1) := by decide +kernel
theorem dX9_seen_67 : decode cX9_seen 67 = .ok (.ireturn, 1) := by decide +kernel
theorem dX9_seen_68 : decode cX9_seen 68 = .ok (.aload_n 0, 1) := by decide +kernel
theorem dX9_seen_69 : decode cX9_seen 69 = .ok (.getfield 83, 3) := by decide +kernel
theorem dX9_seen_72 : decode cX9_seen 72 = .ok (.iload_n 1, 1) := by decide +kernel
theorem dX9_seen_73 : decode cX9_seen 73 = .ok (.iload_n 2, 1) := by decide +kernel
theorem dX9_seen_74 : decode cX9_seen 74 = .ok (.iload_n 3, 1) := by decide +kernel
theorem dX9_seen_75 : decode cX9_seen 75 = .ok (.iload 4, 2) := by decide +kernel
theorem dX9_seen_77 : decode cX9_seen 77 = .ok (.invokevirtual 292, 3) := by decide +kernel
theorem dX9_seen_80 : decode cX9_seen 80 = .ok (.istore 9, 2) := by decide +kernel
theorem dX9_seen_82 : decode cX9_seen 82 = .ok (.iload 9, 2) := by decide +kernel
theorem dX9_seen_84 : decode cX9_seen 84 = .ok (.ifCond .eq 6, 3) := by decide +kernel
theorem dX9_seen_87 : decode cX9_seen 87 = .ok (.iload 9, 2) := by decide +kernel
theorem dX9_seen_89 : decode cX9_seen 89 = .ok (.ireturn, 1) := by decide +kernel
theorem dX9_seen_90 : decode cX9_seen 90 = .ok (.iconst 0, 1) := by decide +kernel
theorem dX9_seen_91 : decode cX9_seen 91 = .ok (.istore 10, 2) := by decide +kernel
theorem dX9_seen_93 : decode cX9_seen 93 = .ok (.iload 10, 2) := by decide +kernel
theorem dX9_seen_95 : decode cX9_seen 95 = .ok (.iload 4, 2) := by decide +kernel
theorem dX9_seen_97 : decode cX9_seen 97 = .ok (.if_icmp .ge 55, 3) := by decide +kernel
theorem dX9_seen_100 : decode cX9_seen 100 = .ok (.aload_n 0, 1) := by decide +kernel
theorem dX9_seen_101 : decode cX9_seen 101 = .ok (.getfield 83, 3) := by decide +kernel
theorem dX9_seen_104 : decode cX9_seen 104 = .ok (.iload_n 1, 1) := by decide +kernel
theorem dX9_seen_105 : decode cX9_seen 105 = .ok (.iload_n 3, 1) := by decide +kernel
theorem dX9_seen_106 : decode cX9_seen 106 = .ok (.iload 10, 2) := by decide +kernel
theorem dX9_seen_108 : decode cX9_seen 108 = .ok (.iadd, 1) := by decide +kernel
theorem dX9_seen_109 : decode cX9_seen 109 = .ok (.invokevirtual 296, 3) := by decide +kernel
theorem dX9_seen_112 : decode cX9_seen 112 = .ok (.lstore 11, 2) := by decide +kernel
theorem dX9_seen_114 : decode cX9_seen 114 = .ok (.lload 11, 2) := by decide +kernel
theorem dX9_seen_116 : decode cX9_seen 116 = .ok (.lconst 1, 1) := by decide +kernel
theorem dX9_seen_117 : decode cX9_seen 117 = .ok (.lcmp, 1) := by decide +kernel
theorem dX9_seen_118 : decode cX9_seen 118 = .ok (.ifCond .lt 12, 3) := by decide +kernel
theorem dX9_seen_121 : decode cX9_seen 121 = .ok (.lload 11, 2) := by decide +kernel
theorem dX9_seen_123 : decode cX9_seen 123 = .ok (.ldc2_w 300, 3) := by decide +kernel
theorem dX9_seen_126 : decode cX9_seen 126 = .ok (.lcmp, 1) := by decide +kernel
theorem dX9_seen_127 : decode cX9_seen 127 = .ok (.ifCond .le 6, 3) := by decide +kernel
theorem dX9_seen_130 : decode cX9_seen 130 = .ok (.bipush (-2), 2) := by decide +kernel
theorem dX9_seen_132 : decode cX9_seen 132 = .ok (.ireturn, 1) := by decide +kernel
theorem dX9_seen_133 : decode cX9_seen 133 = .ok (.aload_n 0, 1) := by decide +kernel
theorem dX9_seen_134 : decode cX9_seen 134 = .ok (.getfield 53, 3) := by decide +kernel
theorem dX9_seen_137 : decode cX9_seen 137 = .ok (.getfield 302, 3) := by decide +kernel
theorem dX9_seen_140 : decode cX9_seen 140 = .ok (.iload 10, 2) := by decide +kernel
theorem dX9_seen_142 : decode cX9_seen 142 = .ok (.lload 11, 2) := by decide +kernel
theorem dX9_seen_144 : decode cX9_seen 144 = .ok (.l2i, 1) := by decide +kernel
theorem dX9_seen_145 : decode cX9_seen 145 = .ok (.iastore, 1) := by decide +kernel
theorem dX9_seen_146 : decode cX9_seen 146 = .ok (.iinc 10 1, 3) := by decide +kernel
theorem dX9_seen_149 : decode cX9_seen 149 = .ok (.goto (-56), 3) := by decide +kernel
theorem dX9_seen_152 : decode cX9_seen 152 = .ok (.aload_n 0, 1) := by decide +kernel
theorem dX9_seen_153 : decode cX9_seen 153 = .ok (.getfield 53, 3) := by decide +kernel
theorem dX9_seen_156 : decode cX9_seen 156 = .ok (.iload 4, 2) := by decide +kernel
theorem dX9_seen_158 : decode cX9_seen 158 = .ok (.iload 5, 2) := by decide +kernel
theorem dX9_seen_160 : decode cX9_seen 160 = .ok (.iload 6, 2) := by decide +kernel
theorem dX9_seen_162 : decode cX9_seen 162 = .ok (.iload 7, 2) := by decide +kernel
theorem dX9_seen_164 : decode cX9_seen 164 = .ok (.invokevirtual 303, 3) := by decide +kernel
theorem dX9_seen_167 : decode cX9_seen 167 = .ok (.istore 10, 2) := by decide +kernel
theorem dX9_seen_169 : decode cX9_seen 169 = .ok (.iload 10, 2) := by decide +kernel
theorem dX9_seen_171 : decode cX9_seen 171 = .ok (.ifCond .ne 6, 3) := by decide +kernel
theorem dX9_seen_174 : decode cX9_seen 174 = .ok (.bipush (-4), 2) := by decide +kernel
theorem dX9_seen_176 : decode cX9_seen 176 = .ok (.ireturn, 1) := by decide +kernel
theorem dX9_seen_177 : decode cX9_seen 177 = .ok (.iload 8, 2) := by decide +kernel
theorem dX9_seen_179 : decode cX9_seen 179 = .ok (.iconst (-1), 1) := by decide +kernel
theorem dX9_seen_180 : decode cX9_seen 180 = .ok (.if_icmp .ne 8, 3) := by decide +kernel
theorem dX9_seen_183 : decode cX9_seen 183 = .ok (.iload 10, 2) := by decide +kernel
theorem dX9_seen_185 : decode cX9_seen 185 = .ok (.goto 13, 3) := by decide +kernel
theorem dX9_seen_188 : decode cX9_seen 188 = .ok (.aload_n 0, 1) := by decide +kernel
theorem dX9_seen_189 : decode cX9_seen 189 = .ok (.getfield 53, 3) := by decide +kernel
theorem dX9_seen_192 : decode cX9_seen 192 = .ok (.getfield 306, 3) := by decide +kernel
theorem dX9_seen_195 : decode cX9_seen 195 = .ok (.iload 8, 2) := by decide +kernel
theorem dX9_seen_197 : decode cX9_seen 197 = .ok (.iaload, 1) := by decide +kernel
theorem dX9_seen_198 : decode cX9_seen 198 = .ok (.ireturn, 1) := by decide +kernel
set_option maxRecDepth 20000 in
theorem ggX9_sheet_X9_isSheet : GoodIn wsX9_sheet wsX9_isSheet := goodIn_r _ [5, 6, 7, 4, 8] (by decide +kernel) (by decide +kernel)
set_option maxRecDepth 20000 in
theorem gX9_sheet_X9_isSheet : GoodIn wsX9_sheet (va_wsS RX9 286 yX9_isSheet wsX9_isSheet) := goodIn_app (goodIn_of _ (by decide +kernel)) ggX9_sheet_X9_isSheet
set_option maxRecDepth 20000 in
theorem ggX9_sheet_X9_isLane : GoodIn wsX9_sheet wsX9_isLane := goodIn_r _ [11, 6, 7, 4, 8] (by decide +kernel) (by decide +kernel)
set_option maxRecDepth 20000 in
theorem gX9_sheet_X9_isLane : GoodIn wsX9_sheet (va_wsS RX9 289 yX9_isLane wsX9_isLane) := goodIn_app (goodIn_of _ (by decide +kernel)) ggX9_sheet_X9_isLane
set_option maxRecDepth 20000 in
theorem ggX9_sheet_X5_lay : GoodIn wsX9_sheet wsX5_lay := goodIn_r _ [16, 17, 18, 19, 34, 35, 36] (by decide +kernel) (by decide +kernel)
set_option maxRecDepth 20000 in
theorem gX9_sheet_X5_lay : GoodIn wsX9_sheet (wsV RX9 309 RX5 yX5_lay wsX5_lay) := goodIn_app (goodIn_of _ (by decide +kernel)) ggX9_sheet_X5_lay
theorem dX9_sheet_0 : decode cX9_sheet 0 = .ok (.iload_n 1, 1) := by decide +kernel
theorem dX9_sheet_1 : decode cX9_sheet 1 = .ok (.invokestatic 286, 3) := by decide +kernel
theorem dX9_sheet_4 : decode cX9_sheet 4 = .ok (.ifCond .eq 16, 3) := by decide +kernel
theorem dX9_sheet_7 : decode cX9_sheet 7 = .ok (.iload_n 2, 1) := by decide +kernel
theorem dX9_sheet_8 : decode cX9_sheet 8 = .ok (.invokestatic 289, 3) := by decide +kernel
theorem dX9_sheet_11 : decode cX9_sheet 11 = .ok (.ifCond .eq 9, 3) := by decide +kernel
theorem dX9_sheet_14 : decode cX9_sheet 14 = .ok (.iload_n 3, 1) := by decide +kernel
theorem dX9_sheet_15 : decode cX9_sheet 15 = .ok (.bipush 24, 2) := by decide +kernel
theorem dX9_sheet_17 : decode cX9_sheet 17 = .ok (.if_icmp .le 5, 3) := by decide +kernel
theorem dX9_sheet_20 : decode cX9_sheet 20 = .ok (.iconst (-1), 1) := by decide +kernel
theorem dX9_sheet_21 : decode cX9_sheet 21 = .ok (.ireturn, 1) := by decide +kernel
theorem dX9_sheet_22 : decode cX9_sheet 22 = .ok (.iload_n 3, 1) := by decide +kernel
theorem dX9_sheet_23 : decode cX9_sheet 23 = .ok (.ifCond .ge 6, 3) := by decide +kernel
theorem dX9_sheet_26 : decode cX9_sheet 26 = .ok (.bipush (-14), 2) := by decide +kernel
theorem dX9_sheet_28 : decode cX9_sheet 28 = .ok (.ireturn, 1) := by decide +kernel
theorem dX9_sheet_29 : decode cX9_sheet 29 = .ok (.aload_n 0, 1) := by decide +kernel
theorem dX9_sheet_30 : decode cX9_sheet 30 = .ok (.getfield 83, 3) := by decide +kernel
theorem dX9_sheet_33 : decode cX9_sheet 33 = .ok (.iload_n 1, 1) := by decide +kernel
theorem dX9_sheet_34 : decode cX9_sheet 34 = .ok (.iload_n 2, 1) := by decide +kernel
theorem dX9_sheet_35 : decode cX9_sheet 35 = .ok (.iload_n 3, 1) := by decide +kernel
theorem dX9_sheet_36 : decode cX9_sheet 36 = .ok (.invokevirtual 309, 3) := by decide +kernel
theorem dX9_sheet_39 : decode cX9_sheet 39 = .ok (.iload_n 3, 1) := by decide +kernel
theorem dX9_sheet_40 : decode cX9_sheet 40 = .ok (.ireturn, 1) := by decide +kernel
set_option maxRecDepth 20000 in
theorem ggX9_drop_X9_isSheet : GoodIn wsX9_drop wsX9_isSheet := goodIn_r _ [7, 8, 9, 6, 10] (by decide +kernel) (by decide +kernel)
set_option maxRecDepth 20000 in
theorem gX9_drop_X9_isSheet : GoodIn wsX9_drop (va_wsS RX9 286 yX9_isSheet wsX9_isSheet) := goodIn_app (goodIn_of _ (by decide +kernel)) ggX9_drop_X9_isSheet
theorem dX9_drop_0 : decode cX9_drop 0 = .ok (.iload_n 1, 1) := by decide +kernel
theorem dX9_drop_1 : decode cX9_drop 1 = .ok (.invokestatic 286, 3) := by decide +kernel
theorem dX9_drop_4 : decode cX9_drop 4 = .ok (.ifCond .ne 5, 3) := by decide +kernel
theorem dX9_drop_7 : decode cX9_drop 7 = .ok (.iconst (-1), 1) := by decide +kernel
theorem dX9_drop_8 : decode cX9_drop 8 = .ok (.ireturn, 1) := by decide +kernel
theorem dX9_drop_9 : decode cX9_drop 9 = .ok (.aload_n 0, 1) := by decide +kernel
theorem dX9_drop_10 : decode cX9_drop 10 = .ok (.getfield 83, 3) := by decide +kernel
theorem dX9_drop_13 : decode cX9_drop 13 = .ok (.getfield 312, 3) := by decide +kernel
theorem dX9_drop_16 : decode cX9_drop 16 = .ok (.iload_n 1, 1) := by decide +kernel
theorem dX9_drop_17 : decode cX9_drop 17 = .ok (.iaload, 1) := by decide +kernel
theorem dX9_drop_18 : decode cX9_drop 18 = .ok (.iconst (-1), 1) := by decide +kernel
theorem dX9_drop_19 : decode cX9_drop 19 = .ok (.if_icmp .ne 6, 3) := by decide +kernel
theorem dX9_drop_22 : decode cX9_drop 22 = .ok (.bipush (-11), 2) := by decide +kernel
theorem dX9_drop_24 : decode cX9_drop 24 = .ok (.ireturn, 1) := by decide +kernel
theorem dX9_drop_25 : decode cX9_drop 25 = .ok (.aload_n 0, 1) := by decide +kernel
theorem dX9_drop_26 : decode cX9_drop 26 = .ok (.getfield 83, 3) := by decide +kernel
theorem dX9_drop_29 : decode cX9_drop 29 = .ok (.getfield 312, 3) := by decide +kernel
theorem dX9_drop_32 : decode cX9_drop 32 = .ok (.iload_n 1, 1) := by decide +kernel
theorem dX9_drop_33 : decode cX9_drop 33 = .ok (.iconst (-1), 1) := by decide +kernel
theorem dX9_drop_34 : decode cX9_drop 34 = .ok (.iastore, 1) := by decide +kernel
theorem dX9_drop_35 : decode cX9_drop 35 = .ok (.aload_n 0, 1) := by decide +kernel
theorem dX9_drop_36 : decode cX9_drop 36 = .ok (.getfield 83, 3) := by decide +kernel
theorem dX9_drop_39 : decode cX9_drop 39 = .ok (.getfield 315, 3) := by decide +kernel
theorem dX9_drop_42 : decode cX9_drop 42 = .ok (.iload_n 1, 1) := by decide +kernel
theorem dX9_drop_43 : decode cX9_drop 43 = .ok (.iaload, 1) := by decide +kernel
theorem dX9_drop_44 : decode cX9_drop 44 = .ok (.ireturn, 1) := by decide +kernel
set_option maxRecDepth 20000 in
theorem ggX9_item_X9_isSheet : GoodIn wsX9_item wsX9_isSheet := goodIn_r _ [5, 6, 7, 4, 8] (by decide +kernel) (by decide +kernel)
set_option maxRecDepth 20000 in
theorem gX9_item_X9_isSheet : GoodIn wsX9_item (va_wsS RX9 286 yX9_isSheet wsX9_isSheet) := goodIn_app (goodIn_of _ (by decide +kernel)) ggX9_item_X9_isSheet
set_option maxRecDepth 20000 in
theorem ggX9_item_X9_isLane : GoodIn wsX9_item wsX9_isLane := goodIn_r _ [11, 6, 7, 4, 8] (by decide +kernel) (by decide +kernel)
set_option maxRecDepth 20000 in
theorem gX9_item_X9_isLane : GoodIn wsX9_item (va_wsS RX9 289 yX9_isLane wsX9_isLane) := goodIn_app (goodIn_of _ (by decide +kernel)) ggX9_item_X9_isLane
set_option maxRecDepth 20000 in
theorem ggX9_item_X5_refusal : GoodIn wsX9_item wsX5_refusal := goodIn_r _ [16, 17, 18, 38, 39, 40] (by decide +kernel) (by decide +kernel)
set_option maxRecDepth 20000 in
theorem gX9_item_X5_refusal : GoodIn wsX9_item (wsV RX9 292 RX5 yX5_refusal wsX5_refusal) := goodIn_app (goodIn_of _ (by decide +kernel)) ggX9_item_X5_refusal
set_option maxRecDepth 20000 in
theorem ggX9_item_X5_write : GoodIn wsX9_item wsX5_write := goodIn_r _ [22, 17, 23, 38, 39, 40] (by decide +kernel) (by decide +kernel)
set_option maxRecDepth 20000 in
theorem gX9_item_X5_write : GoodIn wsX9_item (wsV RX9 317 RX5 yX5_write wsX5_write) := goodIn_app (goodIn_of _ (by decide +kernel)) ggX9_item_X5_write
theorem dX9_item_0 : decode cX9_item 0 = .ok (.iload_n 1, 1) := by decide +kernel
theorem dX9_item_1 : decode cX9_item 1 = .ok (.invokestatic 286, 3) := by decide +kernel
theorem dX9_item_4 : decode cX9_item 4 = .ok (.ifCond .eq 10, 3) := by decide +kernel
theorem dX9_item_7 : decode cX9_item 7 = .ok (.iload_n 2, 1) := by decide +kernel
theorem dX9_item_8 : decode cX9_item 8 = .ok (.invokestatic 289, 3) := by decide +kernel
theorem dX9_item_11 : decode cX9_item 11 = .ok (.ifCond .ne 5, 3) := by decide +kernel
theorem dX9_item_14 : decode cX9_item 14 = .ok (.iconst (-1), 1) := by decide +kernel
theorem dX9_item_15 : decode cX9_item 15 = .ok (.ireturn, 1) := by decide +kernel
theorem dX9_item_16 : decode cX9_item 16 = .ok (.aload_n 0, 1) := by decide +kernel
theorem dX9_item_17 : decode cX9_item 17 = .ok (.getfield 83, 3) := by decide +kernel
theorem dX9_item_20 : decode cX9_item 20 = .ok (.iload_n 1, 1) := by decide +kernel
theorem dX9_item_21 : decode cX9_item 21 = .ok (.iload_n 2, 1) := by decide +kernel
theorem dX9_item_22 : decode cX9_item 22 = .ok (.iload_n 3, 1) := by decide +kernel
theorem dX9_item_23 : decode cX9_item 23 = .ok (.iconst 1, 1) := by decide +kernel
theorem dX9_item_24 : decode cX9_item 24 = .ok (.invokevirtual 292, 3) := by decide +kernel
theorem dX9_item_27 : decode cX9_item 27 = .ok (.istore 6, 2) := by decide +kernel
theorem dX9_item_29 : decode cX9_item 29 = .ok (.iload 6, 2) := by decide +kernel
theorem dX9_item_31 : decode cX9_item 31 = .ok (.ifCond .eq 6, 3) := by decide +kernel
theorem dX9_item_34 : decode cX9_item 34 = .ok (.iload 6, 2) := by decide +kernel
theorem dX9_item_36 : decode cX9_item 36 = .ok (.ireturn, 1) := by decide +kernel
theorem dX9_item_37 : decode cX9_item 37 = .ok (.aload_n 0, 1) := by decide +kernel
theorem dX9_item_38 : decode cX9_item 38 = .ok (.getfield 83, 3) := by decide +kernel
theorem dX9_item_41 : decode cX9_item 41 = .ok (.iload_n 1, 1) := by decide +kernel
theorem dX9_item_42 : decode cX9_item 42 = .ok (.iload_n 3, 1) := by decide +kernel
theorem dX9_item_43 : decode cX9_item 43 = .ok (.lload 4, 2) := by decide +kernel
theorem dX9_item_45 : decode cX9_item 45 = .ok (.invokevirtual 317, 3) := by decide +kernel
theorem dX9_item_48 : decode cX9_item 48 = .ok (.iconst 1, 1) := by decide +kernel
theorem dX9_item_49 : decode cX9_item 49 = .ok (.ireturn, 1) := by decide +kernel
set_option maxRecDepth 20000 in
theorem ggX9_film_X9_isHolder : GoodIn wsX9_film wsX9_isHolder := goodIn_r _ [9, 10, 11, 8, 12] (by decide +kernel) (by decide +kernel)
set_option maxRecDepth 20000 in
theorem gX9_film_X9_isHolder : GoodIn wsX9_film (va_wsS RX9 87 yX9_isHolder wsX9_isHolder) := goodIn_app (goodIn_of _ (by decide +kernel)) ggX9_film_X9_isHolder
set_option maxRecDepth 20000 in
theorem ggX9_film_X9_isSheet : GoodIn wsX9_film wsX9_isSheet := goodIn_r _ [15, 10, 11, 8, 12] (by decide +kernel) (by decide +kernel)
set_option maxRecDepth 20000 in
theorem gX9_film_X9_isSheet : GoodIn wsX9_film (va_wsS RX9 286 yX9_isSheet wsX9_isSheet) := goodIn_app (goodIn_of _ (by decide +kernel)) ggX9_film_X9_isSheet
set_option maxRecDepth 20000 in
theorem ggX9_film_X9_isLane : GoodIn wsX9_film wsX9_isLane := goodIn_r _ [18, 10, 11, 8, 12] (by decide +kernel) (by decide +kernel)
set_option maxRecDepth 20000 in
theorem gX9_film_X9_isLane : GoodIn wsX9_film (va_wsS RX9 289 yX9_isLane wsX9_isLane) := goodIn_app (goodIn_of _ (by decide +kernel)) ggX9_film_X9_isLane
set_option maxRecDepth 20000 in
theorem ggX9_film_X9_layOut : GoodIn wsX9_film wsX9_layOut := goodIn_r _ [22, 23, 4, 24, 1, 25, 26, 27, 28, 29, 30, 31, 32, 33, 34, 35, 36, 37, 38, 39, 40, 41, 42, 43, 44, 45, 46, 47, 48, 49, 50, 51, 52, 53, 54, 55, 56, 57, 58, 59, 60, 61, 62, 63, 64, 65, 66, 67, 68, 69, 70, 71, 72, 104, 105, 106, 107, 108, 109, 110, 111, 112, 113, 114, 115, 116, 117, 129, 130, 131, 132, 123, 124, 125, 126, 127, 128, 133, 134, 135, 136, 137, 138, 118, 119, 120, 121, 122] (by decide +kernel) (by decide +kernel)
set_option maxRecDepth 20000 in
theorem gX9_film_X9_layOut : GoodIn wsX9_film (wsV RX9 135 RX9 yX9_layOut wsX9_layOut) := goodIn_app (goodIn_of _ (by decide +kernel)) ggX9_film_X9_layOut
set_option maxRecDepth 20000 in
theorem ggX9_film_J13_bitCount_95d88 : GoodIn wsX9_film wsJ13_bitCount_95d88 := goodIn_r _ [76, 77, 78, 79] (by decide +kernel) (by decide +kernel)
set_option maxRecDepth 20000 in
theorem gX9_film_J13_bitCount_95d88 : GoodIn wsX9_film (va_wsS RX9 142 yJ13_bitCount_95d88 wsJ13_bitCount_95d88) := goodIn_app (goodIn_of _ (by decide +kernel)) ggX9_film_J13_bitCount_95d88
set_option maxRecDepth 20000 in
theorem ggX9_film_X5_refusal : GoodIn wsX9_film wsX5_refusal := goodIn_r _ [84, 85, 86, 139, 140, 141] (by decide +kernel) (by decide +kernel)
set_option maxRecDepth 20000 in
theorem gX9_film_X5_refusal : GoodIn wsX9_film (wsV RX9 292 RX5 yX5_refusal wsX5_refusal) := goodIn_app (goodIn_of _ (by decide +kernel)) ggX9_film_X5_refusal
set_option maxRecDepth 20000 in
theorem ggX9_film_X4_nextPaid : GoodIn wsX9_film wsX4_nextPaid := goodIn_r _ [90, 91, 92, 75, 93, 94, 95, 96, 97, 98] (by decide +kernel) (by decide +kernel)
set_option maxRecDepth 20000 in
theorem gX9_film_X4_nextPaid : GoodIn wsX9_film (wsV RX9 154 RX4 yX4_nextPaid wsX4_nextPaid) := goodIn_app (goodIn_of _ (by decide +kernel)) ggX9_film_X4_nextPaid
set_option maxRecDepth 20000 in
theorem ggX9_film_X5_write : GoodIn wsX9_film wsX5_write := goodIn_r _ [102, 85, 103, 139, 140, 141] (by decide +kernel) (by decide +kernel)
set_option maxRecDepth 20000 in
theorem gX9_film_X5_write : GoodIn wsX9_film (wsV RX9 317 RX5 yX5_write wsX5_write) := goodIn_app (goodIn_of _ (by decide +kernel)) ggX9_film_X5_write
theorem dX9_film_0 : decode cX9_film 0 = .ok (.iload_n 1, 1) := by decide +kernel
theorem dX9_film_1 : decode cX9_film 1 = .ok (.invokestatic 87, 3) := by decide +kernel
theorem dX9_film_4 : decode cX9_film 4 = .ok (.ifCond .eq 17, 3) := by decide +kernel
theorem dX9_film_7 : decode cX9_film 7 = .ok (.iload_n 2, 1) := by decide +kernel
theorem dX9_film_8 : decode cX9_film 8 = .ok (.invokestatic 286, 3) := by decide +kernel
theorem dX9_film_11 : decode cX9_film 11 = .ok (.ifCond .eq 10, 3) := by decide +kernel
theorem dX9_film_14 : decode cX9_film 14 = .ok (.iload_n 3, 1) := by decide +kernel
theorem dX9_film_15 : decode cX9_film 15 = .ok (.invokestatic 289, 3) := by decide +kernel
theorem dX9_film_18 : decode cX9_film 18 = .ok (.ifCond .ne 5, 3) := by decide +kernel
theorem dX9_film_21 : decode cX9_film 21 = .ok (.iconst (-1), 1) := by decide +kernel
theorem dX9_film_22 : decode cX9_film 22 = .ok (.ireturn, 1) := by decide +kernel
theorem dX9_film_23 : decode cX9_film 23 = .ok (.aload_n 0, 1) := by decide +kernel
theorem dX9_film_24 : decode cX9_film 24 = .ok (.invokevirtual 135, 3) := by decide +kernel
theorem dX9_film_27 : decode cX9_film 27 = .ok (.aload_n 0, 1) := by decide +kernel
theorem dX9_film_28 : decode cX9_film 28 = .ok (.getfield 36, 3) := by decide +kernel
theorem dX9_film_31 : decode cX9_film 31 = .ok (.getfield 138, 3) := by decide +kernel
theorem dX9_film_34 : decode cX9_film 34 = .ok (.iload_n 1, 1) := by decide +kernel
theorem dX9_film_35 : decode cX9_film 35 = .ok (.laload, 1) := by decide +kernel
theorem dX9_film_36 : decode cX9_film 36 = .ok (.lstore 5, 2) := by decide +kernel
theorem dX9_film_38 : decode cX9_film 38 = .ok (.lload 5, 2) := by decide +kernel
theorem dX9_film_40 : decode cX9_film 40 = .ok (.invokestatic 142, 3) := by decide +kernel
theorem dX9_film_43 : decode cX9_film 43 = .ok (.istore 7, 2) := by decide +kernel
theorem dX9_film_45 : decode cX9_film 45 = .ok (.aload_n 0, 1) := by decide +kernel
theorem dX9_film_46 : decode cX9_film 46 = .ok (.getfield 83, 3) := by decide +kernel
theorem dX9_film_49 : decode cX9_film 49 = .ok (.iload_n 2, 1) := by decide +kernel
theorem dX9_film_50 : decode cX9_film 50 = .ok (.iload_n 3, 1) := by decide +kernel
theorem dX9_film_51 : decode cX9_film 51 = .ok (.iload 4, 2) := by decide +kernel
theorem dX9_film_53 : decode cX9_film 53 = .ok (.iload 7, 2) := by decide +kernel
theorem dX9_film_55 : decode cX9_film 55 = .ok (.invokevirtual 292, 3) := by decide +kernel
theorem dX9_film_58 : decode cX9_film 58 = .ok (.istore 8, 2) := by decide +kernel
theorem dX9_film_60 : decode cX9_film 60 = .ok (.iload 8, 2) := by decide +kernel
theorem dX9_film_62 : decode cX9_film 62 = .ok (.ifCond .eq 6, 3) := by decide +kernel
theorem dX9_film_65 : decode cX9_film 65 = .ok (.iload 8, 2) := by decide +kernel
theorem dX9_film_67 : decode cX9_film 67 = .ok (.ireturn, 1) := by decide +kernel
theorem dX9_film_68 : decode cX9_film 68 = .ok (.iconst 0, 1) := by decide +kernel
theorem dX9_film_69 : decode cX9_film 69 = .ok (.istore 9, 2) := by decide +kernel
theorem dX9_film_71 : decode cX9_film 71 = .ok (.iload 9, 2) := by decide +kernel
theorem dX9_film_73 : decode cX9_film 73 = .ok (.iload 7, 2) := by decide +kernel
theorem dX9_film_75 : decode cX9_film 75 = .ok (.if_icmp .ge 53, 3) := by decide +kernel
theorem dX9_film_78 : decode cX9_film 78 = .ok (.aload_n 0, 1) := by decide +kernel
theorem dX9_film_79 : decode cX9_film 79 = .ok (.getfield 22, 3) := by decide +kernel
theorem dX9_film_82 : decode cX9_film 82 = .ok (.lload 5, 2) := by decide +kernel
theorem dX9_film_84 : decode cX9_film 84 = .ok (.invokevirtual 154, 3) := by decide +kernel
theorem dX9_film_87 : decode cX9_film 87 = .ok (.istore 10, 2) := by decide +kernel
theorem dX9_film_89 : decode cX9_film 89 = .ok (.lload 5, 2) := by decide +kernel
theorem dX9_film_91 : decode cX9_film 91 = .ok (.lconst 1, 1) := by decide +kernel
theorem dX9_film_92 : decode cX9_film 92 = .ok (.iload 10, 2) := by decide +kernel
theorem dX9_film_94 : decode cX9_film 94 = .ok (.lshl, 1) := by decide +kernel
theorem dX9_film_95 : decode cX9_film 95 = .ok (.lxor, 1) := by decide +kernel
theorem dX9_film_96 : decode cX9_film 96 = .ok (.lstore 5, 2) := by decide +kernel
theorem dX9_film_98 : decode cX9_film 98 = .ok (.aload_n 0, 1) := by decide +kernel
theorem dX9_film_99 : decode cX9_film 99 = .ok (.getfield 83, 3) := by decide +kernel
theorem dX9_film_102 : decode cX9_film 102 = .ok (.iload_n 2, 1) := by decide +kernel
theorem dX9_film_103 : decode cX9_film 103 = .ok (.iload 4, 2) := by decide +kernel
theorem dX9_film_105 : decode cX9_film 105 = .ok (.iload 9, 2) := by decide +kernel
theorem dX9_film_107 : decode cX9_film 107 = .ok (.iadd, 1) := by decide +kernel
theorem dX9_film_108 : decode cX9_film 108 = .ok (.aload_n 0, 1) := by decide +kernel
theorem dX9_film_109 : decode cX9_film 109 = .ok (.getfield 22, 3) := by decide +kernel
theorem dX9_film_112 : decode cX9_film 112 = .ok (.getfield 151, 3) := by decide +kernel
theorem dX9_film_115 : decode cX9_film 115 = .ok (.iload 10, 2) := by decide +kernel
theorem dX9_film_117 : decode cX9_film 117 = .ok (.iaload, 1) := by decide +kernel
theorem dX9_film_118 : decode cX9_film 118 = .ok (.i2l, 1) := by decide +kernel
theorem dX9_film_119 : decode cX9_film 119 = .ok (.invokevirtual 317, 3) := by decide +kernel
theorem dX9_film_122 : decode cX9_film 122 = .ok (.iinc 9 1, 3) := by decide +kernel
theorem dX9_film_125 : decode cX9_film 125 = .ok (.goto (-54), 3) := by decide +kernel
theorem dX9_film_128 : decode cX9_film 128 = .ok (.iload 7, 2) := by decide +kernel
theorem dX9_film_130 : decode cX9_film 130 = .ok (.ireturn, 1) := by decide +kernel
theorem dX9_isWithin_0 : decode cX9_isWithin 0 = .ok (.iload_n 0, 1) := by decide +kernel
theorem dX9_isWithin_1 : decode cX9_isWithin 1 = .ok (.iload_n 1, 1) := by decide +kernel
theorem dX9_isWithin_2 : decode cX9_isWithin 2 = .ok (.if_icmp .lt 12, 3) := by decide +kernel
theorem dX9_isWithin_5 : decode cX9_isWithin 5 = .ok (.iload_n 0, 1) := by decide +kernel
theorem dX9_isWithin_6 : decode cX9_isWithin 6 = .ok (.iload_n 2, 1) := by decide +kernel
theorem dX9_isWithin_7 : decode cX9_isWithin 7 = .ok (.if_icmp .gt 7, 3) := by decide +kernel
theorem dX9_isWithin_10 : decode cX9_isWithin 10 = .ok (.iconst 1, 1) := by decide +kernel
theorem dX9_isWithin_11 : decode cX9_isWithin 11 = .ok (.goto 4, 3) := by decide +kernel
theorem dX9_isWithin_14 : decode cX9_isWithin 14 = .ok (.iconst 0, 1) := by decide +kernel
theorem dX9_isWithin_15 : decode cX9_isWithin 15 = .ok (.ireturn, 1) := by decide +kernel
set_option maxRecDepth 20000 in
theorem ggX9_isCoin_X9_isWithin : GoodIn wsX9_isCoin wsX9_isWithin := goodIn_r _ [7] (by decide +kernel) (by decide +kernel)
set_option maxRecDepth 20000 in
theorem gX9_isCoin_X9_isWithin : GoodIn wsX9_isCoin (va_wsS RX9 91 yX9_isWithin wsX9_isWithin) := goodIn_app (goodIn_of _ (by decide +kernel)) ggX9_isCoin_X9_isWithin
theorem dX9_isCoin_0 : decode cX9_isCoin 0 = .ok (.iload_n 1, 1) := by decide +kernel
theorem dX9_isCoin_1 : decode cX9_isCoin 1 = .ok (.iconst 0, 1) := by decide +kernel
theorem dX9_isCoin_2 : decode cX9_isCoin 2 = .ok (.aload_n 0, 1) := by decide +kernel
theorem dX9_isCoin_3 : decode cX9_isCoin 3 = .ok (.getfield 10, 3) := by decide +kernel
theorem dX9_isCoin_6 : decode cX9_isCoin 6 = .ok (.getfield 98, 3) := by decide +kernel
theorem dX9_isCoin_9 : decode cX9_isCoin 9 = .ok (.getfield 101, 3) := by decide +kernel
theorem dX9_isCoin_12 : decode cX9_isCoin 12 = .ok (.iconst 1, 1) := by decide +kernel
theorem dX9_isCoin_13 : decode cX9_isCoin 13 = .ok (.isub, 1) := by decide +kernel
theorem dX9_isCoin_14 : decode cX9_isCoin 14 = .ok (.invokestatic 91, 3) := by decide +kernel
theorem dX9_isCoin_17 : decode cX9_isCoin 17 = .ok (.ireturn, 1) := by decide +kernel
set_option maxRecDepth 20000 in
theorem ggX9_isYear_X9_isWithin : GoodIn wsX9_isYear wsX9_isWithin := goodIn_r _ [4] (by decide +kernel) (by decide +kernel)
set_option maxRecDepth 20000 in
theorem gX9_isYear_X9_isWithin : GoodIn wsX9_isYear (va_wsS RX9 91 yX9_isWithin wsX9_isWithin) := goodIn_app (goodIn_of _ (by decide +kernel)) ggX9_isYear_X9_isWithin
theorem dX9_isYear_0 : decode cX9_isYear 0 = .ok (.iload_n 0, 1) := by decide +kernel
theorem dX9_isYear_1 : decode cX9_isYear 1 = .ok (.iconst 0, 1) := by decide +kernel
theorem dX9_isYear_2 : decode cX9_isYear 2 = .ok (.bipush 99, 2) := by decide +kernel
theorem dX9_isYear_4 : decode cX9_isYear 4 = .ok (.invokestatic 91, 3) := by decide +kernel
theorem dX9_isYear_7 : decode cX9_isYear 7 = .ok (.ireturn, 1) := by decide +kernel
set_option maxRecDepth 20000 in
theorem ggX9_isHolder_X9_isWithin : GoodIn wsX9_isHolder wsX9_isWithin := goodIn_r _ [4] (by decide +kernel) (by decide +kernel)
set_option maxRecDepth 20000 in
theorem gX9_isHolder_X9_isWithin : GoodIn wsX9_isHolder (va_wsS RX9 91 yX9_isWithin wsX9_isWithin) := goodIn_app (goodIn_of _ (by decide +kernel)) ggX9_isHolder_X9_isWithin
theorem dX9_isHolder_0 : decode cX9_isHolder 0 = .ok (.iload_n 0, 1) := by decide +kernel
theorem dX9_isHolder_1 : decode cX9_isHolder 1 = .ok (.iconst 0, 1) := by decide +kernel
theorem dX9_isHolder_2 : decode cX9_isHolder 2 = .ok (.bipush 7, 2) := by decide +kernel
theorem dX9_isHolder_4 : decode cX9_isHolder 4 = .ok (.invokestatic 91, 3) := by decide +kernel
theorem dX9_isHolder_7 : decode cX9_isHolder 7 = .ok (.ireturn, 1) := by decide +kernel
set_option maxRecDepth 20000 in
theorem ggX9_isPurse_X9_isWithin : GoodIn wsX9_isPurse wsX9_isWithin := goodIn_r _ [4] (by decide +kernel) (by decide +kernel)
set_option maxRecDepth 20000 in
theorem gX9_isPurse_X9_isWithin : GoodIn wsX9_isPurse (va_wsS RX9 91 yX9_isWithin wsX9_isWithin) := goodIn_app (goodIn_of _ (by decide +kernel)) ggX9_isPurse_X9_isWithin
theorem dX9_isPurse_0 : decode cX9_isPurse 0 = .ok (.iload_n 0, 1) := by decide +kernel
theorem dX9_isPurse_1 : decode cX9_isPurse 1 = .ok (.iconst 0, 1) := by decide +kernel
theorem dX9_isPurse_2 : decode cX9_isPurse 2 = .ok (.iconst 3, 1) := by decide +kernel
theorem dX9_isPurse_3 : decode cX9_isPurse 3 = .ok (.invokestatic 91, 3) := by decide +kernel
theorem dX9_isPurse_6 : decode cX9_isPurse 6 = .ok (.ireturn, 1) := by decide +kernel
set_option maxRecDepth 20000 in
theorem ggX9_isShop_X9_isWithin : GoodIn wsX9_isShop wsX9_isWithin := goodIn_r _ [4] (by decide +kernel) (by decide +kernel)
set_option maxRecDepth 20000 in
theorem gX9_isShop_X9_isWithin : GoodIn wsX9_isShop (va_wsS RX9 91 yX9_isWithin wsX9_isWithin) := goodIn_app (goodIn_of _ (by decide +kernel)) ggX9_isShop_X9_isWithin
theorem dX9_isShop_0 : decode cX9_isShop 0 = .ok (.iload_n 0, 1) := by decide +kernel
theorem dX9_isShop_1 : decode cX9_isShop 1 = .ok (.iconst 4, 1) := by decide +kernel
theorem dX9_isShop_2 : decode cX9_isShop 2 = .ok (.bipush 7, 2) := by decide +kernel
theorem dX9_isShop_4 : decode cX9_isShop 4 = .ok (.invokestatic 91, 3) := by decide +kernel
theorem dX9_isShop_7 : decode cX9_isShop 7 = .ok (.ireturn, 1) := by decide +kernel
set_option maxRecDepth 20000 in
theorem ggX9_isSum_X9_isWithin : GoodIn wsX9_isSum wsX9_isWithin := goodIn_r _ [4] (by decide +kernel) (by decide +kernel)
set_option maxRecDepth 20000 in
theorem gX9_isSum_X9_isWithin : GoodIn wsX9_isSum (va_wsS RX9 91 yX9_isWithin wsX9_isWithin) := goodIn_app (goodIn_of _ (by decide +kernel)) ggX9_isSum_X9_isWithin
theorem dX9_isSum_0 : decode cX9_isSum 0 = .ok (.iload_n 0, 1) := by decide +kernel
theorem dX9_isSum_1 : decode cX9_isSum 1 = .ok (.iconst 1, 1) := by decide +kernel
theorem dX9_isSum_2 : decode cX9_isSum 2 = .ok (.sipush 999, 3) := by decide +kernel
theorem dX9_isSum_5 : decode cX9_isSum 5 = .ok (.invokestatic 91, 3) := by decide +kernel
theorem dX9_isSum_8 : decode cX9_isSum 8 = .ok (.ireturn, 1) := by decide +kernel
set_option maxRecDepth 20000 in
theorem ggX9_isBill_X9_isPurse : GoodIn wsX9_isBill wsX9_isPurse := goodIn_r _ [4, 5, 6, 3, 7] (by decide +kernel) (by decide +kernel)
set_option maxRecDepth 20000 in
theorem gX9_isBill_X9_isPurse : GoodIn wsX9_isBill (va_wsS RX9 224 yX9_isPurse wsX9_isPurse) := goodIn_app (goodIn_of _ (by decide +kernel)) ggX9_isBill_X9_isPurse
set_option maxRecDepth 20000 in
theorem ggX9_isBill_X9_isShop : GoodIn wsX9_isBill wsX9_isShop := goodIn_r _ [10, 5, 6, 3, 7] (by decide +kernel) (by decide +kernel)
set_option maxRecDepth 20000 in
theorem gX9_isBill_X9_isShop : GoodIn wsX9_isBill (va_wsS RX9 230 yX9_isShop wsX9_isShop) := goodIn_app (goodIn_of _ (by decide +kernel)) ggX9_isBill_X9_isShop
set_option maxRecDepth 20000 in
theorem ggX9_isBill_X9_isSum : GoodIn wsX9_isBill wsX9_isSum := goodIn_r _ [13, 5, 6, 3, 7] (by decide +kernel) (by decide +kernel)
set_option maxRecDepth 20000 in
theorem gX9_isBill_X9_isSum : GoodIn wsX9_isBill (va_wsS RX9 239 yX9_isSum wsX9_isSum) := goodIn_app (goodIn_of _ (by decide +kernel)) ggX9_isBill_X9_isSum
theorem dX9_isBill_0 : decode cX9_isBill 0 = .ok (.iload_n 0, 1) := by decide +kernel
theorem dX9_isBill_1 : decode cX9_isBill 1 = .ok (.invokestatic 224, 3) := by decide +kernel
theorem dX9_isBill_4 : decode cX9_isBill 4 = .ok (.ifCond .eq 21, 3) := by decide +kernel
theorem dX9_isBill_7 : decode cX9_isBill 7 = .ok (.iload_n 1, 1) := by decide +kernel
theorem dX9_isBill_8 : decode cX9_isBill 8 = .ok (.invokestatic 230, 3) := by decide +kernel
theorem dX9_isBill_11 : decode cX9_isBill 11 = .ok (.ifCond .eq 14, 3) := by decide +kernel
theorem dX9_isBill_14 : decode cX9_isBill 14 = .ok (.iload_n 2, 1) := by decide +kernel
theorem dX9_isBill_15 : decode cX9_isBill 15 = .ok (.invokestatic 239, 3) := by decide +kernel
theorem dX9_isBill_18 : decode cX9_isBill 18 = .ok (.ifCond .eq 7, 3) := by decide +kernel
theorem dX9_isBill_21 : decode cX9_isBill 21 = .ok (.iconst 1, 1) := by decide +kernel
theorem dX9_isBill_22 : decode cX9_isBill 22 = .ok (.goto 4, 3) := by decide +kernel
theorem dX9_isBill_25 : decode cX9_isBill 25 = .ok (.iconst 0, 1) := by decide +kernel
theorem dX9_isBill_26 : decode cX9_isBill 26 = .ok (.ireturn, 1) := by decide +kernel
set_option maxRecDepth 20000 in
theorem ggX9_isSheet_X9_isWithin : GoodIn wsX9_isSheet wsX9_isWithin := goodIn_r _ [4] (by decide +kernel) (by decide +kernel)
set_option maxRecDepth 20000 in
theorem gX9_isSheet_X9_isWithin : GoodIn wsX9_isSheet (va_wsS RX9 91 yX9_isWithin wsX9_isWithin) := goodIn_app (goodIn_of _ (by decide +kernel)) ggX9_isSheet_X9_isWithin
theorem dX9_isSheet_0 : decode cX9_isSheet 0 = .ok (.iload_n 0, 1) := by decide +kernel
theorem dX9_isSheet_1 : decode cX9_isSheet 1 = .ok (.iconst 0, 1) := by decide +kernel
theorem dX9_isSheet_2 : decode cX9_isSheet 2 = .ok (.iconst 3, 1) := by decide +kernel
theorem dX9_isSheet_3 : decode cX9_isSheet 3 = .ok (.invokestatic 91, 3) := by decide +kernel
theorem dX9_isSheet_6 : decode cX9_isSheet 6 = .ok (.ireturn, 1) := by decide +kernel
set_option maxRecDepth 20000 in
theorem ggX9_isLane_X9_isWithin : GoodIn wsX9_isLane wsX9_isWithin := goodIn_r _ [4] (by decide +kernel) (by decide +kernel)
set_option maxRecDepth 20000 in
theorem gX9_isLane_X9_isWithin : GoodIn wsX9_isLane (va_wsS RX9 91 yX9_isWithin wsX9_isWithin) := goodIn_app (goodIn_of _ (by decide +kernel)) ggX9_isLane_X9_isWithin
theorem dX9_isLane_0 : decode cX9_isLane 0 = .ok (.iload_n 0, 1) := by decide +kernel
theorem dX9_isLane_1 : decode cX9_isLane 1 = .ok (.iconst 0, 1) := by decide +kernel
theorem dX9_isLane_2 : decode cX9_isLane 2 = .ok (.iconst 2, 1) := by decide +kernel
theorem dX9_isLane_3 : decode cX9_isLane 3 = .ok (.invokestatic 91, 3) := by decide +kernel
theorem dX9_isLane_6 : decode cX9_isLane 6 = .ok (.ireturn, 1) := by decide +kernel
set_option maxRecDepth 20000 in
theorem ggX9_layOut_X4_build : GoodIn wsX9_layOut wsX4_build := goodIn_r _ [10, 11, 12, 13, 14, 15, 16, 17, 18, 19, 20, 21, 22, 23, 24, 25, 26, 27, 28, 29, 30, 31, 32, 33, 34, 35, 36, 37, 9, 38, 39, 40, 41, 42, 43, 71, 72, 73, 74, 75, 76, 67, 68, 69, 70, 77, 78, 79, 80, 81, 82] (by decide +kernel) (by decide +kernel)
set_option maxRecDepth 20000 in
theorem gX9_layOut_X4_build : GoodIn wsX9_layOut (wsV RX9 321 RX4 yX4_build wsX4_build) := goodIn_app (goodIn_of _ (by decide +kernel)) ggX9_layOut_X4_build
set_option maxRecDepth 20000 in
theorem ggX9_layOut_X1_layOut : GoodIn wsX9_layOut wsX1_layOut := goodIn_r _ [48, 49, 50, 51, 52, 83, 84, 85, 86, 87, 77, 78, 79, 80, 81, 82, 71, 72, 73, 74, 75, 76] (by decide +kernel) (by decide +kernel)
set_option maxRecDepth 20000 in
theorem gX9_layOut_X1_layOut : GoodIn wsX9_layOut (wsV RX9 325 RX1 yX1_layOut wsX1_layOut) := goodIn_app (goodIn_of _ (by decide +kernel)) ggX9_layOut_X1_layOut
theorem dX9_layOut_0 : decode cX9_layOut 0 = .ok (.aload_n 0, 1) := by decide +kernel
theorem dX9_layOut_1 : decode cX9_layOut 1 = .ok (.getfield 26, 3) := by decide +kernel
theorem dX9_layOut_4 : decode cX9_layOut 4 = .ok (.ifCond .eq 21, 3) := by decide +kernel
theorem dX9_layOut_7 : decode cX9_layOut 7 = .ok (.aload_n 0, 1) := by decide +kernel
theorem dX9_layOut_8 : decode cX9_layOut 8 = .ok (.getfield 22, 3) := by decide +kernel
theorem dX9_layOut_11 : decode cX9_layOut 11 = .ok (.aload_n 0, 1) := by decide +kernel
theorem dX9_layOut_12 : decode cX9_layOut 12 = .ok (.getfield 10, 3) := by decide +kernel
theorem dX9_layOut_15 : decode cX9_layOut 15 = .ok (.iconst (-1), 1) := by decide +kernel
theorem dX9_layOut_16 : decode cX9_layOut 16 = .ok (.iconst 0, 1) := by decide +kernel
theorem dX9_layOut_17 : decode cX9_layOut 17 = .ok (.invokevirtual 321, 3) := by decide +kernel
theorem dX9_layOut_20 : decode cX9_layOut 20 = .ok (.aload_n 0, 1) := by decide +kernel
theorem dX9_layOut_21 : decode cX9_layOut 21 = .ok (.iconst 0, 1) := by decide +kernel
theorem dX9_layOut_22 : decode cX9_layOut 22 = .ok (.putfield 26, 3) := by decide +kernel
theorem dX9_layOut_25 : decode cX9_layOut 25 = .ok (.aload_n 0, 1) := by decide +kernel
theorem dX9_layOut_26 : decode cX9_layOut 26 = .ok (.getfield 36, 3) := by decide +kernel
theorem dX9_layOut_29 : decode cX9_layOut 29 = .ok (.aload_n 0, 1) := by decide +kernel
theorem dX9_layOut_30 : decode cX9_layOut 30 = .ok (.getfield 10, 3) := by decide +kernel
theorem dX9_layOut_33 : decode cX9_layOut 33 = .ok (.getfield 98, 3) := by decide +kernel
theorem dX9_layOut_36 : decode cX9_layOut 36 = .ok (.aload_n 0, 1) := by decide +kernel
theorem dX9_layOut_37 : decode cX9_layOut 37 = .ok (.getfield 22, 3) := by decide +kernel
theorem dX9_layOut_40 : decode cX9_layOut 40 = .ok (.invokevirtual 325, 3) := by decide +kernel
theorem dX9_layOut_43 : decode cX9_layOut 43 = .ok (.return_, 1) := by decide +kernel
set_option maxRecDepth 20000 in
theorem ggX9_layOutForged_X4_build : GoodIn wsX9_layOutForged wsX4_build := goodIn_r _ [9, 10, 11, 12, 13, 14, 15, 16, 17, 18, 19, 20, 21, 22, 23, 24, 25, 26, 27, 28, 29, 30, 31, 32, 33, 34, 35, 36, 8, 37, 38, 39, 40, 41, 42, 70, 71, 72, 73, 74, 75, 66, 67, 68, 69, 76, 77, 78, 79, 80, 81] (by decide +kernel) (by decide +kernel)
set_option maxRecDepth 20000 in
theorem gX9_layOutForged_X4_build : GoodIn wsX9_layOutForged (wsV RX9 321 RX4 yX4_build wsX4_build) := goodIn_app (goodIn_of _ (by decide +kernel)) ggX9_layOutForged_X4_build
set_option maxRecDepth 20000 in
theorem ggX9_layOutForged_X1_layOut : GoodIn wsX9_layOutForged wsX1_layOut := goodIn_r _ [47, 48, 49, 50, 51, 82, 83, 84, 85, 86, 76, 77, 78, 79, 80, 81, 70, 71, 72, 73, 74, 75] (by decide +kernel) (by decide +kernel)
set_option maxRecDepth 20000 in
theorem gX9_layOutForged_X1_layOut : GoodIn wsX9_layOutForged (wsV RX9 325 RX1 yX1_layOut wsX1_layOut) := goodIn_app (goodIn_of _ (by decide +kernel)) ggX9_layOutForged_X1_layOut
theorem dX9_layOutForged_0 : decode cX9_layOutForged 0 = .ok (.aload_n 0, 1) := by decide +kernel
theorem dX9_layOutForged_1 : decode cX9_layOutForged 1 = .ok (.getfield 30, 3) := by decide +kernel
theorem dX9_layOutForged_4 : decode cX9_layOutForged 4 = .ok (.aload_n 0, 1) := by decide +kernel
theorem dX9_layOutForged_5 : decode cX9_layOutForged 5 = .ok (.getfield 10, 3) := by decide +kernel
theorem dX9_layOutForged_8 : decode cX9_layOutForged 8 = .ok (.iload_n 1, 1) := by decide +kernel
theorem dX9_layOutForged_9 : decode cX9_layOutForged 9 = .ok (.iload_n 2, 1) := by decide +kernel
theorem dX9_layOutForged_10 : decode cX9_layOutForged 10 = .ok (.invokevirtual 321, 3) := by decide +kernel
theorem dX9_layOutForged_13 : decode cX9_layOutForged 13 = .ok (.aload_n 0, 1) := by decide +kernel
theorem dX9_layOutForged_14 : decode cX9_layOutForged 14 = .ok (.getfield 40, 3) := by decide +kernel
theorem dX9_layOutForged_17 : decode cX9_layOutForged 17 = .ok (.aload_n 0, 1) := by decide +kernel
theorem dX9_layOutForged_18 : decode cX9_layOutForged 18 = .ok (.getfield 10, 3) := by decide +kernel
theorem dX9_layOutForged_21 : decode cX9_layOutForged 21 = .ok (.getfield 98, 3) := by decide +kernel
theorem dX9_layOutForged_24 : decode cX9_layOutForged 24 = .ok (.aload_n 0, 1) := by decide +kernel
theorem dX9_layOutForged_25 : decode cX9_layOutForged 25 = .ok (.getfield 30, 3) := by decide +kernel
theorem dX9_layOutForged_28 : decode cX9_layOutForged 28 = .ok (.invokevirtual 325, 3) := by decide +kernel
theorem dX9_layOutForged_31 : decode cX9_layOutForged 31 = .ok (.return_, 1) := by decide +kernel
set_option maxRecDepth 20000 in
theorem ggX9_takeOver_X1_holderAt : GoodIn wsX9_takeOver wsX1_holderAt := goodIn_r _ [12, 13, 44, 45, 46, 47, 48] (by decide +kernel) (by decide +kernel)
set_option maxRecDepth 20000 in
theorem gX9_takeOver_X1_holderAt : GoodIn wsX9_takeOver (wsV RX9 268 RX1 yX1_holderAt wsX1_holderAt) := goodIn_app (goodIn_of _ (by decide +kernel)) ggX9_takeOver_X1_holderAt
theorem dX9_takeOver_0 : decode cX9_takeOver 0 = .ok (.iconst 0, 1) := by decide +kernel
theorem dX9_takeOver_1 : decode cX9_takeOver 1 = .ok (.istore_n 1, 1) := by decide +kernel
theorem dX9_takeOver_2 : decode cX9_takeOver 2 = .ok (.iload_n 1, 1) := by decide +kernel
theorem dX9_takeOver_3 : decode cX9_takeOver 3 = .ok (.aload_n 0, 1) := by decide +kernel
theorem dX9_takeOver_4 : decode cX9_takeOver 4 = .ok (.getfield 22, 3) := by decide +kernel
theorem dX9_takeOver_7 : decode cX9_takeOver 7 = .ok (.getfield 328, 3) := by decide +kernel
theorem dX9_takeOver_10 : decode cX9_takeOver 10 = .ok (.if_icmp .ge 37, 3) := by decide +kernel
theorem dX9_takeOver_13 : decode cX9_takeOver 13 = .ok (.aload_n 0, 1) := by decide +kernel
theorem dX9_takeOver_14 : decode cX9_takeOver 14 = .ok (.getfield 10, 3) := by decide +kernel
theorem dX9_takeOver_17 : decode cX9_takeOver 17 = .ok (.getfield 98, 3) := by decide +kernel
theorem dX9_takeOver_20 : decode cX9_takeOver 20 = .ok (.getfield 125, 3) := by decide +kernel
theorem dX9_takeOver_23 : decode cX9_takeOver 23 = .ok (.aload_n 0, 1) := by decide +kernel
theorem dX9_takeOver_24 : decode cX9_takeOver 24 = .ok (.getfield 22, 3) := by decide +kernel
theorem dX9_takeOver_27 : decode cX9_takeOver 27 = .ok (.getfield 151, 3) := by decide +kernel
theorem dX9_takeOver_30 : decode cX9_takeOver 30 = .ok (.iload_n 1, 1) := by decide +kernel
theorem dX9_takeOver_31 : decode cX9_takeOver 31 = .ok (.iaload, 1) := by decide +kernel
theorem dX9_takeOver_32 : decode cX9_takeOver 32 = .ok (.aload_n 0, 1) := by decide +kernel
theorem dX9_takeOver_33 : decode cX9_takeOver 33 = .ok (.getfield 36, 3) := by decide +kernel
theorem dX9_takeOver_36 : decode cX9_takeOver 36 = .ok (.iload_n 1, 1) := by decide +kernel
theorem dX9_takeOver_37 : decode cX9_takeOver 37 = .ok (.invokevirtual 268, 3) := by decide +kernel
theorem dX9_takeOver_40 : decode cX9_takeOver 40 = .ok (.iastore, 1) := by decide +kernel
theorem dX9_takeOver_41 : decode cX9_takeOver 41 = .ok (.iinc 1 1, 3) := by decide +kernel
theorem dX9_takeOver_44 : decode cX9_takeOver 44 = .ok (.goto (-42), 3) := by decide +kernel
theorem dX9_takeOver_47 : decode cX9_takeOver 47 = .ok (.return_, 1) := by decide +kernel
set_option maxRecDepth 20000 in
theorem ggX9_runDay_X9_runBill : GoodIn wsX9_runDay wsX9_runBill := goodIn_r _ [8, 1, 2, 9, 10, 11, 12, 13, 14, 15, 16, 17, 18, 19, 20, 21, 22, 23, 24, 25, 26, 27, 28, 29, 30, 31, 32, 33, 34, 35, 36, 37, 38, 39, 40, 41, 42, 43, 44, 45, 46, 47, 48, 49, 50, 51, 52, 53, 54, 55, 56, 57, 58, 59, 60, 61, 62, 63, 64, 65, 66, 67, 68, 69, 70, 71, 72, 73, 74, 75, 76, 77, 78, 79, 80, 81, 82, 83, 84, 85, 86, 87, 88, 89] (by decide +kernel) (by decide +kernel)
set_option maxRecDepth 20000 in
theorem gX9_runDay_X9_runBill : GoodIn wsX9_runDay (wsV RX9 329 RX9 yX9_runBill wsX9_runBill) := goodIn_app (goodIn_of _ (by decide +kernel)) ggX9_runDay_X9_runBill
theorem dX9_runDay_0 : decode cX9_runDay 0 = .ok (.iconst 0, 1) := by decide +kernel
theorem dX9_runDay_1 : decode cX9_runDay 1 = .ok (.istore 4, 2) := by decide +kernel
theorem dX9_runDay_3 : decode cX9_runDay 3 = .ok (.iconst 0, 1) := by decide +kernel
theorem dX9_runDay_4 : decode cX9_runDay 4 = .ok (.istore 5, 2) := by decide +kernel
theorem dX9_runDay_6 : decode cX9_runDay 6 = .ok (.iload 5, 2) := by decide +kernel
theorem dX9_runDay_8 : decode cX9_runDay 8 = .ok (.iload_n 3, 1) := by decide +kernel
theorem dX9_runDay_9 : decode cX9_runDay 9 = .ok (.if_icmp .ge 50, 3) := by decide +kernel
theorem dX9_runDay_12 : decode cX9_runDay 12 = .ok (.iconst 0, 1) := by decide +kernel
theorem dX9_runDay_13 : decode cX9_runDay 13 = .ok (.istore 6, 2) := by decide +kernel
theorem dX9_runDay_15 : decode cX9_runDay 15 = .ok (.iload 6, 2) := by decide +kernel
theorem dX9_runDay_17 : decode cX9_runDay 17 = .ok (.aload_n 0, 1) := by decide +kernel
theorem dX9_runDay_18 : decode cX9_runDay 18 = .ok (.getfield 10, 3) := by decide +kernel
theorem dX9_runDay_21 : decode cX9_runDay 21 = .ok (.getfield 187, 3) := by decide +kernel
theorem dX9_runDay_24 : decode cX9_runDay 24 = .ok (.getfield 193, 3) := by decide +kernel
theorem dX9_runDay_27 : decode cX9_runDay 27 = .ok (.if_icmp .ge 26, 3) := by decide +kernel
theorem dX9_runDay_30 : decode cX9_runDay 30 = .ok (.aload_n 0, 1) := by decide +kernel
theorem dX9_runDay_31 : decode cX9_runDay 31 = .ok (.aload_n 1, 1) := by decide +kernel
theorem dX9_runDay_32 : decode cX9_runDay 32 = .ok (.aload_n 2, 1) := by decide +kernel
theorem dX9_runDay_33 : decode cX9_runDay 33 = .ok (.iload 6, 2) := by decide +kernel
theorem dX9_runDay_35 : decode cX9_runDay 35 = .ok (.invokevirtual 329, 3) := by decide +kernel
theorem dX9_runDay_38 : decode cX9_runDay 38 = .ok (.ifCond .ne 6, 3) := by decide +kernel
theorem dX9_runDay_41 : decode cX9_runDay 41 = .ok (.iload 4, 2) := by decide +kernel
theorem dX9_runDay_43 : decode cX9_runDay 43 = .ok (.ireturn, 1) := by decide +kernel
theorem dX9_runDay_44 : decode cX9_runDay 44 = .ok (.iinc 4 1, 3) := by decide +kernel
theorem dX9_runDay_47 : decode cX9_runDay 47 = .ok (.iinc 6 1, 3) := by decide +kernel
theorem dX9_runDay_50 : decode cX9_runDay 50 = .ok (.goto (-35), 3) := by decide +kernel
theorem dX9_runDay_53 : decode cX9_runDay 53 = .ok (.iinc 5 1, 3) := by decide +kernel
theorem dX9_runDay_56 : decode cX9_runDay 56 = .ok (.goto (-50), 3) := by decide +kernel
theorem dX9_runDay_59 : decode cX9_runDay 59 = .ok (.iload 4, 2) := by decide +kernel
theorem dX9_runDay_61 : decode cX9_runDay 61 = .ok (.ireturn, 1) := by decide +kernel
set_option maxRecDepth 20000 in
theorem ggX9_runBill_X1_meets : GoodIn wsX9_runBill wsX1_meets := goodIn_r _ [10, 11, 12, 13, 14, 15, 16, 17, 18, 9, 19, 20, 21, 22, 23, 24, 25, 26, 27, 28, 29, 30, 31, 32, 33, 34, 35, 36, 37, 38, 39, 40, 41, 42, 43, 44, 45, 46, 47, 48, 49, 50, 73, 74, 75, 76, 77, 78, 79, 80, 81, 82, 83] (by decide +kernel) (by decide +kernel)
set_option maxRecDepth 20000 in
theorem gX9_runBill_X1_meets : GoodIn wsX9_runBill (wsV RX9 204 RX1 yX1_meets wsX1_meets) := goodIn_app (goodIn_of _ (by decide +kernel)) ggX9_runBill_X1_meets
theorem dX9_runBill_0 : decode cX9_runBill 0 = .ok (.aload_n 1, 1) := by decide +kernel
theorem dX9_runBill_1 : decode cX9_runBill 1 = .ok (.aload_n 2, 1) := by decide +kernel
theorem dX9_runBill_2 : decode cX9_runBill 2 = .ok (.aload_n 0, 1) := by decide +kernel
theorem dX9_runBill_3 : decode cX9_runBill 3 = .ok (.getfield 10, 3) := by decide +kernel
theorem dX9_runBill_6 : decode cX9_runBill 6 = .ok (.getfield 187, 3) := by decide +kernel
theorem dX9_runBill_9 : decode cX9_runBill 9 = .ok (.getfield 333, 3) := by decide +kernel
theorem dX9_runBill_12 : decode cX9_runBill 12 = .ok (.iload_n 3, 1) := by decide +kernel
theorem dX9_runBill_13 : decode cX9_runBill 13 = .ok (.iaload, 1) := by decide +kernel
theorem dX9_runBill_14 : decode cX9_runBill 14 = .ok (.aload_n 0, 1) := by decide +kernel
theorem dX9_runBill_15 : decode cX9_runBill 15 = .ok (.getfield 10, 3) := by decide +kernel
theorem dX9_runBill_18 : decode cX9_runBill 18 = .ok (.getfield 187, 3) := by decide +kernel
theorem dX9_runBill_21 : decode cX9_runBill 21 = .ok (.getfield 336, 3) := by decide +kernel
theorem dX9_runBill_24 : decode cX9_runBill 24 = .ok (.iload_n 3, 1) := by decide +kernel
theorem dX9_runBill_25 : decode cX9_runBill 25 = .ok (.iaload, 1) := by decide +kernel
theorem dX9_runBill_26 : decode cX9_runBill 26 = .ok (.aload_n 0, 1) := by decide +kernel
theorem dX9_runBill_27 : decode cX9_runBill 27 = .ok (.getfield 10, 3) := by decide +kernel
theorem dX9_runBill_30 : decode cX9_runBill 30 = .ok (.getfield 187, 3) := by decide +kernel
theorem dX9_runBill_33 : decode cX9_runBill 33 = .ok (.getfield 339, 3) := by decide +kernel
theorem dX9_runBill_36 : decode cX9_runBill 36 = .ok (.iload_n 3, 1) := by decide +kernel
theorem dX9_runBill_37 : decode cX9_runBill 37 = .ok (.iaload, 1) := by decide +kernel
theorem dX9_runBill_38 : decode cX9_runBill 38 = .ok (.invokevirtual 204, 3) := by decide +kernel
theorem dX9_runBill_41 : decode cX9_runBill 41 = .ok (.ireturn, 1) := by decide +kernel
set_option maxRecDepth 20000 in
theorem ggX9_coinsPaid_X9_runBill : GoodIn wsX9_coinsPaid wsX9_runBill := goodIn_r _ [6, 7, 8, 9, 10, 11, 12, 13, 14, 15, 16, 17, 18, 19, 20, 21, 22, 23, 24, 25, 26, 27, 28, 29, 30, 31, 32, 33, 34, 35, 36, 37, 38, 39, 40, 41, 42, 43, 44, 45, 46, 47, 48, 49, 50, 51, 52, 53, 54, 55, 56, 68, 69, 70, 71, 72, 73, 74, 75, 76, 77, 78, 79, 80, 81, 82, 83, 84, 85, 86, 87, 88, 89, 63, 64, 65, 66, 67, 90, 91, 92, 93, 94, 95] (by decide +kernel) (by decide +kernel)
set_option maxRecDepth 20000 in
theorem gX9_coinsPaid_X9_runBill : GoodIn wsX9_coinsPaid (wsV RX9 329 RX9 yX9_runBill wsX9_runBill) := goodIn_app (goodIn_of _ (by decide +kernel)) ggX9_coinsPaid_X9_runBill
set_option maxRecDepth 20000 in
theorem ggX9_coinsPaid_X4_numbersOf : GoodIn wsX9_coinsPaid wsX4_numbersOf := goodIn_r _ [60, 61, 62, 90, 91, 92, 93, 94, 95] (by decide +kernel) (by decide +kernel)
set_option maxRecDepth 20000 in
theorem gX9_coinsPaid_X4_numbersOf : GoodIn wsX9_coinsPaid (wsV RX9 342 RX4 yX4_numbersOf wsX4_numbersOf) := goodIn_app (goodIn_of _ (by decide +kernel)) ggX9_coinsPaid_X4_numbersOf
theorem dX9_coinsPaid_0 : decode cX9_coinsPaid 0 = .ok (.aload_n 0, 1) := by decide +kernel
theorem dX9_coinsPaid_1 : decode cX9_coinsPaid 1 = .ok (.aload_n 1, 1) := by decide +kernel
theorem dX9_coinsPaid_2 : decode cX9_coinsPaid 2 = .ok (.aload_n 2, 1) := by decide +kernel
theorem dX9_coinsPaid_3 : decode cX9_coinsPaid 3 = .ok (.iload_n 3, 1) := by decide +kernel
theorem dX9_coinsPaid_4 : decode cX9_coinsPaid 4 = .ok (.invokevirtual 329, 3) := by decide +kernel
theorem dX9_coinsPaid_7 : decode cX9_coinsPaid 7 = .ok (.ifCond .eq 14, 3) := by decide +kernel
theorem dX9_coinsPaid_10 : decode cX9_coinsPaid 10 = .ok (.aload_n 2, 1) := by decide +kernel
theorem dX9_coinsPaid_11 : decode cX9_coinsPaid 11 = .ok (.aload_n 1, 1) := by decide +kernel
theorem dX9_coinsPaid_12 : decode cX9_coinsPaid 12 = .ok (.getfield 217, 3) := by decide +kernel
theorem dX9_coinsPaid_15 : decode cX9_coinsPaid 15 = .ok (.invokevirtual 342, 3) := by decide +kernel
theorem dX9_coinsPaid_18 : decode cX9_coinsPaid 18 = .ok (.goto 4, 3) := by decide +kernel
theorem dX9_coinsPaid_21 : decode cX9_coinsPaid 21 = .ok (.lconst 0, 1) := by decide +kernel
theorem dX9_coinsPaid_22 : decode cX9_coinsPaid 22 = .ok (.lreturn, 1) := by decide +kernel
set_option maxRecDepth 20000 in
theorem ggX9_seek_X7_judge : GoodIn wsX9_seek wsX7_judge := goodIn_r _ [18, 19, 20, 21, 22, 23, 24, 104, 105, 106, 107, 108, 109, 110, 111, 112, 113, 114, 115] (by decide +kernel) (by decide +kernel)
set_option maxRecDepth 20000 in
theorem gX9_seek_X7_judge : GoodIn wsX9_seek (wsV RX9 346 RX7 yX7_judge wsX7_judge) := goodIn_app (goodIn_of _ (by decide +kernel)) ggX9_seek_X7_judge
set_option maxRecDepth 20000 in
theorem ggX9_seek_X7_mayGetBetter : GoodIn wsX9_seek wsX7_mayGetBetter := goodIn_r _ [28, 19, 22, 104, 105, 106, 107, 108, 109, 110] (by decide +kernel) (by decide +kernel)
set_option maxRecDepth 20000 in
theorem gX9_seek_X7_mayGetBetter : GoodIn wsX9_seek (wsV RX9 350 RX7 yX7_mayGetBetter wsX7_mayGetBetter) := goodIn_app (goodIn_of _ (by decide +kernel)) ggX9_seek_X7_mayGetBetter
set_option maxRecDepth 20000 in
theorem ggX9_seek_X1_meetsEvenly : GoodIn wsX9_seek wsX1_meetsEvenly := goodIn_r _ [33, 34, 35, 36, 37, 32, 38, 39, 40, 41, 42, 43, 44, 45, 46, 47, 48, 49, 50, 51, 52, 53, 54, 55, 56, 57, 58, 59, 60, 61, 62, 63, 64, 65, 66, 67, 68, 69, 70, 71, 72, 73, 74, 75, 76, 77, 111, 112, 113, 114, 115, 116, 117, 118, 119, 120, 121] (by decide +kernel) (by decide +kernel)
set_option maxRecDepth 20000 in
theorem gX9_seek_X1_meetsEvenly : GoodIn wsX9_seek (wsV RX9 236 RX1 yX1_meetsEvenly wsX1_meetsEvenly) := goodIn_app (goodIn_of _ (by decide +kernel)) ggX9_seek_X1_meetsEvenly
set_option maxRecDepth 20000 in
theorem ggX9_seek_X9_seek : GoodIn wsX9_seek wsX9_seek := goodIn_r _ [0, 1, 2, 3, 4, 5, 6, 7, 8, 9, 10, 11, 12, 13, 14, 15, 16, 17, 18, 19, 20, 21, 22, 23, 24, 25, 26, 27, 28, 29, 30, 31, 32, 33, 34, 35, 36, 37, 38, 39, 40, 41, 42, 43, 44, 45, 46, 47, 48, 49, 50, 51, 52, 53, 54, 55, 56, 57, 58, 59, 60, 61, 62, 63, 64, 65, 66, 67, 68, 69, 70, 71, 72, 73, 74, 75, 76, 77, 78, 79, 80, 81, 82, 83, 84, 85, 86, 87, 88, 89, 90, 91, 92, 93, 94, 95, 96, 97, 98, 99, 100, 101, 102, 103, 104, 105, 106, 107, 108, 109, 110, 111, 112, 113, 114, 115, 116, 117, 118, 119, 120, 121] (by decide +kernel) (by decide +kernel)
set_option maxRecDepth 20000 in
theorem gX9_seek_X9_seek : GoodIn wsX9_seek (wsV RX9 249 RX9 yX9_seek wsX9_seek) := goodIn_app (goodIn_of _ (by decide +kernel)) ggX9_seek_X9_seek
theorem dX9_seek_0 : decode cX9_seek 0 = .ok (.aload_n 0, 1) := by decide +kernel
theorem dX9_seek_1 : decode cX9_seek 1 = .ok (.getfield 10, 3) := by decide +kernel
theorem dX9_seek_4 : decode cX9_seek 4 = .ok (.getfield 198, 3) := by decide +kernel
theorem dX9_seek_7 : decode cX9_seek 7 = .ok (.getfield 193, 3) := by decide +kernel
theorem dX9_seek_10 : decode cX9_seek 10 = .ok (.istore 4, 2) := by decide +kernel
theorem dX9_seek_12 : decode cX9_seek 12 = .ok (.iload_n 1, 1) := by decide +kernel
theorem dX9_seek_13 : decode cX9_seek 13 = .ok (.iload 4, 2) := by decide +kernel
theorem dX9_seek_15 : decode cX9_seek 15 = .ok (.if_icmp .ge 9, 3) := by decide +kernel
theorem dX9_seek_18 : decode cX9_seek 18 = .ok (.iload_n 1, 1) := by decide +kernel
theorem dX9_seek_19 : decode cX9_seek 19 = .ok (.bipush 6, 2) := by decide +kernel
theorem dX9_seek_21 : decode cX9_seek 21 = .ok (.if_icmp .lt 18, 3) := by decide +kernel
theorem dX9_seek_24 : decode cX9_seek 24 = .ok (.aload_n 0, 1) := by decide +kernel
theorem dX9_seek_25 : decode cX9_seek 25 = .ok (.getfield 46, 3) := by decide +kernel
theorem dX9_seek_28 : decode cX9_seek 28 = .ok (.aload_n 0, 1) := by decide +kernel
theorem dX9_seek_29 : decode cX9_seek 29 = .ok (.getfield 36, 3) := by decide +kernel
theorem dX9_seek_32 : decode cX9_seek 32 = .ok (.iload 4, 2) := by decide +kernel
theorem dX9_seek_34 : decode cX9_seek 34 = .ok (.iload_n 3, 1) := by decide +kernel
theorem dX9_seek_35 : decode cX9_seek 35 = .ok (.invokevirtual 346, 3) := by decide +kernel
theorem dX9_seek_38 : decode cX9_seek 38 = .ok (.return_, 1) := by decide +kernel
theorem dX9_seek_39 : decode cX9_seek 39 = .ok (.aload_n 0, 1) := by decide +kernel
theorem dX9_seek_40 : decode cX9_seek 40 = .ok (.getfield 46, 3) := by decide +kernel
theorem dX9_seek_43 : decode cX9_seek 43 = .ok (.iload_n 3, 1) := by decide +kernel
theorem dX9_seek_44 : decode cX9_seek 44 = .ok (.iload 4, 2) := by decide +kernel
theorem dX9_seek_46 : decode cX9_seek 46 = .ok (.iadd, 1) := by decide +kernel
theorem dX9_seek_47 : decode cX9_seek 47 = .ok (.iload_n 1, 1) := by decide +kernel
theorem dX9_seek_48 : decode cX9_seek 48 = .ok (.isub, 1) := by decide +kernel
theorem dX9_seek_49 : decode cX9_seek 49 = .ok (.invokevirtual 350, 3) := by decide +kernel
theorem dX9_seek_52 : decode cX9_seek 52 = .ok (.ifCond .ne 4, 3) := by decide +kernel
theorem dX9_seek_55 : decode cX9_seek 55 = .ok (.return_, 1) := by decide +kernel
theorem dX9_seek_56 : decode cX9_seek 56 = .ok (.iconst 0, 1) := by decide +kernel
theorem dX9_seek_57 : decode cX9_seek 57 = .ok (.istore 5, 2) := by decide +kernel
theorem dX9_seek_59 : decode cX9_seek 59 = .ok (.iload 5, 2) := by decide +kernel
theorem dX9_seek_61 : decode cX9_seek 61 = .ok (.iload 4, 2) := by decide +kernel
theorem dX9_seek_63 : decode cX9_seek 63 = .ok (.if_icmp .ge 182, 3) := by decide +kernel
theorem dX9_seek_66 : decode cX9_seek 66 = .ok (.aload_n 0, 1) := by decide +kernel
theorem dX9_seek_67 : decode cX9_seek 67 = .ok (.getfield 46, 3) := by decide +kernel
theorem dX9_seek_70 : decode cX9_seek 70 = .ok (.getfield 252, 3) := by decide +kernel
theorem dX9_seek_73 : decode cX9_seek 73 = .ok (.aload_n 0, 1) := by decide +kernel
theorem dX9_seek_74 : decode cX9_seek 74 = .ok (.getfield 46, 3) := by decide +kernel
theorem dX9_seek_77 : decode cX9_seek 77 = .ok (.getfield 353, 3) := by decide +kernel
theorem dX9_seek_80 : decode cX9_seek 80 = .ok (.if_icmp .ge 165, 3) := by decide +kernel
theorem dX9_seek_83 : decode cX9_seek 83 = .ok (.iload_n 2, 1) := by decide +kernel
theorem dX9_seek_84 : decode cX9_seek 84 = .ok (.iload 5, 2) := by decide +kernel
theorem dX9_seek_86 : decode cX9_seek 86 = .ok (.ishr, 1) := by decide +kernel
theorem dX9_seek_87 : decode cX9_seek 87 = .ok (.iconst 1, 1) := by decide +kernel
theorem dX9_seek_88 : decode cX9_seek 88 = .ok (.iand, 1) := by decide +kernel
theorem dX9_seek_89 : decode cX9_seek 89 = .ok (.ifCond .eq 6, 3) := by decide +kernel
theorem dX9_seek_92 : decode cX9_seek 92 = .ok (.goto 147, 3) := by decide +kernel
theorem dX9_seek_95 : decode cX9_seek 95 = .ok (.aload_n 0, 1) := by decide +kernel
theorem dX9_seek_96 : decode cX9_seek 96 = .ok (.getfield 10, 3) := by decide +kernel
theorem dX9_seek_99 : decode cX9_seek 99 = .ok (.getfield 198, 3) := by decide +kernel
theorem dX9_seek_102 : decode cX9_seek 102 = .ok (.getfield 336, 3) := by decide +kernel
theorem dX9_seek_105 : decode cX9_seek 105 = .ok (.iload 5, 2) := by decide +kernel
theorem dX9_seek_107 : decode cX9_seek 107 = .ok (.iaload, 1) := by decide +kernel
theorem dX9_seek_108 : decode cX9_seek 108 = .ok (.istore 6, 2) := by decide +kernel
theorem dX9_seek_110 : decode cX9_seek 110 = .ok (.aload_n 0, 1) := by decide +kernel
theorem dX9_seek_111 : decode cX9_seek 111 = .ok (.getfield 36, 3) := by decide +kernel
theorem dX9_seek_114 : decode cX9_seek 114 = .ok (.getfield 138, 3) := by decide +kernel
theorem dX9_seek_117 : decode cX9_seek 117 = .ok (.aload_n 0, 1) := by decide +kernel
theorem dX9_seek_118 : decode cX9_seek 118 = .ok (.getfield 46, 3) := by decide +kernel
theorem dX9_seek_121 : decode cX9_seek 121 = .ok (.getfield 356, 3) := by decide +kernel
theorem dX9_seek_124 : decode cX9_seek 124 = .ok (.laload, 1) := by decide +kernel
theorem dX9_seek_125 : decode cX9_seek 125 = .ok (.lstore 7, 2) := by decide +kernel
theorem dX9_seek_127 : decode cX9_seek 127 = .ok (.aload_n 0, 1) := by decide +kernel
theorem dX9_seek_128 : decode cX9_seek 128 = .ok (.getfield 36, 3) := by decide +kernel
theorem dX9_seek_131 : decode cX9_seek 131 = .ok (.getfield 138, 3) := by decide +kernel
theorem dX9_seek_134 : decode cX9_seek 134 = .ok (.iload 6, 2) := by decide +kernel
theorem dX9_seek_136 : decode cX9_seek 136 = .ok (.laload, 1) := by decide +kernel
theorem dX9_seek_137 : decode cX9_seek 137 = .ok (.lstore 9, 2) := by decide +kernel
theorem dX9_seek_139 : decode cX9_seek 139 = .ok (.aload_n 0, 1) := by decide +kernel
theorem dX9_seek_140 : decode cX9_seek 140 = .ok (.getfield 36, 3) := by decide +kernel
theorem dX9_seek_143 : decode cX9_seek 143 = .ok (.aload_n 0, 1) := by decide +kernel
theorem dX9_seek_144 : decode cX9_seek 144 = .ok (.getfield 22, 3) := by decide +kernel
theorem dX9_seek_147 : decode cX9_seek 147 = .ok (.aload_n 0, 1) := by decide +kernel
theorem dX9_seek_148 : decode cX9_seek 148 = .ok (.getfield 46, 3) := by decide +kernel
theorem dX9_seek_151 : decode cX9_seek 151 = .ok (.getfield 356, 3) := by decide +kernel
theorem dX9_seek_154 : decode cX9_seek 154 = .ok (.iload 6, 2) := by decide +kernel
theorem dX9_seek_156 : decode cX9_seek 156 = .ok (.aload_n 0, 1) := by decide +kernel
theorem dX9_seek_157 : decode cX9_seek 157 = .ok (.getfield 10, 3) := by decide +kernel
theorem dX9_seek_160 : decode cX9_seek 160 = .ok (.getfield 198, 3) := by decide +kernel
theorem dX9_seek_163 : decode cX9_seek 163 = .ok (.getfield 339, 3) := by decide +kernel
theorem dX9_seek_166 : decode cX9_seek 166 = .ok (.iload 5, 2) := by decide +kernel
theorem dX9_seek_168 : decode cX9_seek 168 = .ok (.iaload, 1) := by decide +kernel
theorem dX9_seek_169 : decode cX9_seek 169 = .ok (.invokevirtual 236, 3) := by decide +kernel
theorem dX9_seek_172 : decode cX9_seek 172 = .ok (.istore 11, 2) := by decide +kernel
theorem dX9_seek_174 : decode cX9_seek 174 = .ok (.aload_n 0, 1) := by decide +kernel
theorem dX9_seek_175 : decode cX9_seek 175 = .ok (.getfield 46, 3) := by decide +kernel
theorem dX9_seek_178 : decode cX9_seek 178 = .ok (.getfield 358, 3) := by decide +kernel
theorem dX9_seek_181 : decode cX9_seek 181 = .ok (.iload_n 1, 1) := by decide +kernel
theorem dX9_seek_182 : decode cX9_seek 182 = .ok (.iload 5, 2) := by decide +kernel
theorem dX9_seek_184 : decode cX9_seek 184 = .ok (.iastore, 1) := by decide +kernel
theorem dX9_seek_185 : decode cX9_seek 185 = .ok (.aload_n 0, 1) := by decide +kernel
theorem dX9_seek_186 : decode cX9_seek 186 = .ok (.iload_n 1, 1) := by decide +kernel
theorem dX9_seek_187 : decode cX9_seek 187 = .ok (.iconst 1, 1) := by decide +kernel
theorem dX9_seek_188 : decode cX9_seek 188 = .ok (.iadd, 1) := by decide +kernel
theorem dX9_seek_189 : decode cX9_seek 189 = .ok (.iload_n 2, 1) := by decide +kernel
theorem dX9_seek_190 : decode cX9_seek 190 = .ok (.iconst 1, 1) := by decide +kernel
theorem dX9_seek_191 : decode cX9_seek 191 = .ok (.iload 5, 2) := by decide +kernel
theorem dX9_seek_193 : decode cX9_seek 193 = .ok (.ishl, 1) := by decide +kernel
theorem dX9_seek_194 : decode cX9_seek 194 = .ok (.ior, 1) := by decide +kernel
theorem dX9_seek_195 : decode cX9_seek 195 = .ok (.iload 11, 2) := by decide +kernel
theorem dX9_seek_197 : decode cX9_seek 197 = .ok (.ifCond .eq 9, 3) := by decide +kernel
theorem dX9_seek_200 : decode cX9_seek 200 = .ok (.iload_n 3, 1) := by decide +kernel
theorem dX9_seek_201 : decode cX9_seek 201 = .ok (.iconst 1, 1) := by decide +kernel
theorem dX9_seek_202 : decode cX9_seek 202 = .ok (.iadd, 1) := by decide +kernel
theorem dX9_seek_203 : decode cX9_seek 203 = .ok (.goto 4, 3) := by decide +kernel
theorem dX9_seek_206 : decode cX9_seek 206 = .ok (.iload_n 3, 1) := by decide +kernel
theorem dX9_seek_207 : decode cX9_seek 207 = .ok (.invokevirtual 249, 3) := by decide +kernel
theorem dX9_seek_210 : decode cX9_seek 210 = .ok (.aload_n 0, 1) := by decide +kernel
theorem dX9_seek_211 : decode cX9_seek 211 = .ok (.getfield 36, 3) := by decide +kernel
theorem dX9_seek_214 : decode cX9_seek 214 = .ok (.getfield 138, 3) := by decide +kernel
theorem dX9_seek_217 : decode cX9_seek 217 = .ok (.aload_n 0, 1) := by decide +kernel
theorem dX9_seek_218 : decode cX9_seek 218 = .ok (.getfield 46, 3) := by decide +kernel
theorem dX9_seek_221 : decode cX9_seek 221 = .ok (.getfield 356, 3) := by decide +kernel
theorem dX9_seek_224 : decode cX9_seek 224 = .ok (.lload 7, 2) := by decide +kernel
theorem dX9_seek_226 : decode cX9_seek 226 = .ok (.lastore, 1) := by decide +kernel
theorem dX9_seek_227 : decode cX9_seek 227 = .ok (.aload_n 0, 1) := by decide +kernel
theorem dX9_seek_228 : decode cX9_seek 228 = .ok (.getfield 36, 3) := by decide +kernel
theorem dX9_seek_231 : decode cX9_seek 231 = .ok (.getfield 138, 3) := by decide +kernel
theorem dX9_seek_234 : decode cX9_seek 234 = .ok (.iload 6, 2) := by decide +kernel
theorem dX9_seek_236 : decode cX9_seek 236 = .ok (.lload 9, 2) := by decide +kernel
theorem dX9_seek_238 : decode cX9_seek 238 = .ok (.lastore, 1) := by decide +kernel
theorem dX9_seek_239 : decode cX9_seek 239 = .ok (.iinc 5 1, 3) := by decide +kernel
theorem dX9_seek_242 : decode cX9_seek 242 = .ok (.goto (-183), 3) := by decide +kernel
theorem dX9_seek_245 : decode cX9_seek 245 = .ok (.return_, 1) := by decide +kernel
theorem dX10_init_0 : decode cX10_init 0 = .ok (.aload_n 0, 1) := by decide +kernel
theorem dX10_init_1 : decode cX10_init 1 = .ok (.invokespecial 1, 3) := by decide +kernel
theorem dX10_init_4 : decode cX10_init 4 = .ok (.aload_n 0, 1) := by decide +kernel
theorem dX10_init_5 : decode cX10_init 5 = .ok (.bipush 40, 2) := by decide +kernel
theorem dX10_init_7 : decode cX10_init 7 = .ok (.newarray .int, 2) := by decide +kernel
theorem dX10_init_9 : decode cX10_init 9 = .ok (.putfield 7, 3) := by decide +kernel
theorem dX10_init_12 : decode cX10_init 12 = .ok (.aload_n 0, 1) := by decide +kernel
theorem dX10_init_13 : decode cX10_init 13 = .ok (.bipush 40, 2) := by decide +kernel
theorem dX10_init_15 : decode cX10_init 15 = .ok (.newarray .int, 2) := by decide +kernel
theorem dX10_init_17 : decode cX10_init 17 = .ok (.putfield 13, 3) := by decide +kernel
theorem dX10_init_20 : decode cX10_init 20 = .ok (.aload_n 0, 1) := by decide +kernel
theorem dX10_init_21 : decode cX10_init 21 = .ok (.bipush 40, 2) := by decide +kernel
theorem dX10_init_23 : decode cX10_init 23 = .ok (.newarray .int, 2) := by decide +kernel
theorem dX10_init_25 : decode cX10_init 25 = .ok (.putfield 16, 3) := by decide +kernel
theorem dX10_init_28 : decode cX10_init 28 = .ok (.aload_n 0, 1) := by decide +kernel
theorem dX10_init_29 : decode cX10_init 29 = .ok (.bipush 40, 2) := by decide +kernel
theorem dX10_init_31 : decode cX10_init 31 = .ok (.newarray .int, 2) := by decide +kernel
theorem dX10_init_33 : decode cX10_init 33 = .ok (.putfield 19, 3) := by decide +kernel
theorem dX10_init_36 : decode cX10_init 36 = .ok (.aload_n 0, 1) := by decide +kernel
theorem dX10_init_37 : decode cX10_init 37 = .ok (.bipush 40, 2) := by decide +kernel
theorem dX10_init_39 : decode cX10_init 39 = .ok (.newarray .int, 2) := by decide +kernel
theorem dX10_init_41 : decode cX10_init 41 = .ok (.putfield 22, 3) := by decide +kernel
theorem dX10_init_44 : decode cX10_init 44 = .ok (.aload_n 0, 1) := by decide +kernel
theorem dX10_init_45 : decode cX10_init 45 = .ok (.bipush 6, 2) := by decide +kernel
theorem dX10_init_47 : decode cX10_init 47 = .ok (.newarray .int, 2) := by decide +kernel
theorem dX10_init_49 : decode cX10_init 49 = .ok (.putfield 25, 3) := by decide +kernel
theorem dX10_init_52 : decode cX10_init 52 = .ok (.aload_n 0, 1) := by decide +kernel
theorem dX10_init_53 : decode cX10_init 53 = .ok (.bipush 6, 2) := by decide +kernel
theorem dX10_init_55 : decode cX10_init 55 = .ok (.newarray .int, 2) := by decide +kernel
theorem dX10_init_57 : decode cX10_init 57 = .ok (.putfield 28, 3) := by decide +kernel
theorem dX10_init_60 : decode cX10_init 60 = .ok (.aload_n 0, 1) := by decide +kernel
theorem dX10_init_61 : decode cX10_init 61 = .ok (.bipush 72, 2) := by decide +kernel
theorem dX10_init_63 : decode cX10_init 63 = .ok (.newarray .int, 2) := by decide +kernel
theorem dX10_init_65 : decode cX10_init 65 = .ok (.putfield 31, 3) := by decide +kernel
theorem dX10_init_68 : decode cX10_init 68 = .ok (.aload_n 0, 1) := by decide +kernel
theorem dX10_init_69 : decode cX10_init 69 = .ok (.bipush 40, 2) := by decide +kernel
theorem dX10_init_71 : decode cX10_init 71 = .ok (.newarray .int, 2) := by decide +kernel
theorem dX10_init_73 : decode cX10_init 73 = .ok (.putfield 34, 3) := by decide +kernel
theorem dX10_init_76 : decode cX10_init 76 = .ok (.aload_n 0, 1) := by decide +kernel
theorem dX10_init_77 : decode cX10_init 77 = .ok (.sipush 160, 3) := by decide +kernel
theorem dX10_init_80 : decode cX10_init 80 = .ok (.newarray .int, 2) := by decide +kernel
theorem dX10_init_82 : decode cX10_init 82 = .ok (.putfield 37, 3) := by decide +kernel
theorem dX10_init_85 : decode cX10_init 85 = .ok (.aload_n 0, 1) := by decide +kernel
theorem dX10_init_86 : decode cX10_init 86 = .ok (.bipush 72, 2) := by decide +kernel
theorem dX10_init_88 : decode cX10_init 88 = .ok (.newarray .int, 2) := by decide +kernel
theorem dX10_init_90 : decode cX10_init 90 = .ok (.putfield 40, 3) := by decide +kernel
theorem dX10_init_93 : decode cX10_init 93 = .ok (.aload_n 0, 1) := by decide +kernel
theorem dX10_init_94 : decode cX10_init 94 = .ok (.bipush 40, 2) := by decide +kernel
theorem dX10_init_96 : decode cX10_init 96 = .ok (.newarray .int, 2) := by decide +kernel
theorem dX10_init_98 : decode cX10_init 98 = .ok (.putfield 43, 3) := by decide +kernel
theorem dX10_init_101 : decode cX10_init 101 = .ok (.aload_n 0, 1) := by decide +kernel
theorem dX10_init_102 : decode cX10_init 102 = .ok (.bipush 6, 2) := by decide +kernel
theorem dX10_init_104 : decode cX10_init 104 = .ok (.newarray .int, 2) := by decide +kernel
theorem dX10_init_106 : decode cX10_init 106 = .ok (.putfield 46, 3) := by decide +kernel
theorem dX10_init_109 : decode cX10_init 109 = .ok (.aload_n 0, 1) := by decide +kernel
theorem dX10_init_110 : decode cX10_init 110 = .ok (.bipush 6, 2) := by decide +kernel
theorem dX10_init_112 : decode cX10_init 112 = .ok (.newarray .int, 2) := by decide +kernel
theorem dX10_init_114 : decode cX10_init 114 = .ok (.putfield 49, 3) := by decide +kernel
theorem dX10_init_117 : decode cX10_init 117 = .ok (.aload_n 0, 1) := by decide +kernel
theorem dX10_init_118 : decode cX10_init 118 = .ok (.bipush 24, 2) := by decide +kernel
theorem dX10_init_120 : decode cX10_init 120 = .ok (.newarray .long, 2) := by decide +kernel
theorem dX10_init_122 : decode cX10_init 122 = .ok (.putfield 52, 3) := by decide +kernel
theorem dX10_init_125 : decode cX10_init 125 = .ok (.aload_n 0, 1) := by decide +kernel
theorem dX10_init_126 : decode cX10_init 126 = .ok (.bipush 24, 2) := by decide +kernel
theorem dX10_init_128 : decode cX10_init 128 = .ok (.newarray .long, 2) := by decide +kernel
theorem dX10_init_130 : decode cX10_init 130 = .ok (.putfield 56, 3) := by decide +kernel
theorem dX10_init_133 : decode cX10_init 133 = .ok (.aload_n 0, 1) := by decide +kernel
theorem dX10_init_134 : decode cX10_init 134 = .ok (.sipush 284, 3) := by decide +kernel
theorem dX10_init_137 : decode cX10_init 137 = .ok (.newarray .int, 2) := by decide +kernel
theorem dX10_init_139 : decode cX10_init 139 = .ok (.putfield 59, 3) := by decide +kernel
theorem dX10_init_142 : decode cX10_init 142 = .ok (.aload_n 0, 1) := by decide +kernel
theorem dX10_init_143 : decode cX10_init 143 = .ok (.iconst 4, 1) := by decide +kernel
theorem dX10_init_144 : decode cX10_init 144 = .ok (.newarray .int, 2) := by decide +kernel
theorem dX10_init_146 : decode cX10_init 146 = .ok (.putfield 62, 3) := by decide +kernel
theorem dX10_init_149 : decode cX10_init 149 = .ok (.aload_n 0, 1) := by decide +kernel
theorem dX10_init_150 : decode cX10_init 150 = .ok (.iconst 4, 1) := by decide +kernel
theorem dX10_init_151 : decode cX10_init 151 = .ok (.newarray .int, 2) := by decide +kernel
theorem dX10_init_153 : decode cX10_init 153 = .ok (.putfield 65, 3) := by decide +kernel
theorem dX10_init_156 : decode cX10_init 156 = .ok (.aload_n 0, 1) := by decide +kernel
theorem dX10_init_157 : decode cX10_init 157 = .ok (.iconst 4, 1) := by decide +kernel
theorem dX10_init_158 : decode cX10_init 158 = .ok (.newarray .int, 2) := by decide +kernel
theorem dX10_init_160 : decode cX10_init 160 = .ok (.putfield 68, 3) := by decide +kernel
theorem dX10_init_163 : decode cX10_init 163 = .ok (.aload_n 0, 1) := by decide +kernel
theorem dX10_init_164 : decode cX10_init 164 = .ok (.bipush 96, 2) := by decide +kernel
theorem dX10_init_166 : decode cX10_init 166 = .ok (.newarray .long, 2) := by decide +kernel
theorem dX10_init_168 : decode cX10_init 168 = .ok (.putfield 71, 3) := by decide +kernel
theorem dX10_init_171 : decode cX10_init 171 = .ok (.iconst 0, 1) := by decide +kernel
theorem dX10_init_172 : decode cX10_init 172 = .ok (.istore_n 1, 1) := by decide +kernel
theorem dX10_init_173 : decode cX10_init 173 = .ok (.iload_n 1, 1) := by decide +kernel
theorem dX10_init_174 : decode cX10_init 174 = .ok (.iconst 4, 1) := by decide +kernel
theorem dX10_init_175 : decode cX10_init 175 = .ok (.if_icmp .ge 16, 3) := by decide +kernel
theorem dX10_init_178 : decode cX10_init 178 = .ok (.aload_n 0, 1) := by decide +kernel
theorem dX10_init_179 : decode cX10_init 179 = .ok (.getfield 65, 3) := by decide +kernel
theorem dX10_init_182 : decode cX10_init 182 = .ok (.iload_n 1, 1) := by decide +kernel
theorem dX10_init_183 : decode cX10_init 183 = .ok (.iconst (-1), 1) := by decide +kernel
theorem dX10_init_184 : decode cX10_init 184 = .ok (.iastore, 1) := by decide +kernel
theorem dX10_init_185 : decode cX10_init 185 = .ok (.iinc 1 1, 3) := by decide +kernel
theorem dX10_init_188 : decode cX10_init 188 = .ok (.goto (-15), 3) := by decide +kernel
theorem dX10_init_191 : decode cX10_init 191 = .ok (.return_, 1) := by decide +kernel
theorem dX10_in_0 : decode cX10_in 0 = .ok (.lload_n 0, 1) := by decide +kernel
theorem dX10_in_1 : decode cX10_in 1 = .ok (.lload_n 2, 1) := by decide +kernel
theorem dX10_in_2 : decode cX10_in 2 = .ok (.lcmp, 1) := by decide +kernel
theorem dX10_in_3 : decode cX10_in 3 = .ok (.ifCond .lt 14, 3) := by decide +kernel
theorem dX10_in_6 : decode cX10_in 6 = .ok (.lload_n 0, 1) := by decide +kernel
theorem dX10_in_7 : decode cX10_in 7 = .ok (.lload 4, 2) := by decide +kernel
theorem dX10_in_9 : decode cX10_in 9 = .ok (.lcmp, 1) := by decide +kernel
theorem dX10_in_10 : decode cX10_in 10 = .ok (.ifCond .gt 7, 3) := by decide +kernel
theorem dX10_in_13 : decode cX10_in 13 = .ok (.iconst 1, 1) := by decide +kernel
theorem dX10_in_14 : decode cX10_in 14 = .ok (.goto 4, 3) := by decide +kernel
theorem dX10_in_17 : decode cX10_in 17 = .ok (.iconst 0, 1) := by decide +kernel
theorem dX10_in_18 : decode cX10_in 18 = .ok (.ireturn, 1) := by decide +kernel
set_option maxRecDepth 20000 in
theorem ggX10_isCoin_X10_in : GoodIn wsX10_isCoin wsX10_in := goodIn_r _ [5] (by decide +kernel) (by decide +kernel)
set_option maxRecDepth 20000 in
theorem gX10_isCoin_X10_in : GoodIn wsX10_isCoin (va_wsS RX10 78 yX10_in wsX10_in) := goodIn_app (goodIn_of _ (by decide +kernel)) ggX10_isCoin_X10_in
theorem dX10_isCoin_0 : decode cX10_isCoin 0 = .ok (.iload_n 1, 1) := by decide +kernel
theorem dX10_isCoin_1 : decode cX10_isCoin 1 = .ok (.i2l, 1) := by decide +kernel
theorem dX10_isCoin_2 : decode cX10_isCoin 2 = .ok (.lconst 0, 1) := by decide +kernel
theorem dX10_isCoin_3 : decode cX10_isCoin 3 = .ok (.aload_n 0, 1) := by decide +kernel
theorem dX10_isCoin_4 : decode cX10_isCoin 4 = .ok (.getfield 74, 3) := by decide +kernel
theorem dX10_isCoin_7 : decode cX10_isCoin 7 = .ok (.iconst 1, 1) := by decide +kernel
theorem dX10_isCoin_8 : decode cX10_isCoin 8 = .ok (.isub, 1) := by decide +kernel
theorem dX10_isCoin_9 : decode cX10_isCoin 9 = .ok (.i2l, 1) := by decide +kernel
theorem dX10_isCoin_10 : decode cX10_isCoin 10 = .ok (.invokestatic 78, 3) := by decide +kernel
theorem dX10_isCoin_13 : decode cX10_isCoin 13 = .ok (.ireturn, 1) := by decide +kernel
set_option maxRecDepth 20000 in
theorem ggX10_isHolder_X10_in : GoodIn wsX10_isHolder wsX10_in := goodIn_r _ [5] (by decide +kernel) (by decide +kernel)
set_option maxRecDepth 20000 in
theorem gX10_isHolder_X10_in : GoodIn wsX10_isHolder (va_wsS RX10 78 yX10_in wsX10_in) := goodIn_app (goodIn_of _ (by decide +kernel)) ggX10_isHolder_X10_in
theorem dX10_isHolder_0 : decode cX10_isHolder 0 = .ok (.iload_n 0, 1) := by decide +kernel
theorem dX10_isHolder_1 : decode cX10_isHolder 1 = .ok (.i2l, 1) := by decide +kernel
theorem dX10_isHolder_2 : decode cX10_isHolder 2 = .ok (.lconst 0, 1) := by decide +kernel
theorem dX10_isHolder_3 : decode cX10_isHolder 3 = .ok (.ldc2_w 82, 3) := by decide +kernel
theorem dX10_isHolder_6 : decode cX10_isHolder 6 = .ok (.invokestatic 78, 3) := by decide +kernel
theorem dX10_isHolder_9 : decode cX10_isHolder 9 = .ok (.ireturn, 1) := by decide +kernel
set_option maxRecDepth 20000 in
theorem ggX10_isPurse_X10_in : GoodIn wsX10_isPurse wsX10_in := goodIn_r _ [5] (by decide +kernel) (by decide +kernel)
set_option maxRecDepth 20000 in
theorem gX10_isPurse_X10_in : GoodIn wsX10_isPurse (va_wsS RX10 78 yX10_in wsX10_in) := goodIn_app (goodIn_of _ (by decide +kernel)) ggX10_isPurse_X10_in
theorem dX10_isPurse_0 : decode cX10_isPurse 0 = .ok (.iload_n 0, 1) := by decide +kernel
theorem dX10_isPurse_1 : decode cX10_isPurse 1 = .ok (.i2l, 1) := by decide +kernel
theorem dX10_isPurse_2 : decode cX10_isPurse 2 = .ok (.lconst 0, 1) := by decide +kernel
theorem dX10_isPurse_3 : decode cX10_isPurse 3 = .ok (.ldc2_w 84, 3) := by decide +kernel
theorem dX10_isPurse_6 : decode cX10_isPurse 6 = .ok (.invokestatic 78, 3) := by decide +kernel
theorem dX10_isPurse_9 : decode cX10_isPurse 9 = .ok (.ireturn, 1) := by decide +kernel
set_option maxRecDepth 20000 in
theorem ggX10_isShop_X10_in : GoodIn wsX10_isShop wsX10_in := goodIn_r _ [6] (by decide +kernel) (by decide +kernel)
set_option maxRecDepth 20000 in
theorem gX10_isShop_X10_in : GoodIn wsX10_isShop (va_wsS RX10 78 yX10_in wsX10_in) := goodIn_app (goodIn_of _ (by decide +kernel)) ggX10_isShop_X10_in
theorem dX10_isShop_0 : decode cX10_isShop 0 = .ok (.iload_n 0, 1) := by decide +kernel
theorem dX10_isShop_1 : decode cX10_isShop 1 = .ok (.i2l, 1) := by decide +kernel
theorem dX10_isShop_2 : decode cX10_isShop 2 = .ok (.ldc2_w 86, 3) := by decide +kernel
theorem dX10_isShop_5 : decode cX10_isShop 5 = .ok (.ldc2_w 82, 3) := by decide +kernel
theorem dX10_isShop_8 : decode cX10_isShop 8 = .ok (.invokestatic 78, 3) := by decide +kernel
theorem dX10_isShop_11 : decode cX10_isShop 11 = .ok (.ireturn, 1) := by decide +kernel
set_option maxRecDepth 20000 in
theorem ggX10_isSum_X10_in : GoodIn wsX10_isSum wsX10_in := goodIn_r _ [5] (by decide +kernel) (by decide +kernel)
set_option maxRecDepth 20000 in
theorem gX10_isSum_X10_in : GoodIn wsX10_isSum (va_wsS RX10 78 yX10_in wsX10_in) := goodIn_app (goodIn_of _ (by decide +kernel)) ggX10_isSum_X10_in
theorem dX10_isSum_0 : decode cX10_isSum 0 = .ok (.iload_n 0, 1) := by decide +kernel
theorem dX10_isSum_1 : decode cX10_isSum 1 = .ok (.i2l, 1) := by decide +kernel
theorem dX10_isSum_2 : decode cX10_isSum 2 = .ok (.lconst 1, 1) := by decide +kernel
theorem dX10_isSum_3 : decode cX10_isSum 3 = .ok (.ldc2_w 88, 3) := by decide +kernel
theorem dX10_isSum_6 : decode cX10_isSum 6 = .ok (.invokestatic 78, 3) := by decide +kernel
theorem dX10_isSum_9 : decode cX10_isSum 9 = .ok (.ireturn, 1) := by decide +kernel
theorem dX10_add_0 : decode cX10_add 0 = .ok (.aload_n 0, 1) := by decide +kernel
theorem dX10_add_1 : decode cX10_add 1 = .ok (.getfield 7, 3) := by decide +kernel
theorem dX10_add_4 : decode cX10_add 4 = .ok (.aload_n 0, 1) := by decide +kernel
theorem dX10_add_5 : decode cX10_add 5 = .ok (.getfield 74, 3) := by decide +kernel
theorem dX10_add_8 : decode cX10_add 8 = .ok (.iload_n 2, 1) := by decide +kernel
theorem dX10_add_9 : decode cX10_add 9 = .ok (.iastore, 1) := by decide +kernel
theorem dX10_add_10 : decode cX10_add 10 = .ok (.aload_n 0, 1) := by decide +kernel
theorem dX10_add_11 : decode cX10_add 11 = .ok (.getfield 13, 3) := by decide +kernel
theorem dX10_add_14 : decode cX10_add 14 = .ok (.aload_n 0, 1) := by decide +kernel
theorem dX10_add_15 : decode cX10_add 15 = .ok (.getfield 74, 3) := by decide +kernel
theorem dX10_add_18 : decode cX10_add 18 = .ok (.iload_n 3, 1) := by decide +kernel
theorem dX10_add_19 : decode cX10_add 19 = .ok (.iastore, 1) := by decide +kernel
theorem dX10_add_20 : decode cX10_add 20 = .ok (.aload_n 0, 1) := by decide +kernel
theorem dX10_add_21 : decode cX10_add 21 = .ok (.getfield 16, 3) := by decide +kernel
theorem dX10_add_24 : decode cX10_add 24 = .ok (.aload_n 0, 1) := by decide +kernel
theorem dX10_add_25 : decode cX10_add 25 = .ok (.getfield 74, 3) := by decide +kernel
theorem dX10_add_28 : decode cX10_add 28 = .ok (.iload 4, 2) := by decide +kernel
theorem dX10_add_30 : decode cX10_add 30 = .ok (.iastore, 1) := by decide +kernel
theorem dX10_add_31 : decode cX10_add 31 = .ok (.aload_n 0, 1) := by decide +kernel
theorem dX10_add_32 : decode cX10_add 32 = .ok (.getfield 19, 3) := by decide +kernel
theorem dX10_add_35 : decode cX10_add 35 = .ok (.aload_n 0, 1) := by decide +kernel
theorem dX10_add_36 : decode cX10_add 36 = .ok (.getfield 74, 3) := by decide +kernel
theorem dX10_add_39 : decode cX10_add 39 = .ok (.iload 5, 2) := by decide +kernel
theorem dX10_add_41 : decode cX10_add 41 = .ok (.iastore, 1) := by decide +kernel
theorem dX10_add_42 : decode cX10_add 42 = .ok (.aload_n 0, 1) := by decide +kernel
theorem dX10_add_43 : decode cX10_add 43 = .ok (.getfield 22, 3) := by decide +kernel
theorem dX10_add_46 : decode cX10_add 46 = .ok (.aload_n 0, 1) := by decide +kernel
theorem dX10_add_47 : decode cX10_add 47 = .ok (.getfield 74, 3) := by decide +kernel
theorem dX10_add_50 : decode cX10_add 50 = .ok (.iload_n 1, 1) := by decide +kernel
theorem dX10_add_51 : decode cX10_add 51 = .ok (.iastore, 1) := by decide +kernel
theorem dX10_add_52 : decode cX10_add 52 = .ok (.aload_n 0, 1) := by decide +kernel
theorem dX10_add_53 : decode cX10_add 53 = .ok (.dup, 1) := by decide +kernel
theorem dX10_add_54 : decode cX10_add 54 = .ok (.getfield 74, 3) := by decide +kernel
theorem dX10_add_57 : decode cX10_add 57 = .ok (.iconst 1, 1) := by decide +kernel
theorem dX10_add_58 : decode cX10_add 58 = .ok (.iadd, 1) := by decide +kernel
theorem dX10_add_59 : decode cX10_add 59 = .ok (.putfield 74, 3) := by decide +kernel
theorem dX10_add_62 : decode cX10_add 62 = .ok (.return_, 1) := by decide +kernel
set_option maxRecDepth 20000 in
theorem ggX10_coin_X10_isHolder : GoodIn wsX10_coin wsX10_isHolder := goodIn_r _ [7, 8, 9, 10, 6, 11] (by decide +kernel) (by decide +kernel)
set_option maxRecDepth 20000 in
theorem gX10_coin_X10_isHolder : GoodIn wsX10_coin (va_wsS RX10 90 yX10_isHolder wsX10_isHolder) := goodIn_app (goodIn_of _ (by decide +kernel)) ggX10_coin_X10_isHolder
set_option maxRecDepth 20000 in
theorem ggX10_coin_X10_in : GoodIn wsX10_coin wsX10_in := goodIn_r _ [11] (by decide +kernel) (by decide +kernel)
set_option maxRecDepth 20000 in
theorem gX10_coin_X10_in : GoodIn wsX10_coin (va_wsS RX10 78 yX10_in wsX10_in) := goodIn_app (goodIn_of _ (by decide +kernel)) ggX10_coin_X10_in
set_option maxRecDepth 20000 in
theorem ggX10_coin_X10_add : GoodIn wsX10_coin wsX10_add := goodIn_r _ [15, 16, 3, 17, 18, 19, 20, 21, 22, 23, 24, 25, 26, 27, 28, 29, 30, 31, 32, 33, 34, 35, 36, 37, 38, 39, 40, 41, 42, 43, 44, 45, 46, 47, 48, 49, 50, 51, 52, 53, 54, 55] (by decide +kernel) (by decide +kernel)
set_option maxRecDepth 20000 in
theorem gX10_coin_X10_add : GoodIn wsX10_coin (wsV RX10 96 RX10 yX10_add wsX10_add) := goodIn_app (goodIn_of _ (by decide +kernel)) ggX10_coin_X10_add
theorem dX10_coin_0 : decode cX10_coin 0 = .ok (.iload_n 1, 1) := by decide +kernel
theorem dX10_coin_1 : decode cX10_coin 1 = .ok (.invokestatic 90, 3) := by decide +kernel
theorem dX10_coin_4 : decode cX10_coin 4 = .ok (.ifCond .eq 40, 3) := by decide +kernel
theorem dX10_coin_7 : decode cX10_coin 7 = .ok (.iload_n 2, 1) := by decide +kernel
theorem dX10_coin_8 : decode cX10_coin 8 = .ok (.i2l, 1) := by decide +kernel
theorem dX10_coin_9 : decode cX10_coin 9 = .ok (.lconst 1, 1) := by decide +kernel
theorem dX10_coin_10 : decode cX10_coin 10 = .ok (.ldc2_w 94, 3) := by decide +kernel
theorem dX10_coin_13 : decode cX10_coin 13 = .ok (.invokestatic 78, 3) := by decide +kernel
theorem dX10_coin_16 : decode cX10_coin 16 = .ok (.ifCond .eq 28, 3) := by decide +kernel
theorem dX10_coin_19 : decode cX10_coin 19 = .ok (.iload_n 3, 1) := by decide +kernel
theorem dX10_coin_20 : decode cX10_coin 20 = .ok (.i2l, 1) := by decide +kernel
theorem dX10_coin_21 : decode cX10_coin 21 = .ok (.lconst 0, 1) := by decide +kernel
theorem dX10_coin_22 : decode cX10_coin 22 = .ok (.ldc2_w 94, 3) := by decide +kernel
theorem dX10_coin_25 : decode cX10_coin 25 = .ok (.invokestatic 78, 3) := by decide +kernel
theorem dX10_coin_28 : decode cX10_coin 28 = .ok (.ifCond .eq 16, 3) := by decide +kernel
theorem dX10_coin_31 : decode cX10_coin 31 = .ok (.iload 4, 2) := by decide +kernel
theorem dX10_coin_33 : decode cX10_coin 33 = .ok (.i2l, 1) := by decide +kernel
theorem dX10_coin_34 : decode cX10_coin 34 = .ok (.lconst 0, 1) := by decide +kernel
theorem dX10_coin_35 : decode cX10_coin 35 = .ok (.ldc2_w 84, 3) := by decide +kernel
theorem dX10_coin_38 : decode cX10_coin 38 = .ok (.invokestatic 78, 3) := by decide +kernel
theorem dX10_coin_41 : decode cX10_coin 41 = .ok (.ifCond .ne 5, 3) := by decide +kernel
theorem dX10_coin_44 : decode cX10_coin 44 = .ok (.iconst (-1), 1) := by decide +kernel
theorem dX10_coin_45 : decode cX10_coin 45 = .ok (.ireturn, 1) := by decide +kernel
theorem dX10_coin_46 : decode cX10_coin 46 = .ok (.aload_n 0, 1) := by decide +kernel
theorem dX10_coin_47 : decode cX10_coin 47 = .ok (.getfield 74, 3) := by decide +kernel
theorem dX10_coin_50 : decode cX10_coin 50 = .ok (.bipush 40, 2) := by decide +kernel
theorem dX10_coin_52 : decode cX10_coin 52 = .ok (.if_icmp .ne 6, 3) := by decide +kernel
theorem dX10_coin_55 : decode cX10_coin 55 = .ok (.bipush (-3), 2) := by decide +kernel
theorem dX10_coin_57 : decode cX10_coin 57 = .ok (.ireturn, 1) := by decide +kernel
theorem dX10_coin_58 : decode cX10_coin 58 = .ok (.aload_n 0, 1) := by decide +kernel
theorem dX10_coin_59 : decode cX10_coin 59 = .ok (.iload_n 1, 1) := by decide +kernel
theorem dX10_coin_60 : decode cX10_coin 60 = .ok (.iload_n 2, 1) := by decide +kernel
theorem dX10_coin_61 : decode cX10_coin 61 = .ok (.iload_n 3, 1) := by decide +kernel
theorem dX10_coin_62 : decode cX10_coin 62 = .ok (.iload_n 3, 1) := by decide +kernel
theorem dX10_coin_63 : decode cX10_coin 63 = .ok (.iload 4, 2) := by decide +kernel
theorem dX10_coin_65 : decode cX10_coin 65 = .ok (.invokevirtual 96, 3) := by decide +kernel
theorem dX10_coin_68 : decode cX10_coin 68 = .ok (.aload_n 0, 1) := by decide +kernel
theorem dX10_coin_69 : decode cX10_coin 69 = .ok (.getfield 74, 3) := by decide +kernel
theorem dX10_coin_72 : decode cX10_coin 72 = .ok (.iconst 1, 1) := by decide +kernel
theorem dX10_coin_73 : decode cX10_coin 73 = .ok (.isub, 1) := by decide +kernel
theorem dX10_coin_74 : decode cX10_coin 74 = .ok (.ireturn, 1) := by decide +kernel
set_option maxRecDepth 20000 in
theorem ggX10_stamp_X10_isCoin : GoodIn wsX10_stamp wsX10_isCoin := goodIn_r _ [7, 8, 9, 10, 6, 11, 12, 13, 14, 15, 16, 17, 18, 19, 20, 21, 22, 23, 24, 25, 26, 27, 28, 29, 30, 31, 32, 33, 34, 35, 36, 37, 38, 39, 40, 41, 42, 43, 44, 45, 46] (by decide +kernel) (by decide +kernel)
set_option maxRecDepth 20000 in
theorem gX10_stamp_X10_isCoin : GoodIn wsX10_stamp (wsV RX10 100 RX10 yX10_isCoin wsX10_isCoin) := goodIn_app (goodIn_of _ (by decide +kernel)) ggX10_stamp_X10_isCoin
set_option maxRecDepth 20000 in
theorem ggX10_stamp_X10_in : GoodIn wsX10_stamp wsX10_in := goodIn_r _ [11] (by decide +kernel) (by decide +kernel)
set_option maxRecDepth 20000 in
theorem gX10_stamp_X10_in : GoodIn wsX10_stamp (va_wsS RX10 78 yX10_in wsX10_in) := goodIn_app (goodIn_of _ (by decide +kernel)) ggX10_stamp_X10_in
theorem dX10_stamp_0 : decode cX10_stamp 0 = .ok (.aload_n 0, 1) := by decide +kernel
theorem dX10_stamp_1 : decode cX10_stamp 1 = .ok (.iload_n 1, 1) := by decide +kernel
theorem dX10_stamp_2 : decode cX10_stamp 2 = .ok (.invokevirtual 100, 3) := by decide +kernel
theorem dX10_stamp_5 : decode cX10_stamp 5 = .ok (.ifCond .eq 15, 3) := by decide +kernel
theorem dX10_stamp_8 : decode cX10_stamp 8 = .ok (.iload_n 2, 1) := by decide +kernel
theorem dX10_stamp_9 : decode cX10_stamp 9 = .ok (.i2l, 1) := by decide +kernel
theorem dX10_stamp_10 : decode cX10_stamp 10 = .ok (.lconst 0, 1) := by decide +kernel
theorem dX10_stamp_11 : decode cX10_stamp 11 = .ok (.ldc2_w 94, 3) := by decide +kernel
theorem dX10_stamp_14 : decode cX10_stamp 14 = .ok (.invokestatic 78, 3) := by decide +kernel
theorem dX10_stamp_17 : decode cX10_stamp 17 = .ok (.ifCond .ne 5, 3) := by decide +kernel
theorem dX10_stamp_20 : decode cX10_stamp 20 = .ok (.iconst (-1), 1) := by decide +kernel
theorem dX10_stamp_21 : decode cX10_stamp 21 = .ok (.ireturn, 1) := by decide +kernel
theorem dX10_stamp_22 : decode cX10_stamp 22 = .ok (.aload_n 0, 1) := by decide +kernel
theorem dX10_stamp_23 : decode cX10_stamp 23 = .ok (.getfield 16, 3) := by decide +kernel
theorem dX10_stamp_26 : decode cX10_stamp 26 = .ok (.iload_n 1, 1) := by decide +kernel
theorem dX10_stamp_27 : decode cX10_stamp 27 = .ok (.iaload, 1) := by decide +kernel
theorem dX10_stamp_28 : decode cX10_stamp 28 = .ok (.istore_n 3, 1) := by decide +kernel
theorem dX10_stamp_29 : decode cX10_stamp 29 = .ok (.aload_n 0, 1) := by decide +kernel
theorem dX10_stamp_30 : decode cX10_stamp 30 = .ok (.getfield 16, 3) := by decide +kernel
theorem dX10_stamp_33 : decode cX10_stamp 33 = .ok (.iload_n 1, 1) := by decide +kernel
theorem dX10_stamp_34 : decode cX10_stamp 34 = .ok (.iload_n 2, 1) := by decide +kernel
theorem dX10_stamp_35 : decode cX10_stamp 35 = .ok (.iastore, 1) := by decide +kernel
theorem dX10_stamp_36 : decode cX10_stamp 36 = .ok (.iload_n 3, 1) := by decide +kernel
theorem dX10_stamp_37 : decode cX10_stamp 37 = .ok (.ireturn, 1) := by decide +kernel
set_option maxRecDepth 20000 in
theorem ggX10_told_X10_isCoin : GoodIn wsX10_told wsX10_isCoin := goodIn_r _ [11, 12, 13, 14, 10, 15, 16, 17, 18, 19, 20, 21, 22, 23, 24, 25, 26, 27, 28, 29, 30, 31, 32, 33, 34, 35, 36, 37, 38, 39, 40, 41, 42, 43, 44, 45, 46, 47, 48, 49, 50] (by decide +kernel) (by decide +kernel)
set_option maxRecDepth 20000 in
theorem gX10_told_X10_isCoin : GoodIn wsX10_told (wsV RX10 100 RX10 yX10_isCoin wsX10_isCoin) := goodIn_app (goodIn_of _ (by decide +kernel)) ggX10_told_X10_isCoin
set_option maxRecDepth 20000 in
theorem ggX10_told_X10_in : GoodIn wsX10_told wsX10_in := goodIn_r _ [15] (by decide +kernel) (by decide +kernel)
set_option maxRecDepth 20000 in
theorem gX10_told_X10_in : GoodIn wsX10_told (va_wsS RX10 78 yX10_in wsX10_in) := goodIn_app (goodIn_of _ (by decide +kernel)) ggX10_told_X10_in
theorem dX10_told_0 : decode cX10_told 0 = .ok (.aload_n 0, 1) := by decide +kernel
theorem dX10_told_1 : decode cX10_told 1 = .ok (.iload_n 1, 1) := by decide +kernel
theorem dX10_told_2 : decode cX10_told 2 = .ok (.invokevirtual 100, 3) := by decide +kernel
theorem dX10_told_5 : decode cX10_told 5 = .ok (.ifCond .eq 15, 3) := by decide +kernel
theorem dX10_told_8 : decode cX10_told 8 = .ok (.iload_n 2, 1) := by decide +kernel
theorem dX10_told_9 : decode cX10_told 9 = .ok (.i2l, 1) := by decide +kernel
theorem dX10_told_10 : decode cX10_told 10 = .ok (.lconst 0, 1) := by decide +kernel
theorem dX10_told_11 : decode cX10_told 11 = .ok (.ldc2_w 86, 3) := by decide +kernel
theorem dX10_told_14 : decode cX10_told 14 = .ok (.invokestatic 78, 3) := by decide +kernel
theorem dX10_told_17 : decode cX10_told 17 = .ok (.ifCond .ne 5, 3) := by decide +kernel
theorem dX10_told_20 : decode cX10_told 20 = .ok (.iconst (-1), 1) := by decide +kernel
theorem dX10_told_21 : decode cX10_told 21 = .ok (.ireturn, 1) := by decide +kernel
theorem dX10_told_22 : decode cX10_told 22 = .ok (.iload_n 2, 1) := by decide +kernel
theorem dX10_told_23 : decode cX10_told 23 = .ok (.ifCond .ne 12, 3) := by decide +kernel
theorem dX10_told_26 : decode cX10_told 26 = .ok (.aload_n 0, 1) := by decide +kernel
theorem dX10_told_27 : decode cX10_told 27 = .ok (.getfield 7, 3) := by decide +kernel
theorem dX10_told_30 : decode cX10_told 30 = .ok (.iload_n 1, 1) := by decide +kernel
theorem dX10_told_31 : decode cX10_told 31 = .ok (.iaload, 1) := by decide +kernel
theorem dX10_told_32 : decode cX10_told 32 = .ok (.goto 51, 3) := by decide +kernel
theorem dX10_told_35 : decode cX10_told 35 = .ok (.iload_n 2, 1) := by decide +kernel
theorem dX10_told_36 : decode cX10_told 36 = .ok (.iconst 1, 1) := by decide +kernel
theorem dX10_told_37 : decode cX10_told 37 = .ok (.if_icmp .ne 12, 3) := by decide +kernel
theorem dX10_told_40 : decode cX10_told 40 = .ok (.aload_n 0, 1) := by decide +kernel
theorem dX10_told_41 : decode cX10_told 41 = .ok (.getfield 13, 3) := by decide +kernel
theorem dX10_told_44 : decode cX10_told 44 = .ok (.iload_n 1, 1) := by decide +kernel
theorem dX10_told_45 : decode cX10_told 45 = .ok (.iaload, 1) := by decide +kernel
theorem dX10_told_46 : decode cX10_told 46 = .ok (.goto 37, 3) := by decide +kernel
theorem dX10_told_49 : decode cX10_told 49 = .ok (.iload_n 2, 1) := by decide +kernel
theorem dX10_told_50 : decode cX10_told 50 = .ok (.iconst 2, 1) := by decide +kernel
theorem dX10_told_51 : decode cX10_told 51 = .ok (.if_icmp .ne 12, 3) := by decide +kernel
theorem dX10_told_54 : decode cX10_told 54 = .ok (.aload_n 0, 1) := by decide +kernel
theorem dX10_told_55 : decode cX10_told 55 = .ok (.getfield 16, 3) := by decide +kernel
theorem dX10_told_58 : decode cX10_told 58 = .ok (.iload_n 1, 1) := by decide +kernel
theorem dX10_told_59 : decode cX10_told 59 = .ok (.iaload, 1) := by decide +kernel
theorem dX10_told_60 : decode cX10_told 60 = .ok (.goto 23, 3) := by decide +kernel
theorem dX10_told_63 : decode cX10_told 63 = .ok (.iload_n 2, 1) := by decide +kernel
theorem dX10_told_64 : decode cX10_told 64 = .ok (.iconst 3, 1) := by decide +kernel
theorem dX10_told_65 : decode cX10_told 65 = .ok (.if_icmp .ne 12, 3) := by decide +kernel
theorem dX10_told_68 : decode cX10_told 68 = .ok (.aload_n 0, 1) := by decide +kernel
theorem dX10_told_69 : decode cX10_told 69 = .ok (.getfield 19, 3) := by decide +kernel
theorem dX10_told_72 : decode cX10_told 72 = .ok (.iload_n 1, 1) := by decide +kernel
theorem dX10_told_73 : decode cX10_told 73 = .ok (.iaload, 1) := by decide +kernel
theorem dX10_told_74 : decode cX10_told 74 = .ok (.goto 9, 3) := by decide +kernel
theorem dX10_told_77 : decode cX10_told 77 = .ok (.aload_n 0, 1) := by decide +kernel
theorem dX10_told_78 : decode cX10_told 78 = .ok (.getfield 22, 3) := by decide +kernel
theorem dX10_told_81 : decode cX10_told 81 = .ok (.iload_n 1, 1) := by decide +kernel
theorem dX10_told_82 : decode cX10_told 82 = .ok (.iaload, 1) := by decide +kernel
theorem dX10_told_83 : decode cX10_told 83 = .ok (.ireturn, 1) := by decide +kernel
set_option maxRecDepth 20000 in
theorem ggX10_give_X10_isCoin : GoodIn wsX10_give wsX10_isCoin := goodIn_r _ [6, 7, 8, 9, 5, 10, 15, 16, 17, 18, 19, 20, 21, 22, 23, 24, 25, 26, 27, 28, 29, 30, 31, 32, 33, 34, 35, 36, 37, 38, 39, 40, 41, 42, 43, 44, 45, 46, 47, 48, 49] (by decide +kernel) (by decide +kernel)
set_option maxRecDepth 20000 in
theorem gX10_give_X10_isCoin : GoodIn wsX10_give (wsV RX10 100 RX10 yX10_isCoin wsX10_isCoin) := goodIn_app (goodIn_of _ (by decide +kernel)) ggX10_give_X10_isCoin
set_option maxRecDepth 20000 in
theorem ggX10_give_X10_isHolder : GoodIn wsX10_give wsX10_isHolder := goodIn_r _ [13, 14, 8, 9, 5, 10] (by decide +kernel) (by decide +kernel)
set_option maxRecDepth 20000 in
theorem gX10_give_X10_isHolder : GoodIn wsX10_give (va_wsS RX10 90 yX10_isHolder wsX10_isHolder) := goodIn_app (goodIn_of _ (by decide +kernel)) ggX10_give_X10_isHolder
theorem dX10_give_0 : decode cX10_give 0 = .ok (.aload_n 0, 1) := by decide +kernel
theorem dX10_give_1 : decode cX10_give 1 = .ok (.iload_n 1, 1) := by decide +kernel
theorem dX10_give_2 : decode cX10_give 2 = .ok (.invokevirtual 100, 3) := by decide +kernel
theorem dX10_give_5 : decode cX10_give 5 = .ok (.ifCond .eq 10, 3) := by decide +kernel
theorem dX10_give_8 : decode cX10_give 8 = .ok (.iload_n 2, 1) := by decide +kernel
theorem dX10_give_9 : decode cX10_give 9 = .ok (.invokestatic 90, 3) := by decide +kernel
theorem dX10_give_12 : decode cX10_give 12 = .ok (.ifCond .ne 5, 3) := by decide +kernel
theorem dX10_give_15 : decode cX10_give 15 = .ok (.iconst (-1), 1) := by decide +kernel
theorem dX10_give_16 : decode cX10_give 16 = .ok (.ireturn, 1) := by decide +kernel
theorem dX10_give_17 : decode cX10_give 17 = .ok (.aload_n 0, 1) := by decide +kernel
theorem dX10_give_18 : decode cX10_give 18 = .ok (.getfield 22, 3) := by decide +kernel
theorem dX10_give_21 : decode cX10_give 21 = .ok (.iload_n 1, 1) := by decide +kernel
theorem dX10_give_22 : decode cX10_give 22 = .ok (.iaload, 1) := by decide +kernel
theorem dX10_give_23 : decode cX10_give 23 = .ok (.istore_n 3, 1) := by decide +kernel
theorem dX10_give_24 : decode cX10_give 24 = .ok (.aload_n 0, 1) := by decide +kernel
theorem dX10_give_25 : decode cX10_give 25 = .ok (.getfield 22, 3) := by decide +kernel
theorem dX10_give_28 : decode cX10_give 28 = .ok (.iload_n 1, 1) := by decide +kernel
theorem dX10_give_29 : decode cX10_give 29 = .ok (.iload_n 2, 1) := by decide +kernel
theorem dX10_give_30 : decode cX10_give 30 = .ok (.iastore, 1) := by decide +kernel
theorem dX10_give_31 : decode cX10_give 31 = .ok (.iload_n 3, 1) := by decide +kernel
theorem dX10_give_32 : decode cX10_give 32 = .ok (.ireturn, 1) := by decide +kernel
theorem dX10_age_0 : decode cX10_age 0 = .ok (.aload_n 0, 1) := by decide +kernel
theorem dX10_age_1 : decode cX10_age 1 = .ok (.getfield 19, 3) := by decide +kernel
theorem dX10_age_4 : decode cX10_age 4 = .ok (.iload_n 1, 1) := by decide +kernel
theorem dX10_age_5 : decode cX10_age 5 = .ok (.iaload, 1) := by decide +kernel
theorem dX10_age_6 : decode cX10_age 6 = .ok (.iconst 2, 1) := by decide +kernel
theorem dX10_age_7 : decode cX10_age 7 = .ok (.if_icmp .ne 7, 3) := by decide +kernel
