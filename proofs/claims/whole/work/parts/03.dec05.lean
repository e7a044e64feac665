theorem dX10_findBill_129 : decode cX10_findBill 129 = .ok (.invokevirtual 125, 3) := by decide +kernel
theorem dX10_findBill_132 : decode cX10_findBill 132 = .ok (.iconst 0, 1) := by decide +kernel
theorem dX10_findBill_133 : decode cX10_findBill 133 = .ok (.istore 4, 2) := by decide +kernel
theorem dX10_findBill_135 : decode cX10_findBill 135 = .ok (.iload 4, 2) := by decide +kernel
theorem dX10_findBill_137 : decode cX10_findBill 137 = .ok (.aload_n 0, 1) := by decide +kernel
theorem dX10_findBill_138 : decode cX10_findBill 138 = .ok (.getfield 114, 3) := by decide +kernel
theorem dX10_findBill_141 : decode cX10_findBill 141 = .ok (.if_icmp .ge 75, 3) := by decide +kernel
theorem dX10_findBill_144 : decode cX10_findBill 144 = .ok (.aload_n 0, 1) := by decide +kernel
theorem dX10_findBill_145 : decode cX10_findBill 145 = .ok (.getfield 202, 3) := by decide +kernel
theorem dX10_findBill_148 : decode cX10_findBill 148 = .ok (.ifCond .le 68, 3) := by decide +kernel
theorem dX10_findBill_151 : decode cX10_findBill 151 = .ok (.aload_n 0, 1) := by decide +kernel
theorem dX10_findBill_152 : decode cX10_findBill 152 = .ok (.getfield 7, 3) := by decide +kernel
theorem dX10_findBill_155 : decode cX10_findBill 155 = .ok (.aload_n 0, 1) := by decide +kernel
theorem dX10_findBill_156 : decode cX10_findBill 156 = .ok (.getfield 34, 3) := by decide +kernel
theorem dX10_findBill_159 : decode cX10_findBill 159 = .ok (.iload 4, 2) := by decide +kernel
theorem dX10_findBill_161 : decode cX10_findBill 161 = .ok (.iaload, 1) := by decide +kernel
theorem dX10_findBill_162 : decode cX10_findBill 162 = .ok (.iaload, 1) := by decide +kernel
theorem dX10_findBill_163 : decode cX10_findBill 163 = .ok (.aload_n 0, 1) := by decide +kernel
theorem dX10_findBill_164 : decode cX10_findBill 164 = .ok (.getfield 202, 3) := by decide +kernel
theorem dX10_findBill_167 : decode cX10_findBill 167 = .ok (.if_icmp .gt 43, 3) := by decide +kernel
theorem dX10_findBill_170 : decode cX10_findBill 170 = .ok (.aload_n 0, 1) := by decide +kernel
theorem dX10_findBill_171 : decode cX10_findBill 171 = .ok (.dup, 1) := by decide +kernel
theorem dX10_findBill_172 : decode cX10_findBill 172 = .ok (.getfield 189, 3) := by decide +kernel
theorem dX10_findBill_175 : decode cX10_findBill 175 = .ok (.aload_n 0, 1) := by decide +kernel
theorem dX10_findBill_176 : decode cX10_findBill 176 = .ok (.getfield 34, 3) := by decide +kernel
theorem dX10_findBill_179 : decode cX10_findBill 179 = .ok (.iload 4, 2) := by decide +kernel
theorem dX10_findBill_181 : decode cX10_findBill 181 = .ok (.iaload, 1) := by decide +kernel
theorem dX10_findBill_182 : decode cX10_findBill 182 = .ok (.invokestatic 195, 3) := by decide +kernel
theorem dX10_findBill_185 : decode cX10_findBill 185 = .ok (.lor, 1) := by decide +kernel
theorem dX10_findBill_186 : decode cX10_findBill 186 = .ok (.putfield 189, 3) := by decide +kernel
theorem dX10_findBill_189 : decode cX10_findBill 189 = .ok (.aload_n 0, 1) := by decide +kernel
theorem dX10_findBill_190 : decode cX10_findBill 190 = .ok (.dup, 1) := by decide +kernel
theorem dX10_findBill_191 : decode cX10_findBill 191 = .ok (.getfield 202, 3) := by decide +kernel
theorem dX10_findBill_194 : decode cX10_findBill 194 = .ok (.aload_n 0, 1) := by decide +kernel
theorem dX10_findBill_195 : decode cX10_findBill 195 = .ok (.getfield 7, 3) := by decide +kernel
theorem dX10_findBill_198 : decode cX10_findBill 198 = .ok (.aload_n 0, 1) := by decide +kernel
theorem dX10_findBill_199 : decode cX10_findBill 199 = .ok (.getfield 34, 3) := by decide +kernel
theorem dX10_findBill_202 : decode cX10_findBill 202 = .ok (.iload 4, 2) := by decide +kernel
theorem dX10_findBill_204 : decode cX10_findBill 204 = .ok (.iaload, 1) := by decide +kernel
theorem dX10_findBill_205 : decode cX10_findBill 205 = .ok (.iaload, 1) := by decide +kernel
theorem dX10_findBill_206 : decode cX10_findBill 206 = .ok (.isub, 1) := by decide +kernel
theorem dX10_findBill_207 : decode cX10_findBill 207 = .ok (.putfield 202, 3) := by decide +kernel
theorem dX10_findBill_210 : decode cX10_findBill 210 = .ok (.iinc 4 1, 3) := by decide +kernel
theorem dX10_findBill_213 : decode cX10_findBill 213 = .ok (.goto (-78), 3) := by decide +kernel
theorem dX10_findBill_216 : decode cX10_findBill 216 = .ok (.iconst 1, 1) := by decide +kernel
theorem dX10_findBill_217 : decode cX10_findBill 217 = .ok (.ireturn, 1) := by decide +kernel
set_option maxRecDepth 20000 in
theorem ggX10_doBill_X10_findBill : GoodIn wsX10_doBill wsX10_findBill := goodIn_r _ [9, 3, 4, 10, 11, 12, 13, 14, 15, 16, 17, 18, 19, 8, 20, 1, 2, 21, 22, 23, 24, 25, 26, 27, 28, 29, 30, 31, 32, 33, 34, 35, 36, 37, 38, 39, 40, 41, 42, 43, 44, 45, 46, 47, 48, 49, 50, 51, 52, 53, 54, 55, 56, 57, 58, 59, 60, 61, 62, 63, 64, 65, 66, 67, 68, 69, 70, 71, 72, 73, 74, 75, 76, 77] (by decide +kernel) (by decide +kernel)
set_option maxRecDepth 20000 in
theorem gX10_doBill_X10_findBill : GoodIn wsX10_doBill (wsV RX10 205 RX10 yX10_findBill wsX10_findBill) := goodIn_app (goodIn_of _ (by decide +kernel)) ggX10_doBill_X10_findBill
set_option maxRecDepth 20000 in
theorem ggX10_doBill_X10_bit : GoodIn wsX10_doBill wsX10_bit := goodIn_r _ [38] (by decide +kernel) (by decide +kernel)
set_option maxRecDepth 20000 in
theorem gX10_doBill_X10_bit : GoodIn wsX10_doBill (va_wsS RX10 195 yX10_bit wsX10_bit) := goodIn_app (goodIn_of _ (by decide +kernel)) ggX10_doBill_X10_bit
theorem dX10_doBill_0 : decode cX10_doBill 0 = .ok (.aload_n 0, 1) := by decide +kernel
theorem dX10_doBill_1 : decode cX10_doBill 1 = .ok (.iload_n 1, 1) := by decide +kernel
theorem dX10_doBill_2 : decode cX10_doBill 2 = .ok (.iload_n 2, 1) := by decide +kernel
theorem dX10_doBill_3 : decode cX10_doBill 3 = .ok (.iload_n 3, 1) := by decide +kernel
theorem dX10_doBill_4 : decode cX10_doBill 4 = .ok (.invokevirtual 205, 3) := by decide +kernel
theorem dX10_doBill_7 : decode cX10_doBill 7 = .ok (.ifCond .ne 5, 3) := by decide +kernel
theorem dX10_doBill_10 : decode cX10_doBill 10 = .ok (.iconst 0, 1) := by decide +kernel
theorem dX10_doBill_11 : decode cX10_doBill 11 = .ok (.ireturn, 1) := by decide +kernel
theorem dX10_doBill_12 : decode cX10_doBill 12 = .ok (.iconst 0, 1) := by decide +kernel
theorem dX10_doBill_13 : decode cX10_doBill 13 = .ok (.istore 4, 2) := by decide +kernel
theorem dX10_doBill_15 : decode cX10_doBill 15 = .ok (.iload 4, 2) := by decide +kernel
theorem dX10_doBill_17 : decode cX10_doBill 17 = .ok (.aload_n 0, 1) := by decide +kernel
theorem dX10_doBill_18 : decode cX10_doBill 18 = .ok (.getfield 74, 3) := by decide +kernel
theorem dX10_doBill_21 : decode cX10_doBill 21 = .ok (.if_icmp .ge 61, 3) := by decide +kernel
theorem dX10_doBill_24 : decode cX10_doBill 24 = .ok (.aload_n 0, 1) := by decide +kernel
theorem dX10_doBill_25 : decode cX10_doBill 25 = .ok (.getfield 22, 3) := by decide +kernel
theorem dX10_doBill_28 : decode cX10_doBill 28 = .ok (.iload 4, 2) := by decide +kernel
theorem dX10_doBill_30 : decode cX10_doBill 30 = .ok (.aload_n 0, 1) := by decide +kernel
theorem dX10_doBill_31 : decode cX10_doBill 31 = .ok (.getfield 185, 3) := by decide +kernel
theorem dX10_doBill_34 : decode cX10_doBill 34 = .ok (.iload 4, 2) := by decide +kernel
theorem dX10_doBill_36 : decode cX10_doBill 36 = .ok (.invokestatic 195, 3) := by decide +kernel
theorem dX10_doBill_39 : decode cX10_doBill 39 = .ok (.land, 1) := by decide +kernel
theorem dX10_doBill_40 : decode cX10_doBill 40 = .ok (.lconst 0, 1) := by decide +kernel
theorem dX10_doBill_41 : decode cX10_doBill 41 = .ok (.lcmp, 1) := by decide +kernel
theorem dX10_doBill_42 : decode cX10_doBill 42 = .ok (.ifCond .eq 7, 3) := by decide +kernel
theorem dX10_doBill_45 : decode cX10_doBill 45 = .ok (.iload_n 2, 1) := by decide +kernel
theorem dX10_doBill_46 : decode cX10_doBill 46 = .ok (.goto 29, 3) := by decide +kernel
theorem dX10_doBill_49 : decode cX10_doBill 49 = .ok (.aload_n 0, 1) := by decide +kernel
theorem dX10_doBill_50 : decode cX10_doBill 50 = .ok (.getfield 189, 3) := by decide +kernel
theorem dX10_doBill_53 : decode cX10_doBill 53 = .ok (.iload 4, 2) := by decide +kernel
theorem dX10_doBill_55 : decode cX10_doBill 55 = .ok (.invokestatic 195, 3) := by decide +kernel
theorem dX10_doBill_58 : decode cX10_doBill 58 = .ok (.land, 1) := by decide +kernel
theorem dX10_doBill_59 : decode cX10_doBill 59 = .ok (.lconst 0, 1) := by decide +kernel
theorem dX10_doBill_60 : decode cX10_doBill 60 = .ok (.lcmp, 1) := by decide +kernel
theorem dX10_doBill_61 : decode cX10_doBill 61 = .ok (.ifCond .eq 7, 3) := by decide +kernel
theorem dX10_doBill_64 : decode cX10_doBill 64 = .ok (.iload_n 1, 1) := by decide +kernel
theorem dX10_doBill_65 : decode cX10_doBill 65 = .ok (.goto 10, 3) := by decide +kernel
theorem dX10_doBill_68 : decode cX10_doBill 68 = .ok (.aload_n 0, 1) := by decide +kernel
theorem dX10_doBill_69 : decode cX10_doBill 69 = .ok (.getfield 22, 3) := by decide +kernel
theorem dX10_doBill_72 : decode cX10_doBill 72 = .ok (.iload 4, 2) := by decide +kernel
theorem dX10_doBill_74 : decode cX10_doBill 74 = .ok (.iaload, 1) := by decide +kernel
theorem dX10_doBill_75 : decode cX10_doBill 75 = .ok (.iastore, 1) := by decide +kernel
theorem dX10_doBill_76 : decode cX10_doBill 76 = .ok (.iinc 4 1, 3) := by decide +kernel
theorem dX10_doBill_79 : decode cX10_doBill 79 = .ok (.goto (-64), 3) := by decide +kernel
theorem dX10_doBill_82 : decode cX10_doBill 82 = .ok (.iconst 1, 1) := by decide +kernel
theorem dX10_doBill_83 : decode cX10_doBill 83 = .ok (.ireturn, 1) := by decide +kernel
theorem dX10_keep_0 : decode cX10_keep 0 = .ok (.iconst 0, 1) := by decide +kernel
theorem dX10_keep_1 : decode cX10_keep 1 = .ok (.istore_n 1, 1) := by decide +kernel
theorem dX10_keep_2 : decode cX10_keep 2 = .ok (.iload_n 1, 1) := by decide +kernel
theorem dX10_keep_3 : decode cX10_keep 3 = .ok (.aload_n 0, 1) := by decide +kernel
theorem dX10_keep_4 : decode cX10_keep 4 = .ok (.getfield 74, 3) := by decide +kernel
theorem dX10_keep_7 : decode cX10_keep 7 = .ok (.if_icmp .ge 21, 3) := by decide +kernel
theorem dX10_keep_10 : decode cX10_keep 10 = .ok (.aload_n 0, 1) := by decide +kernel
theorem dX10_keep_11 : decode cX10_keep 11 = .ok (.getfield 43, 3) := by decide +kernel
theorem dX10_keep_14 : decode cX10_keep 14 = .ok (.iload_n 1, 1) := by decide +kernel
theorem dX10_keep_15 : decode cX10_keep 15 = .ok (.aload_n 0, 1) := by decide +kernel
theorem dX10_keep_16 : decode cX10_keep 16 = .ok (.getfield 22, 3) := by decide +kernel
theorem dX10_keep_19 : decode cX10_keep 19 = .ok (.iload_n 1, 1) := by decide +kernel
theorem dX10_keep_20 : decode cX10_keep 20 = .ok (.iaload, 1) := by decide +kernel
theorem dX10_keep_21 : decode cX10_keep 21 = .ok (.iastore, 1) := by decide +kernel
theorem dX10_keep_22 : decode cX10_keep 22 = .ok (.iinc 1 1, 3) := by decide +kernel
theorem dX10_keep_25 : decode cX10_keep 25 = .ok (.goto (-23), 3) := by decide +kernel
theorem dX10_keep_28 : decode cX10_keep 28 = .ok (.return_, 1) := by decide +kernel
theorem dX10_bringBack_0 : decode cX10_bringBack 0 = .ok (.iconst 0, 1) := by decide +kernel
theorem dX10_bringBack_1 : decode cX10_bringBack 1 = .ok (.istore_n 1, 1) := by decide +kernel
theorem dX10_bringBack_2 : decode cX10_bringBack 2 = .ok (.iload_n 1, 1) := by decide +kernel
theorem dX10_bringBack_3 : decode cX10_bringBack 3 = .ok (.aload_n 0, 1) := by decide +kernel
theorem dX10_bringBack_4 : decode cX10_bringBack 4 = .ok (.getfield 74, 3) := by decide +kernel
theorem dX10_bringBack_7 : decode cX10_bringBack 7 = .ok (.if_icmp .ge 21, 3) := by decide +kernel
theorem dX10_bringBack_10 : decode cX10_bringBack 10 = .ok (.aload_n 0, 1) := by decide +kernel
theorem dX10_bringBack_11 : decode cX10_bringBack 11 = .ok (.getfield 22, 3) := by decide +kernel
theorem dX10_bringBack_14 : decode cX10_bringBack 14 = .ok (.iload_n 1, 1) := by decide +kernel
theorem dX10_bringBack_15 : decode cX10_bringBack 15 = .ok (.aload_n 0, 1) := by decide +kernel
theorem dX10_bringBack_16 : decode cX10_bringBack 16 = .ok (.getfield 43, 3) := by decide +kernel
theorem dX10_bringBack_19 : decode cX10_bringBack 19 = .ok (.iload_n 1, 1) := by decide +kernel
theorem dX10_bringBack_20 : decode cX10_bringBack 20 = .ok (.iaload, 1) := by decide +kernel
theorem dX10_bringBack_21 : decode cX10_bringBack 21 = .ok (.iastore, 1) := by decide +kernel
theorem dX10_bringBack_22 : decode cX10_bringBack 22 = .ok (.iinc 1 1, 3) := by decide +kernel
theorem dX10_bringBack_25 : decode cX10_bringBack 25 = .ok (.goto (-23), 3) := by decide +kernel
theorem dX10_bringBack_28 : decode cX10_bringBack 28 = .ok (.return_, 1) := by decide +kernel
set_option maxRecDepth 20000 in
theorem ggX10_isBill_X10_isPurse : GoodIn wsX10_isBill wsX10_isPurse := goodIn_r _ [4, 5, 6, 7, 3, 8] (by decide +kernel) (by decide +kernel)
set_option maxRecDepth 20000 in
theorem gX10_isBill_X10_isPurse : GoodIn wsX10_isBill (va_wsS RX10 166 yX10_isPurse wsX10_isPurse) := goodIn_app (goodIn_of _ (by decide +kernel)) ggX10_isBill_X10_isPurse
set_option maxRecDepth 20000 in
theorem ggX10_isBill_X10_isShop : GoodIn wsX10_isBill wsX10_isShop := goodIn_r _ [11, 12, 13, 6, 7, 3, 8] (by decide +kernel) (by decide +kernel)
set_option maxRecDepth 20000 in
theorem gX10_isBill_X10_isShop : GoodIn wsX10_isBill (va_wsS RX10 169 yX10_isShop wsX10_isShop) := goodIn_app (goodIn_of _ (by decide +kernel)) ggX10_isBill_X10_isShop
set_option maxRecDepth 20000 in
theorem ggX10_isBill_X10_isSum : GoodIn wsX10_isBill wsX10_isSum := goodIn_r _ [16, 17, 6, 7, 3, 8] (by decide +kernel) (by decide +kernel)
set_option maxRecDepth 20000 in
theorem gX10_isBill_X10_isSum : GoodIn wsX10_isBill (va_wsS RX10 208 yX10_isSum wsX10_isSum) := goodIn_app (goodIn_of _ (by decide +kernel)) ggX10_isBill_X10_isSum
theorem dX10_isBill_0 : decode cX10_isBill 0 = .ok (.iload_n 0, 1) := by decide +kernel
theorem dX10_isBill_1 : decode cX10_isBill 1 = .ok (.invokestatic 166, 3) := by decide +kernel
theorem dX10_isBill_4 : decode cX10_isBill 4 = .ok (.ifCond .eq 21, 3) := by decide +kernel
theorem dX10_isBill_7 : decode cX10_isBill 7 = .ok (.iload_n 1, 1) := by decide +kernel
theorem dX10_isBill_8 : decode cX10_isBill 8 = .ok (.invokestatic 169, 3) := by decide +kernel
theorem dX10_isBill_11 : decode cX10_isBill 11 = .ok (.ifCond .eq 14, 3) := by decide +kernel
theorem dX10_isBill_14 : decode cX10_isBill 14 = .ok (.iload_n 2, 1) := by decide +kernel
theorem dX10_isBill_15 : decode cX10_isBill 15 = .ok (.invokestatic 208, 3) := by decide +kernel
theorem dX10_isBill_18 : decode cX10_isBill 18 = .ok (.ifCond .eq 7, 3) := by decide +kernel
theorem dX10_isBill_21 : decode cX10_isBill 21 = .ok (.iconst 1, 1) := by decide +kernel
theorem dX10_isBill_22 : decode cX10_isBill 22 = .ok (.goto 4, 3) := by decide +kernel
theorem dX10_isBill_25 : decode cX10_isBill 25 = .ok (.iconst 0, 1) := by decide +kernel
theorem dX10_isBill_26 : decode cX10_isBill 26 = .ok (.ireturn, 1) := by decide +kernel
set_option maxRecDepth 20000 in
theorem ggX10_bill_X10_isBill : GoodIn wsX10_bill wsX10_isBill := goodIn_r _ [6, 7, 8, 5, 9, 10, 11, 12, 13, 14, 15, 16, 17, 18, 19, 20, 21, 22] (by decide +kernel) (by decide +kernel)
set_option maxRecDepth 20000 in
theorem gX10_bill_X10_isBill : GoodIn wsX10_bill (va_wsS RX10 211 yX10_isBill wsX10_isBill) := goodIn_app (goodIn_of _ (by decide +kernel)) ggX10_bill_X10_isBill
set_option maxRecDepth 20000 in
theorem ggX10_bill_X10_doBill : GoodIn wsX10_bill wsX10_doBill := goodIn_r _ [26, 27, 28, 29, 30, 31, 32, 33, 5, 34, 35, 36, 37, 38, 39, 1, 2, 40, 41, 42, 43, 44, 45, 46, 47, 48, 49, 50, 51, 52, 53, 54, 55, 56, 57, 58, 59, 60, 61, 62, 63, 64, 65, 66, 67, 68, 69, 70, 71, 72, 73, 74, 75, 76, 77, 78, 79, 80, 81, 82, 83, 84, 85, 86, 87, 88, 89, 90, 91, 92, 93, 94, 95, 96, 97, 98, 99, 100] (by decide +kernel) (by decide +kernel)
set_option maxRecDepth 20000 in
theorem gX10_bill_X10_doBill : GoodIn wsX10_bill (wsV RX10 214 RX10 yX10_doBill wsX10_doBill) := goodIn_app (goodIn_of _ (by decide +kernel)) ggX10_bill_X10_doBill
theorem dX10_bill_0 : decode cX10_bill 0 = .ok (.iload_n 1, 1) := by decide +kernel
theorem dX10_bill_1 : decode cX10_bill 1 = .ok (.iload_n 2, 1) := by decide +kernel
theorem dX10_bill_2 : decode cX10_bill 2 = .ok (.iload_n 3, 1) := by decide +kernel
theorem dX10_bill_3 : decode cX10_bill 3 = .ok (.invokestatic 211, 3) := by decide +kernel
theorem dX10_bill_6 : decode cX10_bill 6 = .ok (.ifCond .ne 5, 3) := by decide +kernel
theorem dX10_bill_9 : decode cX10_bill 9 = .ok (.iconst (-1), 1) := by decide +kernel
theorem dX10_bill_10 : decode cX10_bill 10 = .ok (.ireturn, 1) := by decide +kernel
theorem dX10_bill_11 : decode cX10_bill 11 = .ok (.aload_n 0, 1) := by decide +kernel
theorem dX10_bill_12 : decode cX10_bill 12 = .ok (.iload_n 1, 1) := by decide +kernel
theorem dX10_bill_13 : decode cX10_bill 13 = .ok (.iload_n 2, 1) := by decide +kernel
theorem dX10_bill_14 : decode cX10_bill 14 = .ok (.iload_n 3, 1) := by decide +kernel
theorem dX10_bill_15 : decode cX10_bill 15 = .ok (.invokevirtual 214, 3) := by decide +kernel
theorem dX10_bill_18 : decode cX10_bill 18 = .ok (.ifCond .eq 15, 3) := by decide +kernel
theorem dX10_bill_21 : decode cX10_bill 21 = .ok (.aload_n 0, 1) := by decide +kernel
theorem dX10_bill_22 : decode cX10_bill 22 = .ok (.getfield 199, 3) := by decide +kernel
theorem dX10_bill_25 : decode cX10_bill 25 = .ok (.aload_n 0, 1) := by decide +kernel
theorem dX10_bill_26 : decode cX10_bill 26 = .ok (.getfield 202, 3) := by decide +kernel
theorem dX10_bill_29 : decode cX10_bill 29 = .ok (.isub, 1) := by decide +kernel
theorem dX10_bill_30 : decode cX10_bill 30 = .ok (.goto 5, 3) := by decide +kernel
theorem dX10_bill_33 : decode cX10_bill 33 = .ok (.bipush (-2), 2) := by decide +kernel
theorem dX10_bill_35 : decode cX10_bill 35 = .ok (.ireturn, 1) := by decide +kernel
set_option maxRecDepth 20000 in
theorem ggX10_would_X10_isBill : GoodIn wsX10_would wsX10_isBill := goodIn_r _ [9, 10, 11, 8, 12, 1, 13, 14, 15, 16, 17, 18, 19, 20, 21, 22, 23, 24] (by decide +kernel) (by decide +kernel)
set_option maxRecDepth 20000 in
theorem gX10_would_X10_isBill : GoodIn wsX10_would (va_wsS RX10 211 yX10_isBill wsX10_isBill) := goodIn_app (goodIn_of _ (by decide +kernel)) ggX10_would_X10_isBill
set_option maxRecDepth 20000 in
theorem ggX10_would_X10_in : GoodIn wsX10_would wsX10_in := goodIn_r _ [15] (by decide +kernel) (by decide +kernel)
set_option maxRecDepth 20000 in
theorem gX10_would_X10_in : GoodIn wsX10_would (va_wsS RX10 78 yX10_in wsX10_in) := goodIn_app (goodIn_of _ (by decide +kernel)) ggX10_would_X10_in
set_option maxRecDepth 20000 in
theorem ggX10_would_X10_findBill : GoodIn wsX10_would wsX10_findBill := goodIn_r _ [28, 2, 4, 3, 29, 30, 31, 32, 33, 5, 34, 35, 36, 8, 37, 38, 39, 40, 41, 42, 43, 44, 45, 46, 47, 48, 49, 50, 51, 52, 53, 54, 55, 56, 57, 58, 59, 60, 61, 65, 66, 67, 68, 69, 70, 71, 72, 73, 74, 75, 76, 77, 78, 79, 80, 81, 82, 83, 84, 85, 86, 87, 88, 89, 90, 91, 92, 93, 94, 95, 96, 97, 98, 99] (by decide +kernel) (by decide +kernel)
set_option maxRecDepth 20000 in
theorem gX10_would_X10_findBill : GoodIn wsX10_would (wsV RX10 205 RX10 yX10_findBill wsX10_findBill) := goodIn_app (goodIn_of _ (by decide +kernel)) ggX10_would_X10_findBill
set_option maxRecDepth 20000 in
theorem ggX10_would_X10_ones : GoodIn wsX10_would wsX10_ones := goodIn_r _ [64] (by decide +kernel) (by decide +kernel)
set_option maxRecDepth 20000 in
theorem gX10_would_X10_ones : GoodIn wsX10_would (va_wsS RX10 217 yX10_ones wsX10_ones) := goodIn_app (goodIn_of _ (by decide +kernel)) ggX10_would_X10_ones
theorem dX10_would_0 : decode cX10_would 0 = .ok (.iload_n 1, 1) := by decide +kernel
theorem dX10_would_1 : decode cX10_would 1 = .ok (.iload_n 2, 1) := by decide +kernel
theorem dX10_would_2 : decode cX10_would 2 = .ok (.iload_n 3, 1) := by decide +kernel
theorem dX10_would_3 : decode cX10_would 3 = .ok (.invokestatic 211, 3) := by decide +kernel
theorem dX10_would_6 : decode cX10_would 6 = .ok (.ifCond .eq 16, 3) := by decide +kernel
theorem dX10_would_9 : decode cX10_would 9 = .ok (.iload 4, 2) := by decide +kernel
theorem dX10_would_11 : decode cX10_would 11 = .ok (.i2l, 1) := by decide +kernel
theorem dX10_would_12 : decode cX10_would 12 = .ok (.lconst 0, 1) := by decide +kernel
theorem dX10_would_13 : decode cX10_would 13 = .ok (.ldc2_w 84, 3) := by decide +kernel
theorem dX10_would_16 : decode cX10_would 16 = .ok (.invokestatic 78, 3) := by decide +kernel
theorem dX10_would_19 : decode cX10_would 19 = .ok (.ifCond .ne 5, 3) := by decide +kernel
theorem dX10_would_22 : decode cX10_would 22 = .ok (.iconst (-1), 1) := by decide +kernel
theorem dX10_would_23 : decode cX10_would 23 = .ok (.ireturn, 1) := by decide +kernel
theorem dX10_would_24 : decode cX10_would 24 = .ok (.aload_n 0, 1) := by decide +kernel
theorem dX10_would_25 : decode cX10_would 25 = .ok (.iload_n 1, 1) := by decide +kernel
theorem dX10_would_26 : decode cX10_would 26 = .ok (.iload_n 2, 1) := by decide +kernel
theorem dX10_would_27 : decode cX10_would 27 = .ok (.iload_n 3, 1) := by decide +kernel
theorem dX10_would_28 : decode cX10_would 28 = .ok (.invokevirtual 205, 3) := by decide +kernel
theorem dX10_would_31 : decode cX10_would 31 = .ok (.ifCond .ne 6, 3) := by decide +kernel
theorem dX10_would_34 : decode cX10_would 34 = .ok (.bipush (-2), 2) := by decide +kernel
theorem dX10_would_36 : decode cX10_would 36 = .ok (.ireturn, 1) := by decide +kernel
theorem dX10_would_37 : decode cX10_would 37 = .ok (.iload 4, 2) := by decide +kernel
theorem dX10_would_39 : decode cX10_would 39 = .ok (.ifCond .ne 13, 3) := by decide +kernel
theorem dX10_would_42 : decode cX10_would 42 = .ok (.aload_n 0, 1) := by decide +kernel
theorem dX10_would_43 : decode cX10_would 43 = .ok (.getfield 185, 3) := by decide +kernel
theorem dX10_would_46 : decode cX10_would 46 = .ok (.invokestatic 217, 3) := by decide +kernel
theorem dX10_would_49 : decode cX10_would 49 = .ok (.goto 36, 3) := by decide +kernel
theorem dX10_would_52 : decode cX10_would 52 = .ok (.iload 4, 2) := by decide +kernel
theorem dX10_would_54 : decode cX10_would 54 = .ok (.iconst 1, 1) := by decide +kernel
theorem dX10_would_55 : decode cX10_would 55 = .ok (.if_icmp .ne 10, 3) := by decide +kernel
theorem dX10_would_58 : decode cX10_would 58 = .ok (.aload_n 0, 1) := by decide +kernel
theorem dX10_would_59 : decode cX10_would 59 = .ok (.getfield 192, 3) := by decide +kernel
theorem dX10_would_62 : decode cX10_would 62 = .ok (.goto 23, 3) := by decide +kernel
theorem dX10_would_65 : decode cX10_would 65 = .ok (.iload 4, 2) := by decide +kernel
theorem dX10_would_67 : decode cX10_would 67 = .ok (.iconst 2, 1) := by decide +kernel
theorem dX10_would_68 : decode cX10_would 68 = .ok (.if_icmp .ne 13, 3) := by decide +kernel
theorem dX10_would_71 : decode cX10_would 71 = .ok (.aload_n 0, 1) := by decide +kernel
theorem dX10_would_72 : decode cX10_would 72 = .ok (.getfield 189, 3) := by decide +kernel
theorem dX10_would_75 : decode cX10_would 75 = .ok (.invokestatic 217, 3) := by decide +kernel
theorem dX10_would_78 : decode cX10_would 78 = .ok (.goto 7, 3) := by decide +kernel
theorem dX10_would_81 : decode cX10_would 81 = .ok (.aload_n 0, 1) := by decide +kernel
theorem dX10_would_82 : decode cX10_would 82 = .ok (.getfield 202, 3) := by decide +kernel
theorem dX10_would_85 : decode cX10_would 85 = .ok (.ireturn, 1) := by decide +kernel
set_option maxRecDepth 20000 in
theorem ggX10_even_X10_isPurse : GoodIn wsX10_even wsX10_isPurse := goodIn_r _ [8, 9, 10, 11, 7, 12] (by decide +kernel) (by decide +kernel)
set_option maxRecDepth 20000 in
theorem gX10_even_X10_isPurse : GoodIn wsX10_even (va_wsS RX10 166 yX10_isPurse wsX10_isPurse) := goodIn_app (goodIn_of _ (by decide +kernel)) ggX10_even_X10_isPurse
set_option maxRecDepth 20000 in
theorem ggX10_even_X10_findRow : GoodIn wsX10_even wsX10_findRow := goodIn_r _ [16, 2, 17, 18, 4, 19, 20, 21, 7, 22, 3, 23, 24, 25, 26, 27, 28, 29, 30, 31, 32, 33, 34, 35, 36, 37, 38, 39, 40, 41, 42, 43, 44, 45, 46, 47, 48, 49, 50, 51, 52, 53, 54, 55, 56, 57, 58, 59, 60, 61, 62, 63, 64, 65, 66, 67, 68] (by decide +kernel) (by decide +kernel)
set_option maxRecDepth 20000 in
theorem gX10_even_X10_findRow : GoodIn wsX10_even (wsV RX10 125 RX10 yX10_findRow wsX10_findRow) := goodIn_app (goodIn_of _ (by decide +kernel)) ggX10_even_X10_findRow
theorem dX10_even_0 : decode cX10_even 0 = .ok (.iload_n 1, 1) := by decide +kernel
theorem dX10_even_1 : decode cX10_even 1 = .ok (.invokestatic 166, 3) := by decide +kernel
theorem dX10_even_4 : decode cX10_even 4 = .ok (.ifCond .eq 8, 3) := by decide +kernel
theorem dX10_even_7 : decode cX10_even 7 = .ok (.iload_n 2, 1) := by decide +kernel
theorem dX10_even_8 : decode cX10_even 8 = .ok (.iconst (-1), 1) := by decide +kernel
theorem dX10_even_9 : decode cX10_even 9 = .ok (.if_icmp .ge 5, 3) := by decide +kernel
theorem dX10_even_12 : decode cX10_even 12 = .ok (.iconst (-1), 1) := by decide +kernel
theorem dX10_even_13 : decode cX10_even 13 = .ok (.ireturn, 1) := by decide +kernel
theorem dX10_even_14 : decode cX10_even 14 = .ok (.aload_n 0, 1) := by decide +kernel
theorem dX10_even_15 : decode cX10_even 15 = .ok (.iload_n 1, 1) := by decide +kernel
theorem dX10_even_16 : decode cX10_even 16 = .ok (.aload_n 0, 1) := by decide +kernel
theorem dX10_even_17 : decode cX10_even 17 = .ok (.getfield 111, 3) := by decide +kernel
theorem dX10_even_20 : decode cX10_even 20 = .ok (.invokevirtual 125, 3) := by decide +kernel
theorem dX10_even_23 : decode cX10_even 23 = .ok (.iconst 0, 1) := by decide +kernel
theorem dX10_even_24 : decode cX10_even 24 = .ok (.istore_n 3, 1) := by decide +kernel
theorem dX10_even_25 : decode cX10_even 25 = .ok (.iconst 0, 1) := by decide +kernel
theorem dX10_even_26 : decode cX10_even 26 = .ok (.istore 4, 2) := by decide +kernel
theorem dX10_even_28 : decode cX10_even 28 = .ok (.iconst 0, 1) := by decide +kernel
theorem dX10_even_29 : decode cX10_even 29 = .ok (.istore 5, 2) := by decide +kernel
theorem dX10_even_31 : decode cX10_even 31 = .ok (.iload 5, 2) := by decide +kernel
theorem dX10_even_33 : decode cX10_even 33 = .ok (.aload_n 0, 1) := by decide +kernel
theorem dX10_even_34 : decode cX10_even 34 = .ok (.getfield 114, 3) := by decide +kernel
theorem dX10_even_37 : decode cX10_even 37 = .ok (.if_icmp .ge 45, 3) := by decide +kernel
theorem dX10_even_40 : decode cX10_even 40 = .ok (.iload 4, 2) := by decide +kernel
theorem dX10_even_42 : decode cX10_even 42 = .ok (.aload_n 0, 1) := by decide +kernel
theorem dX10_even_43 : decode cX10_even 43 = .ok (.getfield 7, 3) := by decide +kernel
theorem dX10_even_46 : decode cX10_even 46 = .ok (.aload_n 0, 1) := by decide +kernel
theorem dX10_even_47 : decode cX10_even 47 = .ok (.getfield 34, 3) := by decide +kernel
theorem dX10_even_50 : decode cX10_even 50 = .ok (.iload 5, 2) := by decide +kernel
theorem dX10_even_52 : decode cX10_even 52 = .ok (.iaload, 1) := by decide +kernel
theorem dX10_even_53 : decode cX10_even 53 = .ok (.iaload, 1) := by decide +kernel
theorem dX10_even_54 : decode cX10_even 54 = .ok (.iadd, 1) := by decide +kernel
theorem dX10_even_55 : decode cX10_even 55 = .ok (.istore 4, 2) := by decide +kernel
theorem dX10_even_57 : decode cX10_even 57 = .ok (.iload 4, 2) := by decide +kernel
theorem dX10_even_59 : decode cX10_even 59 = .ok (.sipush 999, 3) := by decide +kernel
theorem dX10_even_62 : decode cX10_even 62 = .ok (.if_icmp .gt 14, 3) := by decide +kernel
theorem dX10_even_65 : decode cX10_even 65 = .ok (.iload_n 3, 1) := by decide +kernel
theorem dX10_even_66 : decode cX10_even 66 = .ok (.iload_n 2, 1) := by decide +kernel
theorem dX10_even_67 : decode cX10_even 67 = .ok (.if_icmp .ne 6, 3) := by decide +kernel
theorem dX10_even_70 : decode cX10_even 70 = .ok (.iload 4, 2) := by decide +kernel
theorem dX10_even_72 : decode cX10_even 72 = .ok (.ireturn, 1) := by decide +kernel
theorem dX10_even_73 : decode cX10_even 73 = .ok (.iinc 3 1, 3) := by decide +kernel
theorem dX10_even_76 : decode cX10_even 76 = .ok (.iinc 5 1, 3) := by decide +kernel
theorem dX10_even_79 : decode cX10_even 79 = .ok (.goto (-48), 3) := by decide +kernel
theorem dX10_even_82 : decode cX10_even 82 = .ok (.iload_n 2, 1) := by decide +kernel
theorem dX10_even_83 : decode cX10_even 83 = .ok (.ifCond .ge 7, 3) := by decide +kernel
theorem dX10_even_86 : decode cX10_even 86 = .ok (.iload_n 3, 1) := by decide +kernel
theorem dX10_even_87 : decode cX10_even 87 = .ok (.goto 5, 3) := by decide +kernel
theorem dX10_even_90 : decode cX10_even 90 = .ok (.bipush (-4), 2) := by decide +kernel
theorem dX10_even_92 : decode cX10_even 92 = .ok (.ireturn, 1) := by decide +kernel
set_option maxRecDepth 20000 in
theorem ggX10_isEven_X10_findBill : GoodIn wsX10_isEven wsX10_findBill := goodIn_r _ [6, 7, 8, 9, 10, 11, 12, 13, 1, 14, 15, 16, 17, 5, 18, 19, 20, 21, 22, 23, 24, 25, 26, 27, 28, 29, 30, 31, 32, 33, 34, 35, 36, 37, 38, 39, 40, 41, 42, 43, 44, 45, 46, 47, 48, 49, 50, 51, 52, 53, 54, 55, 56, 57, 58, 59, 60, 61, 62, 63, 64, 65, 66, 67, 68, 69, 70, 71, 72, 73, 74, 75, 76, 77] (by decide +kernel) (by decide +kernel)
set_option maxRecDepth 20000 in
theorem gX10_isEven_X10_findBill : GoodIn wsX10_isEven (wsV RX10 205 RX10 yX10_findBill wsX10_findBill) := goodIn_app (goodIn_of _ (by decide +kernel)) ggX10_isEven_X10_findBill
theorem dX10_isEven_0 : decode cX10_isEven 0 = .ok (.aload_n 0, 1) := by decide +kernel
theorem dX10_isEven_1 : decode cX10_isEven 1 = .ok (.iload_n 1, 1) := by decide +kernel
theorem dX10_isEven_2 : decode cX10_isEven 2 = .ok (.iload_n 2, 1) := by decide +kernel
theorem dX10_isEven_3 : decode cX10_isEven 3 = .ok (.iload_n 3, 1) := by decide +kernel
theorem dX10_isEven_4 : decode cX10_isEven 4 = .ok (.invokevirtual 205, 3) := by decide +kernel
theorem dX10_isEven_7 : decode cX10_isEven 7 = .ok (.ifCond .eq 14, 3) := by decide +kernel
theorem dX10_isEven_10 : decode cX10_isEven 10 = .ok (.aload_n 0, 1) := by decide +kernel
theorem dX10_isEven_11 : decode cX10_isEven 11 = .ok (.getfield 199, 3) := by decide +kernel
theorem dX10_isEven_14 : decode cX10_isEven 14 = .ok (.ifCond .ne 7, 3) := by decide +kernel
theorem dX10_isEven_17 : decode cX10_isEven 17 = .ok (.iconst 1, 1) := by decide +kernel
theorem dX10_isEven_18 : decode cX10_isEven 18 = .ok (.goto 4, 3) := by decide +kernel
theorem dX10_isEven_21 : decode cX10_isEven 21 = .ok (.iconst 0, 1) := by decide +kernel
theorem dX10_isEven_22 : decode cX10_isEven 22 = .ok (.ireturn, 1) := by decide +kernel
set_option maxRecDepth 20000 in
theorem ggX10_least_X10_isBill : GoodIn wsX10_least wsX10_isBill := goodIn_r _ [4, 5, 6, 3, 7, 8, 9, 10, 11, 12, 13, 14, 15, 16, 17, 18, 19, 20] (by decide +kernel) (by decide +kernel)
set_option maxRecDepth 20000 in
theorem gX10_least_X10_isBill : GoodIn wsX10_least (va_wsS RX10 211 yX10_isBill wsX10_isBill) := goodIn_app (goodIn_of _ (by decide +kernel)) ggX10_least_X10_isBill
set_option maxRecDepth 20000 in
theorem ggX10_least_X10_isShop : GoodIn wsX10_least wsX10_isShop := goodIn_r _ [14, 15, 16, 9, 10, 3, 11] (by decide +kernel) (by decide +kernel)
set_option maxRecDepth 20000 in
theorem gX10_least_X10_isShop : GoodIn wsX10_least (va_wsS RX10 169 yX10_isShop wsX10_isShop) := goodIn_app (goodIn_of _ (by decide +kernel)) ggX10_least_X10_isShop
set_option maxRecDepth 20000 in
theorem ggX10_least_X10_isEven : GoodIn wsX10_least wsX10_isEven := goodIn_r _ [24, 25, 26, 27, 28, 3, 29, 30, 31, 32, 33, 34, 35, 36, 37, 38, 39, 40, 41, 42, 43, 44, 45, 46, 47, 48, 49, 50, 51, 52, 53, 54, 55, 56, 57, 58, 59, 60, 61, 62, 63, 64, 65, 79, 80, 81, 82, 83, 84, 85, 86, 87, 88, 89, 90, 91, 92, 93, 94, 95, 96, 97, 98, 99, 100, 101, 102, 103, 104, 105, 106, 107, 108, 109, 110, 111, 112, 113] (by decide +kernel) (by decide +kernel)
set_option maxRecDepth 20000 in
theorem gX10_least_X10_isEven : GoodIn wsX10_least (wsV RX10 221 RX10 yX10_isEven wsX10_isEven) := goodIn_app (goodIn_of _ (by decide +kernel)) ggX10_least_X10_isEven
set_option maxRecDepth 20000 in
theorem ggX10_least_X10_keep : GoodIn wsX10_least wsX10_keep := goodIn_r _ [69, 42, 70, 43, 79, 80, 81, 82, 83, 84, 85, 86, 87, 88, 89, 90, 91, 92, 93, 94, 95, 96, 97, 98, 99, 100, 101, 102, 103, 104, 105, 106, 107, 108, 109, 110, 111, 112, 113] (by decide +kernel) (by decide +kernel)
set_option maxRecDepth 20000 in
theorem gX10_least_X10_keep : GoodIn wsX10_least (wsV RX10 224 RX10 yX10_keep wsX10_keep) := goodIn_app (goodIn_of _ (by decide +kernel)) ggX10_least_X10_keep
set_option maxRecDepth 20000 in
theorem ggX10_least_X10_doBill : GoodIn wsX10_least wsX10_doBill := goodIn_r _ [74, 42, 43, 30, 31, 26, 27, 28, 3, 29, 32, 33, 34, 35, 36, 25, 37, 38, 39, 40, 41, 44, 45, 46, 47, 48, 49, 50, 51, 52, 53, 54, 55, 56, 57, 58, 59, 60, 61, 62, 63, 64, 65, 79, 80, 81, 82, 83, 84, 85, 86, 87, 88, 89, 90, 91, 92, 93, 94, 95, 96, 97, 98, 99, 100, 101, 102, 103, 104, 105, 106, 107, 108, 109, 110, 111, 112, 113] (by decide +kernel) (by decide +kernel)
set_option maxRecDepth 20000 in
theorem gX10_least_X10_doBill : GoodIn wsX10_least (wsV RX10 214 RX10 yX10_doBill wsX10_doBill) := goodIn_app (goodIn_of _ (by decide +kernel)) ggX10_least_X10_doBill
set_option maxRecDepth 20000 in
theorem ggX10_least_X10_bringBack : GoodIn wsX10_least wsX10_bringBack := goodIn_r _ [78, 42, 43, 70, 79, 80, 81, 82, 83, 84, 85, 86, 87, 88, 89, 90, 91, 92, 93, 94, 95, 96, 97, 98, 99, 100, 101, 102, 103, 104, 105, 106, 107, 108, 109, 110, 111, 112, 113] (by decide +kernel) (by decide +kernel)
set_option maxRecDepth 20000 in
theorem gX10_least_X10_bringBack : GoodIn wsX10_least (wsV RX10 227 RX10 yX10_bringBack wsX10_bringBack) := goodIn_app (goodIn_of _ (by decide +kernel)) ggX10_least_X10_bringBack
theorem dX10_least_0 : decode cX10_least 0 = .ok (.iload_n 1, 1) := by decide +kernel
theorem dX10_least_1 : decode cX10_least 1 = .ok (.iload_n 2, 1) := by decide +kernel
theorem dX10_least_2 : decode cX10_least 2 = .ok (.iload 4, 2) := by decide +kernel
theorem dX10_least_4 : decode cX10_least 4 = .ok (.invokestatic 211, 3) := by decide +kernel
theorem dX10_least_7 : decode cX10_least 7 = .ok (.ifCond .eq 10, 3) := by decide +kernel
theorem dX10_least_10 : decode cX10_least 10 = .ok (.iload_n 3, 1) := by decide +kernel
theorem dX10_least_11 : decode cX10_least 11 = .ok (.invokestatic 169, 3) := by decide +kernel
theorem dX10_least_14 : decode cX10_least 14 = .ok (.ifCond .ne 5, 3) := by decide +kernel
theorem dX10_least_17 : decode cX10_least 17 = .ok (.iconst (-1), 1) := by decide +kernel
theorem dX10_least_18 : decode cX10_least 18 = .ok (.ireturn, 1) := by decide +kernel
theorem dX10_least_19 : decode cX10_least 19 = .ok (.aload_n 0, 1) := by decide +kernel
theorem dX10_least_20 : decode cX10_least 20 = .ok (.iload_n 1, 1) := by decide +kernel
theorem dX10_least_21 : decode cX10_least 21 = .ok (.iload_n 3, 1) := by decide +kernel
theorem dX10_least_22 : decode cX10_least 22 = .ok (.iload 4, 2) := by decide +kernel
theorem dX10_least_24 : decode cX10_least 24 = .ok (.invokevirtual 221, 3) := by decide +kernel
theorem dX10_least_27 : decode cX10_least 27 = .ok (.ifCond .eq 5, 3) := by decide +kernel
theorem dX10_least_30 : decode cX10_least 30 = .ok (.iconst 0, 1) := by decide +kernel
theorem dX10_least_31 : decode cX10_least 31 = .ok (.ireturn, 1) := by decide +kernel
theorem dX10_least_32 : decode cX10_least 32 = .ok (.aload_n 0, 1) := by decide +kernel
theorem dX10_least_33 : decode cX10_least 33 = .ok (.invokevirtual 224, 3) := by decide +kernel
theorem dX10_least_36 : decode cX10_least 36 = .ok (.iconst 1, 1) := by decide +kernel
theorem dX10_least_37 : decode cX10_least 37 = .ok (.istore 5, 2) := by decide +kernel
theorem dX10_least_39 : decode cX10_least 39 = .ok (.iload 5, 2) := by decide +kernel
theorem dX10_least_41 : decode cX10_least 41 = .ok (.bipush 100, 2) := by decide +kernel
theorem dX10_least_43 : decode cX10_least 43 = .ok (.if_icmp .ge 50, 3) := by decide +kernel
theorem dX10_least_46 : decode cX10_least 46 = .ok (.aload_n 0, 1) := by decide +kernel
theorem dX10_least_47 : decode cX10_least 47 = .ok (.iload_n 1, 1) := by decide +kernel
theorem dX10_least_48 : decode cX10_least 48 = .ok (.iload_n 2, 1) := by decide +kernel
theorem dX10_least_49 : decode cX10_least 49 = .ok (.iload 5, 2) := by decide +kernel
theorem dX10_least_51 : decode cX10_least 51 = .ok (.invokevirtual 214, 3) := by decide +kernel
theorem dX10_least_54 : decode cX10_least 54 = .ok (.ifCond .eq 18, 3) := by decide +kernel
theorem dX10_least_57 : decode cX10_least 57 = .ok (.aload_n 0, 1) := by decide +kernel
theorem dX10_least_58 : decode cX10_least 58 = .ok (.iload_n 1, 1) := by decide +kernel
theorem dX10_least_59 : decode cX10_least 59 = .ok (.iload_n 3, 1) := by decide +kernel
theorem dX10_least_60 : decode cX10_least 60 = .ok (.iload 4, 2) := by decide +kernel
theorem dX10_least_62 : decode cX10_least 62 = .ok (.invokevirtual 221, 3) := by decide +kernel
theorem dX10_least_65 : decode cX10_least 65 = .ok (.ifCond .eq 7, 3) := by decide +kernel
theorem dX10_least_68 : decode cX10_least 68 = .ok (.iconst 1, 1) := by decide +kernel
theorem dX10_least_69 : decode cX10_least 69 = .ok (.goto 4, 3) := by decide +kernel
theorem dX10_least_72 : decode cX10_least 72 = .ok (.iconst 0, 1) := by decide +kernel
theorem dX10_least_73 : decode cX10_least 73 = .ok (.istore 6, 2) := by decide +kernel
theorem dX10_least_75 : decode cX10_least 75 = .ok (.aload_n 0, 1) := by decide +kernel
theorem dX10_least_76 : decode cX10_least 76 = .ok (.invokevirtual 227, 3) := by decide +kernel
theorem dX10_least_79 : decode cX10_least 79 = .ok (.iload 6, 2) := by decide +kernel
theorem dX10_least_81 : decode cX10_least 81 = .ok (.ifCond .eq 6, 3) := by decide +kernel
theorem dX10_least_84 : decode cX10_least 84 = .ok (.iload 5, 2) := by decide +kernel
theorem dX10_least_86 : decode cX10_least 86 = .ok (.ireturn, 1) := by decide +kernel
theorem dX10_least_87 : decode cX10_least 87 = .ok (.iinc 5 1, 3) := by decide +kernel
theorem dX10_least_90 : decode cX10_least 90 = .ok (.goto (-51), 3) := by decide +kernel
theorem dX10_least_93 : decode cX10_least 93 = .ok (.bipush (-4), 2) := by decide +kernel
theorem dX10_least_95 : decode cX10_least 95 = .ok (.ireturn, 1) := by decide +kernel
set_option maxRecDepth 20000 in
theorem ggX10_errand_X10_isShop : GoodIn wsX10_errand wsX10_isShop := goodIn_r _ [7, 8, 9, 10, 11, 6, 12] (by decide +kernel) (by decide +kernel)
set_option maxRecDepth 20000 in
theorem gX10_errand_X10_isShop : GoodIn wsX10_errand (va_wsS RX10 169 yX10_isShop wsX10_isShop) := goodIn_app (goodIn_of _ (by decide +kernel)) ggX10_errand_X10_isShop
set_option maxRecDepth 20000 in
theorem ggX10_errand_X10_isSum : GoodIn wsX10_errand wsX10_isSum := goodIn_r _ [15, 16, 10, 11, 6, 12] (by decide +kernel) (by decide +kernel)
set_option maxRecDepth 20000 in
theorem gX10_errand_X10_isSum : GoodIn wsX10_errand (va_wsS RX10 208 yX10_isSum wsX10_isSum) := goodIn_app (goodIn_of _ (by decide +kernel)) ggX10_errand_X10_isSum
theorem dX10_errand_0 : decode cX10_errand 0 = .ok (.iload_n 1, 1) := by decide +kernel
theorem dX10_errand_1 : decode cX10_errand 1 = .ok (.invokestatic 169, 3) := by decide +kernel
theorem dX10_errand_4 : decode cX10_errand 4 = .ok (.ifCond .eq 10, 3) := by decide +kernel
theorem dX10_errand_7 : decode cX10_errand 7 = .ok (.iload_n 2, 1) := by decide +kernel
theorem dX10_errand_8 : decode cX10_errand 8 = .ok (.invokestatic 208, 3) := by decide +kernel
theorem dX10_errand_11 : decode cX10_errand 11 = .ok (.ifCond .ne 5, 3) := by decide +kernel
theorem dX10_errand_14 : decode cX10_errand 14 = .ok (.iconst (-1), 1) := by decide +kernel
theorem dX10_errand_15 : decode cX10_errand 15 = .ok (.ireturn, 1) := by decide +kernel
theorem dX10_errand_16 : decode cX10_errand 16 = .ok (.aload_n 0, 1) := by decide +kernel
theorem dX10_errand_17 : decode cX10_errand 17 = .ok (.getfield 135, 3) := by decide +kernel
theorem dX10_errand_20 : decode cX10_errand 20 = .ok (.bipush 6, 2) := by decide +kernel
theorem dX10_errand_22 : decode cX10_errand 22 = .ok (.if_icmp .ne 6, 3) := by decide +kernel
theorem dX10_errand_25 : decode cX10_errand 25 = .ok (.bipush (-3), 2) := by decide +kernel
theorem dX10_errand_27 : decode cX10_errand 27 = .ok (.ireturn, 1) := by decide +kernel
theorem dX10_errand_28 : decode cX10_errand 28 = .ok (.aload_n 0, 1) := by decide +kernel
theorem dX10_errand_29 : decode cX10_errand 29 = .ok (.getfield 25, 3) := by decide +kernel
theorem dX10_errand_32 : decode cX10_errand 32 = .ok (.aload_n 0, 1) := by decide +kernel
theorem dX10_errand_33 : decode cX10_errand 33 = .ok (.getfield 135, 3) := by decide +kernel
theorem dX10_errand_36 : decode cX10_errand 36 = .ok (.iload_n 1, 1) := by decide +kernel
theorem dX10_errand_37 : decode cX10_errand 37 = .ok (.iastore, 1) := by decide +kernel
theorem dX10_errand_38 : decode cX10_errand 38 = .ok (.aload_n 0, 1) := by decide +kernel
theorem dX10_errand_39 : decode cX10_errand 39 = .ok (.getfield 28, 3) := by decide +kernel
theorem dX10_errand_42 : decode cX10_errand 42 = .ok (.aload_n 0, 1) := by decide +kernel
theorem dX10_errand_43 : decode cX10_errand 43 = .ok (.getfield 135, 3) := by decide +kernel
theorem dX10_errand_46 : decode cX10_errand 46 = .ok (.iload_n 2, 1) := by decide +kernel
theorem dX10_errand_47 : decode cX10_errand 47 = .ok (.iastore, 1) := by decide +kernel
theorem dX10_errand_48 : decode cX10_errand 48 = .ok (.aload_n 0, 1) := by decide +kernel
theorem dX10_errand_49 : decode cX10_errand 49 = .ok (.dup, 1) := by decide +kernel
theorem dX10_errand_50 : decode cX10_errand 50 = .ok (.getfield 135, 3) := by decide +kernel
theorem dX10_errand_53 : decode cX10_errand 53 = .ok (.iconst 1, 1) := by decide +kernel
theorem dX10_errand_54 : decode cX10_errand 54 = .ok (.iadd, 1) := by decide +kernel
theorem dX10_errand_55 : decode cX10_errand 55 = .ok (.putfield 135, 3) := by decide +kernel
theorem dX10_errand_58 : decode cX10_errand 58 = .ok (.aload_n 0, 1) := by decide +kernel
theorem dX10_errand_59 : decode cX10_errand 59 = .ok (.getfield 135, 3) := by decide +kernel
theorem dX10_errand_62 : decode cX10_errand 62 = .ok (.iconst 1, 1) := by decide +kernel
theorem dX10_errand_63 : decode cX10_errand 63 = .ok (.isub, 1) := by decide +kernel
theorem dX10_errand_64 : decode cX10_errand 64 = .ok (.ireturn, 1) := by decide +kernel
theorem dX10_home_0 : decode cX10_home 0 = .ok (.aload_n 0, 1) := by decide +kernel
theorem dX10_home_1 : decode cX10_home 1 = .ok (.getfield 135, 3) := by decide +kernel
theorem dX10_home_4 : decode cX10_home 4 = .ok (.istore_n 1, 1) := by decide +kernel
theorem dX10_home_5 : decode cX10_home 5 = .ok (.aload_n 0, 1) := by decide +kernel
theorem dX10_home_6 : decode cX10_home 6 = .ok (.iconst 0, 1) := by decide +kernel
theorem dX10_home_7 : decode cX10_home 7 = .ok (.putfield 135, 3) := by decide +kernel
theorem dX10_home_10 : decode cX10_home 10 = .ok (.iload_n 1, 1) := by decide +kernel
theorem dX10_home_11 : decode cX10_home 11 = .ok (.ireturn, 1) := by decide +kernel
theorem dX10_nextOrder_0 : decode cX10_nextOrder 0 = .ok (.iload_n 1, 1) := by decide +kernel
theorem dX10_nextOrder_1 : decode cX10_nextOrder 1 = .ok (.iconst 2, 1) := by decide +kernel
theorem dX10_nextOrder_2 : decode cX10_nextOrder 2 = .ok (.isub, 1) := by decide +kernel
theorem dX10_nextOrder_3 : decode cX10_nextOrder 3 = .ok (.istore_n 2, 1) := by decide +kernel
theorem dX10_nextOrder_4 : decode cX10_nextOrder 4 = .ok (.iload_n 2, 1) := by decide +kernel
theorem dX10_nextOrder_5 : decode cX10_nextOrder 5 = .ok (.ifCond .lt 26, 3) := by decide +kernel
theorem dX10_nextOrder_8 : decode cX10_nextOrder 8 = .ok (.aload_n 0, 1) := by decide +kernel
theorem dX10_nextOrder_9 : decode cX10_nextOrder 9 = .ok (.getfield 46, 3) := by decide +kernel
theorem dX10_nextOrder_12 : decode cX10_nextOrder 12 = .ok (.iload_n 2, 1) := by decide +kernel
theorem dX10_nextOrder_13 : decode cX10_nextOrder 13 = .ok (.iaload, 1) := by decide +kernel
theorem dX10_nextOrder_14 : decode cX10_nextOrder 14 = .ok (.aload_n 0, 1) := by decide +kernel
theorem dX10_nextOrder_15 : decode cX10_nextOrder 15 = .ok (.getfield 46, 3) := by decide +kernel
theorem dX10_nextOrder_18 : decode cX10_nextOrder 18 = .ok (.iload_n 2, 1) := by decide +kernel
theorem dX10_nextOrder_19 : decode cX10_nextOrder 19 = .ok (.iconst 1, 1) := by decide +kernel
theorem dX10_nextOrder_20 : decode cX10_nextOrder 20 = .ok (.iadd, 1) := by decide +kernel
theorem dX10_nextOrder_21 : decode cX10_nextOrder 21 = .ok (.iaload, 1) := by decide +kernel
theorem dX10_nextOrder_22 : decode cX10_nextOrder 22 = .ok (.if_icmp .le 9, 3) := by decide +kernel
theorem dX10_nextOrder_25 : decode cX10_nextOrder 25 = .ok (.iinc 2 (-1), 3) := by decide +kernel
theorem dX10_nextOrder_28 : decode cX10_nextOrder 28 = .ok (.goto (-24), 3) := by decide +kernel
theorem dX10_nextOrder_31 : decode cX10_nextOrder 31 = .ok (.iload_n 2, 1) := by decide +kernel
theorem dX10_nextOrder_32 : decode cX10_nextOrder 32 = .ok (.ifCond .ge 5, 3) := by decide +kernel
theorem dX10_nextOrder_35 : decode cX10_nextOrder 35 = .ok (.iconst 0, 1) := by decide +kernel
theorem dX10_nextOrder_36 : decode cX10_nextOrder 36 = .ok (.ireturn, 1) := by decide +kernel
theorem dX10_nextOrder_37 : decode cX10_nextOrder 37 = .ok (.iload_n 1, 1) := by decide +kernel
theorem dX10_nextOrder_38 : decode cX10_nextOrder 38 = .ok (.iconst 1, 1) := by decide +kernel
theorem dX10_nextOrder_39 : decode cX10_nextOrder 39 = .ok (.isub, 1) := by decide +kernel
theorem dX10_nextOrder_40 : decode cX10_nextOrder 40 = .ok (.istore_n 3, 1) := by decide +kernel
theorem dX10_nextOrder_41 : decode cX10_nextOrder 41 = .ok (.aload_n 0, 1) := by decide +kernel
theorem dX10_nextOrder_42 : decode cX10_nextOrder 42 = .ok (.getfield 46, 3) := by decide +kernel
theorem dX10_nextOrder_45 : decode cX10_nextOrder 45 = .ok (.iload_n 3, 1) := by decide +kernel
theorem dX10_nextOrder_46 : decode cX10_nextOrder 46 = .ok (.iaload, 1) := by decide +kernel
theorem dX10_nextOrder_47 : decode cX10_nextOrder 47 = .ok (.aload_n 0, 1) := by decide +kernel
theorem dX10_nextOrder_48 : decode cX10_nextOrder 48 = .ok (.getfield 46, 3) := by decide +kernel
theorem dX10_nextOrder_51 : decode cX10_nextOrder 51 = .ok (.iload_n 2, 1) := by decide +kernel
theorem dX10_nextOrder_52 : decode cX10_nextOrder 52 = .ok (.iaload, 1) := by decide +kernel
theorem dX10_nextOrder_53 : decode cX10_nextOrder 53 = .ok (.if_icmp .ge 9, 3) := by decide +kernel
theorem dX10_nextOrder_56 : decode cX10_nextOrder 56 = .ok (.iinc 3 (-1), 3) := by decide +kernel
theorem dX10_nextOrder_59 : decode cX10_nextOrder 59 = .ok (.goto (-18), 3) := by decide +kernel
theorem dX10_nextOrder_62 : decode cX10_nextOrder 62 = .ok (.aload_n 0, 1) := by decide +kernel
theorem dX10_nextOrder_63 : decode cX10_nextOrder 63 = .ok (.getfield 46, 3) := by decide +kernel
theorem dX10_nextOrder_66 : decode cX10_nextOrder 66 = .ok (.iload_n 2, 1) := by decide +kernel
theorem dX10_nextOrder_67 : decode cX10_nextOrder 67 = .ok (.iaload, 1) := by decide +kernel
theorem dX10_nextOrder_68 : decode cX10_nextOrder 68 = .ok (.istore 4, 2) := by decide +kernel
theorem dX10_nextOrder_70 : decode cX10_nextOrder 70 = .ok (.aload_n 0, 1) := by decide +kernel
theorem dX10_nextOrder_71 : decode cX10_nextOrder 71 = .ok (.getfield 46, 3) := by decide +kernel
theorem dX10_nextOrder_74 : decode cX10_nextOrder 74 = .ok (.iload_n 2, 1) := by decide +kernel
theorem dX10_nextOrder_75 : decode cX10_nextOrder 75 = .ok (.aload_n 0, 1) := by decide +kernel
theorem dX10_nextOrder_76 : decode cX10_nextOrder 76 = .ok (.getfield 46, 3) := by decide +kernel
theorem dX10_nextOrder_79 : decode cX10_nextOrder 79 = .ok (.iload_n 3, 1) := by decide +kernel
theorem dX10_nextOrder_80 : decode cX10_nextOrder 80 = .ok (.iaload, 1) := by decide +kernel
theorem dX10_nextOrder_81 : decode cX10_nextOrder 81 = .ok (.iastore, 1) := by decide +kernel
theorem dX10_nextOrder_82 : decode cX10_nextOrder 82 = .ok (.aload_n 0, 1) := by decide +kernel
theorem dX10_nextOrder_83 : decode cX10_nextOrder 83 = .ok (.getfield 46, 3) := by decide +kernel
theorem dX10_nextOrder_86 : decode cX10_nextOrder 86 = .ok (.iload_n 3, 1) := by decide +kernel
theorem dX10_nextOrder_87 : decode cX10_nextOrder 87 = .ok (.iload 4, 2) := by decide +kernel
theorem dX10_nextOrder_89 : decode cX10_nextOrder 89 = .ok (.iastore, 1) := by decide +kernel
theorem dX10_nextOrder_90 : decode cX10_nextOrder 90 = .ok (.iload_n 1, 1) := by decide +kernel
theorem dX10_nextOrder_91 : decode cX10_nextOrder 91 = .ok (.iconst 1, 1) := by decide +kernel
theorem dX10_nextOrder_92 : decode cX10_nextOrder 92 = .ok (.isub, 1) := by decide +kernel
theorem dX10_nextOrder_93 : decode cX10_nextOrder 93 = .ok (.istore 5, 2) := by decide +kernel
theorem dX10_nextOrder_95 : decode cX10_nextOrder 95 = .ok (.iload_n 2, 1) := by decide +kernel
theorem dX10_nextOrder_96 : decode cX10_nextOrder 96 = .ok (.iconst 1, 1) := by decide +kernel
theorem dX10_nextOrder_97 : decode cX10_nextOrder 97 = .ok (.iadd, 1) := by decide +kernel
theorem dX10_nextOrder_98 : decode cX10_nextOrder 98 = .ok (.istore 6, 2) := by decide +kernel
theorem dX10_nextOrder_100 : decode cX10_nextOrder 100 = .ok (.iload 6, 2) := by decide +kernel
theorem dX10_nextOrder_102 : decode cX10_nextOrder 102 = .ok (.iload 5, 2) := by decide +kernel
theorem dX10_nextOrder_104 : decode cX10_nextOrder 104 = .ok (.if_icmp .ge 44, 3) := by decide +kernel
theorem dX10_nextOrder_107 : decode cX10_nextOrder 107 = .ok (.aload_n 0, 1) := by decide +kernel
theorem dX10_nextOrder_108 : decode cX10_nextOrder 108 = .ok (.getfield 46, 3) := by decide +kernel
theorem dX10_nextOrder_111 : decode cX10_nextOrder 111 = .ok (.iload 6, 2) := by decide +kernel
theorem dX10_nextOrder_113 : decode cX10_nextOrder 113 = .ok (.iaload, 1) := by decide +kernel
theorem dX10_nextOrder_114 : decode cX10_nextOrder 114 = .ok (.istore 4, 2) := by decide +kernel
theorem dX10_nextOrder_116 : decode cX10_nextOrder 116 = .ok (.aload_n 0, 1) := by decide +kernel
theorem dX10_nextOrder_117 : decode cX10_nextOrder 117 = .ok (.getfield 46, 3) := by decide +kernel
theorem dX10_nextOrder_120 : decode cX10_nextOrder 120 = .ok (.iload 6, 2) := by decide +kernel
theorem dX10_nextOrder_122 : decode cX10_nextOrder 122 = .ok (.aload_n 0, 1) := by decide +kernel
theorem dX10_nextOrder_123 : decode cX10_nextOrder 123 = .ok (.getfield 46, 3) := by decide +kernel
theorem dX10_nextOrder_126 : decode cX10_nextOrder 126 = .ok (.iload 5, 2) := by decide +kernel
theorem dX10_nextOrder_128 : decode cX10_nextOrder 128 = .ok (.iaload, 1) := by decide +kernel
theorem dX10_nextOrder_129 : decode cX10_nextOrder 129 = .ok (.iastore, 1) := by decide +kernel
theorem dX10_nextOrder_130 : decode cX10_nextOrder 130 = .ok (.aload_n 0, 1) := by decide +kernel
theorem dX10_nextOrder_131 : decode cX10_nextOrder 131 = .ok (.getfield 46, 3) := by decide +kernel
theorem dX10_nextOrder_134 : decode cX10_nextOrder 134 = .ok (.iload 5, 2) := by decide +kernel
theorem dX10_nextOrder_136 : decode cX10_nextOrder 136 = .ok (.iload 4, 2) := by decide +kernel
theorem dX10_nextOrder_138 : decode cX10_nextOrder 138 = .ok (.iastore, 1) := by decide +kernel
theorem dX10_nextOrder_139 : decode cX10_nextOrder 139 = .ok (.iinc 5 (-1), 3) := by decide +kernel
theorem dX10_nextOrder_142 : decode cX10_nextOrder 142 = .ok (.iinc 6 1, 3) := by decide +kernel
theorem dX10_nextOrder_145 : decode cX10_nextOrder 145 = .ok (.goto (-45), 3) := by decide +kernel
theorem dX10_nextOrder_148 : decode cX10_nextOrder 148 = .ok (.iconst 1, 1) := by decide +kernel
theorem dX10_nextOrder_149 : decode cX10_nextOrder 149 = .ok (.ireturn, 1) := by decide +kernel
theorem dX10_firstOrder_0 : decode cX10_firstOrder 0 = .ok (.iconst 0, 1) := by decide +kernel
theorem dX10_firstOrder_1 : decode cX10_firstOrder 1 = .ok (.istore_n 1, 1) := by decide +kernel
theorem dX10_firstOrder_2 : decode cX10_firstOrder 2 = .ok (.iload_n 1, 1) := by decide +kernel
theorem dX10_firstOrder_3 : decode cX10_firstOrder 3 = .ok (.bipush 6, 2) := by decide +kernel
theorem dX10_firstOrder_5 : decode cX10_firstOrder 5 = .ok (.if_icmp .ge 16, 3) := by decide +kernel
theorem dX10_firstOrder_8 : decode cX10_firstOrder 8 = .ok (.aload_n 0, 1) := by decide +kernel
theorem dX10_firstOrder_9 : decode cX10_firstOrder 9 = .ok (.getfield 46, 3) := by decide +kernel
theorem dX10_firstOrder_12 : decode cX10_firstOrder 12 = .ok (.iload_n 1, 1) := by decide +kernel
theorem dX10_firstOrder_13 : decode cX10_firstOrder 13 = .ok (.iload_n 1, 1) := by decide +kernel
theorem dX10_firstOrder_14 : decode cX10_firstOrder 14 = .ok (.iastore, 1) := by decide +kernel
theorem dX10_firstOrder_15 : decode cX10_firstOrder 15 = .ok (.iinc 1 1, 3) := by decide +kernel
theorem dX10_firstOrder_18 : decode cX10_firstOrder 18 = .ok (.goto (-16), 3) := by decide +kernel
theorem dX10_firstOrder_21 : decode cX10_firstOrder 21 = .ok (.return_, 1) := by decide +kernel
set_option maxRecDepth 20000 in
theorem ggX10_goErrands_X10_doBill : GoodIn wsX10_goErrands wsX10_doBill := goodIn_r _ [10, 11, 12, 13, 14, 15, 16, 17, 9, 18, 19, 20, 21, 22, 23, 5, 24, 25, 26, 27, 28, 29, 30, 31, 32, 33, 34, 35, 36, 37, 38, 39, 40, 41, 42, 43, 44, 45, 46, 47, 48, 49, 50, 51, 52, 53, 54, 55, 56, 57, 58, 59, 60, 61, 62, 63, 64, 65, 66, 67, 68, 69, 70, 71, 72, 73, 74, 75, 76, 77, 78, 79, 80, 81, 82, 83, 84, 85] (by decide +kernel) (by decide +kernel)
set_option maxRecDepth 20000 in
theorem gX10_goErrands_X10_doBill : GoodIn wsX10_goErrands (wsV RX10 214 RX10 yX10_doBill wsX10_doBill) := goodIn_app (goodIn_of _ (by decide +kernel)) ggX10_goErrands_X10_doBill
theorem dX10_goErrands_0 : decode cX10_goErrands 0 = .ok (.iconst 0, 1) := by decide +kernel
theorem dX10_goErrands_1 : decode cX10_goErrands 1 = .ok (.istore_n 2, 1) := by decide +kernel
theorem dX10_goErrands_2 : decode cX10_goErrands 2 = .ok (.iconst 0, 1) := by decide +kernel
theorem dX10_goErrands_3 : decode cX10_goErrands 3 = .ok (.istore_n 3, 1) := by decide +kernel
theorem dX10_goErrands_4 : decode cX10_goErrands 4 = .ok (.iload_n 3, 1) := by decide +kernel
theorem dX10_goErrands_5 : decode cX10_goErrands 5 = .ok (.aload_n 0, 1) := by decide +kernel
theorem dX10_goErrands_6 : decode cX10_goErrands 6 = .ok (.getfield 135, 3) := by decide +kernel
theorem dX10_goErrands_9 : decode cX10_goErrands 9 = .ok (.if_icmp .ge 54, 3) := by decide +kernel
theorem dX10_goErrands_12 : decode cX10_goErrands 12 = .ok (.iload_n 2, 1) := by decide +kernel
theorem dX10_goErrands_13 : decode cX10_goErrands 13 = .ok (.aload_n 0, 1) := by decide +kernel
theorem dX10_goErrands_14 : decode cX10_goErrands 14 = .ok (.iload_n 1, 1) := by decide +kernel
theorem dX10_goErrands_15 : decode cX10_goErrands 15 = .ok (.aload_n 0, 1) := by decide +kernel
theorem dX10_goErrands_16 : decode cX10_goErrands 16 = .ok (.getfield 25, 3) := by decide +kernel
theorem dX10_goErrands_19 : decode cX10_goErrands 19 = .ok (.aload_n 0, 1) := by decide +kernel
theorem dX10_goErrands_20 : decode cX10_goErrands 20 = .ok (.getfield 46, 3) := by decide +kernel
theorem dX10_goErrands_23 : decode cX10_goErrands 23 = .ok (.iload_n 3, 1) := by decide +kernel
theorem dX10_goErrands_24 : decode cX10_goErrands 24 = .ok (.iaload, 1) := by decide +kernel
theorem dX10_goErrands_25 : decode cX10_goErrands 25 = .ok (.iaload, 1) := by decide +kernel
theorem dX10_goErrands_26 : decode cX10_goErrands 26 = .ok (.aload_n 0, 1) := by decide +kernel
theorem dX10_goErrands_27 : decode cX10_goErrands 27 = .ok (.getfield 28, 3) := by decide +kernel
theorem dX10_goErrands_30 : decode cX10_goErrands 30 = .ok (.aload_n 0, 1) := by decide +kernel
theorem dX10_goErrands_31 : decode cX10_goErrands 31 = .ok (.getfield 46, 3) := by decide +kernel
theorem dX10_goErrands_34 : decode cX10_goErrands 34 = .ok (.iload_n 3, 1) := by decide +kernel
theorem dX10_goErrands_35 : decode cX10_goErrands 35 = .ok (.iaload, 1) := by decide +kernel
theorem dX10_goErrands_36 : decode cX10_goErrands 36 = .ok (.iaload, 1) := by decide +kernel
theorem dX10_goErrands_37 : decode cX10_goErrands 37 = .ok (.invokevirtual 214, 3) := by decide +kernel
theorem dX10_goErrands_40 : decode cX10_goErrands 40 = .ok (.ifCond .eq 14, 3) := by decide +kernel
theorem dX10_goErrands_43 : decode cX10_goErrands 43 = .ok (.aload_n 0, 1) := by decide +kernel
theorem dX10_goErrands_44 : decode cX10_goErrands 44 = .ok (.getfield 199, 3) := by decide +kernel
theorem dX10_goErrands_47 : decode cX10_goErrands 47 = .ok (.ifCond .ne 7, 3) := by decide +kernel
theorem dX10_goErrands_50 : decode cX10_goErrands 50 = .ok (.iconst 1, 1) := by decide +kernel
theorem dX10_goErrands_51 : decode cX10_goErrands 51 = .ok (.goto 4, 3) := by decide +kernel
theorem dX10_goErrands_54 : decode cX10_goErrands 54 = .ok (.iconst 0, 1) := by decide +kernel
theorem dX10_goErrands_55 : decode cX10_goErrands 55 = .ok (.iadd, 1) := by decide +kernel
theorem dX10_goErrands_56 : decode cX10_goErrands 56 = .ok (.istore_n 2, 1) := by decide +kernel
theorem dX10_goErrands_57 : decode cX10_goErrands 57 = .ok (.iinc 3 1, 3) := by decide +kernel
theorem dX10_goErrands_60 : decode cX10_goErrands 60 = .ok (.goto (-56), 3) := by decide +kernel
theorem dX10_goErrands_63 : decode cX10_goErrands 63 = .ok (.iload_n 2, 1) := by decide +kernel
theorem dX10_goErrands_64 : decode cX10_goErrands 64 = .ok (.ireturn, 1) := by decide +kernel
set_option maxRecDepth 20000 in
theorem ggX10_order_X10_isPurse : GoodIn wsX10_order wsX10_isPurse := goodIn_r _ [9, 10, 11, 12, 8, 13] (by decide +kernel) (by decide +kernel)
set_option maxRecDepth 20000 in
theorem gX10_order_X10_isPurse : GoodIn wsX10_order (va_wsS RX10 166 yX10_isPurse wsX10_isPurse) := goodIn_app (goodIn_of _ (by decide +kernel)) ggX10_order_X10_isPurse
set_option maxRecDepth 20000 in
theorem ggX10_order_X10_in : GoodIn wsX10_order wsX10_in := goodIn_r _ [13] (by decide +kernel) (by decide +kernel)
set_option maxRecDepth 20000 in
theorem gX10_order_X10_in : GoodIn wsX10_order (va_wsS RX10 78 yX10_in wsX10_in) := goodIn_app (goodIn_of _ (by decide +kernel)) ggX10_order_X10_in
set_option maxRecDepth 20000 in
theorem ggX10_order_X10_keep : GoodIn wsX10_order wsX10_keep := goodIn_r _ [17, 18, 19, 20, 82, 83, 84, 85, 86, 87, 88, 89, 90, 91, 92, 93, 94, 95, 96, 97, 98, 99, 100, 101, 102, 103, 104, 105, 106, 107, 108, 109, 110, 111, 112, 113, 114, 115, 116] (by decide +kernel) (by decide +kernel)
set_option maxRecDepth 20000 in
theorem gX10_order_X10_keep : GoodIn wsX10_order (wsV RX10 224 RX10 yX10_keep wsX10_keep) := goodIn_app (goodIn_of _ (by decide +kernel)) ggX10_order_X10_keep
set_option maxRecDepth 20000 in
theorem ggX10_order_X10_firstOrder : GoodIn wsX10_order wsX10_firstOrder := goodIn_r _ [24, 5, 82, 83, 84, 85, 86, 87, 88, 89, 90, 91, 92, 93, 94, 95, 96, 97, 98, 99, 100, 101, 102, 103, 104, 105, 106, 107, 108, 109, 110, 111, 112, 113, 114, 115, 116] (by decide +kernel) (by decide +kernel)
set_option maxRecDepth 20000 in
theorem gX10_order_X10_firstOrder : GoodIn wsX10_order (wsV RX10 234 RX10 yX10_firstOrder wsX10_firstOrder) := goodIn_app (goodIn_of _ (by decide +kernel)) ggX10_order_X10_firstOrder
set_option maxRecDepth 20000 in
theorem ggX10_order_X10_goErrands : GoodIn wsX10_order wsX10_goErrands := goodIn_r _ [28, 3, 29, 5, 30, 31, 32, 33, 34, 8, 35, 18, 20, 36, 37, 38, 39, 40, 41, 42, 43, 44, 45, 46, 47, 48, 49, 50, 51, 52, 53, 54, 55, 56, 57, 58, 59, 60, 61, 62, 63, 64, 65, 66, 67, 68, 69, 70, 71, 72, 73, 82, 83, 84, 85, 86, 87, 88, 89, 90, 91, 92, 93, 94, 95, 96, 97, 98, 99, 100, 101, 102, 103, 104, 105, 106, 107, 108, 109, 110, 111, 112, 113, 114, 115, 116] (by decide +kernel) (by decide +kernel)
set_option maxRecDepth 20000 in
theorem gX10_order_X10_goErrands : GoodIn wsX10_order (wsV RX10 237 RX10 yX10_goErrands wsX10_goErrands) := goodIn_app (goodIn_of _ (by decide +kernel)) ggX10_order_X10_goErrands
set_option maxRecDepth 20000 in
theorem ggX10_order_X10_bringBack : GoodIn wsX10_order wsX10_bringBack := goodIn_r _ [77, 18, 20, 19, 82, 83, 84, 85, 86, 87, 88, 89, 90, 91, 92, 93, 94, 95, 96, 97, 98, 99, 100, 101, 102, 103, 104, 105, 106, 107, 108, 109, 110, 111, 112, 113, 114, 115, 116] (by decide +kernel) (by decide +kernel)
set_option maxRecDepth 20000 in
theorem gX10_order_X10_bringBack : GoodIn wsX10_order (wsV RX10 227 RX10 yX10_bringBack wsX10_bringBack) := goodIn_app (goodIn_of _ (by decide +kernel)) ggX10_order_X10_bringBack
set_option maxRecDepth 20000 in
theorem ggX10_order_X10_nextOrder : GoodIn wsX10_order wsX10_nextOrder := goodIn_r _ [81, 5, 82, 83, 84, 85, 86, 87, 88, 89, 90, 91, 92, 93, 94, 95, 96, 97, 98, 99, 100, 101, 102, 103, 104, 105, 106, 107, 108, 109, 110, 111, 112, 113, 114, 115, 116] (by decide +kernel) (by decide +kernel)
set_option maxRecDepth 20000 in
theorem gX10_order_X10_nextOrder : GoodIn wsX10_order (wsV RX10 240 RX10 yX10_nextOrder wsX10_nextOrder) := goodIn_app (goodIn_of _ (by decide +kernel)) ggX10_order_X10_nextOrder
theorem dX10_order_0 : decode cX10_order 0 = .ok (.iload_n 1, 1) := by decide +kernel
theorem dX10_order_1 : decode cX10_order 1 = .ok (.invokestatic 166, 3) := by decide +kernel
theorem dX10_order_4 : decode cX10_order 4 = .ok (.ifCond .eq 17, 3) := by decide +kernel
theorem dX10_order_7 : decode cX10_order 7 = .ok (.iload_n 2, 1) := by decide +kernel
theorem dX10_order_8 : decode cX10_order 8 = .ok (.i2l, 1) := by decide +kernel
theorem dX10_order_9 : decode cX10_order 9 = .ok (.ldc2_w 230, 3) := by decide +kernel
theorem dX10_order_12 : decode cX10_order 12 = .ok (.ldc2_w 232, 3) := by decide +kernel
theorem dX10_order_15 : decode cX10_order 15 = .ok (.invokestatic 78, 3) := by decide +kernel
theorem dX10_order_18 : decode cX10_order 18 = .ok (.ifCond .ne 5, 3) := by decide +kernel
theorem dX10_order_21 : decode cX10_order 21 = .ok (.iconst (-1), 1) := by decide +kernel
theorem dX10_order_22 : decode cX10_order 22 = .ok (.ireturn, 1) := by decide +kernel
theorem dX10_order_23 : decode cX10_order 23 = .ok (.iload_n 2, 1) := by decide +kernel
theorem dX10_order_24 : decode cX10_order 24 = .ok (.aload_n 0, 1) := by decide +kernel
theorem dX10_order_25 : decode cX10_order 25 = .ok (.getfield 135, 3) := by decide +kernel
theorem dX10_order_28 : decode cX10_order 28 = .ok (.if_icmp .ge 10, 3) := by decide +kernel
theorem dX10_order_31 : decode cX10_order 31 = .ok (.aload_n 0, 1) := by decide +kernel
theorem dX10_order_32 : decode cX10_order 32 = .ok (.getfield 135, 3) := by decide +kernel
theorem dX10_order_35 : decode cX10_order 35 = .ok (.ifCond .ne 6, 3) := by decide +kernel
theorem dX10_order_38 : decode cX10_order 38 = .ok (.bipush (-4), 2) := by decide +kernel
theorem dX10_order_40 : decode cX10_order 40 = .ok (.ireturn, 1) := by decide +kernel
theorem dX10_order_41 : decode cX10_order 41 = .ok (.aload_n 0, 1) := by decide +kernel
theorem dX10_order_42 : decode cX10_order 42 = .ok (.invokevirtual 224, 3) := by decide +kernel
theorem dX10_order_45 : decode cX10_order 45 = .ok (.aload_n 0, 1) := by decide +kernel
theorem dX10_order_46 : decode cX10_order 46 = .ok (.invokevirtual 234, 3) := by decide +kernel
theorem dX10_order_49 : decode cX10_order 49 = .ok (.iconst (-1), 1) := by decide +kernel
theorem dX10_order_50 : decode cX10_order 50 = .ok (.istore_n 3, 1) := by decide +kernel
theorem dX10_order_51 : decode cX10_order 51 = .ok (.iconst 1, 1) := by decide +kernel
theorem dX10_order_52 : decode cX10_order 52 = .ok (.istore 4, 2) := by decide +kernel
theorem dX10_order_54 : decode cX10_order 54 = .ok (.iload 4, 2) := by decide +kernel
theorem dX10_order_56 : decode cX10_order 56 = .ok (.ifCond .eq 78, 3) := by decide +kernel
theorem dX10_order_59 : decode cX10_order 59 = .ok (.aload_n 0, 1) := by decide +kernel
theorem dX10_order_60 : decode cX10_order 60 = .ok (.iload_n 1, 1) := by decide +kernel
theorem dX10_order_61 : decode cX10_order 61 = .ok (.invokevirtual 237, 3) := by decide +kernel
theorem dX10_order_64 : decode cX10_order 64 = .ok (.istore 5, 2) := by decide +kernel
theorem dX10_order_66 : decode cX10_order 66 = .ok (.aload_n 0, 1) := by decide +kernel
theorem dX10_order_67 : decode cX10_order 67 = .ok (.invokevirtual 227, 3) := by decide +kernel
theorem dX10_order_70 : decode cX10_order 70 = .ok (.iconst 0, 1) := by decide +kernel
theorem dX10_order_71 : decode cX10_order 71 = .ok (.istore 6, 2) := by decide +kernel
theorem dX10_order_73 : decode cX10_order 73 = .ok (.iload 6, 2) := by decide +kernel
theorem dX10_order_75 : decode cX10_order 75 = .ok (.aload_n 0, 1) := by decide +kernel
theorem dX10_order_76 : decode cX10_order 76 = .ok (.getfield 135, 3) := by decide +kernel
theorem dX10_order_79 : decode cX10_order 79 = .ok (.if_icmp .ge 29, 3) := by decide +kernel
theorem dX10_order_82 : decode cX10_order 82 = .ok (.iload 5, 2) := by decide +kernel
theorem dX10_order_84 : decode cX10_order 84 = .ok (.iload_n 3, 1) := by decide +kernel
theorem dX10_order_85 : decode cX10_order 85 = .ok (.if_icmp .le 23, 3) := by decide +kernel
theorem dX10_order_88 : decode cX10_order 88 = .ok (.aload_n 0, 1) := by decide +kernel
theorem dX10_order_89 : decode cX10_order 89 = .ok (.getfield 49, 3) := by decide +kernel
theorem dX10_order_92 : decode cX10_order 92 = .ok (.iload 6, 2) := by decide +kernel
theorem dX10_order_94 : decode cX10_order 94 = .ok (.aload_n 0, 1) := by decide +kernel
theorem dX10_order_95 : decode cX10_order 95 = .ok (.getfield 46, 3) := by decide +kernel
theorem dX10_order_98 : decode cX10_order 98 = .ok (.iload 6, 2) := by decide +kernel
theorem dX10_order_100 : decode cX10_order 100 = .ok (.iaload, 1) := by decide +kernel
theorem dX10_order_101 : decode cX10_order 101 = .ok (.iastore, 1) := by decide +kernel
theorem dX10_order_102 : decode cX10_order 102 = .ok (.iinc 6 1, 3) := by decide +kernel
theorem dX10_order_105 : decode cX10_order 105 = .ok (.goto (-32), 3) := by decide +kernel
theorem dX10_order_108 : decode cX10_order 108 = .ok (.iload 5, 2) := by decide +kernel
theorem dX10_order_110 : decode cX10_order 110 = .ok (.iload_n 3, 1) := by decide +kernel
theorem dX10_order_111 : decode cX10_order 111 = .ok (.if_icmp .le 8, 3) := by decide +kernel
theorem dX10_order_114 : decode cX10_order 114 = .ok (.iload 5, 2) := by decide +kernel
theorem dX10_order_116 : decode cX10_order 116 = .ok (.goto 4, 3) := by decide +kernel
theorem dX10_order_119 : decode cX10_order 119 = .ok (.iload_n 3, 1) := by decide +kernel
theorem dX10_order_120 : decode cX10_order 120 = .ok (.istore_n 3, 1) := by decide +kernel
theorem dX10_order_121 : decode cX10_order 121 = .ok (.aload_n 0, 1) := by decide +kernel
theorem dX10_order_122 : decode cX10_order 122 = .ok (.aload_n 0, 1) := by decide +kernel
theorem dX10_order_123 : decode cX10_order 123 = .ok (.getfield 135, 3) := by decide +kernel
theorem dX10_order_126 : decode cX10_order 126 = .ok (.invokevirtual 240, 3) := by decide +kernel
theorem dX10_order_129 : decode cX10_order 129 = .ok (.istore 4, 2) := by decide +kernel
theorem dX10_order_131 : decode cX10_order 131 = .ok (.goto (-77), 3) := by decide +kernel
theorem dX10_order_134 : decode cX10_order 134 = .ok (.iload_n 2, 1) := by decide +kernel
theorem dX10_order_135 : decode cX10_order 135 = .ok (.ifCond .ge 7, 3) := by decide +kernel
theorem dX10_order_138 : decode cX10_order 138 = .ok (.iload_n 3, 1) := by decide +kernel
theorem dX10_order_139 : decode cX10_order 139 = .ok (.goto 9, 3) := by decide +kernel
theorem dX10_order_142 : decode cX10_order 142 = .ok (.aload_n 0, 1) := by decide +kernel
theorem dX10_order_143 : decode cX10_order 143 = .ok (.getfield 49, 3) := by decide +kernel
theorem dX10_order_146 : decode cX10_order 146 = .ok (.iload_n 2, 1) := by decide +kernel
theorem dX10_order_147 : decode cX10_order 147 = .ok (.iaload, 1) := by decide +kernel
theorem dX10_order_148 : decode cX10_order 148 = .ok (.ireturn, 1) := by decide +kernel
set_option maxRecDepth 20000 in
theorem ggX10_send_X10_isPurse : GoodIn wsX10_send wsX10_isPurse := goodIn_r _ [8, 9, 10, 11, 7, 12] (by decide +kernel) (by decide +kernel)
set_option maxRecDepth 20000 in
theorem gX10_send_X10_isPurse : GoodIn wsX10_send (va_wsS RX10 166 yX10_isPurse wsX10_isPurse) := goodIn_app (goodIn_of _ (by decide +kernel)) ggX10_send_X10_isPurse
set_option maxRecDepth 20000 in
theorem ggX10_send_X10_isCoin : GoodIn wsX10_send wsX10_isCoin := goodIn_r _ [16, 17, 10, 11, 7, 12, 89, 90, 91, 92, 93, 94, 95, 96, 97, 98, 99, 100, 101, 102, 103, 104, 105, 106, 107, 108, 109, 110, 111, 112, 113, 114, 115, 116, 117, 118, 119, 120, 121, 122, 123] (by decide +kernel) (by decide +kernel)
set_option maxRecDepth 20000 in
theorem gX10_send_X10_isCoin : GoodIn wsX10_send (wsV RX10 100 RX10 yX10_isCoin wsX10_isCoin) := goodIn_app (goodIn_of _ (by decide +kernel)) ggX10_send_X10_isCoin
set_option maxRecDepth 20000 in
theorem ggX10_send_X10_isShop : GoodIn wsX10_send wsX10_isShop := goodIn_r _ [20, 21, 22, 10, 11, 7, 12] (by decide +kernel) (by decide +kernel)
set_option maxRecDepth 20000 in
theorem gX10_send_X10_isShop : GoodIn wsX10_send (va_wsS RX10 169 yX10_isShop wsX10_isShop) := goodIn_app (goodIn_of _ (by decide +kernel)) ggX10_send_X10_isShop
set_option maxRecDepth 20000 in
theorem ggX10_send_X10_in : GoodIn wsX10_send wsX10_in := goodIn_r _ [12] (by decide +kernel) (by decide +kernel)
set_option maxRecDepth 20000 in
theorem gX10_send_X10_in : GoodIn wsX10_send (va_wsS RX10 78 yX10_in wsX10_in) := goodIn_app (goodIn_of _ (by decide +kernel)) ggX10_send_X10_in
set_option maxRecDepth 20000 in
theorem ggX10_send_X10_keep : GoodIn wsX10_send wsX10_keep := goodIn_r _ [26, 17, 27, 3, 89, 90, 91, 92, 93, 94, 95, 96, 97, 98, 99, 100, 101, 102, 103, 104, 105, 106, 107, 108, 109, 110, 111, 112, 113, 114, 115, 116, 117, 118, 119, 120, 121, 122, 123] (by decide +kernel) (by decide +kernel)
set_option maxRecDepth 20000 in
theorem gX10_send_X10_keep : GoodIn wsX10_send (wsV RX10 224 RX10 yX10_keep wsX10_keep) := goodIn_app (goodIn_of _ (by decide +kernel)) ggX10_send_X10_keep
set_option maxRecDepth 20000 in
theorem ggX10_send_X10_firstOrder : GoodIn wsX10_send wsX10_firstOrder := goodIn_r _ [31, 4, 89, 90, 91, 92, 93, 94, 95, 96, 97, 98, 99, 100, 101, 102, 103, 104, 105, 106, 107, 108, 109, 110, 111, 112, 113, 114, 115, 116, 117, 118, 119, 120, 121, 122, 123] (by decide +kernel) (by decide +kernel)
set_option maxRecDepth 20000 in
theorem gX10_send_X10_firstOrder : GoodIn wsX10_send (wsV RX10 234 RX10 yX10_firstOrder wsX10_firstOrder) := goodIn_app (goodIn_of _ (by decide +kernel)) ggX10_send_X10_firstOrder
set_option maxRecDepth 20000 in
theorem ggX10_send_X10_goErrands : GoodIn wsX10_send wsX10_goErrands := goodIn_r _ [35, 2, 36, 4, 37, 38, 39, 40, 41, 7, 42, 17, 3, 43, 44, 45, 46, 47, 48, 49, 50, 51, 52, 53, 54, 55, 56, 57, 58, 59, 60, 61, 62, 63, 64, 65, 66, 67, 68, 69, 70, 71, 72, 73, 74, 75, 76, 77, 78, 79, 80, 89, 90, 91, 92, 93, 94, 95, 96, 97, 98, 99, 100, 101, 102, 103, 104, 105, 106, 107, 108, 109, 110, 111, 112, 113, 114, 115, 116, 117, 118, 119, 120, 121, 122, 123] (by decide +kernel) (by decide +kernel)
set_option maxRecDepth 20000 in
theorem gX10_send_X10_goErrands : GoodIn wsX10_send (wsV RX10 237 RX10 yX10_goErrands wsX10_goErrands) := goodIn_app (goodIn_of _ (by decide +kernel)) ggX10_send_X10_goErrands
set_option maxRecDepth 20000 in
theorem ggX10_send_X10_bringBack : GoodIn wsX10_send wsX10_bringBack := goodIn_r _ [84, 17, 3, 27, 89, 90, 91, 92, 93, 94, 95, 96, 97, 98, 99, 100, 101, 102, 103, 104, 105, 106, 107, 108, 109, 110, 111, 112, 113, 114, 115, 116, 117, 118, 119, 120, 121, 122, 123] (by decide +kernel) (by decide +kernel)
set_option maxRecDepth 20000 in
theorem gX10_send_X10_bringBack : GoodIn wsX10_send (wsV RX10 227 RX10 yX10_bringBack wsX10_bringBack) := goodIn_app (goodIn_of _ (by decide +kernel)) ggX10_send_X10_bringBack
set_option maxRecDepth 20000 in
theorem ggX10_send_X10_nextOrder : GoodIn wsX10_send wsX10_nextOrder := goodIn_r _ [88, 4, 89, 90, 91, 92, 93, 94, 95, 96, 97, 98, 99, 100, 101, 102, 103, 104, 105, 106, 107, 108, 109, 110, 111, 112, 113, 114, 115, 116, 117, 118, 119, 120, 121, 122, 123] (by decide +kernel) (by decide +kernel)
set_option maxRecDepth 20000 in
theorem gX10_send_X10_nextOrder : GoodIn wsX10_send (wsV RX10 240 RX10 yX10_nextOrder wsX10_nextOrder) := goodIn_app (goodIn_of _ (by decide +kernel)) ggX10_send_X10_nextOrder
theorem dX10_send_0 : decode cX10_send 0 = .ok (.iload_n 1, 1) := by decide +kernel
theorem dX10_send_1 : decode cX10_send 1 = .ok (.invokestatic 166, 3) := by decide +kernel
theorem dX10_send_4 : decode cX10_send 4 = .ok (.ifCond .eq 31, 3) := by decide +kernel
theorem dX10_send_7 : decode cX10_send 7 = .ok (.aload_n 0, 1) := by decide +kernel
theorem dX10_send_8 : decode cX10_send 8 = .ok (.iload_n 2, 1) := by decide +kernel
theorem dX10_send_9 : decode cX10_send 9 = .ok (.invokevirtual 100, 3) := by decide +kernel
theorem dX10_send_12 : decode cX10_send 12 = .ok (.ifCond .eq 23, 3) := by decide +kernel
theorem dX10_send_15 : decode cX10_send 15 = .ok (.iload_n 3, 1) := by decide +kernel
theorem dX10_send_16 : decode cX10_send 16 = .ok (.invokestatic 169, 3) := by decide +kernel
theorem dX10_send_19 : decode cX10_send 19 = .ok (.ifCond .eq 16, 3) := by decide +kernel
theorem dX10_send_22 : decode cX10_send 22 = .ok (.iload 4, 2) := by decide +kernel
theorem dX10_send_24 : decode cX10_send 24 = .ok (.i2l, 1) := by decide +kernel
theorem dX10_send_25 : decode cX10_send 25 = .ok (.lconst 0, 1) := by decide +kernel
theorem dX10_send_26 : decode cX10_send 26 = .ok (.ldc2_w 232, 3) := by decide +kernel
theorem dX10_send_29 : decode cX10_send 29 = .ok (.invokestatic 78, 3) := by decide +kernel
theorem dX10_send_32 : decode cX10_send 32 = .ok (.ifCond .ne 5, 3) := by decide +kernel
theorem dX10_send_35 : decode cX10_send 35 = .ok (.iconst (-1), 1) := by decide +kernel
theorem dX10_send_36 : decode cX10_send 36 = .ok (.ireturn, 1) := by decide +kernel
theorem dX10_send_37 : decode cX10_send 37 = .ok (.iload 4, 2) := by decide +kernel
theorem dX10_send_39 : decode cX10_send 39 = .ok (.aload_n 0, 1) := by decide +kernel
theorem dX10_send_40 : decode cX10_send 40 = .ok (.getfield 135, 3) := by decide +kernel
theorem dX10_send_43 : decode cX10_send 43 = .ok (.if_icmp .lt 6, 3) := by decide +kernel
theorem dX10_send_46 : decode cX10_send 46 = .ok (.bipush (-4), 2) := by decide +kernel
theorem dX10_send_48 : decode cX10_send 48 = .ok (.ireturn, 1) := by decide +kernel
theorem dX10_send_49 : decode cX10_send 49 = .ok (.aload_n 0, 1) := by decide +kernel
theorem dX10_send_50 : decode cX10_send 50 = .ok (.invokevirtual 224, 3) := by decide +kernel
theorem dX10_send_53 : decode cX10_send 53 = .ok (.aload_n 0, 1) := by decide +kernel
theorem dX10_send_54 : decode cX10_send 54 = .ok (.invokevirtual 234, 3) := by decide +kernel
theorem dX10_send_57 : decode cX10_send 57 = .ok (.iconst 1, 1) := by decide +kernel
theorem dX10_send_58 : decode cX10_send 58 = .ok (.istore 5, 2) := by decide +kernel
theorem dX10_send_60 : decode cX10_send 60 = .ok (.iload 5, 2) := by decide +kernel
theorem dX10_send_62 : decode cX10_send 62 = .ok (.ifCond .eq 56, 3) := by decide +kernel
theorem dX10_send_65 : decode cX10_send 65 = .ok (.aload_n 0, 1) := by decide +kernel
theorem dX10_send_66 : decode cX10_send 66 = .ok (.iload_n 1, 1) := by decide +kernel
theorem dX10_send_67 : decode cX10_send 67 = .ok (.invokevirtual 237, 3) := by decide +kernel
theorem dX10_send_70 : decode cX10_send 70 = .ok (.pop, 1) := by decide +kernel
theorem dX10_send_71 : decode cX10_send 71 = .ok (.aload_n 0, 1) := by decide +kernel
theorem dX10_send_72 : decode cX10_send 72 = .ok (.getfield 22, 3) := by decide +kernel
theorem dX10_send_75 : decode cX10_send 75 = .ok (.iload_n 2, 1) := by decide +kernel
theorem dX10_send_76 : decode cX10_send 76 = .ok (.iaload, 1) := by decide +kernel
theorem dX10_send_77 : decode cX10_send 77 = .ok (.iload_n 3, 1) := by decide +kernel
theorem dX10_send_78 : decode cX10_send 78 = .ok (.if_icmp .ne 7, 3) := by decide +kernel
theorem dX10_send_81 : decode cX10_send 81 = .ok (.iconst 1, 1) := by decide +kernel
theorem dX10_send_82 : decode cX10_send 82 = .ok (.goto 4, 3) := by decide +kernel
theorem dX10_send_85 : decode cX10_send 85 = .ok (.iconst 0, 1) := by decide +kernel
theorem dX10_send_86 : decode cX10_send 86 = .ok (.istore 6, 2) := by decide +kernel
theorem dX10_send_88 : decode cX10_send 88 = .ok (.aload_n 0, 1) := by decide +kernel
theorem dX10_send_89 : decode cX10_send 89 = .ok (.invokevirtual 227, 3) := by decide +kernel
theorem dX10_send_92 : decode cX10_send 92 = .ok (.iload 6, 2) := by decide +kernel
theorem dX10_send_94 : decode cX10_send 94 = .ok (.ifCond .eq 11, 3) := by decide +kernel
theorem dX10_send_97 : decode cX10_send 97 = .ok (.aload_n 0, 1) := by decide +kernel
theorem dX10_send_98 : decode cX10_send 98 = .ok (.getfield 46, 3) := by decide +kernel
theorem dX10_send_101 : decode cX10_send 101 = .ok (.iload 4, 2) := by decide +kernel
theorem dX10_send_103 : decode cX10_send 103 = .ok (.iaload, 1) := by decide +kernel
theorem dX10_send_104 : decode cX10_send 104 = .ok (.ireturn, 1) := by decide +kernel
theorem dX10_send_105 : decode cX10_send 105 = .ok (.aload_n 0, 1) := by decide +kernel
theorem dX10_send_106 : decode cX10_send 106 = .ok (.aload_n 0, 1) := by decide +kernel
theorem dX10_send_107 : decode cX10_send 107 = .ok (.getfield 135, 3) := by decide +kernel
theorem dX10_send_110 : decode cX10_send 110 = .ok (.invokevirtual 240, 3) := by decide +kernel
theorem dX10_send_113 : decode cX10_send 113 = .ok (.istore 5, 2) := by decide +kernel
theorem dX10_send_115 : decode cX10_send 115 = .ok (.goto (-55), 3) := by decide +kernel
theorem dX10_send_118 : decode cX10_send 118 = .ok (.bipush (-4), 2) := by decide +kernel
theorem dX10_send_120 : decode cX10_send 120 = .ok (.ireturn, 1) := by decide +kernel
set_option maxRecDepth 20000 in
theorem ggX10_lent_X10_isBill : GoodIn wsX10_lent wsX10_isBill := goodIn_r _ [8, 9, 10, 7, 11, 12, 13, 14, 15, 16, 17, 18, 19, 20, 21, 22, 23, 24] (by decide +kernel) (by decide +kernel)
set_option maxRecDepth 20000 in
theorem gX10_lent_X10_isBill : GoodIn wsX10_lent (va_wsS RX10 211 yX10_isBill wsX10_isBill) := goodIn_app (goodIn_of _ (by decide +kernel)) ggX10_lent_X10_isBill
set_option maxRecDepth 20000 in
theorem ggX10_lent_X10_keep : GoodIn wsX10_lent wsX10_keep := goodIn_r _ [28, 1, 2, 3, 75, 76, 77, 78, 79, 80, 81, 82, 83, 84, 85, 86, 87, 88, 89, 90, 91, 92, 93, 94, 95, 96, 97, 98, 99, 100, 101, 102, 103, 104, 105, 106, 107, 108, 109] (by decide +kernel) (by decide +kernel)
set_option maxRecDepth 20000 in
theorem gX10_lent_X10_keep : GoodIn wsX10_lent (wsV RX10 224 RX10 yX10_keep wsX10_keep) := goodIn_app (goodIn_of _ (by decide +kernel)) ggX10_lent_X10_keep
set_option maxRecDepth 20000 in
theorem ggX10_lent_X10_doBill : GoodIn wsX10_lent wsX10_doBill := goodIn_r _ [32, 1, 3, 33, 34, 35, 36, 37, 7, 38, 39, 40, 41, 42, 43, 4, 44, 45, 46, 47, 48, 49, 50, 51, 52, 53, 54, 55, 56, 57, 58, 59, 60, 61, 62, 63, 64, 65, 66, 67, 68, 69, 70, 75, 76, 77, 78, 79, 80, 81, 82, 83, 84, 85, 86, 87, 88, 89, 90, 91, 92, 93, 94, 95, 96, 97, 98, 99, 100, 101, 102, 103, 104, 105, 106, 107, 108, 109] (by decide +kernel) (by decide +kernel)
set_option maxRecDepth 20000 in
theorem gX10_lent_X10_doBill : GoodIn wsX10_lent (wsV RX10 214 RX10 yX10_doBill wsX10_doBill) := goodIn_app (goodIn_of _ (by decide +kernel)) ggX10_lent_X10_doBill
set_option maxRecDepth 20000 in
theorem ggX10_lent_X10_bringBack : GoodIn wsX10_lent wsX10_bringBack := goodIn_r _ [74, 1, 3, 2, 75, 76, 77, 78, 79, 80, 81, 82, 83, 84, 85, 86, 87, 88, 89, 90, 91, 92, 93, 94, 95, 96, 97, 98, 99, 100, 101, 102, 103, 104, 105, 106, 107, 108, 109] (by decide +kernel) (by decide +kernel)
set_option maxRecDepth 20000 in
theorem gX10_lent_X10_bringBack : GoodIn wsX10_lent (wsV RX10 227 RX10 yX10_bringBack wsX10_bringBack) := goodIn_app (goodIn_of _ (by decide +kernel)) ggX10_lent_X10_bringBack
theorem dX10_lent_0 : decode cX10_lent 0 = .ok (.iload_n 1, 1) := by decide +kernel
theorem dX10_lent_1 : decode cX10_lent 1 = .ok (.iload_n 2, 1) := by decide +kernel
theorem dX10_lent_2 : decode cX10_lent 2 = .ok (.iload_n 3, 1) := by decide +kernel
theorem dX10_lent_3 : decode cX10_lent 3 = .ok (.invokestatic 211, 3) := by decide +kernel
theorem dX10_lent_6 : decode cX10_lent 6 = .ok (.ifCond .eq 21, 3) := by decide +kernel
theorem dX10_lent_9 : decode cX10_lent 9 = .ok (.iload 4, 2) := by decide +kernel
theorem dX10_lent_11 : decode cX10_lent 11 = .ok (.iload 5, 2) := by decide +kernel
theorem dX10_lent_13 : decode cX10_lent 13 = .ok (.iload 6, 2) := by decide +kernel
theorem dX10_lent_15 : decode cX10_lent 15 = .ok (.invokestatic 211, 3) := by decide +kernel
theorem dX10_lent_18 : decode cX10_lent 18 = .ok (.ifCond .eq 9, 3) := by decide +kernel
theorem dX10_lent_21 : decode cX10_lent 21 = .ok (.iload_n 1, 1) := by decide +kernel
theorem dX10_lent_22 : decode cX10_lent 22 = .ok (.iload 4, 2) := by decide +kernel
theorem dX10_lent_24 : decode cX10_lent 24 = .ok (.if_icmp .ne 5, 3) := by decide +kernel
theorem dX10_lent_27 : decode cX10_lent 27 = .ok (.iconst (-1), 1) := by decide +kernel
theorem dX10_lent_28 : decode cX10_lent 28 = .ok (.ireturn, 1) := by decide +kernel
theorem dX10_lent_29 : decode cX10_lent 29 = .ok (.aload_n 0, 1) := by decide +kernel
theorem dX10_lent_30 : decode cX10_lent 30 = .ok (.invokevirtual 224, 3) := by decide +kernel
theorem dX10_lent_33 : decode cX10_lent 33 = .ok (.iconst (-1), 1) := by decide +kernel
theorem dX10_lent_34 : decode cX10_lent 34 = .ok (.istore 7, 2) := by decide +kernel
theorem dX10_lent_36 : decode cX10_lent 36 = .ok (.bipush (-4), 2) := by decide +kernel
theorem dX10_lent_38 : decode cX10_lent 38 = .ok (.istore 8, 2) := by decide +kernel
theorem dX10_lent_40 : decode cX10_lent 40 = .ok (.iconst (-1), 1) := by decide +kernel
theorem dX10_lent_41 : decode cX10_lent 41 = .ok (.istore 9, 2) := by decide +kernel
theorem dX10_lent_43 : decode cX10_lent 43 = .ok (.iload 9, 2) := by decide +kernel
theorem dX10_lent_45 : decode cX10_lent 45 = .ok (.aload_n 0, 1) := by decide +kernel
theorem dX10_lent_46 : decode cX10_lent 46 = .ok (.getfield 74, 3) := by decide +kernel
theorem dX10_lent_49 : decode cX10_lent 49 = .ok (.if_icmp .ge 139, 3) := by decide +kernel
theorem dX10_lent_52 : decode cX10_lent 52 = .ok (.iload 9, 2) := by decide +kernel
theorem dX10_lent_54 : decode cX10_lent 54 = .ok (.ifCond .lt 14, 3) := by decide +kernel
theorem dX10_lent_57 : decode cX10_lent 57 = .ok (.aload_n 0, 1) := by decide +kernel
theorem dX10_lent_58 : decode cX10_lent 58 = .ok (.getfield 43, 3) := by decide +kernel
theorem dX10_lent_61 : decode cX10_lent 61 = .ok (.iload 9, 2) := by decide +kernel
theorem dX10_lent_63 : decode cX10_lent 63 = .ok (.iaload, 1) := by decide +kernel
theorem dX10_lent_64 : decode cX10_lent 64 = .ok (.iload_n 1, 1) := by decide +kernel
theorem dX10_lent_65 : decode cX10_lent 65 = .ok (.if_icmp .ne 117, 3) := by decide +kernel
theorem dX10_lent_68 : decode cX10_lent 68 = .ok (.iload 9, 2) := by decide +kernel
theorem dX10_lent_70 : decode cX10_lent 70 = .ok (.ifCond .lt 12, 3) := by decide +kernel
theorem dX10_lent_73 : decode cX10_lent 73 = .ok (.aload_n 0, 1) := by decide +kernel
theorem dX10_lent_74 : decode cX10_lent 74 = .ok (.getfield 22, 3) := by decide +kernel
theorem dX10_lent_77 : decode cX10_lent 77 = .ok (.iload 9, 2) := by decide +kernel
theorem dX10_lent_79 : decode cX10_lent 79 = .ok (.iload 4, 2) := by decide +kernel
theorem dX10_lent_81 : decode cX10_lent 81 = .ok (.iastore, 1) := by decide +kernel
theorem dX10_lent_82 : decode cX10_lent 82 = .ok (.aload_n 0, 1) := by decide +kernel
theorem dX10_lent_83 : decode cX10_lent 83 = .ok (.iload_n 1, 1) := by decide +kernel
theorem dX10_lent_84 : decode cX10_lent 84 = .ok (.iload_n 2, 1) := by decide +kernel
theorem dX10_lent_85 : decode cX10_lent 85 = .ok (.iload_n 3, 1) := by decide +kernel
theorem dX10_lent_86 : decode cX10_lent 86 = .ok (.invokevirtual 214, 3) := by decide +kernel
theorem dX10_lent_89 : decode cX10_lent 89 = .ok (.ifCond .eq 14, 3) := by decide +kernel
theorem dX10_lent_92 : decode cX10_lent 92 = .ok (.aload_n 0, 1) := by decide +kernel
theorem dX10_lent_93 : decode cX10_lent 93 = .ok (.getfield 199, 3) := by decide +kernel
theorem dX10_lent_96 : decode cX10_lent 96 = .ok (.ifCond .ne 7, 3) := by decide +kernel
theorem dX10_lent_99 : decode cX10_lent 99 = .ok (.iconst 1, 1) := by decide +kernel
theorem dX10_lent_100 : decode cX10_lent 100 = .ok (.goto 4, 3) := by decide +kernel
theorem dX10_lent_103 : decode cX10_lent 103 = .ok (.iconst 0, 1) := by decide +kernel
theorem dX10_lent_104 : decode cX10_lent 104 = .ok (.istore 10, 2) := by decide +kernel
theorem dX10_lent_106 : decode cX10_lent 106 = .ok (.iload 10, 2) := by decide +kernel
theorem dX10_lent_108 : decode cX10_lent 108 = .ok (.aload_n 0, 1) := by decide +kernel
theorem dX10_lent_109 : decode cX10_lent 109 = .ok (.iload 4, 2) := by decide +kernel
theorem dX10_lent_111 : decode cX10_lent 111 = .ok (.iload 5, 2) := by decide +kernel
theorem dX10_lent_113 : decode cX10_lent 113 = .ok (.iload 6, 2) := by decide +kernel
theorem dX10_lent_115 : decode cX10_lent 115 = .ok (.invokevirtual 214, 3) := by decide +kernel
theorem dX10_lent_118 : decode cX10_lent 118 = .ok (.ifCond .eq 14, 3) := by decide +kernel
theorem dX10_lent_121 : decode cX10_lent 121 = .ok (.aload_n 0, 1) := by decide +kernel
theorem dX10_lent_122 : decode cX10_lent 122 = .ok (.getfield 199, 3) := by decide +kernel
theorem dX10_lent_125 : decode cX10_lent 125 = .ok (.ifCond .ne 7, 3) := by decide +kernel
theorem dX10_lent_128 : decode cX10_lent 128 = .ok (.iconst 1, 1) := by decide +kernel
theorem dX10_lent_129 : decode cX10_lent 129 = .ok (.goto 4, 3) := by decide +kernel
theorem dX10_lent_132 : decode cX10_lent 132 = .ok (.iconst 0, 1) := by decide +kernel
theorem dX10_lent_133 : decode cX10_lent 133 = .ok (.iadd, 1) := by decide +kernel
theorem dX10_lent_134 : decode cX10_lent 134 = .ok (.istore 10, 2) := by decide +kernel
theorem dX10_lent_136 : decode cX10_lent 136 = .ok (.aload_n 0, 1) := by decide +kernel
theorem dX10_lent_137 : decode cX10_lent 137 = .ok (.invokevirtual 227, 3) := by decide +kernel
theorem dX10_lent_140 : decode cX10_lent 140 = .ok (.iload 10, 2) := by decide +kernel
theorem dX10_lent_142 : decode cX10_lent 142 = .ok (.iload 7, 2) := by decide +kernel
theorem dX10_lent_144 : decode cX10_lent 144 = .ok (.if_icmp .le 18, 3) := by decide +kernel
theorem dX10_lent_147 : decode cX10_lent 147 = .ok (.iload 9, 2) := by decide +kernel
theorem dX10_lent_149 : decode cX10_lent 149 = .ok (.ifCond .ge 8, 3) := by decide +kernel
theorem dX10_lent_152 : decode cX10_lent 152 = .ok (.bipush (-4), 2) := by decide +kernel
theorem dX10_lent_154 : decode cX10_lent 154 = .ok (.goto 10, 3) := by decide +kernel
theorem dX10_lent_157 : decode cX10_lent 157 = .ok (.iload 9, 2) := by decide +kernel
theorem dX10_lent_159 : decode cX10_lent 159 = .ok (.goto 5, 3) := by decide +kernel
theorem dX10_lent_162 : decode cX10_lent 162 = .ok (.iload 8, 2) := by decide +kernel
theorem dX10_lent_164 : decode cX10_lent 164 = .ok (.istore 8, 2) := by decide +kernel
theorem dX10_lent_166 : decode cX10_lent 166 = .ok (.iload 10, 2) := by decide +kernel
theorem dX10_lent_168 : decode cX10_lent 168 = .ok (.iload 7, 2) := by decide +kernel
theorem dX10_lent_170 : decode cX10_lent 170 = .ok (.if_icmp .le 8, 3) := by decide +kernel
theorem dX10_lent_173 : decode cX10_lent 173 = .ok (.iload 10, 2) := by decide +kernel
theorem dX10_lent_175 : decode cX10_lent 175 = .ok (.goto 5, 3) := by decide +kernel
theorem dX10_lent_178 : decode cX10_lent 178 = .ok (.iload 7, 2) := by decide +kernel
theorem dX10_lent_180 : decode cX10_lent 180 = .ok (.istore 7, 2) := by decide +kernel
theorem dX10_lent_182 : decode cX10_lent 182 = .ok (.iinc 9 1, 3) := by decide +kernel
theorem dX10_lent_185 : decode cX10_lent 185 = .ok (.goto (-142), 3) := by decide +kernel
theorem dX10_lent_188 : decode cX10_lent 188 = .ok (.iload 8, 2) := by decide +kernel
theorem dX10_lent_190 : decode cX10_lent 190 = .ok (.ireturn, 1) := by decide +kernel
set_option maxRecDepth 20000 in
theorem ggX10_runDay_X10_doBill : GoodIn wsX10_runDay wsX10_doBill := goodIn_r _ [9, 10, 11, 4, 12, 13, 14, 15, 8, 16, 17, 18, 19, 20, 21, 22, 23, 24, 25, 26, 27, 28, 29, 30, 31, 32, 33, 34, 35, 36, 37, 38, 39, 40, 41, 42, 43, 44, 45, 46, 47, 48, 49, 50, 51, 52, 53, 54, 55, 56, 57, 58, 59, 60, 61, 62, 63, 64, 65, 66, 67, 68, 69, 70, 71, 72, 73, 74, 75, 76, 77, 78, 79, 80, 81, 82, 83, 84] (by decide +kernel) (by decide +kernel)
set_option maxRecDepth 20000 in
theorem gX10_runDay_X10_doBill : GoodIn wsX10_runDay (wsV RX10 214 RX10 yX10_doBill wsX10_doBill) := goodIn_app (goodIn_of _ (by decide +kernel)) ggX10_runDay_X10_doBill
theorem dX10_runDay_0 : decode cX10_runDay 0 = .ok (.iconst 0, 1) := by decide +kernel
theorem dX10_runDay_1 : decode cX10_runDay 1 = .ok (.istore_n 2, 1) := by decide +kernel
theorem dX10_runDay_2 : decode cX10_runDay 2 = .ok (.iconst 0, 1) := by decide +kernel
theorem dX10_runDay_3 : decode cX10_runDay 3 = .ok (.istore_n 3, 1) := by decide +kernel
theorem dX10_runDay_4 : decode cX10_runDay 4 = .ok (.iload_n 3, 1) := by decide +kernel
theorem dX10_runDay_5 : decode cX10_runDay 5 = .ok (.iload_n 1, 1) := by decide +kernel
theorem dX10_runDay_6 : decode cX10_runDay 6 = .ok (.aload_n 0, 1) := by decide +kernel
theorem dX10_runDay_7 : decode cX10_runDay 7 = .ok (.getfield 132, 3) := by decide +kernel
theorem dX10_runDay_10 : decode cX10_runDay 10 = .ok (.imul, 1) := by decide +kernel
theorem dX10_runDay_11 : decode cX10_runDay 11 = .ok (.if_icmp .ge 71, 3) := by decide +kernel
theorem dX10_runDay_14 : decode cX10_runDay 14 = .ok (.iload_n 3, 1) := by decide +kernel
theorem dX10_runDay_15 : decode cX10_runDay 15 = .ok (.aload_n 0, 1) := by decide +kernel
theorem dX10_runDay_16 : decode cX10_runDay 16 = .ok (.getfield 132, 3) := by decide +kernel
theorem dX10_runDay_19 : decode cX10_runDay 19 = .ok (.irem, 1) := by decide +kernel
theorem dX10_runDay_20 : decode cX10_runDay 20 = .ok (.istore 4, 2) := by decide +kernel
theorem dX10_runDay_22 : decode cX10_runDay 22 = .ok (.aload_n 0, 1) := by decide +kernel
theorem dX10_runDay_23 : decode cX10_runDay 23 = .ok (.aload_n 0, 1) := by decide +kernel
theorem dX10_runDay_24 : decode cX10_runDay 24 = .ok (.getfield 31, 3) := by decide +kernel
theorem dX10_runDay_27 : decode cX10_runDay 27 = .ok (.iconst 3, 1) := by decide +kernel
theorem dX10_runDay_28 : decode cX10_runDay 28 = .ok (.iload 4, 2) := by decide +kernel
theorem dX10_runDay_30 : decode cX10_runDay 30 = .ok (.imul, 1) := by decide +kernel
theorem dX10_runDay_31 : decode cX10_runDay 31 = .ok (.iaload, 1) := by decide +kernel
theorem dX10_runDay_32 : decode cX10_runDay 32 = .ok (.aload_n 0, 1) := by decide +kernel
theorem dX10_runDay_33 : decode cX10_runDay 33 = .ok (.getfield 31, 3) := by decide +kernel
theorem dX10_runDay_36 : decode cX10_runDay 36 = .ok (.iconst 3, 1) := by decide +kernel
theorem dX10_runDay_37 : decode cX10_runDay 37 = .ok (.iload 4, 2) := by decide +kernel
theorem dX10_runDay_39 : decode cX10_runDay 39 = .ok (.imul, 1) := by decide +kernel
theorem dX10_runDay_40 : decode cX10_runDay 40 = .ok (.iconst 1, 1) := by decide +kernel
theorem dX10_runDay_41 : decode cX10_runDay 41 = .ok (.iadd, 1) := by decide +kernel
theorem dX10_runDay_42 : decode cX10_runDay 42 = .ok (.iaload, 1) := by decide +kernel
theorem dX10_runDay_43 : decode cX10_runDay 43 = .ok (.aload_n 0, 1) := by decide +kernel
theorem dX10_runDay_44 : decode cX10_runDay 44 = .ok (.getfield 31, 3) := by decide +kernel
theorem dX10_runDay_47 : decode cX10_runDay 47 = .ok (.iconst 3, 1) := by decide +kernel
theorem dX10_runDay_48 : decode cX10_runDay 48 = .ok (.iload 4, 2) := by decide +kernel
theorem dX10_runDay_50 : decode cX10_runDay 50 = .ok (.imul, 1) := by decide +kernel
theorem dX10_runDay_51 : decode cX10_runDay 51 = .ok (.iconst 2, 1) := by decide +kernel
theorem dX10_runDay_52 : decode cX10_runDay 52 = .ok (.iadd, 1) := by decide +kernel
theorem dX10_runDay_53 : decode cX10_runDay 53 = .ok (.iaload, 1) := by decide +kernel
theorem dX10_runDay_54 : decode cX10_runDay 54 = .ok (.invokevirtual 214, 3) := by decide +kernel
theorem dX10_runDay_57 : decode cX10_runDay 57 = .ok (.ifCond .ne 5, 3) := by decide +kernel
theorem dX10_runDay_60 : decode cX10_runDay 60 = .ok (.iload_n 2, 1) := by decide +kernel
theorem dX10_runDay_61 : decode cX10_runDay 61 = .ok (.ireturn, 1) := by decide +kernel
theorem dX10_runDay_62 : decode cX10_runDay 62 = .ok (.aload_n 0, 1) := by decide +kernel
theorem dX10_runDay_63 : decode cX10_runDay 63 = .ok (.getfield 52, 3) := by decide +kernel
theorem dX10_runDay_66 : decode cX10_runDay 66 = .ok (.iload 4, 2) := by decide +kernel
theorem dX10_runDay_68 : decode cX10_runDay 68 = .ok (.aload_n 0, 1) := by decide +kernel
theorem dX10_runDay_69 : decode cX10_runDay 69 = .ok (.getfield 185, 3) := by decide +kernel
theorem dX10_runDay_72 : decode cX10_runDay 72 = .ok (.lastore, 1) := by decide +kernel
theorem dX10_runDay_73 : decode cX10_runDay 73 = .ok (.iinc 2 1, 3) := by decide +kernel
theorem dX10_runDay_76 : decode cX10_runDay 76 = .ok (.iinc 3 1, 3) := by decide +kernel
theorem dX10_runDay_79 : decode cX10_runDay 79 = .ok (.goto (-75), 3) := by decide +kernel
theorem dX10_runDay_82 : decode cX10_runDay 82 = .ok (.iload_n 2, 1) := by decide +kernel
theorem dX10_runDay_83 : decode cX10_runDay 83 = .ok (.ireturn, 1) := by decide +kernel
set_option maxRecDepth 20000 in
theorem ggX10_run_X10_in : GoodIn wsX10_run wsX10_in := goodIn_r _ [5] (by decide +kernel) (by decide +kernel)
set_option maxRecDepth 20000 in
theorem gX10_run_X10_in : GoodIn wsX10_run (va_wsS RX10 78 yX10_in wsX10_in) := goodIn_app (goodIn_of _ (by decide +kernel)) ggX10_run_X10_in
set_option maxRecDepth 20000 in
theorem ggX10_run_X10_runDay : GoodIn wsX10_run wsX10_runDay := goodIn_r _ [9, 10, 11, 12, 13, 14, 15, 16, 4, 17, 18, 19, 20, 21, 22, 23, 24, 25, 26, 27, 28, 29, 30, 31, 32, 33, 34, 35, 36, 37, 38, 39, 40, 41, 42, 43, 44, 45, 46, 47, 48, 49, 50, 51, 52, 53, 54, 55, 56, 57, 58, 59, 60, 61, 62, 63, 64, 65, 66, 67, 68, 69, 70, 71, 72, 73, 74, 75, 76, 77, 78, 79, 80, 81, 82, 83, 84, 85, 86, 87, 88, 89, 90, 91, 92] (by decide +kernel) (by decide +kernel)
set_option maxRecDepth 20000 in
theorem gX10_run_X10_runDay : GoodIn wsX10_run (wsV RX10 245 RX10 yX10_runDay wsX10_runDay) := goodIn_app (goodIn_of _ (by decide +kernel)) ggX10_run_X10_runDay
theorem dX10_run_0 : decode cX10_run 0 = .ok (.iload_n 1, 1) := by decide +kernel
theorem dX10_run_1 : decode cX10_run 1 = .ok (.i2l, 1) := by decide +kernel
theorem dX10_run_2 : decode cX10_run 2 = .ok (.lconst 1, 1) := by decide +kernel
theorem dX10_run_3 : decode cX10_run 3 = .ok (.ldc2_w 243, 3) := by decide +kernel
theorem dX10_run_6 : decode cX10_run 6 = .ok (.invokestatic 78, 3) := by decide +kernel
theorem dX10_run_9 : decode cX10_run 9 = .ok (.ifCond .eq 11, 3) := by decide +kernel
theorem dX10_run_12 : decode cX10_run 12 = .ok (.aload_n 0, 1) := by decide +kernel
theorem dX10_run_13 : decode cX10_run 13 = .ok (.iload_n 1, 1) := by decide +kernel
theorem dX10_run_14 : decode cX10_run 14 = .ok (.invokevirtual 245, 3) := by decide +kernel
theorem dX10_run_17 : decode cX10_run 17 = .ok (.goto 4, 3) := by decide +kernel
theorem dX10_run_20 : decode cX10_run 20 = .ok (.iconst (-1), 1) := by decide +kernel
theorem dX10_run_21 : decode cX10_run 21 = .ok (.ireturn, 1) := by decide +kernel
set_option maxRecDepth 20000 in
theorem ggX10_where_X10_isCoin : GoodIn wsX10_where wsX10_isCoin := goodIn_r _ [7, 8, 9, 10, 6, 11, 71, 72, 73, 74, 75, 76, 77, 78, 79, 80, 81, 82, 83, 84, 85, 86, 87, 88, 89, 90, 91, 92, 93, 94, 95, 96, 97, 98, 99, 100, 101, 102, 103, 104, 105] (by decide +kernel) (by decide +kernel)
set_option maxRecDepth 20000 in
theorem gX10_where_X10_isCoin : GoodIn wsX10_where (wsV RX10 100 RX10 yX10_isCoin wsX10_isCoin) := goodIn_app (goodIn_of _ (by decide +kernel)) ggX10_where_X10_isCoin
set_option maxRecDepth 20000 in
theorem ggX10_where_X10_in : GoodIn wsX10_where wsX10_in := goodIn_r _ [11] (by decide +kernel) (by decide +kernel)
set_option maxRecDepth 20000 in
theorem gX10_where_X10_in : GoodIn wsX10_where (va_wsS RX10 78 yX10_in wsX10_in) := goodIn_app (goodIn_of _ (by decide +kernel)) ggX10_where_X10_in
set_option maxRecDepth 20000 in
theorem ggX10_where_X10_keep : GoodIn wsX10_where wsX10_keep := goodIn_r _ [15, 8, 16, 2, 71, 72, 73, 74, 75, 76, 77, 78, 79, 80, 81, 82, 83, 84, 85, 86, 87, 88, 89, 90, 91, 92, 93, 94, 95, 96, 97, 98, 99, 100, 101, 102, 103, 104, 105] (by decide +kernel) (by decide +kernel)
set_option maxRecDepth 20000 in
theorem gX10_where_X10_keep : GoodIn wsX10_where (wsV RX10 224 RX10 yX10_keep wsX10_keep) := goodIn_app (goodIn_of _ (by decide +kernel)) ggX10_where_X10_keep
set_option maxRecDepth 20000 in
theorem ggX10_where_X10_runDay : GoodIn wsX10_where wsX10_runDay := goodIn_r _ [20, 21, 22, 23, 24, 25, 26, 27, 6, 28, 8, 2, 29, 30, 31, 32, 33, 34, 35, 36, 37, 38, 39, 40, 41, 42, 43, 44, 45, 46, 47, 48, 49, 50, 51, 52, 53, 54, 55, 56, 57, 58, 59, 60, 61, 62, 63, 64, 65, 66, 71, 72, 73, 74, 75, 76, 77, 78, 79, 80, 81, 82, 83, 84, 85, 86, 87, 88, 89, 90, 91, 92, 93, 94, 95, 96, 97, 98, 99, 100, 101, 102, 103, 104, 105] (by decide +kernel) (by decide +kernel)
set_option maxRecDepth 20000 in
theorem gX10_where_X10_runDay : GoodIn wsX10_where (wsV RX10 245 RX10 yX10_runDay wsX10_runDay) := goodIn_app (goodIn_of _ (by decide +kernel)) ggX10_where_X10_runDay
set_option maxRecDepth 20000 in
theorem ggX10_where_X10_bringBack : GoodIn wsX10_where wsX10_bringBack := goodIn_r _ [70, 8, 2, 16, 71, 72, 73, 74, 75, 76, 77, 78, 79, 80, 81, 82, 83, 84, 85, 86, 87, 88, 89, 90, 91, 92, 93, 94, 95, 96, 97, 98, 99, 100, 101, 102, 103, 104, 105] (by decide +kernel) (by decide +kernel)
set_option maxRecDepth 20000 in
theorem gX10_where_X10_bringBack : GoodIn wsX10_where (wsV RX10 227 RX10 yX10_bringBack wsX10_bringBack) := goodIn_app (goodIn_of _ (by decide +kernel)) ggX10_where_X10_bringBack
theorem dX10_where_0 : decode cX10_where 0 = .ok (.aload_n 0, 1) := by decide +kernel
theorem dX10_where_1 : decode cX10_where 1 = .ok (.iload_n 1, 1) := by decide +kernel
theorem dX10_where_2 : decode cX10_where 2 = .ok (.invokevirtual 100, 3) := by decide +kernel
theorem dX10_where_5 : decode cX10_where 5 = .ok (.ifCond .eq 15, 3) := by decide +kernel
theorem dX10_where_8 : decode cX10_where 8 = .ok (.iload_n 2, 1) := by decide +kernel
theorem dX10_where_9 : decode cX10_where 9 = .ok (.i2l, 1) := by decide +kernel
theorem dX10_where_10 : decode cX10_where 10 = .ok (.lconst 1, 1) := by decide +kernel
theorem dX10_where_11 : decode cX10_where 11 = .ok (.ldc2_w 243, 3) := by decide +kernel
theorem dX10_where_14 : decode cX10_where 14 = .ok (.invokestatic 78, 3) := by decide +kernel
theorem dX10_where_17 : decode cX10_where 17 = .ok (.ifCond .ne 5, 3) := by decide +kernel
theorem dX10_where_20 : decode cX10_where 20 = .ok (.iconst (-1), 1) := by decide +kernel
theorem dX10_where_21 : decode cX10_where 21 = .ok (.ireturn, 1) := by decide +kernel
theorem dX10_where_22 : decode cX10_where 22 = .ok (.aload_n 0, 1) := by decide +kernel
theorem dX10_where_23 : decode cX10_where 23 = .ok (.invokevirtual 224, 3) := by decide +kernel
theorem dX10_where_26 : decode cX10_where 26 = .ok (.aload_n 0, 1) := by decide +kernel
theorem dX10_where_27 : decode cX10_where 27 = .ok (.iload_n 2, 1) := by decide +kernel
theorem dX10_where_28 : decode cX10_where 28 = .ok (.invokevirtual 245, 3) := by decide +kernel
theorem dX10_where_31 : decode cX10_where 31 = .ok (.pop, 1) := by decide +kernel
theorem dX10_where_32 : decode cX10_where 32 = .ok (.aload_n 0, 1) := by decide +kernel
theorem dX10_where_33 : decode cX10_where 33 = .ok (.getfield 22, 3) := by decide +kernel
theorem dX10_where_36 : decode cX10_where 36 = .ok (.iload_n 1, 1) := by decide +kernel
theorem dX10_where_37 : decode cX10_where 37 = .ok (.iaload, 1) := by decide +kernel
theorem dX10_where_38 : decode cX10_where 38 = .ok (.istore_n 3, 1) := by decide +kernel
theorem dX10_where_39 : decode cX10_where 39 = .ok (.aload_n 0, 1) := by decide +kernel
theorem dX10_where_40 : decode cX10_where 40 = .ok (.invokevirtual 227, 3) := by decide +kernel
theorem dX10_where_43 : decode cX10_where 43 = .ok (.iload_n 3, 1) := by decide +kernel
theorem dX10_where_44 : decode cX10_where 44 = .ok (.ireturn, 1) := by decide +kernel
set_option maxRecDepth 20000 in
theorem ggX10_runForged_X10_runOnce : GoodIn wsX10_runForged wsX10_runOnce := goodIn_r _ [7, 8, 9, 10, 11, 6, 12, 13, 14, 15, 16, 17, 18, 19, 20, 21, 22, 23, 24, 25, 26, 27, 28, 29, 30, 31, 32, 33, 34, 35, 36, 37, 38, 39, 40, 41, 42, 43, 44, 45, 46, 47, 48, 49, 50, 51, 52, 53, 54, 1, 2, 55, 56, 57, 58, 59, 60, 61, 62, 63, 64, 65, 66, 67, 68, 69, 70, 71, 72, 73, 74, 75, 76, 77, 78, 79, 80, 81, 82, 83, 84, 85, 86, 87, 88, 89, 90, 91, 92, 93, 94, 95, 96, 97, 98, 99, 100, 101, 102, 103, 104, 105] (by decide +kernel) (by decide +kernel)
set_option maxRecDepth 20000 in
theorem gX10_runForged_X10_runOnce : GoodIn wsX10_runForged (wsV RX10 248 RX10 yX10_runOnce wsX10_runOnce) := goodIn_app (goodIn_of _ (by decide +kernel)) ggX10_runForged_X10_runOnce
theorem dX10_runForged_0 : decode cX10_runForged 0 = .ok (.aload_n 0, 1) := by decide +kernel
theorem dX10_runForged_1 : decode cX10_runForged 1 = .ok (.getfield 19, 3) := by decide +kernel
theorem dX10_runForged_4 : decode cX10_runForged 4 = .ok (.iload_n 1, 1) := by decide +kernel
theorem dX10_runForged_5 : decode cX10_runForged 5 = .ok (.iaload, 1) := by decide +kernel
theorem dX10_runForged_6 : decode cX10_runForged 6 = .ok (.istore 4, 2) := by decide +kernel
theorem dX10_runForged_8 : decode cX10_runForged 8 = .ok (.aload_n 0, 1) := by decide +kernel
theorem dX10_runForged_9 : decode cX10_runForged 9 = .ok (.getfield 16, 3) := by decide +kernel
theorem dX10_runForged_12 : decode cX10_runForged 12 = .ok (.iload_n 1, 1) := by decide +kernel
theorem dX10_runForged_13 : decode cX10_runForged 13 = .ok (.iaload, 1) := by decide +kernel
theorem dX10_runForged_14 : decode cX10_runForged 14 = .ok (.istore 5, 2) := by decide +kernel
theorem dX10_runForged_16 : decode cX10_runForged 16 = .ok (.aload_n 0, 1) := by decide +kernel
theorem dX10_runForged_17 : decode cX10_runForged 17 = .ok (.getfield 19, 3) := by decide +kernel
theorem dX10_runForged_20 : decode cX10_runForged 20 = .ok (.iload_n 1, 1) := by decide +kernel
theorem dX10_runForged_21 : decode cX10_runForged 21 = .ok (.iconst 1, 1) := by decide +kernel
theorem dX10_runForged_22 : decode cX10_runForged 22 = .ok (.iastore, 1) := by decide +kernel
theorem dX10_runForged_23 : decode cX10_runForged 23 = .ok (.aload_n 0, 1) := by decide +kernel
theorem dX10_runForged_24 : decode cX10_runForged 24 = .ok (.getfield 16, 3) := by decide +kernel
theorem dX10_runForged_27 : decode cX10_runForged 27 = .ok (.iload_n 1, 1) := by decide +kernel
theorem dX10_runForged_28 : decode cX10_runForged 28 = .ok (.iload_n 2, 1) := by decide +kernel
theorem dX10_runForged_29 : decode cX10_runForged 29 = .ok (.iastore, 1) := by decide +kernel
theorem dX10_runForged_30 : decode cX10_runForged 30 = .ok (.aload_n 0, 1) := by decide +kernel
theorem dX10_runForged_31 : decode cX10_runForged 31 = .ok (.iload_n 3, 1) := by decide +kernel
theorem dX10_runForged_32 : decode cX10_runForged 32 = .ok (.invokevirtual 248, 3) := by decide +kernel
theorem dX10_runForged_35 : decode cX10_runForged 35 = .ok (.istore 6, 2) := by decide +kernel
theorem dX10_runForged_37 : decode cX10_runForged 37 = .ok (.aload_n 0, 1) := by decide +kernel
theorem dX10_runForged_38 : decode cX10_runForged 38 = .ok (.getfield 19, 3) := by decide +kernel
theorem dX10_runForged_41 : decode cX10_runForged 41 = .ok (.iload_n 1, 1) := by decide +kernel
theorem dX10_runForged_42 : decode cX10_runForged 42 = .ok (.iload 4, 2) := by decide +kernel
theorem dX10_runForged_44 : decode cX10_runForged 44 = .ok (.iastore, 1) := by decide +kernel
theorem dX10_runForged_45 : decode cX10_runForged 45 = .ok (.aload_n 0, 1) := by decide +kernel
theorem dX10_runForged_46 : decode cX10_runForged 46 = .ok (.getfield 16, 3) := by decide +kernel
theorem dX10_runForged_49 : decode cX10_runForged 49 = .ok (.iload_n 1, 1) := by decide +kernel
theorem dX10_runForged_50 : decode cX10_runForged 50 = .ok (.iload 5, 2) := by decide +kernel
theorem dX10_runForged_52 : decode cX10_runForged 52 = .ok (.iastore, 1) := by decide +kernel
theorem dX10_runForged_53 : decode cX10_runForged 53 = .ok (.iload 6, 2) := by decide +kernel
theorem dX10_runForged_55 : decode cX10_runForged 55 = .ok (.ireturn, 1) := by decide +kernel
set_option maxRecDepth 20000 in
theorem ggX10_runOnce_X10_keep : GoodIn wsX10_runOnce wsX10_keep := goodIn_r _ [6, 7, 8, 9, 67, 68, 69, 70, 71, 72, 73, 74, 75, 76, 77, 78, 79, 80, 81, 82, 83, 84, 85, 86, 87, 88, 89, 90, 91, 92, 93, 94, 95, 96, 97, 98, 99, 100, 101] (by decide +kernel) (by decide +kernel)
set_option maxRecDepth 20000 in
theorem gX10_runOnce_X10_keep : GoodIn wsX10_runOnce (wsV RX10 224 RX10 yX10_keep wsX10_keep) := goodIn_app (goodIn_of _ (by decide +kernel)) ggX10_runOnce_X10_keep
set_option maxRecDepth 20000 in
theorem ggX10_runOnce_X10_runDay : GoodIn wsX10_runOnce wsX10_runDay := goodIn_r _ [13, 14, 15, 1, 16, 17, 18, 19, 5, 20, 7, 9, 21, 22, 23, 24, 25, 26, 27, 28, 29, 30, 31, 32, 33, 34, 35, 36, 37, 38, 39, 40, 41, 42, 43, 44, 45, 46, 47, 48, 49, 50, 51, 52, 53, 54, 55, 56, 57, 58, 67, 68, 69, 70, 71, 72, 73, 74, 75, 76, 77, 78, 79, 80, 81, 82, 83, 84, 85, 86, 87, 88, 89, 90, 91, 92, 93, 94, 95, 96, 97, 98, 99, 100, 101] (by decide +kernel) (by decide +kernel)
set_option maxRecDepth 20000 in
theorem gX10_runOnce_X10_runDay : GoodIn wsX10_runOnce (wsV RX10 245 RX10 yX10_runDay wsX10_runDay) := goodIn_app (goodIn_of _ (by decide +kernel)) ggX10_runOnce_X10_runDay
set_option maxRecDepth 20000 in
theorem ggX10_runOnce_X10_worthOf : GoodIn wsX10_runOnce wsX10_worthOf := goodIn_r _ [62, 7, 9, 30, 67, 68, 69, 70, 71, 72, 73, 74, 75, 76, 77, 78, 79, 80, 81, 82, 83, 84, 85, 86, 87, 88, 89, 90, 91, 92, 93, 94, 95, 96, 97, 98, 99, 100, 101] (by decide +kernel) (by decide +kernel)
set_option maxRecDepth 20000 in
theorem gX10_runOnce_X10_worthOf : GoodIn wsX10_runOnce (wsV RX10 129 RX10 yX10_worthOf wsX10_worthOf) := goodIn_app (goodIn_of _ (by decide +kernel)) ggX10_runOnce_X10_worthOf
set_option maxRecDepth 20000 in
theorem ggX10_runOnce_X10_bringBack : GoodIn wsX10_runOnce wsX10_bringBack := goodIn_r _ [66, 7, 9, 8, 67, 68, 69, 70, 71, 72, 73, 74, 75, 76, 77, 78, 79, 80, 81, 82, 83, 84, 85, 86, 87, 88, 89, 90, 91, 92, 93, 94, 95, 96, 97, 98, 99, 100, 101] (by decide +kernel) (by decide +kernel)
set_option maxRecDepth 20000 in
theorem gX10_runOnce_X10_bringBack : GoodIn wsX10_runOnce (wsV RX10 227 RX10 yX10_bringBack wsX10_bringBack) := goodIn_app (goodIn_of _ (by decide +kernel)) ggX10_runOnce_X10_bringBack
theorem dX10_runOnce_0 : decode cX10_runOnce 0 = .ok (.iconst 0, 1) := by decide +kernel
theorem dX10_runOnce_1 : decode cX10_runOnce 1 = .ok (.istore_n 2, 1) := by decide +kernel
theorem dX10_runOnce_2 : decode cX10_runOnce 2 = .ok (.iload_n 2, 1) := by decide +kernel
theorem dX10_runOnce_3 : decode cX10_runOnce 3 = .ok (.bipush 24, 2) := by decide +kernel
theorem dX10_runOnce_5 : decode cX10_runOnce 5 = .ok (.if_icmp .ge 16, 3) := by decide +kernel
theorem dX10_runOnce_8 : decode cX10_runOnce 8 = .ok (.aload_n 0, 1) := by decide +kernel
theorem dX10_runOnce_9 : decode cX10_runOnce 9 = .ok (.getfield 52, 3) := by decide +kernel
theorem dX10_runOnce_12 : decode cX10_runOnce 12 = .ok (.iload_n 2, 1) := by decide +kernel
theorem dX10_runOnce_13 : decode cX10_runOnce 13 = .ok (.lconst 0, 1) := by decide +kernel
theorem dX10_runOnce_14 : decode cX10_runOnce 14 = .ok (.lastore, 1) := by decide +kernel
