theorem dX9_of_88 : decode cX9_of 88 = .ok (.getfield 22, 3) := by decide +kernel
theorem dX9_of_91 : decode cX9_of 91 = .ok (.lload_n 3, 1) := by decide +kernel
theorem dX9_of_92 : decode cX9_of 92 = .ok (.invokevirtual 157, 3) := by decide +kernel
theorem dX9_of_95 : decode cX9_of 95 = .ok (.iaload, 1) := by decide +kernel
theorem dX9_of_96 : decode cX9_of 96 = .ok (.ireturn, 1) := by decide +kernel
set_option maxRecDepth 20000 in
theorem ggX9_type_X9_isWithin : GoodIn wsX9_type wsX9_isWithin := goodIn_r _ [6] (by decide +kernel) (by decide +kernel)
set_option maxRecDepth 20000 in
theorem gX9_type_X9_isWithin : GoodIn wsX9_type (va_wsS RX9 91 yX9_isWithin wsX9_isWithin) := goodIn_app (goodIn_of _ (by decide +kernel)) ggX9_type_X9_isWithin
set_option maxRecDepth 20000 in
theorem ggX9_type_X6_mayHold : GoodIn wsX9_type wsX6_mayHold := goodIn_r _ [10, 11, 4, 5, 6] (by decide +kernel) (by decide +kernel)
set_option maxRecDepth 20000 in
theorem gX9_type_X6_mayHold : GoodIn wsX9_type (va_wsS RX9 160 yX6_mayHold wsX6_mayHold) := goodIn_app (goodIn_of _ (by decide +kernel)) ggX9_type_X6_mayHold
set_option maxRecDepth 20000 in
theorem ggX9_type_X6_append : GoodIn wsX9_type wsX6_append := goodIn_r _ [15, 16, 17, 32, 33, 34, 35] (by decide +kernel) (by decide +kernel)
set_option maxRecDepth 20000 in
theorem gX9_type_X6_append : GoodIn wsX9_type (wsV RX9 165 RX6 yX6_append wsX6_append) := goodIn_app (goodIn_of _ (by decide +kernel)) ggX9_type_X6_append
theorem dX9_type_0 : decode cX9_type 0 = .ok (.iload_n 3, 1) := by decide +kernel
theorem dX9_type_1 : decode cX9_type 1 = .ok (.iconst 1, 1) := by decide +kernel
theorem dX9_type_2 : decode cX9_type 2 = .ok (.bipush 8, 2) := by decide +kernel
theorem dX9_type_4 : decode cX9_type 4 = .ok (.invokestatic 91, 3) := by decide +kernel
theorem dX9_type_7 : decode cX9_type 7 = .ok (.ifCond .eq 11, 3) := by decide +kernel
theorem dX9_type_10 : decode cX9_type 10 = .ok (.lload_n 1, 1) := by decide +kernel
theorem dX9_type_11 : decode cX9_type 11 = .ok (.iload_n 3, 1) := by decide +kernel
theorem dX9_type_12 : decode cX9_type 12 = .ok (.invokestatic 160, 3) := by decide +kernel
theorem dX9_type_15 : decode cX9_type 15 = .ok (.ifCond .ne 5, 3) := by decide +kernel
theorem dX9_type_18 : decode cX9_type 18 = .ok (.iconst (-1), 1) := by decide +kernel
theorem dX9_type_19 : decode cX9_type 19 = .ok (.ireturn, 1) := by decide +kernel
theorem dX9_type_20 : decode cX9_type 20 = .ok (.aload_n 0, 1) := by decide +kernel
theorem dX9_type_21 : decode cX9_type 21 = .ok (.getfield 60, 3) := by decide +kernel
theorem dX9_type_24 : decode cX9_type 24 = .ok (.getfield 164, 3) := by decide +kernel
theorem dX9_type_27 : decode cX9_type 27 = .ok (.iload_n 3, 1) := by decide +kernel
theorem dX9_type_28 : decode cX9_type 28 = .ok (.iadd, 1) := by decide +kernel
theorem dX9_type_29 : decode cX9_type 29 = .ok (.sipush 160, 3) := by decide +kernel
theorem dX9_type_32 : decode cX9_type 32 = .ok (.if_icmp .le 6, 3) := by decide +kernel
theorem dX9_type_35 : decode cX9_type 35 = .ok (.bipush (-3), 2) := by decide +kernel
theorem dX9_type_37 : decode cX9_type 37 = .ok (.ireturn, 1) := by decide +kernel
theorem dX9_type_38 : decode cX9_type 38 = .ok (.aload_n 0, 1) := by decide +kernel
theorem dX9_type_39 : decode cX9_type 39 = .ok (.getfield 60, 3) := by decide +kernel
theorem dX9_type_42 : decode cX9_type 42 = .ok (.lload_n 1, 1) := by decide +kernel
theorem dX9_type_43 : decode cX9_type 43 = .ok (.iload_n 3, 1) := by decide +kernel
theorem dX9_type_44 : decode cX9_type 44 = .ok (.invokevirtual 165, 3) := by decide +kernel
theorem dX9_type_47 : decode cX9_type 47 = .ok (.aload_n 0, 1) := by decide +kernel
theorem dX9_type_48 : decode cX9_type 48 = .ok (.getfield 60, 3) := by decide +kernel
theorem dX9_type_51 : decode cX9_type 51 = .ok (.getfield 164, 3) := by decide +kernel
theorem dX9_type_54 : decode cX9_type 54 = .ok (.ireturn, 1) := by decide +kernel
set_option maxRecDepth 20000 in
theorem ggX9_purse_X9_isHolder : GoodIn wsX9_purse wsX9_isHolder := goodIn_r _ [11, 12, 13, 10, 14] (by decide +kernel) (by decide +kernel)
set_option maxRecDepth 20000 in
theorem gX9_purse_X9_isHolder : GoodIn wsX9_purse (va_wsS RX9 87 yX9_isHolder wsX9_isHolder) := goodIn_app (goodIn_of _ (by decide +kernel)) ggX9_purse_X9_isHolder
set_option maxRecDepth 20000 in
theorem ggX9_purse_X6_readCoins : GoodIn wsX9_purse wsX6_readCoins := goodIn_r _ [19, 20, 21, 22, 23, 24, 25, 18, 26, 27, 28, 29, 30, 31, 32, 33, 34, 35, 36, 37, 38, 39, 40, 41, 13, 10, 14, 42, 43, 44, 45, 46, 47, 48, 49, 50, 51, 52, 53, 54, 55, 56, 57, 58, 59, 60, 61, 62, 63, 64, 65, 66, 67, 68, 69, 70, 71, 72, 104, 105, 106, 107, 108, 109, 96, 97, 98, 99] (by decide +kernel) (by decide +kernel)
set_option maxRecDepth 20000 in
theorem gX9_purse_X6_readCoins : GoodIn wsX9_purse (wsV RX9 169 RX6 yX6_readCoins wsX6_readCoins) := goodIn_app (goodIn_of _ (by decide +kernel)) ggX9_purse_X6_readCoins
set_option maxRecDepth 20000 in
theorem ggX9_purse_X6_clear : GoodIn wsX9_purse wsX6_clear := goodIn_r _ [76, 31, 96, 97, 98, 99] (by decide +kernel) (by decide +kernel)
set_option maxRecDepth 20000 in
theorem gX9_purse_X6_clear : GoodIn wsX9_purse (wsV RX9 176 RX6 yX6_clear wsX6_clear) := goodIn_app (goodIn_of _ (by decide +kernel)) ggX9_purse_X6_clear
set_option maxRecDepth 20000 in
theorem ggX9_purse_X2_addAll : GoodIn wsX9_purse wsX2_addAll := goodIn_r _ [80, 63, 64, 65, 66, 67, 68, 81, 59, 60, 61, 62, 104, 105, 106, 107, 108, 109] (by decide +kernel) (by decide +kernel)
set_option maxRecDepth 20000 in
theorem gX9_purse_X2_addAll : GoodIn wsX9_purse (wsV RX9 179 RX2 yX2_addAll wsX2_addAll) := goodIn_app (goodIn_of _ (by decide +kernel)) ggX9_purse_X2_addAll
theorem dX9_purse_0 : decode cX9_purse 0 = .ok (.iload_n 1, 1) := by decide +kernel
theorem dX9_purse_1 : decode cX9_purse 1 = .ok (.invokestatic 87, 3) := by decide +kernel
theorem dX9_purse_4 : decode cX9_purse 4 = .ok (.ifCond .ne 5, 3) := by decide +kernel
theorem dX9_purse_7 : decode cX9_purse 7 = .ok (.iconst (-1), 1) := by decide +kernel
theorem dX9_purse_8 : decode cX9_purse 8 = .ok (.ireturn, 1) := by decide +kernel
theorem dX9_purse_9 : decode cX9_purse 9 = .ok (.aload_n 0, 1) := by decide +kernel
theorem dX9_purse_10 : decode cX9_purse 10 = .ok (.getfield 60, 3) := by decide +kernel
theorem dX9_purse_13 : decode cX9_purse 13 = .ok (.aload_n 0, 1) := by decide +kernel
theorem dX9_purse_14 : decode cX9_purse 14 = .ok (.getfield 69, 3) := by decide +kernel
theorem dX9_purse_17 : decode cX9_purse 17 = .ok (.iload_n 1, 1) := by decide +kernel
theorem dX9_purse_18 : decode cX9_purse 18 = .ok (.invokevirtual 169, 3) := by decide +kernel
theorem dX9_purse_21 : decode cX9_purse 21 = .ok (.aload_n 0, 1) := by decide +kernel
theorem dX9_purse_22 : decode cX9_purse 22 = .ok (.getfield 60, 3) := by decide +kernel
theorem dX9_purse_25 : decode cX9_purse 25 = .ok (.getfield 173, 3) := by decide +kernel
theorem dX9_purse_28 : decode cX9_purse 28 = .ok (.istore_n 2, 1) := by decide +kernel
theorem dX9_purse_29 : decode cX9_purse 29 = .ok (.aload_n 0, 1) := by decide +kernel
theorem dX9_purse_30 : decode cX9_purse 30 = .ok (.getfield 60, 3) := by decide +kernel
theorem dX9_purse_33 : decode cX9_purse 33 = .ok (.invokevirtual 176, 3) := by decide +kernel
theorem dX9_purse_36 : decode cX9_purse 36 = .ok (.iload_n 2, 1) := by decide +kernel
theorem dX9_purse_37 : decode cX9_purse 37 = .ok (.ifCond .lt 8, 3) := by decide +kernel
theorem dX9_purse_40 : decode cX9_purse 40 = .ok (.bipush (-20), 2) := by decide +kernel
theorem dX9_purse_42 : decode cX9_purse 42 = .ok (.iload_n 2, 1) := by decide +kernel
theorem dX9_purse_43 : decode cX9_purse 43 = .ok (.isub, 1) := by decide +kernel
theorem dX9_purse_44 : decode cX9_purse 44 = .ok (.ireturn, 1) := by decide +kernel
theorem dX9_purse_45 : decode cX9_purse 45 = .ok (.aload_n 0, 1) := by decide +kernel
theorem dX9_purse_46 : decode cX9_purse 46 = .ok (.getfield 10, 3) := by decide +kernel
theorem dX9_purse_49 : decode cX9_purse 49 = .ok (.getfield 98, 3) := by decide +kernel
theorem dX9_purse_52 : decode cX9_purse 52 = .ok (.getfield 101, 3) := by decide +kernel
theorem dX9_purse_55 : decode cX9_purse 55 = .ok (.aload_n 0, 1) := by decide +kernel
theorem dX9_purse_56 : decode cX9_purse 56 = .ok (.getfield 69, 3) := by decide +kernel
theorem dX9_purse_59 : decode cX9_purse 59 = .ok (.getfield 101, 3) := by decide +kernel
theorem dX9_purse_62 : decode cX9_purse 62 = .ok (.iadd, 1) := by decide +kernel
theorem dX9_purse_63 : decode cX9_purse 63 = .ok (.bipush 40, 2) := by decide +kernel
theorem dX9_purse_65 : decode cX9_purse 65 = .ok (.if_icmp .le 6, 3) := by decide +kernel
theorem dX9_purse_68 : decode cX9_purse 68 = .ok (.bipush (-3), 2) := by decide +kernel
theorem dX9_purse_70 : decode cX9_purse 70 = .ok (.ireturn, 1) := by decide +kernel
theorem dX9_purse_71 : decode cX9_purse 71 = .ok (.aload_n 0, 1) := by decide +kernel
theorem dX9_purse_72 : decode cX9_purse 72 = .ok (.iconst 1, 1) := by decide +kernel
theorem dX9_purse_73 : decode cX9_purse 73 = .ok (.putfield 26, 3) := by decide +kernel
theorem dX9_purse_76 : decode cX9_purse 76 = .ok (.aload_n 0, 1) := by decide +kernel
theorem dX9_purse_77 : decode cX9_purse 77 = .ok (.getfield 10, 3) := by decide +kernel
theorem dX9_purse_80 : decode cX9_purse 80 = .ok (.getfield 98, 3) := by decide +kernel
theorem dX9_purse_83 : decode cX9_purse 83 = .ok (.aload_n 0, 1) := by decide +kernel
theorem dX9_purse_84 : decode cX9_purse 84 = .ok (.getfield 69, 3) := by decide +kernel
theorem dX9_purse_87 : decode cX9_purse 87 = .ok (.invokevirtual 179, 3) := by decide +kernel
theorem dX9_purse_90 : decode cX9_purse 90 = .ok (.aload_n 0, 1) := by decide +kernel
theorem dX9_purse_91 : decode cX9_purse 91 = .ok (.getfield 69, 3) := by decide +kernel
theorem dX9_purse_94 : decode cX9_purse 94 = .ok (.getfield 101, 3) := by decide +kernel
theorem dX9_purse_97 : decode cX9_purse 97 = .ok (.ireturn, 1) := by decide +kernel
set_option maxRecDepth 20000 in
theorem ggX9_day_X6_readBills : GoodIn wsX9_day wsX6_readBills := goodIn_r _ [11, 12, 13, 14, 15, 16, 17, 10, 18, 19, 20, 21, 22, 23, 24, 25, 26, 27, 28, 29, 30, 31, 32, 33, 34, 35, 36, 37, 38, 39, 40, 41, 42, 43, 44, 45, 46, 47, 48, 49, 50, 51, 52, 53, 54, 55, 56, 57, 58, 59, 60, 61, 62, 63, 64, 65, 66, 67, 68, 69, 101, 102, 103, 104, 93, 94, 95, 96] (by decide +kernel) (by decide +kernel)
set_option maxRecDepth 20000 in
theorem gX9_day_X6_readBills : GoodIn wsX9_day (wsV RX9 183 RX6 yX6_readBills wsX6_readBills) := goodIn_app (goodIn_of _ (by decide +kernel)) ggX9_day_X6_readBills
set_option maxRecDepth 20000 in
theorem ggX9_day_X6_clear : GoodIn wsX9_day wsX6_clear := goodIn_r _ [73, 27, 93, 94, 95, 96] (by decide +kernel) (by decide +kernel)
set_option maxRecDepth 20000 in
theorem gX9_day_X6_clear : GoodIn wsX9_day (wsV RX9 176 RX6 yX6_clear wsX6_clear) := goodIn_app (goodIn_of _ (by decide +kernel)) ggX9_day_X6_clear
set_option maxRecDepth 20000 in
theorem ggX9_day_X0_copyFrom : GoodIn wsX9_day wsX0_copyFrom := goodIn_r _ [77, 62, 63, 64, 65, 78, 58, 59, 60, 61, 101, 102, 103, 104] (by decide +kernel) (by decide +kernel)
set_option maxRecDepth 20000 in
theorem gX9_day_X0_copyFrom : GoodIn wsX9_day (wsV RX9 190 RX0 yX0_copyFrom wsX0_copyFrom) := goodIn_app (goodIn_of _ (by decide +kernel)) ggX9_day_X0_copyFrom
theorem dX9_day_0 : decode cX9_day 0 = .ok (.aload_n 0, 1) := by decide +kernel
theorem dX9_day_1 : decode cX9_day 1 = .ok (.getfield 60, 3) := by decide +kernel
theorem dX9_day_4 : decode cX9_day 4 = .ok (.aload_n 0, 1) := by decide +kernel
theorem dX9_day_5 : decode cX9_day 5 = .ok (.getfield 76, 3) := by decide +kernel
theorem dX9_day_8 : decode cX9_day 8 = .ok (.invokevirtual 183, 3) := by decide +kernel
theorem dX9_day_11 : decode cX9_day 11 = .ok (.aload_n 0, 1) := by decide +kernel
theorem dX9_day_12 : decode cX9_day 12 = .ok (.getfield 60, 3) := by decide +kernel
theorem dX9_day_15 : decode cX9_day 15 = .ok (.getfield 173, 3) := by decide +kernel
theorem dX9_day_18 : decode cX9_day 18 = .ok (.istore_n 1, 1) := by decide +kernel
theorem dX9_day_19 : decode cX9_day 19 = .ok (.aload_n 0, 1) := by decide +kernel
theorem dX9_day_20 : decode cX9_day 20 = .ok (.getfield 60, 3) := by decide +kernel
theorem dX9_day_23 : decode cX9_day 23 = .ok (.invokevirtual 176, 3) := by decide +kernel
theorem dX9_day_26 : decode cX9_day 26 = .ok (.iload_n 1, 1) := by decide +kernel
theorem dX9_day_27 : decode cX9_day 27 = .ok (.ifCond .lt 8, 3) := by decide +kernel
theorem dX9_day_30 : decode cX9_day 30 = .ok (.bipush (-20), 2) := by decide +kernel
theorem dX9_day_32 : decode cX9_day 32 = .ok (.iload_n 1, 1) := by decide +kernel
theorem dX9_day_33 : decode cX9_day 33 = .ok (.isub, 1) := by decide +kernel
theorem dX9_day_34 : decode cX9_day 34 = .ok (.ireturn, 1) := by decide +kernel
theorem dX9_day_35 : decode cX9_day 35 = .ok (.aload_n 0, 1) := by decide +kernel
theorem dX9_day_36 : decode cX9_day 36 = .ok (.getfield 10, 3) := by decide +kernel
theorem dX9_day_39 : decode cX9_day 39 = .ok (.getfield 187, 3) := by decide +kernel
theorem dX9_day_42 : decode cX9_day 42 = .ok (.aload_n 0, 1) := by decide +kernel
theorem dX9_day_43 : decode cX9_day 43 = .ok (.getfield 76, 3) := by decide +kernel
theorem dX9_day_46 : decode cX9_day 46 = .ok (.invokevirtual 190, 3) := by decide +kernel
theorem dX9_day_49 : decode cX9_day 49 = .ok (.aload_n 0, 1) := by decide +kernel
theorem dX9_day_50 : decode cX9_day 50 = .ok (.getfield 10, 3) := by decide +kernel
theorem dX9_day_53 : decode cX9_day 53 = .ok (.getfield 187, 3) := by decide +kernel
theorem dX9_day_56 : decode cX9_day 56 = .ok (.getfield 193, 3) := by decide +kernel
theorem dX9_day_59 : decode cX9_day 59 = .ok (.ireturn, 1) := by decide +kernel
set_option maxRecDepth 20000 in
theorem ggX9_count_X2_worthOfAll : GoodIn wsX9_count wsX2_worthOfAll := goodIn_r _ [11, 12, 13, 32, 33, 34, 35, 36, 37] (by decide +kernel) (by decide +kernel)
set_option maxRecDepth 20000 in
theorem gX9_count_X2_worthOfAll : GoodIn wsX9_count (wsV RX9 194 RX2 yX2_worthOfAll wsX2_worthOfAll) := goodIn_app (goodIn_of _ (by decide +kernel)) ggX9_count_X2_worthOfAll
theorem dX9_count_0 : decode cX9_count 0 = .ok (.iload_n 1, 1) := by decide +kernel
theorem dX9_count_1 : decode cX9_count 1 = .ok (.tableswitch 75 0 3 #[31, 42, 53, 64], 31) := by decide +kernel
theorem dX9_count_32 : decode cX9_count 32 = .ok (.aload_n 0, 1) := by decide +kernel
theorem dX9_count_33 : decode cX9_count 33 = .ok (.getfield 10, 3) := by decide +kernel
theorem dX9_count_36 : decode cX9_count 36 = .ok (.getfield 98, 3) := by decide +kernel
theorem dX9_count_39 : decode cX9_count 39 = .ok (.getfield 101, 3) := by decide +kernel
theorem dX9_count_42 : decode cX9_count 42 = .ok (.ireturn, 1) := by decide +kernel
theorem dX9_count_43 : decode cX9_count 43 = .ok (.aload_n 0, 1) := by decide +kernel
theorem dX9_count_44 : decode cX9_count 44 = .ok (.getfield 10, 3) := by decide +kernel
theorem dX9_count_47 : decode cX9_count 47 = .ok (.getfield 98, 3) := by decide +kernel
theorem dX9_count_50 : decode cX9_count 50 = .ok (.invokevirtual 194, 3) := by decide +kernel
theorem dX9_count_53 : decode cX9_count 53 = .ok (.ireturn, 1) := by decide +kernel
theorem dX9_count_54 : decode cX9_count 54 = .ok (.aload_n 0, 1) := by decide +kernel
theorem dX9_count_55 : decode cX9_count 55 = .ok (.getfield 10, 3) := by decide +kernel
theorem dX9_count_58 : decode cX9_count 58 = .ok (.getfield 187, 3) := by decide +kernel
theorem dX9_count_61 : decode cX9_count 61 = .ok (.getfield 193, 3) := by decide +kernel
theorem dX9_count_64 : decode cX9_count 64 = .ok (.ireturn, 1) := by decide +kernel
theorem dX9_count_65 : decode cX9_count 65 = .ok (.aload_n 0, 1) := by decide +kernel
theorem dX9_count_66 : decode cX9_count 66 = .ok (.getfield 10, 3) := by decide +kernel
theorem dX9_count_69 : decode cX9_count 69 = .ok (.getfield 198, 3) := by decide +kernel
theorem dX9_count_72 : decode cX9_count 72 = .ok (.getfield 193, 3) := by decide +kernel
theorem dX9_count_75 : decode cX9_count 75 = .ok (.ireturn, 1) := by decide +kernel
theorem dX9_count_76 : decode cX9_count 76 = .ok (.iconst (-1), 1) := by decide +kernel
theorem dX9_count_77 : decode cX9_count 77 = .ok (.ireturn, 1) := by decide +kernel
set_option maxRecDepth 20000 in
theorem ggX9_bill_X9_isBill : GoodIn wsX9_bill wsX9_isBill := goodIn_r _ [8, 9, 10, 7, 11, 12, 13, 14, 15, 16, 17, 18, 19, 20] (by decide +kernel) (by decide +kernel)
set_option maxRecDepth 20000 in
theorem gX9_bill_X9_isBill : GoodIn wsX9_bill (va_wsS RX9 201 yX9_isBill wsX9_isBill) := goodIn_app (goodIn_of _ (by decide +kernel)) ggX9_bill_X9_isBill
set_option maxRecDepth 20000 in
theorem ggX9_bill_X9_layOut : GoodIn wsX9_bill wsX9_layOut := goodIn_r _ [24, 25, 2, 26, 1, 27, 28, 29, 30, 31, 32, 33, 34, 35, 36, 37, 38, 39, 40, 41, 42, 43, 44, 45, 46, 47, 48, 49, 50, 51, 52, 53, 54, 55, 56, 57, 58, 59, 60, 61, 62, 63, 64, 65, 66, 67, 68, 69, 70, 71, 72, 73, 74, 127, 128, 129, 130, 131, 132, 133, 134, 135, 136, 137, 138, 139, 140, 146, 147, 148, 149, 150, 151, 152, 153, 154, 155, 156, 157, 158, 159, 160, 161, 141, 142, 143, 144, 145] (by decide +kernel) (by decide +kernel)
set_option maxRecDepth 20000 in
theorem gX9_bill_X9_layOut : GoodIn wsX9_bill (wsV RX9 135 RX9 yX9_layOut wsX9_layOut) := goodIn_app (goodIn_of _ (by decide +kernel)) ggX9_bill_X9_layOut
set_option maxRecDepth 20000 in
theorem ggX9_bill_X1_meets : GoodIn wsX9_bill wsX1_meets := goodIn_r _ [78, 71, 79, 80, 81, 82, 83, 84, 85, 69, 86, 87, 88, 89, 90, 31, 91, 92, 93, 94, 95, 96, 97, 98, 99, 100, 101, 102, 103, 104, 105, 106, 107, 108, 109, 41, 110, 111, 112, 113, 114, 115, 141, 142, 143, 144, 145, 150, 151, 152, 153, 154, 155] (by decide +kernel) (by decide +kernel)
set_option maxRecDepth 20000 in
theorem gX9_bill_X1_meets : GoodIn wsX9_bill (wsV RX9 204 RX1 yX1_meets wsX1_meets) := goodIn_app (goodIn_of _ (by decide +kernel)) ggX9_bill_X1_meets
set_option maxRecDepth 20000 in
theorem ggX9_bill_X9_takeOver : GoodIn wsX9_bill wsX9_takeOver := goodIn_r _ [119, 2, 120, 26, 27, 121, 122, 1, 123, 124, 125, 69, 126, 71, 127, 128, 129, 130, 131, 132, 133, 134, 135, 136, 137, 138, 139, 140, 150, 151, 152, 153, 154, 155, 146, 147, 148, 149, 156, 157, 158, 159, 160, 161, 141, 142, 143, 144, 145] (by decide +kernel) (by decide +kernel)
set_option maxRecDepth 20000 in
theorem gX9_bill_X9_takeOver : GoodIn wsX9_bill (wsV RX9 208 RX9 yX9_takeOver wsX9_takeOver) := goodIn_app (goodIn_of _ (by decide +kernel)) ggX9_bill_X9_takeOver
theorem dX9_bill_0 : decode cX9_bill 0 = .ok (.iload_n 1, 1) := by decide +kernel
theorem dX9_bill_1 : decode cX9_bill 1 = .ok (.iload_n 2, 1) := by decide +kernel
theorem dX9_bill_2 : decode cX9_bill 2 = .ok (.iload_n 3, 1) := by decide +kernel
theorem dX9_bill_3 : decode cX9_bill 3 = .ok (.invokestatic 201, 3) := by decide +kernel
theorem dX9_bill_6 : decode cX9_bill 6 = .ok (.ifCond .ne 5, 3) := by decide +kernel
theorem dX9_bill_9 : decode cX9_bill 9 = .ok (.iconst (-1), 1) := by decide +kernel
theorem dX9_bill_10 : decode cX9_bill 10 = .ok (.ireturn, 1) := by decide +kernel
theorem dX9_bill_11 : decode cX9_bill 11 = .ok (.aload_n 0, 1) := by decide +kernel
theorem dX9_bill_12 : decode cX9_bill 12 = .ok (.invokevirtual 135, 3) := by decide +kernel
theorem dX9_bill_15 : decode cX9_bill 15 = .ok (.aload_n 0, 1) := by decide +kernel
theorem dX9_bill_16 : decode cX9_bill 16 = .ok (.getfield 36, 3) := by decide +kernel
theorem dX9_bill_19 : decode cX9_bill 19 = .ok (.aload_n 0, 1) := by decide +kernel
theorem dX9_bill_20 : decode cX9_bill 20 = .ok (.getfield 22, 3) := by decide +kernel
theorem dX9_bill_23 : decode cX9_bill 23 = .ok (.iload_n 1, 1) := by decide +kernel
theorem dX9_bill_24 : decode cX9_bill 24 = .ok (.iload_n 2, 1) := by decide +kernel
theorem dX9_bill_25 : decode cX9_bill 25 = .ok (.iload_n 3, 1) := by decide +kernel
theorem dX9_bill_26 : decode cX9_bill 26 = .ok (.invokevirtual 204, 3) := by decide +kernel
theorem dX9_bill_29 : decode cX9_bill 29 = .ok (.ifCond .ne 6, 3) := by decide +kernel
theorem dX9_bill_32 : decode cX9_bill 32 = .ok (.bipush (-2), 2) := by decide +kernel
theorem dX9_bill_34 : decode cX9_bill 34 = .ok (.ireturn, 1) := by decide +kernel
theorem dX9_bill_35 : decode cX9_bill 35 = .ok (.aload_n 0, 1) := by decide +kernel
theorem dX9_bill_36 : decode cX9_bill 36 = .ok (.invokevirtual 208, 3) := by decide +kernel
theorem dX9_bill_39 : decode cX9_bill 39 = .ok (.aload_n 0, 1) := by decide +kernel
theorem dX9_bill_40 : decode cX9_bill 40 = .ok (.getfield 36, 3) := by decide +kernel
theorem dX9_bill_43 : decode cX9_bill 43 = .ok (.getfield 211, 3) := by decide +kernel
theorem dX9_bill_46 : decode cX9_bill 46 = .ok (.aload_n 0, 1) := by decide +kernel
theorem dX9_bill_47 : decode cX9_bill 47 = .ok (.getfield 36, 3) := by decide +kernel
theorem dX9_bill_50 : decode cX9_bill 50 = .ok (.getfield 214, 3) := by decide +kernel
theorem dX9_bill_53 : decode cX9_bill 53 = .ok (.isub, 1) := by decide +kernel
theorem dX9_bill_54 : decode cX9_bill 54 = .ok (.ireturn, 1) := by decide +kernel
set_option maxRecDepth 20000 in
theorem ggX9_would_X9_isBill : GoodIn wsX9_would wsX9_isBill := goodIn_r _ [10, 11, 12, 9, 13, 14, 15, 16, 17, 18, 19, 20, 21, 22] (by decide +kernel) (by decide +kernel)
set_option maxRecDepth 20000 in
theorem gX9_would_X9_isBill : GoodIn wsX9_would (va_wsS RX9 201 yX9_isBill wsX9_isBill) := goodIn_app (goodIn_of _ (by decide +kernel)) ggX9_would_X9_isBill
set_option maxRecDepth 20000 in
theorem ggX9_would_X9_isWithin : GoodIn wsX9_would wsX9_isWithin := goodIn_r _ [16] (by decide +kernel) (by decide +kernel)
set_option maxRecDepth 20000 in
theorem gX9_would_X9_isWithin : GoodIn wsX9_would (va_wsS RX9 91 yX9_isWithin wsX9_isWithin) := goodIn_app (goodIn_of _ (by decide +kernel)) ggX9_would_X9_isWithin
set_option maxRecDepth 20000 in
theorem ggX9_would_X9_layOut : GoodIn wsX9_would wsX9_layOut := goodIn_r _ [26, 27, 2, 28, 1, 29, 30, 31, 32, 33, 34, 35, 36, 37, 38, 39, 40, 41, 42, 43, 44, 45, 46, 47, 48, 49, 50, 51, 52, 53, 54, 55, 56, 57, 58, 59, 60, 61, 62, 63, 64, 65, 66, 67, 68, 69, 70, 71, 72, 73, 74, 75, 76, 124, 125, 126, 127, 128, 129, 130, 131, 132, 133, 134, 135, 136, 137, 143, 144, 145, 146, 147, 148, 149, 150, 151, 152, 153, 154, 155, 156, 157, 158, 138, 139, 140, 141, 142] (by decide +kernel) (by decide +kernel)
set_option maxRecDepth 20000 in
theorem gX9_would_X9_layOut : GoodIn wsX9_would (wsV RX9 135 RX9 yX9_layOut wsX9_layOut) := goodIn_app (goodIn_of _ (by decide +kernel)) ggX9_would_X9_layOut
set_option maxRecDepth 20000 in
theorem ggX9_would_X1_meets : GoodIn wsX9_would wsX1_meets := goodIn_r _ [80, 73, 81, 82, 83, 84, 85, 86, 87, 71, 88, 89, 90, 91, 92, 33, 93, 94, 95, 96, 97, 98, 99, 100, 101, 102, 103, 104, 105, 106, 107, 108, 109, 110, 111, 43, 112, 113, 114, 115, 116, 117, 138, 139, 140, 141, 142, 147, 148, 149, 150, 151, 152] (by decide +kernel) (by decide +kernel)
set_option maxRecDepth 20000 in
theorem gX9_would_X1_meets : GoodIn wsX9_would (wsV RX9 204 RX1 yX1_meets wsX1_meets) := goodIn_app (goodIn_of _ (by decide +kernel)) ggX9_would_X1_meets
set_option maxRecDepth 20000 in
theorem ggX9_would_J13_bitCount_95d88 : GoodIn wsX9_would wsJ13_bitCount_95d88 := goodIn_r _ [120, 121, 122, 123] (by decide +kernel) (by decide +kernel)
set_option maxRecDepth 20000 in
theorem gX9_would_J13_bitCount_95d88 : GoodIn wsX9_would (va_wsS RX9 142 yJ13_bitCount_95d88 wsJ13_bitCount_95d88) := goodIn_app (goodIn_of _ (by decide +kernel)) ggX9_would_J13_bitCount_95d88
theorem dX9_would_0 : decode cX9_would 0 = .ok (.iload_n 1, 1) := by decide +kernel
theorem dX9_would_1 : decode cX9_would 1 = .ok (.iload_n 2, 1) := by decide +kernel
theorem dX9_would_2 : decode cX9_would 2 = .ok (.iload_n 3, 1) := by decide +kernel
theorem dX9_would_3 : decode cX9_would 3 = .ok (.invokestatic 201, 3) := by decide +kernel
theorem dX9_would_6 : decode cX9_would 6 = .ok (.ifCond .eq 13, 3) := by decide +kernel
theorem dX9_would_9 : decode cX9_would 9 = .ok (.iload 4, 2) := by decide +kernel
theorem dX9_would_11 : decode cX9_would 11 = .ok (.iconst 0, 1) := by decide +kernel
theorem dX9_would_12 : decode cX9_would 12 = .ok (.iconst 3, 1) := by decide +kernel
theorem dX9_would_13 : decode cX9_would 13 = .ok (.invokestatic 91, 3) := by decide +kernel
theorem dX9_would_16 : decode cX9_would 16 = .ok (.ifCond .ne 5, 3) := by decide +kernel
theorem dX9_would_19 : decode cX9_would 19 = .ok (.iconst (-1), 1) := by decide +kernel
theorem dX9_would_20 : decode cX9_would 20 = .ok (.ireturn, 1) := by decide +kernel
theorem dX9_would_21 : decode cX9_would 21 = .ok (.aload_n 0, 1) := by decide +kernel
theorem dX9_would_22 : decode cX9_would 22 = .ok (.invokevirtual 135, 3) := by decide +kernel
theorem dX9_would_25 : decode cX9_would 25 = .ok (.aload_n 0, 1) := by decide +kernel
theorem dX9_would_26 : decode cX9_would 26 = .ok (.getfield 36, 3) := by decide +kernel
theorem dX9_would_29 : decode cX9_would 29 = .ok (.aload_n 0, 1) := by decide +kernel
theorem dX9_would_30 : decode cX9_would 30 = .ok (.getfield 22, 3) := by decide +kernel
theorem dX9_would_33 : decode cX9_would 33 = .ok (.iload_n 1, 1) := by decide +kernel
theorem dX9_would_34 : decode cX9_would 34 = .ok (.iload_n 2, 1) := by decide +kernel
theorem dX9_would_35 : decode cX9_would 35 = .ok (.iload_n 3, 1) := by decide +kernel
theorem dX9_would_36 : decode cX9_would 36 = .ok (.invokevirtual 204, 3) := by decide +kernel
theorem dX9_would_39 : decode cX9_would 39 = .ok (.ifCond .ne 6, 3) := by decide +kernel
theorem dX9_would_42 : decode cX9_would 42 = .ok (.bipush (-2), 2) := by decide +kernel
theorem dX9_would_44 : decode cX9_would 44 = .ok (.ireturn, 1) := by decide +kernel
theorem dX9_would_45 : decode cX9_would 45 = .ok (.iload 4, 2) := by decide +kernel
theorem dX9_would_47 : decode cX9_would 47 = .ok (.tableswitch 57 0 2 #[25, 36, 46], 25) := by decide +kernel
theorem dX9_would_72 : decode cX9_would 72 = .ok (.aload_n 0, 1) := by decide +kernel
theorem dX9_would_73 : decode cX9_would 73 = .ok (.getfield 36, 3) := by decide +kernel
theorem dX9_would_76 : decode cX9_would 76 = .ok (.getfield 217, 3) := by decide +kernel
theorem dX9_would_79 : decode cX9_would 79 = .ok (.invokestatic 142, 3) := by decide +kernel
theorem dX9_would_82 : decode cX9_would 82 = .ok (.ireturn, 1) := by decide +kernel
theorem dX9_would_83 : decode cX9_would 83 = .ok (.iload_n 3, 1) := by decide +kernel
theorem dX9_would_84 : decode cX9_would 84 = .ok (.aload_n 0, 1) := by decide +kernel
theorem dX9_would_85 : decode cX9_would 85 = .ok (.getfield 36, 3) := by decide +kernel
theorem dX9_would_88 : decode cX9_would 88 = .ok (.getfield 211, 3) := by decide +kernel
theorem dX9_would_91 : decode cX9_would 91 = .ok (.iadd, 1) := by decide +kernel
theorem dX9_would_92 : decode cX9_would 92 = .ok (.ireturn, 1) := by decide +kernel
theorem dX9_would_93 : decode cX9_would 93 = .ok (.aload_n 0, 1) := by decide +kernel
theorem dX9_would_94 : decode cX9_would 94 = .ok (.getfield 36, 3) := by decide +kernel
theorem dX9_would_97 : decode cX9_would 97 = .ok (.getfield 221, 3) := by decide +kernel
theorem dX9_would_100 : decode cX9_would 100 = .ok (.invokestatic 142, 3) := by decide +kernel
theorem dX9_would_103 : decode cX9_would 103 = .ok (.ireturn, 1) := by decide +kernel
theorem dX9_would_104 : decode cX9_would 104 = .ok (.aload_n 0, 1) := by decide +kernel
theorem dX9_would_105 : decode cX9_would 105 = .ok (.getfield 36, 3) := by decide +kernel
theorem dX9_would_108 : decode cX9_would 108 = .ok (.getfield 214, 3) := by decide +kernel
theorem dX9_would_111 : decode cX9_would 111 = .ok (.ireturn, 1) := by decide +kernel
set_option maxRecDepth 20000 in
theorem ggX9_even_X9_isPurse : GoodIn wsX9_even wsX9_isPurse := goodIn_r _ [8, 9, 10, 7, 11] (by decide +kernel) (by decide +kernel)
set_option maxRecDepth 20000 in
theorem gX9_even_X9_isPurse : GoodIn wsX9_even (va_wsS RX9 224 yX9_isPurse wsX9_isPurse) := goodIn_app (goodIn_of _ (by decide +kernel)) ggX9_even_X9_isPurse
set_option maxRecDepth 20000 in
theorem ggX9_even_X9_layOut : GoodIn wsX9_even wsX9_layOut := goodIn_r _ [15, 16, 3, 17, 1, 18, 19, 20, 21, 22, 23, 24, 25, 26, 27, 28, 29, 30, 31, 32, 33, 34, 35, 36, 37, 38, 39, 40, 41, 42, 43, 44, 45, 46, 47, 48, 49, 50, 51, 52, 53, 54, 55, 56, 57, 58, 59, 60, 61, 62, 63, 64, 65, 79, 80, 81, 82, 83, 84, 85, 86, 87, 88, 89, 90, 91, 92, 104, 105, 106, 107, 98, 99, 100, 101, 102, 103, 108, 109, 110, 111, 112, 113, 93, 94, 95, 96, 97] (by decide +kernel) (by decide +kernel)
set_option maxRecDepth 20000 in
theorem gX9_even_X9_layOut : GoodIn wsX9_even (wsV RX9 135 RX9 yX9_layOut wsX9_layOut) := goodIn_app (goodIn_of _ (by decide +kernel)) ggX9_even_X9_layOut
set_option maxRecDepth 20000 in
theorem ggX9_even_X4_nextPaid : GoodIn wsX9_even wsX4_nextPaid := goodIn_r _ [69, 70, 71, 72, 73, 74, 75, 76, 77, 78] (by decide +kernel) (by decide +kernel)
set_option maxRecDepth 20000 in
theorem gX9_even_X4_nextPaid : GoodIn wsX9_even (wsV RX9 154 RX4 yX4_nextPaid wsX4_nextPaid) := goodIn_app (goodIn_of _ (by decide +kernel)) ggX9_even_X4_nextPaid
theorem dX9_even_0 : decode cX9_even 0 = .ok (.iload_n 1, 1) := by decide +kernel
theorem dX9_even_1 : decode cX9_even 1 = .ok (.invokestatic 224, 3) := by decide +kernel
theorem dX9_even_4 : decode cX9_even 4 = .ok (.ifCond .eq 8, 3) := by decide +kernel
theorem dX9_even_7 : decode cX9_even 7 = .ok (.iload_n 2, 1) := by decide +kernel
theorem dX9_even_8 : decode cX9_even 8 = .ok (.iconst (-1), 1) := by decide +kernel
theorem dX9_even_9 : decode cX9_even 9 = .ok (.if_icmp .ge 5, 3) := by decide +kernel
theorem dX9_even_12 : decode cX9_even 12 = .ok (.iconst (-1), 1) := by decide +kernel
theorem dX9_even_13 : decode cX9_even 13 = .ok (.ireturn, 1) := by decide +kernel
theorem dX9_even_14 : decode cX9_even 14 = .ok (.aload_n 0, 1) := by decide +kernel
theorem dX9_even_15 : decode cX9_even 15 = .ok (.invokevirtual 135, 3) := by decide +kernel
theorem dX9_even_18 : decode cX9_even 18 = .ok (.aload_n 0, 1) := by decide +kernel
theorem dX9_even_19 : decode cX9_even 19 = .ok (.getfield 36, 3) := by decide +kernel
theorem dX9_even_22 : decode cX9_even 22 = .ok (.getfield 138, 3) := by decide +kernel
theorem dX9_even_25 : decode cX9_even 25 = .ok (.iload_n 1, 1) := by decide +kernel
theorem dX9_even_26 : decode cX9_even 26 = .ok (.laload, 1) := by decide +kernel
theorem dX9_even_27 : decode cX9_even 27 = .ok (.lstore_n 3, 1) := by decide +kernel
theorem dX9_even_28 : decode cX9_even 28 = .ok (.iconst 0, 1) := by decide +kernel
theorem dX9_even_29 : decode cX9_even 29 = .ok (.istore 5, 2) := by decide +kernel
theorem dX9_even_31 : decode cX9_even 31 = .ok (.iconst 0, 1) := by decide +kernel
theorem dX9_even_32 : decode cX9_even 32 = .ok (.istore 6, 2) := by decide +kernel
theorem dX9_even_34 : decode cX9_even 34 = .ok (.iconst 0, 1) := by decide +kernel
theorem dX9_even_35 : decode cX9_even 35 = .ok (.istore 7, 2) := by decide +kernel
theorem dX9_even_37 : decode cX9_even 37 = .ok (.iload 7, 2) := by decide +kernel
theorem dX9_even_39 : decode cX9_even 39 = .ok (.bipush 40, 2) := by decide +kernel
theorem dX9_even_41 : decode cX9_even 41 = .ok (.if_icmp .ge 70, 3) := by decide +kernel
theorem dX9_even_44 : decode cX9_even 44 = .ok (.lload_n 3, 1) := by decide +kernel
theorem dX9_even_45 : decode cX9_even 45 = .ok (.lconst 0, 1) := by decide +kernel
theorem dX9_even_46 : decode cX9_even 46 = .ok (.lcmp, 1) := by decide +kernel
theorem dX9_even_47 : decode cX9_even 47 = .ok (.ifCond .eq 64, 3) := by decide +kernel
theorem dX9_even_50 : decode cX9_even 50 = .ok (.aload_n 0, 1) := by decide +kernel
theorem dX9_even_51 : decode cX9_even 51 = .ok (.getfield 22, 3) := by decide +kernel
theorem dX9_even_54 : decode cX9_even 54 = .ok (.lload_n 3, 1) := by decide +kernel
theorem dX9_even_55 : decode cX9_even 55 = .ok (.invokevirtual 154, 3) := by decide +kernel
theorem dX9_even_58 : decode cX9_even 58 = .ok (.istore 8, 2) := by decide +kernel
theorem dX9_even_60 : decode cX9_even 60 = .ok (.lload_n 3, 1) := by decide +kernel
theorem dX9_even_61 : decode cX9_even 61 = .ok (.lconst 1, 1) := by decide +kernel
theorem dX9_even_62 : decode cX9_even 62 = .ok (.iload 8, 2) := by decide +kernel
theorem dX9_even_64 : decode cX9_even 64 = .ok (.lshl, 1) := by decide +kernel
theorem dX9_even_65 : decode cX9_even 65 = .ok (.lxor, 1) := by decide +kernel
theorem dX9_even_66 : decode cX9_even 66 = .ok (.lstore_n 3, 1) := by decide +kernel
theorem dX9_even_67 : decode cX9_even 67 = .ok (.iload 5, 2) := by decide +kernel
theorem dX9_even_69 : decode cX9_even 69 = .ok (.aload_n 0, 1) := by decide +kernel
theorem dX9_even_70 : decode cX9_even 70 = .ok (.getfield 22, 3) := by decide +kernel
theorem dX9_even_73 : decode cX9_even 73 = .ok (.getfield 227, 3) := by decide +kernel
theorem dX9_even_76 : decode cX9_even 76 = .ok (.iload 8, 2) := by decide +kernel
theorem dX9_even_78 : decode cX9_even 78 = .ok (.iaload, 1) := by decide +kernel
theorem dX9_even_79 : decode cX9_even 79 = .ok (.iadd, 1) := by decide +kernel
theorem dX9_even_80 : decode cX9_even 80 = .ok (.istore 5, 2) := by decide +kernel
theorem dX9_even_82 : decode cX9_even 82 = .ok (.iload 5, 2) := by decide +kernel
theorem dX9_even_84 : decode cX9_even 84 = .ok (.sipush 999, 3) := by decide +kernel
theorem dX9_even_87 : decode cX9_even 87 = .ok (.if_icmp .le 6, 3) := by decide +kernel
theorem dX9_even_90 : decode cX9_even 90 = .ok (.goto 21, 3) := by decide +kernel
theorem dX9_even_93 : decode cX9_even 93 = .ok (.iload 6, 2) := by decide +kernel
theorem dX9_even_95 : decode cX9_even 95 = .ok (.iload_n 2, 1) := by decide +kernel
theorem dX9_even_96 : decode cX9_even 96 = .ok (.if_icmp .ne 6, 3) := by decide +kernel
theorem dX9_even_99 : decode cX9_even 99 = .ok (.iload 5, 2) := by decide +kernel
theorem dX9_even_101 : decode cX9_even 101 = .ok (.ireturn, 1) := by decide +kernel
theorem dX9_even_102 : decode cX9_even 102 = .ok (.iinc 6 1, 3) := by decide +kernel
theorem dX9_even_105 : decode cX9_even 105 = .ok (.iinc 7 1, 3) := by decide +kernel
theorem dX9_even_108 : decode cX9_even 108 = .ok (.goto (-71), 3) := by decide +kernel
theorem dX9_even_111 : decode cX9_even 111 = .ok (.iload_n 2, 1) := by decide +kernel
theorem dX9_even_112 : decode cX9_even 112 = .ok (.iconst (-1), 1) := by decide +kernel
theorem dX9_even_113 : decode cX9_even 113 = .ok (.if_icmp .ne 8, 3) := by decide +kernel
theorem dX9_even_116 : decode cX9_even 116 = .ok (.iload 6, 2) := by decide +kernel
theorem dX9_even_118 : decode cX9_even 118 = .ok (.goto 5, 3) := by decide +kernel
theorem dX9_even_121 : decode cX9_even 121 = .ok (.bipush (-4), 2) := by decide +kernel
theorem dX9_even_123 : decode cX9_even 123 = .ok (.ireturn, 1) := by decide +kernel
set_option maxRecDepth 20000 in
theorem ggX9_least_X9_isBill : GoodIn wsX9_least wsX9_isBill := goodIn_r _ [7, 8, 9, 6, 10, 11, 12, 13, 14, 15, 16, 17, 18, 19] (by decide +kernel) (by decide +kernel)
set_option maxRecDepth 20000 in
theorem gX9_least_X9_isBill : GoodIn wsX9_least (va_wsS RX9 201 yX9_isBill wsX9_isBill) := goodIn_app (goodIn_of _ (by decide +kernel)) ggX9_least_X9_isBill
set_option maxRecDepth 20000 in
theorem ggX9_least_X9_isShop : GoodIn wsX9_least wsX9_isShop := goodIn_r _ [16, 11, 12, 6, 13] (by decide +kernel) (by decide +kernel)
set_option maxRecDepth 20000 in
theorem gX9_least_X9_isShop : GoodIn wsX9_least (va_wsS RX9 230 yX9_isShop wsX9_isShop) := goodIn_app (goodIn_of _ (by decide +kernel)) ggX9_least_X9_isShop
set_option maxRecDepth 20000 in
theorem ggX9_least_X9_layOut : GoodIn wsX9_least wsX9_layOut := goodIn_r _ [23, 24, 3, 25, 2, 26, 27, 28, 29, 30, 31, 32, 33, 34, 35, 36, 37, 38, 39, 40, 41, 42, 43, 44, 45, 46, 47, 48, 49, 50, 51, 52, 53, 54, 55, 56, 57, 58, 59, 60, 61, 62, 63, 64, 65, 66, 67, 68, 69, 70, 71, 72, 73, 124, 125, 126, 127, 128, 129, 130, 131, 132, 133, 134, 135, 136, 137, 138, 139, 140, 141, 142, 143, 144, 145, 146, 147, 148, 149, 150, 151, 152, 153, 154, 155, 156, 157, 158] (by decide +kernel) (by decide +kernel)
set_option maxRecDepth 20000 in
theorem gX9_least_X9_layOut : GoodIn wsX9_least (wsV RX9 135 RX9 yX9_layOut wsX9_layOut) := goodIn_app (goodIn_of _ (by decide +kernel)) ggX9_least_X9_layOut
set_option maxRecDepth 20000 in
theorem ggX9_least_X1_copyFrom : GoodIn wsX9_least wsX1_copyFrom := goodIn_r _ [77, 70, 154, 155, 156, 157, 158] (by decide +kernel) (by decide +kernel)
set_option maxRecDepth 20000 in
theorem gX9_least_X1_copyFrom : GoodIn wsX9_least (wsV RX9 233 RX1 yX1_copyFrom wsX1_copyFrom) := goodIn_app (goodIn_of _ (by decide +kernel)) ggX9_least_X1_copyFrom
set_option maxRecDepth 20000 in
theorem ggX9_least_X1_meetsEvenly : GoodIn wsX9_least wsX1_meetsEvenly := goodIn_r _ [81, 82, 83, 84, 85, 68, 86, 70, 87, 88, 89, 90, 91, 92, 93, 94, 95, 96, 97, 30, 98, 99, 100, 101, 102, 103, 104, 105, 106, 107, 108, 109, 110, 111, 112, 113, 114, 115, 116, 40, 117, 118, 119, 120, 121, 122, 154, 155, 156, 157, 158, 142, 143, 144, 145, 146, 147] (by decide +kernel) (by decide +kernel)
set_option maxRecDepth 20000 in
theorem gX9_least_X1_meetsEvenly : GoodIn wsX9_least (wsV RX9 236 RX1 yX1_meetsEvenly wsX1_meetsEvenly) := goodIn_app (goodIn_of _ (by decide +kernel)) ggX9_least_X1_meetsEvenly
set_option maxRecDepth 20000 in
theorem ggX9_least_X1_meets : GoodIn wsX9_least wsX1_meets := goodIn_r _ [86, 70, 82, 87, 88, 89, 90, 91, 92, 68, 93, 94, 95, 96, 97, 30, 98, 99, 100, 101, 102, 103, 104, 105, 106, 107, 108, 109, 110, 111, 112, 113, 114, 115, 116, 40, 117, 118, 119, 120, 121, 122, 154, 155, 156, 157, 158, 142, 143, 144, 145, 146, 147] (by decide +kernel) (by decide +kernel)
set_option maxRecDepth 20000 in
theorem gX9_least_X1_meets : GoodIn wsX9_least (wsV RX9 204 RX1 yX1_meets wsX1_meets) := goodIn_app (goodIn_of _ (by decide +kernel)) ggX9_least_X1_meets
theorem dX9_least_0 : decode cX9_least 0 = .ok (.iload_n 1, 1) := by decide +kernel
theorem dX9_least_1 : decode cX9_least 1 = .ok (.iload_n 3, 1) := by decide +kernel
theorem dX9_least_2 : decode cX9_least 2 = .ok (.iload 4, 2) := by decide +kernel
theorem dX9_least_4 : decode cX9_least 4 = .ok (.invokestatic 201, 3) := by decide +kernel
theorem dX9_least_7 : decode cX9_least 7 = .ok (.ifCond .eq 10, 3) := by decide +kernel
theorem dX9_least_10 : decode cX9_least 10 = .ok (.iload_n 2, 1) := by decide +kernel
theorem dX9_least_11 : decode cX9_least 11 = .ok (.invokestatic 230, 3) := by decide +kernel
theorem dX9_least_14 : decode cX9_least 14 = .ok (.ifCond .ne 5, 3) := by decide +kernel
theorem dX9_least_17 : decode cX9_least 17 = .ok (.iconst (-1), 1) := by decide +kernel
theorem dX9_least_18 : decode cX9_least 18 = .ok (.ireturn, 1) := by decide +kernel
theorem dX9_least_19 : decode cX9_least 19 = .ok (.aload_n 0, 1) := by decide +kernel
theorem dX9_least_20 : decode cX9_least 20 = .ok (.invokevirtual 135, 3) := by decide +kernel
theorem dX9_least_23 : decode cX9_least 23 = .ok (.aload_n 0, 1) := by decide +kernel
theorem dX9_least_24 : decode cX9_least 24 = .ok (.getfield 40, 3) := by decide +kernel
theorem dX9_least_27 : decode cX9_least 27 = .ok (.aload_n 0, 1) := by decide +kernel
theorem dX9_least_28 : decode cX9_least 28 = .ok (.getfield 36, 3) := by decide +kernel
theorem dX9_least_31 : decode cX9_least 31 = .ok (.invokevirtual 233, 3) := by decide +kernel
theorem dX9_least_34 : decode cX9_least 34 = .ok (.aload_n 0, 1) := by decide +kernel
theorem dX9_least_35 : decode cX9_least 35 = .ok (.getfield 40, 3) := by decide +kernel
theorem dX9_least_38 : decode cX9_least 38 = .ok (.aload_n 0, 1) := by decide +kernel
theorem dX9_least_39 : decode cX9_least 39 = .ok (.getfield 22, 3) := by decide +kernel
theorem dX9_least_42 : decode cX9_least 42 = .ok (.iload_n 1, 1) := by decide +kernel
theorem dX9_least_43 : decode cX9_least 43 = .ok (.iload_n 3, 1) := by decide +kernel
theorem dX9_least_44 : decode cX9_least 44 = .ok (.iload 4, 2) := by decide +kernel
theorem dX9_least_46 : decode cX9_least 46 = .ok (.invokevirtual 236, 3) := by decide +kernel
theorem dX9_least_49 : decode cX9_least 49 = .ok (.ifCond .eq 5, 3) := by decide +kernel
theorem dX9_least_52 : decode cX9_least 52 = .ok (.iconst 0, 1) := by decide +kernel
theorem dX9_least_53 : decode cX9_least 53 = .ok (.ireturn, 1) := by decide +kernel
theorem dX9_least_54 : decode cX9_least 54 = .ok (.iconst 1, 1) := by decide +kernel
theorem dX9_least_55 : decode cX9_least 55 = .ok (.istore 5, 2) := by decide +kernel
theorem dX9_least_57 : decode cX9_least 57 = .ok (.iload 5, 2) := by decide +kernel
theorem dX9_least_59 : decode cX9_least 59 = .ok (.bipush 99, 2) := by decide +kernel
theorem dX9_least_61 : decode cX9_least 61 = .ok (.if_icmp .gt 59, 3) := by decide +kernel
theorem dX9_least_64 : decode cX9_least 64 = .ok (.aload_n 0, 1) := by decide +kernel
theorem dX9_least_65 : decode cX9_least 65 = .ok (.getfield 40, 3) := by decide +kernel
theorem dX9_least_68 : decode cX9_least 68 = .ok (.aload_n 0, 1) := by decide +kernel
theorem dX9_least_69 : decode cX9_least 69 = .ok (.getfield 36, 3) := by decide +kernel
theorem dX9_least_72 : decode cX9_least 72 = .ok (.invokevirtual 233, 3) := by decide +kernel
theorem dX9_least_75 : decode cX9_least 75 = .ok (.aload_n 0, 1) := by decide +kernel
theorem dX9_least_76 : decode cX9_least 76 = .ok (.getfield 40, 3) := by decide +kernel
theorem dX9_least_79 : decode cX9_least 79 = .ok (.aload_n 0, 1) := by decide +kernel
theorem dX9_least_80 : decode cX9_least 80 = .ok (.getfield 22, 3) := by decide +kernel
theorem dX9_least_83 : decode cX9_least 83 = .ok (.iload_n 1, 1) := by decide +kernel
theorem dX9_least_84 : decode cX9_least 84 = .ok (.iload_n 2, 1) := by decide +kernel
theorem dX9_least_85 : decode cX9_least 85 = .ok (.iload 5, 2) := by decide +kernel
theorem dX9_least_87 : decode cX9_least 87 = .ok (.invokevirtual 204, 3) := by decide +kernel
theorem dX9_least_90 : decode cX9_least 90 = .ok (.ifCond .eq 24, 3) := by decide +kernel
theorem dX9_least_93 : decode cX9_least 93 = .ok (.aload_n 0, 1) := by decide +kernel
theorem dX9_least_94 : decode cX9_least 94 = .ok (.getfield 40, 3) := by decide +kernel
theorem dX9_least_97 : decode cX9_least 97 = .ok (.aload_n 0, 1) := by decide +kernel
theorem dX9_least_98 : decode cX9_least 98 = .ok (.getfield 22, 3) := by decide +kernel
theorem dX9_least_101 : decode cX9_least 101 = .ok (.iload_n 1, 1) := by decide +kernel
theorem dX9_least_102 : decode cX9_least 102 = .ok (.iload_n 3, 1) := by decide +kernel
theorem dX9_least_103 : decode cX9_least 103 = .ok (.iload 4, 2) := by decide +kernel
theorem dX9_least_105 : decode cX9_least 105 = .ok (.invokevirtual 236, 3) := by decide +kernel
theorem dX9_least_108 : decode cX9_least 108 = .ok (.ifCond .eq 6, 3) := by decide +kernel
theorem dX9_least_111 : decode cX9_least 111 = .ok (.iload 5, 2) := by decide +kernel
theorem dX9_least_113 : decode cX9_least 113 = .ok (.ireturn, 1) := by decide +kernel
theorem dX9_least_114 : decode cX9_least 114 = .ok (.iinc 5 1, 3) := by decide +kernel
theorem dX9_least_117 : decode cX9_least 117 = .ok (.goto (-60), 3) := by decide +kernel
theorem dX9_least_120 : decode cX9_least 120 = .ok (.bipush (-4), 2) := by decide +kernel
theorem dX9_least_122 : decode cX9_least 122 = .ok (.ireturn, 1) := by decide +kernel
set_option maxRecDepth 20000 in
theorem ggX9_errand_X9_isShop : GoodIn wsX9_errand wsX9_isShop := goodIn_r _ [7, 8, 9, 6, 10] (by decide +kernel) (by decide +kernel)
set_option maxRecDepth 20000 in
theorem gX9_errand_X9_isShop : GoodIn wsX9_errand (va_wsS RX9 230 yX9_isShop wsX9_isShop) := goodIn_app (goodIn_of _ (by decide +kernel)) ggX9_errand_X9_isShop
set_option maxRecDepth 20000 in
theorem ggX9_errand_X9_isSum : GoodIn wsX9_errand wsX9_isSum := goodIn_r _ [13, 8, 9, 6, 10] (by decide +kernel) (by decide +kernel)
set_option maxRecDepth 20000 in
theorem gX9_errand_X9_isSum : GoodIn wsX9_errand (va_wsS RX9 239 yX9_isSum wsX9_isSum) := goodIn_app (goodIn_of _ (by decide +kernel)) ggX9_errand_X9_isSum
set_option maxRecDepth 20000 in
theorem ggX9_errand_X0_add : GoodIn wsX9_errand wsX0_add := goodIn_r _ [18, 19, 20, 21, 22, 41, 42, 43, 44] (by decide +kernel) (by decide +kernel)
set_option maxRecDepth 20000 in
theorem gX9_errand_X0_add : GoodIn wsX9_errand (wsV RX9 242 RX0 yX0_add wsX0_add) := goodIn_app (goodIn_of _ (by decide +kernel)) ggX9_errand_X0_add
theorem dX9_errand_0 : decode cX9_errand 0 = .ok (.iload_n 1, 1) := by decide +kernel
theorem dX9_errand_1 : decode cX9_errand 1 = .ok (.invokestatic 230, 3) := by decide +kernel
theorem dX9_errand_4 : decode cX9_errand 4 = .ok (.ifCond .eq 10, 3) := by decide +kernel
theorem dX9_errand_7 : decode cX9_errand 7 = .ok (.iload_n 2, 1) := by decide +kernel
theorem dX9_errand_8 : decode cX9_errand 8 = .ok (.invokestatic 239, 3) := by decide +kernel
theorem dX9_errand_11 : decode cX9_errand 11 = .ok (.ifCond .ne 5, 3) := by decide +kernel
theorem dX9_errand_14 : decode cX9_errand 14 = .ok (.iconst (-1), 1) := by decide +kernel
theorem dX9_errand_15 : decode cX9_errand 15 = .ok (.ireturn, 1) := by decide +kernel
theorem dX9_errand_16 : decode cX9_errand 16 = .ok (.aload_n 0, 1) := by decide +kernel
theorem dX9_errand_17 : decode cX9_errand 17 = .ok (.getfield 10, 3) := by decide +kernel
theorem dX9_errand_20 : decode cX9_errand 20 = .ok (.getfield 198, 3) := by decide +kernel
theorem dX9_errand_23 : decode cX9_errand 23 = .ok (.getfield 193, 3) := by decide +kernel
theorem dX9_errand_26 : decode cX9_errand 26 = .ok (.bipush 6, 2) := by decide +kernel
theorem dX9_errand_28 : decode cX9_errand 28 = .ok (.if_icmp .lt 6, 3) := by decide +kernel
theorem dX9_errand_31 : decode cX9_errand 31 = .ok (.bipush (-3), 2) := by decide +kernel
theorem dX9_errand_33 : decode cX9_errand 33 = .ok (.ireturn, 1) := by decide +kernel
theorem dX9_errand_34 : decode cX9_errand 34 = .ok (.aload_n 0, 1) := by decide +kernel
theorem dX9_errand_35 : decode cX9_errand 35 = .ok (.getfield 10, 3) := by decide +kernel
theorem dX9_errand_38 : decode cX9_errand 38 = .ok (.getfield 198, 3) := by decide +kernel
theorem dX9_errand_41 : decode cX9_errand 41 = .ok (.iconst 0, 1) := by decide +kernel
theorem dX9_errand_42 : decode cX9_errand 42 = .ok (.iload_n 1, 1) := by decide +kernel
theorem dX9_errand_43 : decode cX9_errand 43 = .ok (.iload_n 2, 1) := by decide +kernel
theorem dX9_errand_44 : decode cX9_errand 44 = .ok (.invokevirtual 242, 3) := by decide +kernel
theorem dX9_errand_47 : decode cX9_errand 47 = .ok (.aload_n 0, 1) := by decide +kernel
theorem dX9_errand_48 : decode cX9_errand 48 = .ok (.getfield 10, 3) := by decide +kernel
theorem dX9_errand_51 : decode cX9_errand 51 = .ok (.getfield 198, 3) := by decide +kernel
theorem dX9_errand_54 : decode cX9_errand 54 = .ok (.getfield 193, 3) := by decide +kernel
theorem dX9_errand_57 : decode cX9_errand 57 = .ok (.iconst 1, 1) := by decide +kernel
theorem dX9_errand_58 : decode cX9_errand 58 = .ok (.isub, 1) := by decide +kernel
theorem dX9_errand_59 : decode cX9_errand 59 = .ok (.ireturn, 1) := by decide +kernel
theorem dX9_home_0 : decode cX9_home 0 = .ok (.aload_n 0, 1) := by decide +kernel
theorem dX9_home_1 : decode cX9_home 1 = .ok (.getfield 10, 3) := by decide +kernel
theorem dX9_home_4 : decode cX9_home 4 = .ok (.getfield 198, 3) := by decide +kernel
theorem dX9_home_7 : decode cX9_home 7 = .ok (.getfield 193, 3) := by decide +kernel
theorem dX9_home_10 : decode cX9_home 10 = .ok (.istore_n 1, 1) := by decide +kernel
theorem dX9_home_11 : decode cX9_home 11 = .ok (.aload_n 0, 1) := by decide +kernel
theorem dX9_home_12 : decode cX9_home 12 = .ok (.getfield 10, 3) := by decide +kernel
theorem dX9_home_15 : decode cX9_home 15 = .ok (.getfield 198, 3) := by decide +kernel
theorem dX9_home_18 : decode cX9_home 18 = .ok (.iconst 0, 1) := by decide +kernel
theorem dX9_home_19 : decode cX9_home 19 = .ok (.putfield 193, 3) := by decide +kernel
theorem dX9_home_22 : decode cX9_home 22 = .ok (.iload_n 1, 1) := by decide +kernel
theorem dX9_home_23 : decode cX9_home 23 = .ok (.ireturn, 1) := by decide +kernel
set_option maxRecDepth 20000 in
theorem ggX9_order_X9_isPurse : GoodIn wsX9_order wsX9_isPurse := goodIn_r _ [10, 11, 12, 9, 13] (by decide +kernel) (by decide +kernel)
set_option maxRecDepth 20000 in
theorem gX9_order_X9_isPurse : GoodIn wsX9_order (va_wsS RX9 224 yX9_isPurse wsX9_isPurse) := goodIn_app (goodIn_of _ (by decide +kernel)) ggX9_order_X9_isPurse
set_option maxRecDepth 20000 in
theorem ggX9_order_X9_isWithin : GoodIn wsX9_order wsX9_isWithin := goodIn_r _ [13] (by decide +kernel) (by decide +kernel)
set_option maxRecDepth 20000 in
theorem gX9_order_X9_isWithin : GoodIn wsX9_order (va_wsS RX9 91 yX9_isWithin wsX9_isWithin) := goodIn_app (goodIn_of _ (by decide +kernel)) ggX9_order_X9_isWithin
set_option maxRecDepth 20000 in
theorem ggX9_order_X9_layOut : GoodIn wsX9_order wsX9_layOut := goodIn_r _ [17, 18, 19, 1, 20, 21, 22, 23, 24, 25, 26, 27, 28, 29, 30, 31, 32, 33, 34, 35, 36, 37, 38, 39, 40, 41, 42, 43, 44, 45, 46, 47, 48, 49, 50, 51, 52, 53, 54, 55, 56, 57, 58, 59, 60, 61, 62, 63, 64, 65, 66, 67, 68, 145, 146, 147, 148, 149, 150, 151, 152, 153, 154, 155, 156, 157, 158, 159, 160, 161, 162, 174, 175, 176, 177, 178, 179, 180, 181, 182, 183, 184, 185, 186, 187, 188, 189, 190] (by decide +kernel) (by decide +kernel)
set_option maxRecDepth 20000 in
theorem gX9_order_X9_layOut : GoodIn wsX9_order (wsV RX9 135 RX9 yX9_layOut wsX9_layOut) := goodIn_app (goodIn_of _ (by decide +kernel)) ggX9_order_X9_layOut
set_option maxRecDepth 20000 in
theorem ggX9_order_X7_begin : GoodIn wsX9_order wsX7_begin := goodIn_r _ [73, 74, 75, 76, 77, 78, 167, 168, 169, 170, 171, 172, 173] (by decide +kernel) (by decide +kernel)
set_option maxRecDepth 20000 in
theorem gX9_order_X7_begin : GoodIn wsX9_order (wsV RX9 245 RX7 yX7_begin wsX7_begin) := goodIn_app (goodIn_of _ (by decide +kernel)) ggX9_order_X7_begin
set_option maxRecDepth 20000 in
theorem ggX9_order_X9_seek : GoodIn wsX9_order wsX9_seek := goodIn_r _ [82, 1, 2, 3, 4, 20, 5, 83, 84, 85, 86, 19, 87, 88, 89, 90, 91, 72, 92, 75, 93, 76, 77, 94, 95, 96, 97, 98, 99, 100, 101, 102, 63, 103, 104, 105, 106, 107, 108, 65, 109, 110, 111, 112, 113, 114, 115, 116, 117, 118, 119, 25, 120, 121, 122, 123, 124, 125, 126, 127, 128, 129, 130, 131, 132, 133, 134, 135, 136, 137, 138, 35, 139, 140, 141, 142, 143, 144, 79, 80, 81, 9, 145, 146, 147, 148, 149, 150, 151, 152, 153, 154, 155, 156, 157, 158, 159, 160, 161, 162, 163, 164, 165, 166, 167, 168, 169, 170, 171, 172, 173, 186, 187, 188, 189, 190, 174, 175, 176, 177, 178, 179] (by decide +kernel) (by decide +kernel)
set_option maxRecDepth 20000 in
theorem gX9_order_X9_seek : GoodIn wsX9_order (wsV RX9 249 RX9 yX9_seek wsX9_seek) := goodIn_app (goodIn_of _ (by decide +kernel)) ggX9_order_X9_seek
theorem dX9_order_0 : decode cX9_order 0 = .ok (.iload_n 1, 1) := by decide +kernel
theorem dX9_order_1 : decode cX9_order 1 = .ok (.invokestatic 224, 3) := by decide +kernel
theorem dX9_order_4 : decode cX9_order 4 = .ok (.ifCond .eq 12, 3) := by decide +kernel
theorem dX9_order_7 : decode cX9_order 7 = .ok (.iload_n 2, 1) := by decide +kernel
theorem dX9_order_8 : decode cX9_order 8 = .ok (.iconst (-1), 1) := by decide +kernel
theorem dX9_order_9 : decode cX9_order 9 = .ok (.iconst 5, 1) := by decide +kernel
theorem dX9_order_10 : decode cX9_order 10 = .ok (.invokestatic 91, 3) := by decide +kernel
theorem dX9_order_13 : decode cX9_order 13 = .ok (.ifCond .ne 5, 3) := by decide +kernel
theorem dX9_order_16 : decode cX9_order 16 = .ok (.iconst (-1), 1) := by decide +kernel
theorem dX9_order_17 : decode cX9_order 17 = .ok (.ireturn, 1) := by decide +kernel
theorem dX9_order_18 : decode cX9_order 18 = .ok (.aload_n 0, 1) := by decide +kernel
theorem dX9_order_19 : decode cX9_order 19 = .ok (.getfield 10, 3) := by decide +kernel
theorem dX9_order_22 : decode cX9_order 22 = .ok (.getfield 198, 3) := by decide +kernel
theorem dX9_order_25 : decode cX9_order 25 = .ok (.getfield 193, 3) := by decide +kernel
theorem dX9_order_28 : decode cX9_order 28 = .ok (.ifCond .eq 17, 3) := by decide +kernel
theorem dX9_order_31 : decode cX9_order 31 = .ok (.iload_n 2, 1) := by decide +kernel
theorem dX9_order_32 : decode cX9_order 32 = .ok (.aload_n 0, 1) := by decide +kernel
theorem dX9_order_33 : decode cX9_order 33 = .ok (.getfield 10, 3) := by decide +kernel
theorem dX9_order_36 : decode cX9_order 36 = .ok (.getfield 198, 3) := by decide +kernel
theorem dX9_order_39 : decode cX9_order 39 = .ok (.getfield 193, 3) := by decide +kernel
theorem dX9_order_42 : decode cX9_order 42 = .ok (.if_icmp .lt 6, 3) := by decide +kernel
theorem dX9_order_45 : decode cX9_order 45 = .ok (.bipush (-4), 2) := by decide +kernel
theorem dX9_order_47 : decode cX9_order 47 = .ok (.ireturn, 1) := by decide +kernel
theorem dX9_order_48 : decode cX9_order 48 = .ok (.aload_n 0, 1) := by decide +kernel
theorem dX9_order_49 : decode cX9_order 49 = .ok (.invokevirtual 135, 3) := by decide +kernel
theorem dX9_order_52 : decode cX9_order 52 = .ok (.aload_n 0, 1) := by decide +kernel
theorem dX9_order_53 : decode cX9_order 53 = .ok (.getfield 46, 3) := by decide +kernel
theorem dX9_order_56 : decode cX9_order 56 = .ok (.iload_n 1, 1) := by decide +kernel
theorem dX9_order_57 : decode cX9_order 57 = .ok (.lconst 0, 1) := by decide +kernel
theorem dX9_order_58 : decode cX9_order 58 = .ok (.iconst 0, 1) := by decide +kernel
theorem dX9_order_59 : decode cX9_order 59 = .ok (.iconst (-1), 1) := by decide +kernel
theorem dX9_order_60 : decode cX9_order 60 = .ok (.aload_n 0, 1) := by decide +kernel
theorem dX9_order_61 : decode cX9_order 61 = .ok (.getfield 10, 3) := by decide +kernel
theorem dX9_order_64 : decode cX9_order 64 = .ok (.getfield 198, 3) := by decide +kernel
theorem dX9_order_67 : decode cX9_order 67 = .ok (.getfield 193, 3) := by decide +kernel
theorem dX9_order_70 : decode cX9_order 70 = .ok (.invokevirtual 245, 3) := by decide +kernel
theorem dX9_order_73 : decode cX9_order 73 = .ok (.aload_n 0, 1) := by decide +kernel
theorem dX9_order_74 : decode cX9_order 74 = .ok (.iconst 0, 1) := by decide +kernel
theorem dX9_order_75 : decode cX9_order 75 = .ok (.iconst 0, 1) := by decide +kernel
theorem dX9_order_76 : decode cX9_order 76 = .ok (.iconst 0, 1) := by decide +kernel
theorem dX9_order_77 : decode cX9_order 77 = .ok (.invokevirtual 249, 3) := by decide +kernel
theorem dX9_order_80 : decode cX9_order 80 = .ok (.iload_n 2, 1) := by decide +kernel
theorem dX9_order_81 : decode cX9_order 81 = .ok (.iconst (-1), 1) := by decide +kernel
theorem dX9_order_82 : decode cX9_order 82 = .ok (.if_icmp .ne 13, 3) := by decide +kernel
theorem dX9_order_85 : decode cX9_order 85 = .ok (.aload_n 0, 1) := by decide +kernel
theorem dX9_order_86 : decode cX9_order 86 = .ok (.getfield 46, 3) := by decide +kernel
theorem dX9_order_89 : decode cX9_order 89 = .ok (.getfield 252, 3) := by decide +kernel
theorem dX9_order_92 : decode cX9_order 92 = .ok (.goto 12, 3) := by decide +kernel
theorem dX9_order_95 : decode cX9_order 95 = .ok (.aload_n 0, 1) := by decide +kernel
theorem dX9_order_96 : decode cX9_order 96 = .ok (.getfield 46, 3) := by decide +kernel
theorem dX9_order_99 : decode cX9_order 99 = .ok (.getfield 255, 3) := by decide +kernel
theorem dX9_order_102 : decode cX9_order 102 = .ok (.iload_n 2, 1) := by decide +kernel
theorem dX9_order_103 : decode cX9_order 103 = .ok (.iaload, 1) := by decide +kernel
theorem dX9_order_104 : decode cX9_order 104 = .ok (.ireturn, 1) := by decide +kernel
set_option maxRecDepth 20000 in
theorem ggX9_send_X9_isPurse : GoodIn wsX9_send wsX9_isPurse := goodIn_r _ [12, 13, 14, 11, 15] (by decide +kernel) (by decide +kernel)
set_option maxRecDepth 20000 in
theorem gX9_send_X9_isPurse : GoodIn wsX9_send (va_wsS RX9 224 yX9_isPurse wsX9_isPurse) := goodIn_app (goodIn_of _ (by decide +kernel)) ggX9_send_X9_isPurse
set_option maxRecDepth 20000 in
theorem ggX9_send_X9_isCoin : GoodIn wsX9_send wsX9_isCoin := goodIn_r _ [19, 1, 20, 21, 13, 14, 11, 15, 154, 155, 156, 157, 158, 159, 160, 161, 162, 163, 164, 165, 166, 167, 168, 169, 170, 171, 189, 190, 191, 192, 193, 194] (by decide +kernel) (by decide +kernel)
set_option maxRecDepth 20000 in
theorem gX9_send_X9_isCoin : GoodIn wsX9_send (wsV RX9 109 RX9 yX9_isCoin wsX9_isCoin) := goodIn_app (goodIn_of _ (by decide +kernel)) ggX9_send_X9_isCoin
set_option maxRecDepth 20000 in
theorem ggX9_send_X9_isShop : GoodIn wsX9_send wsX9_isShop := goodIn_r _ [24, 13, 14, 11, 15] (by decide +kernel) (by decide +kernel)
set_option maxRecDepth 20000 in
theorem gX9_send_X9_isShop : GoodIn wsX9_send (va_wsS RX9 230 yX9_isShop wsX9_isShop) := goodIn_app (goodIn_of _ (by decide +kernel)) ggX9_send_X9_isShop
set_option maxRecDepth 20000 in
theorem ggX9_send_X9_isWithin : GoodIn wsX9_send wsX9_isWithin := goodIn_r _ [15] (by decide +kernel) (by decide +kernel)
set_option maxRecDepth 20000 in
theorem gX9_send_X9_isWithin : GoodIn wsX9_send (va_wsS RX9 91 yX9_isWithin wsX9_isWithin) := goodIn_app (goodIn_of _ (by decide +kernel)) ggX9_send_X9_isWithin
set_option maxRecDepth 20000 in
theorem ggX9_send_X9_layOut : GoodIn wsX9_send wsX9_layOut := goodIn_r _ [28, 29, 5, 1, 30, 20, 31, 32, 33, 34, 35, 36, 37, 38, 39, 40, 41, 42, 43, 44, 45, 46, 47, 48, 49, 50, 51, 52, 53, 54, 55, 56, 57, 58, 59, 60, 61, 62, 63, 64, 65, 66, 67, 68, 69, 70, 71, 72, 73, 74, 75, 76, 77, 154, 155, 156, 157, 158, 159, 160, 161, 162, 163, 164, 165, 166, 167, 168, 169, 170, 171, 176, 177, 178, 179, 180, 181, 189, 190, 191, 192, 193, 194, 195, 196, 197, 198, 199] (by decide +kernel) (by decide +kernel)
set_option maxRecDepth 20000 in
theorem gX9_send_X9_layOut : GoodIn wsX9_send (wsV RX9 135 RX9 yX9_layOut wsX9_layOut) := goodIn_app (goodIn_of _ (by decide +kernel)) ggX9_send_X9_layOut
set_option maxRecDepth 20000 in
theorem ggX9_send_X7_begin : GoodIn wsX9_send wsX7_begin := goodIn_r _ [82, 83, 84, 85, 86, 87, 182, 183, 184, 185, 186, 187, 188] (by decide +kernel) (by decide +kernel)
set_option maxRecDepth 20000 in
theorem gX9_send_X7_begin : GoodIn wsX9_send (wsV RX9 245 RX7 yX7_begin wsX7_begin) := goodIn_app (goodIn_of _ (by decide +kernel)) ggX9_send_X7_begin
set_option maxRecDepth 20000 in
theorem ggX9_send_X9_seek : GoodIn wsX9_send wsX9_seek := goodIn_r _ [91, 1, 2, 3, 4, 30, 7, 92, 93, 94, 95, 5, 96, 97, 98, 99, 100, 81, 101, 84, 102, 85, 86, 103, 104, 105, 106, 107, 108, 109, 110, 111, 72, 112, 113, 114, 115, 116, 117, 74, 118, 119, 120, 121, 122, 123, 124, 125, 126, 127, 128, 34, 129, 130, 131, 132, 133, 134, 135, 136, 137, 138, 139, 140, 141, 142, 143, 144, 145, 146, 147, 44, 148, 149, 150, 151, 152, 153, 88, 89, 90, 11, 154, 155, 156, 157, 158, 159, 160, 161, 162, 163, 164, 165, 166, 167, 168, 169, 170, 171, 172, 173, 174, 175, 182, 183, 184, 185, 186, 187, 188, 195, 196, 197, 198, 199, 176, 177, 178, 179, 180, 181] (by decide +kernel) (by decide +kernel)
set_option maxRecDepth 20000 in
theorem gX9_send_X9_seek : GoodIn wsX9_send (wsV RX9 249 RX9 yX9_seek wsX9_seek) := goodIn_app (goodIn_of _ (by decide +kernel)) ggX9_send_X9_seek
theorem dX9_send_0 : decode cX9_send 0 = .ok (.iload_n 1, 1) := by decide +kernel
theorem dX9_send_1 : decode cX9_send 1 = .ok (.invokestatic 224, 3) := by decide +kernel
theorem dX9_send_4 : decode cX9_send 4 = .ok (.ifCond .eq 28, 3) := by decide +kernel
theorem dX9_send_7 : decode cX9_send 7 = .ok (.aload_n 0, 1) := by decide +kernel
theorem dX9_send_8 : decode cX9_send 8 = .ok (.iload_n 2, 1) := by decide +kernel
theorem dX9_send_9 : decode cX9_send 9 = .ok (.invokevirtual 109, 3) := by decide +kernel
theorem dX9_send_12 : decode cX9_send 12 = .ok (.ifCond .eq 20, 3) := by decide +kernel
theorem dX9_send_15 : decode cX9_send 15 = .ok (.iload_n 3, 1) := by decide +kernel
theorem dX9_send_16 : decode cX9_send 16 = .ok (.invokestatic 230, 3) := by decide +kernel
theorem dX9_send_19 : decode cX9_send 19 = .ok (.ifCond .eq 13, 3) := by decide +kernel
theorem dX9_send_22 : decode cX9_send 22 = .ok (.iload 4, 2) := by decide +kernel
theorem dX9_send_24 : decode cX9_send 24 = .ok (.iconst 0, 1) := by decide +kernel
theorem dX9_send_25 : decode cX9_send 25 = .ok (.iconst 5, 1) := by decide +kernel
theorem dX9_send_26 : decode cX9_send 26 = .ok (.invokestatic 91, 3) := by decide +kernel
theorem dX9_send_29 : decode cX9_send 29 = .ok (.ifCond .ne 5, 3) := by decide +kernel
theorem dX9_send_32 : decode cX9_send 32 = .ok (.iconst (-1), 1) := by decide +kernel
theorem dX9_send_33 : decode cX9_send 33 = .ok (.ireturn, 1) := by decide +kernel
theorem dX9_send_34 : decode cX9_send 34 = .ok (.iload 4, 2) := by decide +kernel
theorem dX9_send_36 : decode cX9_send 36 = .ok (.aload_n 0, 1) := by decide +kernel
theorem dX9_send_37 : decode cX9_send 37 = .ok (.getfield 10, 3) := by decide +kernel
theorem dX9_send_40 : decode cX9_send 40 = .ok (.getfield 198, 3) := by decide +kernel
theorem dX9_send_43 : decode cX9_send 43 = .ok (.getfield 193, 3) := by decide +kernel
theorem dX9_send_46 : decode cX9_send 46 = .ok (.if_icmp .lt 6, 3) := by decide +kernel
theorem dX9_send_49 : decode cX9_send 49 = .ok (.bipush (-4), 2) := by decide +kernel
theorem dX9_send_51 : decode cX9_send 51 = .ok (.ireturn, 1) := by decide +kernel
theorem dX9_send_52 : decode cX9_send 52 = .ok (.aload_n 0, 1) := by decide +kernel
theorem dX9_send_53 : decode cX9_send 53 = .ok (.invokevirtual 135, 3) := by decide +kernel
theorem dX9_send_56 : decode cX9_send 56 = .ok (.aload_n 0, 1) := by decide +kernel
theorem dX9_send_57 : decode cX9_send 57 = .ok (.getfield 46, 3) := by decide +kernel
theorem dX9_send_60 : decode cX9_send 60 = .ok (.iload_n 1, 1) := by decide +kernel
theorem dX9_send_61 : decode cX9_send 61 = .ok (.lconst 1, 1) := by decide +kernel
theorem dX9_send_62 : decode cX9_send 62 = .ok (.aload_n 0, 1) := by decide +kernel
theorem dX9_send_63 : decode cX9_send 63 = .ok (.getfield 22, 3) := by decide +kernel
theorem dX9_send_66 : decode cX9_send 66 = .ok (.getfield 258, 3) := by decide +kernel
theorem dX9_send_69 : decode cX9_send 69 = .ok (.iload_n 2, 1) := by decide +kernel
theorem dX9_send_70 : decode cX9_send 70 = .ok (.iaload, 1) := by decide +kernel
theorem dX9_send_71 : decode cX9_send 71 = .ok (.lshl, 1) := by decide +kernel
theorem dX9_send_72 : decode cX9_send 72 = .ok (.iload_n 3, 1) := by decide +kernel
theorem dX9_send_73 : decode cX9_send 73 = .ok (.iconst 0, 1) := by decide +kernel
theorem dX9_send_74 : decode cX9_send 74 = .ok (.iconst 1, 1) := by decide +kernel
theorem dX9_send_75 : decode cX9_send 75 = .ok (.invokevirtual 245, 3) := by decide +kernel
theorem dX9_send_78 : decode cX9_send 78 = .ok (.aload_n 0, 1) := by decide +kernel
theorem dX9_send_79 : decode cX9_send 79 = .ok (.iconst 0, 1) := by decide +kernel
theorem dX9_send_80 : decode cX9_send 80 = .ok (.iconst 0, 1) := by decide +kernel
theorem dX9_send_81 : decode cX9_send 81 = .ok (.iconst 0, 1) := by decide +kernel
theorem dX9_send_82 : decode cX9_send 82 = .ok (.invokevirtual 249, 3) := by decide +kernel
theorem dX9_send_85 : decode cX9_send 85 = .ok (.aload_n 0, 1) := by decide +kernel
theorem dX9_send_86 : decode cX9_send 86 = .ok (.getfield 46, 3) := by decide +kernel
theorem dX9_send_89 : decode cX9_send 89 = .ok (.getfield 252, 3) := by decide +kernel
theorem dX9_send_92 : decode cX9_send 92 = .ok (.ifCond .ne 8, 3) := by decide +kernel
theorem dX9_send_95 : decode cX9_send 95 = .ok (.bipush (-4), 2) := by decide +kernel
theorem dX9_send_97 : decode cX9_send 97 = .ok (.goto 13, 3) := by decide +kernel
theorem dX9_send_100 : decode cX9_send 100 = .ok (.aload_n 0, 1) := by decide +kernel
theorem dX9_send_101 : decode cX9_send 101 = .ok (.getfield 46, 3) := by decide +kernel
theorem dX9_send_104 : decode cX9_send 104 = .ok (.getfield 255, 3) := by decide +kernel
theorem dX9_send_107 : decode cX9_send 107 = .ok (.iload 4, 2) := by decide +kernel
theorem dX9_send_109 : decode cX9_send 109 = .ok (.iaload, 1) := by decide +kernel
theorem dX9_send_110 : decode cX9_send 110 = .ok (.ireturn, 1) := by decide +kernel
set_option maxRecDepth 20000 in
theorem ggX9_lent_X9_isBill : GoodIn wsX9_lent wsX9_isBill := goodIn_r _ [12, 13, 14, 11, 15, 16, 17, 18, 19, 20, 21, 22, 23, 24] (by decide +kernel) (by decide +kernel)
set_option maxRecDepth 20000 in
theorem gX9_lent_X9_isBill : GoodIn wsX9_lent (va_wsS RX9 201 yX9_isBill wsX9_isBill) := goodIn_app (goodIn_of _ (by decide +kernel)) ggX9_lent_X9_isBill
set_option maxRecDepth 20000 in
theorem ggX9_lent_X9_layOut : GoodIn wsX9_lent wsX9_layOut := goodIn_r _ [28, 29, 7, 1, 6, 2, 30, 31, 32, 33, 34, 35, 36, 37, 38, 39, 40, 41, 42, 43, 44, 45, 46, 47, 48, 49, 50, 51, 52, 53, 54, 55, 56, 57, 58, 59, 60, 61, 62, 63, 64, 65, 66, 67, 68, 69, 70, 71, 72, 73, 74, 75, 76, 130, 131, 132, 133, 134, 135, 136, 137, 138, 139, 140, 141, 142, 143, 144, 145, 146, 147, 154, 155, 156, 157, 158, 159, 148, 149, 150, 151, 152, 153, 160, 161, 162, 163, 164] (by decide +kernel) (by decide +kernel)
set_option maxRecDepth 20000 in
theorem gX9_lent_X9_layOut : GoodIn wsX9_lent (wsV RX9 135 RX9 yX9_layOut wsX9_layOut) := goodIn_app (goodIn_of _ (by decide +kernel)) ggX9_lent_X9_layOut
set_option maxRecDepth 20000 in
theorem ggX9_lent_X1_copyFrom : GoodIn wsX9_lent wsX1_copyFrom := goodIn_r _ [80, 73, 160, 161, 162, 163, 164] (by decide +kernel) (by decide +kernel)
set_option maxRecDepth 20000 in
theorem gX9_lent_X1_copyFrom : GoodIn wsX9_lent (wsV RX9 233 RX1 yX1_copyFrom wsX1_copyFrom) := goodIn_app (goodIn_of _ (by decide +kernel)) ggX9_lent_X1_copyFrom
set_option maxRecDepth 20000 in
theorem ggX9_lent_X1_move : GoodIn wsX9_lent wsX1_move := goodIn_r _ [84, 73, 85, 160, 161, 162, 163, 164] (by decide +kernel) (by decide +kernel)
set_option maxRecDepth 20000 in
theorem gX9_lent_X1_move : GoodIn wsX9_lent (wsV RX9 261 RX1 yX1_move wsX1_move) := goodIn_app (goodIn_of _ (by decide +kernel)) ggX9_lent_X1_move
set_option maxRecDepth 20000 in
theorem ggX9_lent_X1_meetsEvenly : GoodIn wsX9_lent wsX1_meetsEvenly := goodIn_r _ [89, 90, 91, 92, 93, 71, 94, 73, 95, 85, 96, 97, 98, 99, 100, 101, 102, 103, 104, 33, 105, 106, 107, 108, 109, 110, 111, 112, 113, 114, 115, 116, 117, 118, 119, 120, 121, 122, 123, 43, 124, 125, 126, 127, 128, 129, 160, 161, 162, 163, 164, 154, 155, 156, 157, 158, 159] (by decide +kernel) (by decide +kernel)
set_option maxRecDepth 20000 in
theorem gX9_lent_X1_meetsEvenly : GoodIn wsX9_lent (wsV RX9 236 RX1 yX1_meetsEvenly wsX1_meetsEvenly) := goodIn_app (goodIn_of _ (by decide +kernel)) ggX9_lent_X1_meetsEvenly
theorem dX9_lent_0 : decode cX9_lent 0 = .ok (.iload_n 1, 1) := by decide +kernel
theorem dX9_lent_1 : decode cX9_lent 1 = .ok (.iload_n 2, 1) := by decide +kernel
theorem dX9_lent_2 : decode cX9_lent 2 = .ok (.iload_n 3, 1) := by decide +kernel
theorem dX9_lent_3 : decode cX9_lent 3 = .ok (.invokestatic 201, 3) := by decide +kernel
theorem dX9_lent_6 : decode cX9_lent 6 = .ok (.ifCond .eq 21, 3) := by decide +kernel
theorem dX9_lent_9 : decode cX9_lent 9 = .ok (.iload 4, 2) := by decide +kernel
theorem dX9_lent_11 : decode cX9_lent 11 = .ok (.iload 5, 2) := by decide +kernel
theorem dX9_lent_13 : decode cX9_lent 13 = .ok (.iload 6, 2) := by decide +kernel
theorem dX9_lent_15 : decode cX9_lent 15 = .ok (.invokestatic 201, 3) := by decide +kernel
theorem dX9_lent_18 : decode cX9_lent 18 = .ok (.ifCond .eq 9, 3) := by decide +kernel
theorem dX9_lent_21 : decode cX9_lent 21 = .ok (.iload_n 1, 1) := by decide +kernel
theorem dX9_lent_22 : decode cX9_lent 22 = .ok (.iload 4, 2) := by decide +kernel
theorem dX9_lent_24 : decode cX9_lent 24 = .ok (.if_icmp .ne 5, 3) := by decide +kernel
theorem dX9_lent_27 : decode cX9_lent 27 = .ok (.iconst (-1), 1) := by decide +kernel
theorem dX9_lent_28 : decode cX9_lent 28 = .ok (.ireturn, 1) := by decide +kernel
theorem dX9_lent_29 : decode cX9_lent 29 = .ok (.aload_n 0, 1) := by decide +kernel
theorem dX9_lent_30 : decode cX9_lent 30 = .ok (.invokevirtual 135, 3) := by decide +kernel
theorem dX9_lent_33 : decode cX9_lent 33 = .ok (.bipush (-4), 2) := by decide +kernel
theorem dX9_lent_35 : decode cX9_lent 35 = .ok (.istore 7, 2) := by decide +kernel
theorem dX9_lent_37 : decode cX9_lent 37 = .ok (.iconst 0, 1) := by decide +kernel
theorem dX9_lent_38 : decode cX9_lent 38 = .ok (.istore 8, 2) := by decide +kernel
theorem dX9_lent_40 : decode cX9_lent 40 = .ok (.iconst (-1), 1) := by decide +kernel
theorem dX9_lent_41 : decode cX9_lent 41 = .ok (.istore 9, 2) := by decide +kernel
theorem dX9_lent_43 : decode cX9_lent 43 = .ok (.iload 9, 2) := by decide +kernel
theorem dX9_lent_45 : decode cX9_lent 45 = .ok (.aload_n 0, 1) := by decide +kernel
theorem dX9_lent_46 : decode cX9_lent 46 = .ok (.getfield 10, 3) := by decide +kernel
theorem dX9_lent_49 : decode cX9_lent 49 = .ok (.getfield 98, 3) := by decide +kernel
theorem dX9_lent_52 : decode cX9_lent 52 = .ok (.getfield 101, 3) := by decide +kernel
theorem dX9_lent_55 : decode cX9_lent 55 = .ok (.if_icmp .ge 152, 3) := by decide +kernel
theorem dX9_lent_58 : decode cX9_lent 58 = .ok (.iload 9, 2) := by decide +kernel
theorem dX9_lent_60 : decode cX9_lent 60 = .ok (.iconst (-1), 1) := by decide +kernel
theorem dX9_lent_61 : decode cX9_lent 61 = .ok (.if_icmp .eq 23, 3) := by decide +kernel
theorem dX9_lent_64 : decode cX9_lent 64 = .ok (.aload_n 0, 1) := by decide +kernel
theorem dX9_lent_65 : decode cX9_lent 65 = .ok (.getfield 10, 3) := by decide +kernel
theorem dX9_lent_68 : decode cX9_lent 68 = .ok (.getfield 98, 3) := by decide +kernel
theorem dX9_lent_71 : decode cX9_lent 71 = .ok (.getfield 125, 3) := by decide +kernel
theorem dX9_lent_74 : decode cX9_lent 74 = .ok (.iload 9, 2) := by decide +kernel
theorem dX9_lent_76 : decode cX9_lent 76 = .ok (.iaload, 1) := by decide +kernel
theorem dX9_lent_77 : decode cX9_lent 77 = .ok (.iload_n 1, 1) := by decide +kernel
theorem dX9_lent_78 : decode cX9_lent 78 = .ok (.if_icmp .eq 6, 3) := by decide +kernel
theorem dX9_lent_81 : decode cX9_lent 81 = .ok (.goto 120, 3) := by decide +kernel
theorem dX9_lent_84 : decode cX9_lent 84 = .ok (.aload_n 0, 1) := by decide +kernel
theorem dX9_lent_85 : decode cX9_lent 85 = .ok (.getfield 40, 3) := by decide +kernel
theorem dX9_lent_88 : decode cX9_lent 88 = .ok (.aload_n 0, 1) := by decide +kernel
theorem dX9_lent_89 : decode cX9_lent 89 = .ok (.getfield 36, 3) := by decide +kernel
theorem dX9_lent_92 : decode cX9_lent 92 = .ok (.invokevirtual 233, 3) := by decide +kernel
theorem dX9_lent_95 : decode cX9_lent 95 = .ok (.iload 9, 2) := by decide +kernel
theorem dX9_lent_97 : decode cX9_lent 97 = .ok (.iconst (-1), 1) := by decide +kernel
theorem dX9_lent_98 : decode cX9_lent 98 = .ok (.if_icmp .eq 23, 3) := by decide +kernel
theorem dX9_lent_101 : decode cX9_lent 101 = .ok (.aload_n 0, 1) := by decide +kernel
theorem dX9_lent_102 : decode cX9_lent 102 = .ok (.getfield 40, 3) := by decide +kernel
theorem dX9_lent_105 : decode cX9_lent 105 = .ok (.aload_n 0, 1) := by decide +kernel
theorem dX9_lent_106 : decode cX9_lent 106 = .ok (.getfield 22, 3) := by decide +kernel
theorem dX9_lent_109 : decode cX9_lent 109 = .ok (.getfield 258, 3) := by decide +kernel
theorem dX9_lent_112 : decode cX9_lent 112 = .ok (.iload 9, 2) := by decide +kernel
theorem dX9_lent_114 : decode cX9_lent 114 = .ok (.iaload, 1) := by decide +kernel
theorem dX9_lent_115 : decode cX9_lent 115 = .ok (.iload_n 1, 1) := by decide +kernel
theorem dX9_lent_116 : decode cX9_lent 116 = .ok (.iload 4, 2) := by decide +kernel
theorem dX9_lent_118 : decode cX9_lent 118 = .ok (.invokevirtual 261, 3) := by decide +kernel
theorem dX9_lent_121 : decode cX9_lent 121 = .ok (.aload_n 0, 1) := by decide +kernel
theorem dX9_lent_122 : decode cX9_lent 122 = .ok (.getfield 40, 3) := by decide +kernel
theorem dX9_lent_125 : decode cX9_lent 125 = .ok (.aload_n 0, 1) := by decide +kernel
theorem dX9_lent_126 : decode cX9_lent 126 = .ok (.getfield 22, 3) := by decide +kernel
theorem dX9_lent_129 : decode cX9_lent 129 = .ok (.iload_n 1, 1) := by decide +kernel
theorem dX9_lent_130 : decode cX9_lent 130 = .ok (.iload_n 2, 1) := by decide +kernel
theorem dX9_lent_131 : decode cX9_lent 131 = .ok (.iload_n 3, 1) := by decide +kernel
theorem dX9_lent_132 : decode cX9_lent 132 = .ok (.invokevirtual 236, 3) := by decide +kernel
theorem dX9_lent_135 : decode cX9_lent 135 = .ok (.ifCond .eq 7, 3) := by decide +kernel
theorem dX9_lent_138 : decode cX9_lent 138 = .ok (.iconst 1, 1) := by decide +kernel
theorem dX9_lent_139 : decode cX9_lent 139 = .ok (.goto 4, 3) := by decide +kernel
theorem dX9_lent_142 : decode cX9_lent 142 = .ok (.iconst 0, 1) := by decide +kernel
theorem dX9_lent_143 : decode cX9_lent 143 = .ok (.istore 10, 2) := by decide +kernel
theorem dX9_lent_145 : decode cX9_lent 145 = .ok (.iload 10, 2) := by decide +kernel
theorem dX9_lent_147 : decode cX9_lent 147 = .ok (.aload_n 0, 1) := by decide +kernel
theorem dX9_lent_148 : decode cX9_lent 148 = .ok (.getfield 40, 3) := by decide +kernel
theorem dX9_lent_151 : decode cX9_lent 151 = .ok (.aload_n 0, 1) := by decide +kernel
theorem dX9_lent_152 : decode cX9_lent 152 = .ok (.getfield 22, 3) := by decide +kernel
theorem dX9_lent_155 : decode cX9_lent 155 = .ok (.iload 4, 2) := by decide +kernel
theorem dX9_lent_157 : decode cX9_lent 157 = .ok (.iload 5, 2) := by decide +kernel
theorem dX9_lent_159 : decode cX9_lent 159 = .ok (.iload 6, 2) := by decide +kernel
theorem dX9_lent_161 : decode cX9_lent 161 = .ok (.invokevirtual 236, 3) := by decide +kernel
theorem dX9_lent_164 : decode cX9_lent 164 = .ok (.ifCond .eq 7, 3) := by decide +kernel
theorem dX9_lent_167 : decode cX9_lent 167 = .ok (.iconst 1, 1) := by decide +kernel
theorem dX9_lent_168 : decode cX9_lent 168 = .ok (.goto 4, 3) := by decide +kernel
theorem dX9_lent_171 : decode cX9_lent 171 = .ok (.iconst 0, 1) := by decide +kernel
theorem dX9_lent_172 : decode cX9_lent 172 = .ok (.iadd, 1) := by decide +kernel
theorem dX9_lent_173 : decode cX9_lent 173 = .ok (.istore 10, 2) := by decide +kernel
theorem dX9_lent_175 : decode cX9_lent 175 = .ok (.iload 10, 2) := by decide +kernel
theorem dX9_lent_177 : decode cX9_lent 177 = .ok (.iload 8, 2) := by decide +kernel
theorem dX9_lent_179 : decode cX9_lent 179 = .ok (.if_icmp .le 22, 3) := by decide +kernel
theorem dX9_lent_182 : decode cX9_lent 182 = .ok (.iload 10, 2) := by decide +kernel
theorem dX9_lent_184 : decode cX9_lent 184 = .ok (.istore 8, 2) := by decide +kernel
theorem dX9_lent_186 : decode cX9_lent 186 = .ok (.iload 9, 2) := by decide +kernel
theorem dX9_lent_188 : decode cX9_lent 188 = .ok (.iconst (-1), 1) := by decide +kernel
theorem dX9_lent_189 : decode cX9_lent 189 = .ok (.if_icmp .ne 8, 3) := by decide +kernel
theorem dX9_lent_192 : decode cX9_lent 192 = .ok (.bipush (-4), 2) := by decide +kernel
theorem dX9_lent_194 : decode cX9_lent 194 = .ok (.goto 5, 3) := by decide +kernel
theorem dX9_lent_197 : decode cX9_lent 197 = .ok (.iload 9, 2) := by decide +kernel
theorem dX9_lent_199 : decode cX9_lent 199 = .ok (.istore 7, 2) := by decide +kernel
theorem dX9_lent_201 : decode cX9_lent 201 = .ok (.iinc 9 1, 3) := by decide +kernel
theorem dX9_lent_204 : decode cX9_lent 204 = .ok (.goto (-161), 3) := by decide +kernel
theorem dX9_lent_207 : decode cX9_lent 207 = .ok (.iload 7, 2) := by decide +kernel
theorem dX9_lent_209 : decode cX9_lent 209 = .ok (.ireturn, 1) := by decide +kernel
set_option maxRecDepth 20000 in
theorem ggX9_run_X9_isWithin : GoodIn wsX9_run wsX9_isWithin := goodIn_r _ [6] (by decide +kernel) (by decide +kernel)
set_option maxRecDepth 20000 in
theorem gX9_run_X9_isWithin : GoodIn wsX9_run (va_wsS RX9 91 yX9_isWithin wsX9_isWithin) := goodIn_app (goodIn_of _ (by decide +kernel)) ggX9_run_X9_isWithin
set_option maxRecDepth 20000 in
theorem ggX9_run_X9_layOut : GoodIn wsX9_run wsX9_layOut := goodIn_r _ [10, 11, 2, 12, 1, 13, 14, 15, 16, 17, 18, 19, 20, 21, 22, 23, 24, 25, 26, 27, 28, 29, 30, 31, 32, 33, 34, 35, 36, 37, 38, 39, 40, 41, 42, 43, 44, 45, 46, 47, 48, 49, 50, 51, 52, 53, 54, 55, 56, 57, 58, 59, 60, 126, 127, 128, 129, 130, 131, 132, 133, 134, 135, 136, 137, 138, 139, 140, 141, 142, 143, 144, 145, 146, 147, 148, 149, 150, 151, 152, 153, 154, 155, 156, 157, 158, 159, 160] (by decide +kernel) (by decide +kernel)
set_option maxRecDepth 20000 in
theorem gX9_run_X9_layOut : GoodIn wsX9_run (wsV RX9 135 RX9 yX9_layOut wsX9_layOut) := goodIn_app (goodIn_of _ (by decide +kernel)) ggX9_run_X9_layOut
set_option maxRecDepth 20000 in
theorem ggX9_run_X9_runDay : GoodIn wsX9_run wsX9_runDay := goodIn_r _ [64, 12, 65, 66, 67, 68, 69, 5, 70, 71, 72, 73, 74, 75, 76, 55, 77, 57, 78, 79, 80, 81, 82, 83, 84, 85, 86, 87, 88, 89, 17, 90, 91, 92, 93, 94, 95, 96, 97, 98, 99, 100, 101, 102, 103, 104, 105, 106, 107, 108, 27, 109, 110, 111, 112, 113, 114, 126, 127, 128, 129, 130, 131, 132, 133, 134, 135, 136, 137, 138, 139, 140, 141, 142, 143, 161, 162, 163, 164, 156, 157, 158, 159, 160, 144, 145, 146, 147, 148, 149] (by decide +kernel) (by decide +kernel)
set_option maxRecDepth 20000 in
theorem gX9_run_X9_runDay : GoodIn wsX9_run (wsV RX9 264 RX9 yX9_runDay wsX9_runDay) := goodIn_app (goodIn_of _ (by decide +kernel)) ggX9_run_X9_runDay
set_option maxRecDepth 20000 in
theorem ggX9_run_X9_takeOver : GoodIn wsX9_run wsX9_takeOver := goodIn_r _ [118, 2, 119, 12, 13, 120, 121, 1, 122, 123, 124, 55, 125, 57, 126, 127, 128, 129, 130, 131, 132, 133, 134, 135, 136, 137, 138, 139, 144, 145, 146, 147, 148, 149, 140, 141, 142, 143, 150, 151, 152, 153, 154, 155, 156, 157, 158, 159, 160] (by decide +kernel) (by decide +kernel)
set_option maxRecDepth 20000 in
theorem gX9_run_X9_takeOver : GoodIn wsX9_run (wsV RX9 208 RX9 yX9_takeOver wsX9_takeOver) := goodIn_app (goodIn_of _ (by decide +kernel)) ggX9_run_X9_takeOver
theorem dX9_run_0 : decode cX9_run 0 = .ok (.iload_n 1, 1) := by decide +kernel
theorem dX9_run_1 : decode cX9_run 1 = .ok (.iconst 1, 1) := by decide +kernel
theorem dX9_run_2 : decode cX9_run 2 = .ok (.bipush 50, 2) := by decide +kernel
theorem dX9_run_4 : decode cX9_run 4 = .ok (.invokestatic 91, 3) := by decide +kernel
theorem dX9_run_7 : decode cX9_run 7 = .ok (.ifCond .ne 5, 3) := by decide +kernel
theorem dX9_run_10 : decode cX9_run 10 = .ok (.iconst (-1), 1) := by decide +kernel
theorem dX9_run_11 : decode cX9_run 11 = .ok (.ireturn, 1) := by decide +kernel
theorem dX9_run_12 : decode cX9_run 12 = .ok (.aload_n 0, 1) := by decide +kernel
theorem dX9_run_13 : decode cX9_run 13 = .ok (.invokevirtual 135, 3) := by decide +kernel
theorem dX9_run_16 : decode cX9_run 16 = .ok (.aload_n 0, 1) := by decide +kernel
theorem dX9_run_17 : decode cX9_run 17 = .ok (.aload_n 0, 1) := by decide +kernel
theorem dX9_run_18 : decode cX9_run 18 = .ok (.getfield 36, 3) := by decide +kernel
theorem dX9_run_21 : decode cX9_run 21 = .ok (.aload_n 0, 1) := by decide +kernel
theorem dX9_run_22 : decode cX9_run 22 = .ok (.getfield 22, 3) := by decide +kernel
theorem dX9_run_25 : decode cX9_run 25 = .ok (.iload_n 1, 1) := by decide +kernel
theorem dX9_run_26 : decode cX9_run 26 = .ok (.invokevirtual 264, 3) := by decide +kernel
theorem dX9_run_29 : decode cX9_run 29 = .ok (.istore_n 2, 1) := by decide +kernel
theorem dX9_run_30 : decode cX9_run 30 = .ok (.aload_n 0, 1) := by decide +kernel
theorem dX9_run_31 : decode cX9_run 31 = .ok (.invokevirtual 208, 3) := by decide +kernel
theorem dX9_run_34 : decode cX9_run 34 = .ok (.iload_n 2, 1) := by decide +kernel
theorem dX9_run_35 : decode cX9_run 35 = .ok (.ireturn, 1) := by decide +kernel
set_option maxRecDepth 20000 in
theorem ggX9_where_X9_isCoin : GoodIn wsX9_where wsX9_isCoin := goodIn_r _ [8, 9, 10, 11, 12, 13, 7, 14, 125, 126, 127, 128, 129, 130, 131, 132, 133, 134, 135, 136, 137, 138, 145, 146, 147, 148, 149, 150, 151, 152, 153, 154] (by decide +kernel) (by decide +kernel)
set_option maxRecDepth 20000 in
theorem gX9_where_X9_isCoin : GoodIn wsX9_where (wsV RX9 109 RX9 yX9_isCoin wsX9_isCoin) := goodIn_app (goodIn_of _ (by decide +kernel)) ggX9_where_X9_isCoin
set_option maxRecDepth 20000 in
theorem ggX9_where_X9_isWithin : GoodIn wsX9_where wsX9_isWithin := goodIn_r _ [14] (by decide +kernel) (by decide +kernel)
set_option maxRecDepth 20000 in
theorem gX9_where_X9_isWithin : GoodIn wsX9_where (va_wsS RX9 91 yX9_isWithin wsX9_isWithin) := goodIn_app (goodIn_of _ (by decide +kernel)) ggX9_where_X9_isWithin
set_option maxRecDepth 20000 in
theorem ggX9_where_X9_layOut : GoodIn wsX9_where wsX9_layOut := goodIn_r _ [18, 19, 2, 9, 1, 10, 20, 21, 22, 23, 24, 25, 26, 27, 28, 29, 30, 31, 32, 33, 34, 35, 36, 37, 38, 39, 40, 41, 42, 43, 44, 45, 46, 47, 48, 49, 50, 51, 52, 53, 54, 55, 56, 57, 58, 59, 60, 61, 62, 63, 64, 65, 66, 125, 126, 127, 128, 129, 130, 131, 132, 133, 134, 135, 136, 137, 138, 145, 146, 147, 148, 139, 140, 141, 142, 143, 144, 149, 150, 151, 152, 153, 154, 155, 156, 157, 158, 159] (by decide +kernel) (by decide +kernel)
set_option maxRecDepth 20000 in
theorem gX9_where_X9_layOut : GoodIn wsX9_where (wsV RX9 135 RX9 yX9_layOut wsX9_layOut) := goodIn_app (goodIn_of _ (by decide +kernel)) ggX9_where_X9_layOut
set_option maxRecDepth 20000 in
theorem ggX9_where_X9_runDay : GoodIn wsX9_where wsX9_runDay := goodIn_r _ [70, 9, 71, 72, 73, 74, 75, 7, 76, 77, 78, 79, 80, 81, 82, 61, 83, 63, 84, 85, 86, 87, 88, 89, 90, 91, 92, 93, 94, 95, 23, 96, 97, 98, 99, 100, 101, 102, 103, 104, 105, 106, 107, 108, 109, 110, 111, 112, 113, 114, 33, 115, 116, 117, 118, 119, 120, 125, 126, 127, 128, 129, 130, 131, 132, 133, 134, 135, 136, 137, 138, 145, 146, 147, 148, 160, 161, 162, 163, 155, 156, 157, 158, 159, 139, 140, 141, 142, 143, 144] (by decide +kernel) (by decide +kernel)
set_option maxRecDepth 20000 in
theorem gX9_where_X9_runDay : GoodIn wsX9_where (wsV RX9 264 RX9 yX9_runDay wsX9_runDay) := goodIn_app (goodIn_of _ (by decide +kernel)) ggX9_where_X9_runDay
set_option maxRecDepth 20000 in
theorem ggX9_where_X1_holderAt : GoodIn wsX9_where wsX1_holderAt := goodIn_r _ [124, 63, 155, 156, 157, 158, 159] (by decide +kernel) (by decide +kernel)
set_option maxRecDepth 20000 in
theorem gX9_where_X1_holderAt : GoodIn wsX9_where (wsV RX9 268 RX1 yX1_holderAt wsX1_holderAt) := goodIn_app (goodIn_of _ (by decide +kernel)) ggX9_where_X1_holderAt
theorem dX9_where_0 : decode cX9_where 0 = .ok (.aload_n 0, 1) := by decide +kernel
theorem dX9_where_1 : decode cX9_where 1 = .ok (.iload_n 1, 1) := by decide +kernel
theorem dX9_where_2 : decode cX9_where 2 = .ok (.invokevirtual 109, 3) := by decide +kernel
theorem dX9_where_5 : decode cX9_where 5 = .ok (.ifCond .eq 13, 3) := by decide +kernel
theorem dX9_where_8 : decode cX9_where 8 = .ok (.iload_n 2, 1) := by decide +kernel
theorem dX9_where_9 : decode cX9_where 9 = .ok (.iconst 1, 1) := by decide +kernel
theorem dX9_where_10 : decode cX9_where 10 = .ok (.bipush 50, 2) := by decide +kernel
theorem dX9_where_12 : decode cX9_where 12 = .ok (.invokestatic 91, 3) := by decide +kernel
theorem dX9_where_15 : decode cX9_where 15 = .ok (.ifCond .ne 5, 3) := by decide +kernel
theorem dX9_where_18 : decode cX9_where 18 = .ok (.iconst (-1), 1) := by decide +kernel
theorem dX9_where_19 : decode cX9_where 19 = .ok (.ireturn, 1) := by decide +kernel
theorem dX9_where_20 : decode cX9_where 20 = .ok (.aload_n 0, 1) := by decide +kernel
theorem dX9_where_21 : decode cX9_where 21 = .ok (.invokevirtual 135, 3) := by decide +kernel
theorem dX9_where_24 : decode cX9_where 24 = .ok (.aload_n 0, 1) := by decide +kernel
theorem dX9_where_25 : decode cX9_where 25 = .ok (.aload_n 0, 1) := by decide +kernel
theorem dX9_where_26 : decode cX9_where 26 = .ok (.getfield 36, 3) := by decide +kernel
theorem dX9_where_29 : decode cX9_where 29 = .ok (.aload_n 0, 1) := by decide +kernel
theorem dX9_where_30 : decode cX9_where 30 = .ok (.getfield 22, 3) := by decide +kernel
theorem dX9_where_33 : decode cX9_where 33 = .ok (.iload_n 2, 1) := by decide +kernel
theorem dX9_where_34 : decode cX9_where 34 = .ok (.invokevirtual 264, 3) := by decide +kernel
theorem dX9_where_37 : decode cX9_where 37 = .ok (.pop, 1) := by decide +kernel
theorem dX9_where_38 : decode cX9_where 38 = .ok (.aload_n 0, 1) := by decide +kernel
theorem dX9_where_39 : decode cX9_where 39 = .ok (.getfield 36, 3) := by decide +kernel
theorem dX9_where_42 : decode cX9_where 42 = .ok (.aload_n 0, 1) := by decide +kernel
theorem dX9_where_43 : decode cX9_where 43 = .ok (.getfield 22, 3) := by decide +kernel
theorem dX9_where_46 : decode cX9_where 46 = .ok (.getfield 258, 3) := by decide +kernel
theorem dX9_where_49 : decode cX9_where 49 = .ok (.iload_n 1, 1) := by decide +kernel
theorem dX9_where_50 : decode cX9_where 50 = .ok (.iaload, 1) := by decide +kernel
theorem dX9_where_51 : decode cX9_where 51 = .ok (.invokevirtual 268, 3) := by decide +kernel
theorem dX9_where_54 : decode cX9_where 54 = .ok (.ireturn, 1) := by decide +kernel
set_option maxRecDepth 20000 in
theorem ggX9_gain_X9_isPurse : GoodIn wsX9_gain wsX9_isPurse := goodIn_r _ [10, 11, 12, 9, 13] (by decide +kernel) (by decide +kernel)
set_option maxRecDepth 20000 in
theorem gX9_gain_X9_isPurse : GoodIn wsX9_gain (va_wsS RX9 224 yX9_isPurse wsX9_isPurse) := goodIn_app (goodIn_of _ (by decide +kernel)) ggX9_gain_X9_isPurse
set_option maxRecDepth 20000 in
theorem ggX9_gain_X9_isCoin : GoodIn wsX9_gain wsX9_isCoin := goodIn_r _ [17, 18, 19, 20, 11, 12, 9, 13, 138, 139, 140, 141, 142, 143, 144, 145, 146, 147, 148, 149, 150, 151, 157, 158, 159, 160, 161, 162, 163, 164, 165, 166] (by decide +kernel) (by decide +kernel)
set_option maxRecDepth 20000 in
theorem gX9_gain_X9_isCoin : GoodIn wsX9_gain (wsV RX9 109 RX9 yX9_isCoin wsX9_isCoin) := goodIn_app (goodIn_of _ (by decide +kernel)) ggX9_gain_X9_isCoin
set_option maxRecDepth 20000 in
theorem ggX9_gain_X9_isYear : GoodIn wsX9_gain wsX9_isYear := goodIn_r _ [23, 11, 12, 9, 13] (by decide +kernel) (by decide +kernel)
set_option maxRecDepth 20000 in
theorem gX9_gain_X9_isYear : GoodIn wsX9_gain (va_wsS RX9 95 yX9_isYear wsX9_isYear) := goodIn_app (goodIn_of _ (by decide +kernel)) ggX9_gain_X9_isYear
set_option maxRecDepth 20000 in
theorem ggX9_gain_X9_layOut : GoodIn wsX9_gain wsX9_layOut := goodIn_r _ [27, 28, 3, 18, 2, 19, 29, 30, 31, 32, 33, 34, 35, 36, 37, 38, 39, 40, 41, 42, 43, 44, 45, 46, 47, 48, 49, 50, 51, 52, 53, 54, 55, 56, 57, 58, 59, 60, 61, 62, 63, 64, 65, 66, 67, 68, 69, 70, 71, 72, 73, 74, 75, 138, 139, 140, 141, 142, 143, 144, 145, 146, 147, 148, 149, 150, 151, 157, 158, 159, 160, 167, 168, 169, 170, 171, 172, 161, 162, 163, 164, 165, 166, 152, 153, 154, 155, 156] (by decide +kernel) (by decide +kernel)
set_option maxRecDepth 20000 in
theorem gX9_gain_X9_layOut : GoodIn wsX9_gain (wsV RX9 135 RX9 yX9_layOut wsX9_layOut) := goodIn_app (goodIn_of _ (by decide +kernel)) ggX9_gain_X9_layOut
set_option maxRecDepth 20000 in
theorem ggX9_gain_X9_layOutForged : GoodIn wsX9_gain wsX9_layOutForged := goodIn_r _ [79, 5, 18, 4, 19, 29, 30, 31, 32, 33, 34, 35, 36, 37, 38, 39, 40, 41, 42, 43, 44, 45, 46, 47, 48, 49, 50, 51, 52, 53, 54, 55, 56, 57, 58, 59, 60, 61, 62, 63, 64, 65, 66, 67, 68, 69, 70, 71, 72, 73, 74, 75, 138, 139, 140, 141, 142, 143, 144, 145, 146, 147, 148, 149, 150, 151, 157, 158, 159, 160, 167, 168, 169, 170, 171, 172, 161, 162, 163, 164, 165, 166, 152, 153, 154, 155, 156] (by decide +kernel) (by decide +kernel)
set_option maxRecDepth 20000 in
theorem gX9_gain_X9_layOutForged : GoodIn wsX9_gain (wsV RX9 272 RX9 yX9_layOutForged wsX9_layOutForged) := goodIn_app (goodIn_of _ (by decide +kernel)) ggX9_gain_X9_layOutForged
set_option maxRecDepth 20000 in
theorem ggX9_gain_X9_runDay : GoodIn wsX9_gain wsX9_runDay := goodIn_r _ [83, 18, 84, 85, 86, 87, 88, 9, 89, 90, 91, 92, 93, 94, 95, 70, 96, 72, 97, 98, 99, 100, 101, 102, 103, 104, 105, 106, 107, 108, 32, 109, 110, 111, 112, 113, 114, 115, 116, 117, 118, 119, 120, 121, 122, 123, 124, 125, 126, 127, 42, 128, 129, 130, 131, 132, 133, 138, 139, 140, 141, 142, 143, 144, 145, 146, 147, 148, 149, 150, 151, 157, 158, 159, 160, 173, 174, 175, 176, 152, 153, 154, 155, 156, 167, 168, 169, 170, 171, 172] (by decide +kernel) (by decide +kernel)
set_option maxRecDepth 20000 in
theorem gX9_gain_X9_runDay : GoodIn wsX9_gain (wsV RX9 264 RX9 yX9_runDay wsX9_runDay) := goodIn_app (goodIn_of _ (by decide +kernel)) ggX9_gain_X9_runDay
set_option maxRecDepth 20000 in
theorem ggX9_gain_X4_worthOf : GoodIn wsX9_gain wsX4_worthOf := goodIn_r _ [137, 34, 41, 167, 168, 169, 170, 171, 172] (by decide +kernel) (by decide +kernel)
set_option maxRecDepth 20000 in
theorem gX9_gain_X4_worthOf : GoodIn wsX9_gain (wsV RX9 148 RX4 yX4_worthOf wsX4_worthOf) := goodIn_app (goodIn_of _ (by decide +kernel)) ggX9_gain_X4_worthOf
theorem dX9_gain_0 : decode cX9_gain 0 = .ok (.iload_n 1, 1) := by decide +kernel
theorem dX9_gain_1 : decode cX9_gain 1 = .ok (.invokestatic 224, 3) := by decide +kernel
theorem dX9_gain_4 : decode cX9_gain 4 = .ok (.ifCond .eq 18, 3) := by decide +kernel
theorem dX9_gain_7 : decode cX9_gain 7 = .ok (.aload_n 0, 1) := by decide +kernel
theorem dX9_gain_8 : decode cX9_gain 8 = .ok (.iload_n 2, 1) := by decide +kernel
theorem dX9_gain_9 : decode cX9_gain 9 = .ok (.invokevirtual 109, 3) := by decide +kernel
theorem dX9_gain_12 : decode cX9_gain 12 = .ok (.ifCond .eq 10, 3) := by decide +kernel
theorem dX9_gain_15 : decode cX9_gain 15 = .ok (.iload_n 3, 1) := by decide +kernel
theorem dX9_gain_16 : decode cX9_gain 16 = .ok (.invokestatic 95, 3) := by decide +kernel
theorem dX9_gain_19 : decode cX9_gain 19 = .ok (.ifCond .ne 7, 3) := by decide +kernel
theorem dX9_gain_22 : decode cX9_gain 22 = .ok (.ldc_w 271, 3) := by decide +kernel
theorem dX9_gain_25 : decode cX9_gain 25 = .ok (.ireturn, 1) := by decide +kernel
theorem dX9_gain_26 : decode cX9_gain 26 = .ok (.aload_n 0, 1) := by decide +kernel
theorem dX9_gain_27 : decode cX9_gain 27 = .ok (.invokevirtual 135, 3) := by decide +kernel
theorem dX9_gain_30 : decode cX9_gain 30 = .ok (.aload_n 0, 1) := by decide +kernel
theorem dX9_gain_31 : decode cX9_gain 31 = .ok (.iload_n 2, 1) := by decide +kernel
theorem dX9_gain_32 : decode cX9_gain 32 = .ok (.iload_n 3, 1) := by decide +kernel
theorem dX9_gain_33 : decode cX9_gain 33 = .ok (.invokevirtual 272, 3) := by decide +kernel
theorem dX9_gain_36 : decode cX9_gain 36 = .ok (.aload_n 0, 1) := by decide +kernel
theorem dX9_gain_37 : decode cX9_gain 37 = .ok (.aload_n 0, 1) := by decide +kernel
theorem dX9_gain_38 : decode cX9_gain 38 = .ok (.getfield 36, 3) := by decide +kernel
theorem dX9_gain_41 : decode cX9_gain 41 = .ok (.aload_n 0, 1) := by decide +kernel
theorem dX9_gain_42 : decode cX9_gain 42 = .ok (.getfield 22, 3) := by decide +kernel
theorem dX9_gain_45 : decode cX9_gain 45 = .ok (.iconst 1, 1) := by decide +kernel
theorem dX9_gain_46 : decode cX9_gain 46 = .ok (.invokevirtual 264, 3) := by decide +kernel
theorem dX9_gain_49 : decode cX9_gain 49 = .ok (.pop, 1) := by decide +kernel
theorem dX9_gain_50 : decode cX9_gain 50 = .ok (.aload_n 0, 1) := by decide +kernel
theorem dX9_gain_51 : decode cX9_gain 51 = .ok (.aload_n 0, 1) := by decide +kernel
theorem dX9_gain_52 : decode cX9_gain 52 = .ok (.getfield 40, 3) := by decide +kernel
theorem dX9_gain_55 : decode cX9_gain 55 = .ok (.aload_n 0, 1) := by decide +kernel
theorem dX9_gain_56 : decode cX9_gain 56 = .ok (.getfield 30, 3) := by decide +kernel
theorem dX9_gain_59 : decode cX9_gain 59 = .ok (.iconst 1, 1) := by decide +kernel
theorem dX9_gain_60 : decode cX9_gain 60 = .ok (.invokevirtual 264, 3) := by decide +kernel
theorem dX9_gain_63 : decode cX9_gain 63 = .ok (.pop, 1) := by decide +kernel
theorem dX9_gain_64 : decode cX9_gain 64 = .ok (.aload_n 0, 1) := by decide +kernel
theorem dX9_gain_65 : decode cX9_gain 65 = .ok (.getfield 30, 3) := by decide +kernel
theorem dX9_gain_68 : decode cX9_gain 68 = .ok (.aload_n 0, 1) := by decide +kernel
theorem dX9_gain_69 : decode cX9_gain 69 = .ok (.getfield 40, 3) := by decide +kernel
theorem dX9_gain_72 : decode cX9_gain 72 = .ok (.getfield 138, 3) := by decide +kernel
theorem dX9_gain_75 : decode cX9_gain 75 = .ok (.iload_n 1, 1) := by decide +kernel
theorem dX9_gain_76 : decode cX9_gain 76 = .ok (.laload, 1) := by decide +kernel
theorem dX9_gain_77 : decode cX9_gain 77 = .ok (.invokevirtual 148, 3) := by decide +kernel
theorem dX9_gain_80 : decode cX9_gain 80 = .ok (.aload_n 0, 1) := by decide +kernel
theorem dX9_gain_81 : decode cX9_gain 81 = .ok (.getfield 22, 3) := by decide +kernel
theorem dX9_gain_84 : decode cX9_gain 84 = .ok (.aload_n 0, 1) := by decide +kernel
theorem dX9_gain_85 : decode cX9_gain 85 = .ok (.getfield 36, 3) := by decide +kernel
theorem dX9_gain_88 : decode cX9_gain 88 = .ok (.getfield 138, 3) := by decide +kernel
theorem dX9_gain_91 : decode cX9_gain 91 = .ok (.iload_n 1, 1) := by decide +kernel
theorem dX9_gain_92 : decode cX9_gain 92 = .ok (.laload, 1) := by decide +kernel
theorem dX9_gain_93 : decode cX9_gain 93 = .ok (.invokevirtual 148, 3) := by decide +kernel
theorem dX9_gain_96 : decode cX9_gain 96 = .ok (.isub, 1) := by decide +kernel
theorem dX9_gain_97 : decode cX9_gain 97 = .ok (.ireturn, 1) := by decide +kernel
set_option maxRecDepth 20000 in
theorem ggX9_shows_X9_isCoin : GoodIn wsX9_shows wsX9_isCoin := goodIn_r _ [12, 1, 13, 14, 15, 16, 11, 17, 134, 135, 136, 137, 138, 139, 140, 141, 142, 143, 144, 145, 146, 147, 148, 149, 150, 151, 156, 157, 158, 159, 160, 161] (by decide +kernel) (by decide +kernel)
set_option maxRecDepth 20000 in
theorem gX9_shows_X9_isCoin : GoodIn wsX9_shows (wsV RX9 109 RX9 yX9_isCoin wsX9_isCoin) := goodIn_app (goodIn_of _ (by decide +kernel)) ggX9_shows_X9_isCoin
set_option maxRecDepth 20000 in
theorem ggX9_shows_X9_isYear : GoodIn wsX9_shows wsX9_isYear := goodIn_r _ [20, 15, 16, 11, 17] (by decide +kernel) (by decide +kernel)
set_option maxRecDepth 20000 in
theorem gX9_shows_X9_isYear : GoodIn wsX9_shows (va_wsS RX9 95 yX9_isYear wsX9_isYear) := goodIn_app (goodIn_of _ (by decide +kernel)) ggX9_shows_X9_isYear
set_option maxRecDepth 20000 in
theorem ggX9_shows_X9_layOut : GoodIn wsX9_shows wsX9_layOut := goodIn_r _ [24, 25, 5, 1, 4, 13, 26, 27, 28, 29, 30, 31, 32, 33, 34, 35, 36, 37, 38, 39, 40, 41, 42, 43, 44, 45, 46, 47, 48, 49, 50, 51, 52, 53, 54, 55, 56, 57, 58, 59, 60, 61, 62, 63, 64, 65, 66, 67, 68, 69, 70, 71, 72, 134, 135, 136, 137, 138, 139, 140, 141, 142, 143, 144, 145, 146, 147, 148, 149, 150, 151, 162, 163, 164, 165, 166, 167, 156, 157, 158, 159, 160, 161, 168, 169, 170, 171, 172] (by decide +kernel) (by decide +kernel)
set_option maxRecDepth 20000 in
theorem gX9_shows_X9_layOut : GoodIn wsX9_shows (wsV RX9 135 RX9 yX9_layOut wsX9_layOut) := goodIn_app (goodIn_of _ (by decide +kernel)) ggX9_shows_X9_layOut
set_option maxRecDepth 20000 in
theorem ggX9_shows_X9_layOutForged : GoodIn wsX9_shows wsX9_layOutForged := goodIn_r _ [76, 7, 1, 6, 13, 26, 27, 28, 29, 30, 31, 32, 33, 34, 35, 36, 37, 38, 39, 40, 41, 42, 43, 44, 45, 46, 47, 48, 49, 50, 51, 52, 53, 54, 55, 56, 57, 58, 59, 60, 61, 62, 63, 64, 65, 66, 67, 68, 69, 70, 71, 72, 134, 135, 136, 137, 138, 139, 140, 141, 142, 143, 144, 145, 146, 147, 148, 149, 150, 151, 162, 163, 164, 165, 166, 167, 156, 157, 158, 159, 160, 161, 168, 169, 170, 171, 172] (by decide +kernel) (by decide +kernel)
set_option maxRecDepth 20000 in
theorem gX9_shows_X9_layOutForged : GoodIn wsX9_shows (wsV RX9 272 RX9 yX9_layOutForged wsX9_layOutForged) := goodIn_app (goodIn_of _ (by decide +kernel)) ggX9_shows_X9_layOutForged
set_option maxRecDepth 20000 in
theorem ggX9_shows_X9_coinsPaid : GoodIn wsX9_shows wsX9_coinsPaid := goodIn_r _ [80, 81, 82, 83, 84, 11, 85, 1, 2, 86, 87, 88, 89, 90, 91, 67, 92, 69, 93, 94, 95, 96, 97, 98, 99, 100, 101, 102, 103, 104, 29, 105, 106, 107, 108, 109, 110, 111, 112, 113, 114, 115, 116, 117, 118, 119, 120, 121, 122, 123, 39, 124, 125, 126, 127, 128, 129, 130, 131, 132, 133, 31, 36, 168, 169, 170, 171, 172, 134, 135, 136, 137, 138, 139, 140, 141, 142, 143, 144, 145, 146, 147, 148, 149, 150, 151, 152, 153, 154, 155, 162, 163, 164, 165, 166, 167] (by decide +kernel) (by decide +kernel)
set_option maxRecDepth 20000 in
theorem gX9_shows_X9_coinsPaid : GoodIn wsX9_shows (wsV RX9 276 RX9 yX9_coinsPaid wsX9_coinsPaid) := goodIn_app (goodIn_of _ (by decide +kernel)) ggX9_shows_X9_coinsPaid
theorem dX9_shows_0 : decode cX9_shows 0 = .ok (.aload_n 0, 1) := by decide +kernel
theorem dX9_shows_1 : decode cX9_shows 1 = .ok (.iload_n 1, 1) := by decide +kernel
theorem dX9_shows_2 : decode cX9_shows 2 = .ok (.invokevirtual 109, 3) := by decide +kernel
theorem dX9_shows_5 : decode cX9_shows 5 = .ok (.ifCond .eq 10, 3) := by decide +kernel
theorem dX9_shows_8 : decode cX9_shows 8 = .ok (.iload_n 2, 1) := by decide +kernel
theorem dX9_shows_9 : decode cX9_shows 9 = .ok (.invokestatic 95, 3) := by decide +kernel
theorem dX9_shows_12 : decode cX9_shows 12 = .ok (.ifCond .ne 5, 3) := by decide +kernel
theorem dX9_shows_15 : decode cX9_shows 15 = .ok (.iconst (-1), 1) := by decide +kernel
theorem dX9_shows_16 : decode cX9_shows 16 = .ok (.ireturn, 1) := by decide +kernel
theorem dX9_shows_17 : decode cX9_shows 17 = .ok (.aload_n 0, 1) := by decide +kernel
theorem dX9_shows_18 : decode cX9_shows 18 = .ok (.invokevirtual 135, 3) := by decide +kernel
theorem dX9_shows_21 : decode cX9_shows 21 = .ok (.aload_n 0, 1) := by decide +kernel
theorem dX9_shows_22 : decode cX9_shows 22 = .ok (.iload_n 1, 1) := by decide +kernel
theorem dX9_shows_23 : decode cX9_shows 23 = .ok (.iload_n 2, 1) := by decide +kernel
theorem dX9_shows_24 : decode cX9_shows 24 = .ok (.invokevirtual 272, 3) := by decide +kernel
theorem dX9_shows_27 : decode cX9_shows 27 = .ok (.iconst 0, 1) := by decide +kernel
theorem dX9_shows_28 : decode cX9_shows 28 = .ok (.istore_n 3, 1) := by decide +kernel
theorem dX9_shows_29 : decode cX9_shows 29 = .ok (.iload_n 3, 1) := by decide +kernel
theorem dX9_shows_30 : decode cX9_shows 30 = .ok (.aload_n 0, 1) := by decide +kernel
theorem dX9_shows_31 : decode cX9_shows 31 = .ok (.getfield 10, 3) := by decide +kernel
theorem dX9_shows_34 : decode cX9_shows 34 = .ok (.getfield 187, 3) := by decide +kernel
theorem dX9_shows_37 : decode cX9_shows 37 = .ok (.getfield 193, 3) := by decide +kernel
theorem dX9_shows_40 : decode cX9_shows 40 = .ok (.if_icmp .ge 59, 3) := by decide +kernel
theorem dX9_shows_43 : decode cX9_shows 43 = .ok (.aload_n 0, 1) := by decide +kernel
theorem dX9_shows_44 : decode cX9_shows 44 = .ok (.aload_n 0, 1) := by decide +kernel
theorem dX9_shows_45 : decode cX9_shows 45 = .ok (.getfield 36, 3) := by decide +kernel
theorem dX9_shows_48 : decode cX9_shows 48 = .ok (.aload_n 0, 1) := by decide +kernel
theorem dX9_shows_49 : decode cX9_shows 49 = .ok (.getfield 22, 3) := by decide +kernel
theorem dX9_shows_52 : decode cX9_shows 52 = .ok (.iload_n 3, 1) := by decide +kernel
theorem dX9_shows_53 : decode cX9_shows 53 = .ok (.invokevirtual 276, 3) := by decide +kernel
theorem dX9_shows_56 : decode cX9_shows 56 = .ok (.lstore 4, 2) := by decide +kernel
theorem dX9_shows_58 : decode cX9_shows 58 = .ok (.aload_n 0, 1) := by decide +kernel
theorem dX9_shows_59 : decode cX9_shows 59 = .ok (.aload_n 0, 1) := by decide +kernel
theorem dX9_shows_60 : decode cX9_shows 60 = .ok (.getfield 40, 3) := by decide +kernel
theorem dX9_shows_63 : decode cX9_shows 63 = .ok (.aload_n 0, 1) := by decide +kernel
theorem dX9_shows_64 : decode cX9_shows 64 = .ok (.getfield 30, 3) := by decide +kernel
theorem dX9_shows_67 : decode cX9_shows 67 = .ok (.iload_n 3, 1) := by decide +kernel
theorem dX9_shows_68 : decode cX9_shows 68 = .ok (.invokevirtual 276, 3) := by decide +kernel
theorem dX9_shows_71 : decode cX9_shows 71 = .ok (.lstore 6, 2) := by decide +kernel
theorem dX9_shows_73 : decode cX9_shows 73 = .ok (.lload 4, 2) := by decide +kernel
theorem dX9_shows_75 : decode cX9_shows 75 = .ok (.lload 6, 2) := by decide +kernel
theorem dX9_shows_77 : decode cX9_shows 77 = .ok (.lcmp, 1) := by decide +kernel
theorem dX9_shows_78 : decode cX9_shows 78 = .ok (.ifCond .eq 5, 3) := by decide +kernel
theorem dX9_shows_81 : decode cX9_shows 81 = .ok (.iload_n 3, 1) := by decide +kernel
theorem dX9_shows_82 : decode cX9_shows 82 = .ok (.ireturn, 1) := by decide +kernel
theorem dX9_shows_83 : decode cX9_shows 83 = .ok (.lload 4, 2) := by decide +kernel
theorem dX9_shows_85 : decode cX9_shows 85 = .ok (.lconst 0, 1) := by decide +kernel
theorem dX9_shows_86 : decode cX9_shows 86 = .ok (.lcmp, 1) := by decide +kernel
theorem dX9_shows_87 : decode cX9_shows 87 = .ok (.ifCond .ne 6, 3) := by decide +kernel
theorem dX9_shows_90 : decode cX9_shows 90 = .ok (.bipush (-4), 2) := by decide +kernel
theorem dX9_shows_92 : decode cX9_shows 92 = .ok (.ireturn, 1) := by decide +kernel
theorem dX9_shows_93 : decode cX9_shows 93 = .ok (.iinc 3 1, 3) := by decide +kernel
theorem dX9_shows_96 : decode cX9_shows 96 = .ok (.goto (-67), 3) := by decide +kernel
theorem dX9_shows_99 : decode cX9_shows 99 = .ok (.bipush (-4), 2) := by decide +kernel
theorem dX9_shows_101 : decode cX9_shows 101 = .ok (.ireturn, 1) := by decide +kernel
set_option maxRecDepth 20000 in
theorem ggX9_image_X8_copyFrom : GoodIn wsX9_image wsX8_copyFrom := goodIn_r _ [8, 9, 10, 11, 12, 13, 14, 15, 16, 17, 18, 19, 20, 21, 22, 23, 24, 25, 26, 27, 28, 29, 30, 31, 32, 33, 34, 35, 36, 37, 38, 39, 40, 41, 42, 43, 44, 59, 60, 61, 62, 63, 64, 65, 66, 67, 68, 69, 70, 71, 72] (by decide +kernel) (by decide +kernel)
set_option maxRecDepth 20000 in
theorem gX9_image_X8_copyFrom : GoodIn wsX9_image (wsV RX9 280 RX8 yX8_copyFrom wsX8_copyFrom) := goodIn_app (goodIn_of _ (by decide +kernel)) ggX9_image_X8_copyFrom
theorem dX9_image_0 : decode cX9_image 0 = .ok (.aload_n 0, 1) := by decide +kernel
theorem dX9_image_1 : decode cX9_image 1 = .ok (.getfield 16, 3) := by decide +kernel
theorem dX9_image_4 : decode cX9_image 4 = .ok (.aload_n 0, 1) := by decide +kernel
theorem dX9_image_5 : decode cX9_image 5 = .ok (.getfield 10, 3) := by decide +kernel
theorem dX9_image_8 : decode cX9_image 8 = .ok (.invokevirtual 280, 3) := by decide +kernel
theorem dX9_image_11 : decode cX9_image 11 = .ok (.aload_n 0, 1) := by decide +kernel
theorem dX9_image_12 : decode cX9_image 12 = .ok (.iconst 1, 1) := by decide +kernel
theorem dX9_image_13 : decode cX9_image 13 = .ok (.putfield 283, 3) := by decide +kernel
theorem dX9_image_16 : decode cX9_image 16 = .ok (.iconst 1, 1) := by decide +kernel
theorem dX9_image_17 : decode cX9_image 17 = .ok (.ireturn, 1) := by decide +kernel
set_option maxRecDepth 20000 in
theorem ggX9_restore_X8_copyFrom : GoodIn wsX9_restore wsX8_copyFrom := goodIn_r _ [9, 10, 11, 12, 13, 14, 15, 16, 17, 18, 19, 20, 21, 22, 23, 24, 25, 26, 27, 28, 29, 30, 31, 32, 33, 34, 35, 36, 37, 38, 39, 40, 41, 42, 43, 44, 45, 60, 61, 62, 63, 64, 65, 66, 67, 68, 69, 70, 71, 72, 73] (by decide +kernel) (by decide +kernel)
set_option maxRecDepth 20000 in
theorem gX9_restore_X8_copyFrom : GoodIn wsX9_restore (wsV RX9 280 RX8 yX8_copyFrom wsX8_copyFrom) := goodIn_app (goodIn_of _ (by decide +kernel)) ggX9_restore_X8_copyFrom
theorem dX9_restore_0 : decode cX9_restore 0 = .ok (.aload_n 0, 1) := by decide +kernel
theorem dX9_restore_1 : decode cX9_restore 1 = .ok (.getfield 283, 3) := by decide +kernel
theorem dX9_restore_4 : decode cX9_restore 4 = .ok (.ifCond .ne 6, 3) := by decide +kernel
theorem dX9_restore_7 : decode cX9_restore 7 = .ok (.bipush (-4), 2) := by decide +kernel
theorem dX9_restore_9 : decode cX9_restore 9 = .ok (.ireturn, 1) := by decide +kernel
theorem dX9_restore_10 : decode cX9_restore 10 = .ok (.aload_n 0, 1) := by decide +kernel
theorem dX9_restore_11 : decode cX9_restore 11 = .ok (.getfield 10, 3) := by decide +kernel
theorem dX9_restore_14 : decode cX9_restore 14 = .ok (.aload_n 0, 1) := by decide +kernel
theorem dX9_restore_15 : decode cX9_restore 15 = .ok (.getfield 16, 3) := by decide +kernel
theorem dX9_restore_18 : decode cX9_restore 18 = .ok (.invokevirtual 280, 3) := by decide +kernel
theorem dX9_restore_21 : decode cX9_restore 21 = .ok (.aload_n 0, 1) := by decide +kernel
theorem dX9_restore_22 : decode cX9_restore 22 = .ok (.iconst 1, 1) := by decide +kernel
theorem dX9_restore_23 : decode cX9_restore 23 = .ok (.putfield 26, 3) := by decide +kernel
theorem dX9_restore_26 : decode cX9_restore 26 = .ok (.iconst 1, 1) := by decide +kernel
theorem dX9_restore_27 : decode cX9_restore 27 = .ok (.ireturn, 1) := by decide +kernel
set_option maxRecDepth 20000 in
theorem ggX9_seen_X9_isSheet : GoodIn wsX9_seen wsX9_isSheet := goodIn_r _ [9, 10, 11, 8, 12] (by decide +kernel) (by decide +kernel)
set_option maxRecDepth 20000 in
theorem gX9_seen_X9_isSheet : GoodIn wsX9_seen (va_wsS RX9 286 yX9_isSheet wsX9_isSheet) := goodIn_app (goodIn_of _ (by decide +kernel)) ggX9_seen_X9_isSheet
set_option maxRecDepth 20000 in
theorem ggX9_seen_X9_isLane : GoodIn wsX9_seen wsX9_isLane := goodIn_r _ [15, 10, 11, 8, 12] (by decide +kernel) (by decide +kernel)
set_option maxRecDepth 20000 in
theorem gX9_seen_X9_isLane : GoodIn wsX9_seen (va_wsS RX9 289 yX9_isLane wsX9_isLane) := goodIn_app (goodIn_of _ (by decide +kernel)) ggX9_seen_X9_isLane
set_option maxRecDepth 20000 in
theorem ggX9_seen_X9_isWithin : GoodIn wsX9_seen wsX9_isWithin := goodIn_r _ [12] (by decide +kernel) (by decide +kernel)
set_option maxRecDepth 20000 in
theorem gX9_seen_X9_isWithin : GoodIn wsX9_seen (va_wsS RX9 91 yX9_isWithin wsX9_isWithin) := goodIn_app (goodIn_of _ (by decide +kernel)) ggX9_seen_X9_isWithin
set_option maxRecDepth 20000 in
theorem ggX9_seen_X9_isSum : GoodIn wsX9_seen wsX9_isSum := goodIn_r _ [18, 10, 11, 8, 12] (by decide +kernel) (by decide +kernel)
set_option maxRecDepth 20000 in
theorem gX9_seen_X9_isSum : GoodIn wsX9_seen (va_wsS RX9 239 yX9_isSum wsX9_isSum) := goodIn_app (goodIn_of _ (by decide +kernel)) ggX9_seen_X9_isSum
set_option maxRecDepth 20000 in
theorem ggX9_seen_X5_refusal : GoodIn wsX9_seen wsX5_refusal := goodIn_r _ [23, 24, 25, 74, 75, 76] (by decide +kernel) (by decide +kernel)
set_option maxRecDepth 20000 in
theorem gX9_seen_X5_refusal : GoodIn wsX9_seen (wsV RX9 292 RX5 yX5_refusal wsX5_refusal) := goodIn_app (goodIn_of _ (by decide +kernel)) ggX9_seen_X5_refusal
set_option maxRecDepth 20000 in
theorem ggX9_seen_X5_read : GoodIn wsX9_seen wsX5_read := goodIn_r _ [29, 30, 74, 75, 76] (by decide +kernel) (by decide +kernel)
set_option maxRecDepth 20000 in
theorem gX9_seen_X5_read : GoodIn wsX9_seen (wsV RX9 296 RX5 yX5_read wsX5_read) := goodIn_app (goodIn_of _ (by decide +kernel)) ggX9_seen_X5_read
set_option maxRecDepth 20000 in
theorem ggX9_seen_X3_countOrders : GoodIn wsX9_seen wsX3_countOrders := goodIn_r _ [35, 36, 37, 38, 39, 40, 41, 42, 43, 34, 44, 45, 46, 47, 48, 49, 50, 51, 66, 67, 68, 69, 70, 71, 72, 73] (by decide +kernel) (by decide +kernel)
set_option maxRecDepth 20000 in
theorem gX9_seen_X3_countOrders : GoodIn wsX9_seen (wsV RX9 303 RX3 yX3_countOrders wsX3_countOrders) := goodIn_app (goodIn_of _ (by decide +kernel)) ggX9_seen_X3_countOrders
theorem dX9_seen_0 : decode cX9_seen 0 = .ok (.iload_n 1, 1) := by decide +kernel
theorem dX9_seen_1 : decode cX9_seen 1 = .ok (.invokestatic 286, 3) := by decide +kernel
