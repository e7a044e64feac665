theorem dX10_runOnce_15 : decode cX10_runOnce 15 = .ok (.iinc 2 1, 3) := by decide +kernel
theorem dX10_runOnce_18 : decode cX10_runOnce 18 = .ok (.goto (-16), 3) := by decide +kernel
theorem dX10_runOnce_21 : decode cX10_runOnce 21 = .ok (.aload_n 0, 1) := by decide +kernel
theorem dX10_runOnce_22 : decode cX10_runOnce 22 = .ok (.invokevirtual 224, 3) := by decide +kernel
theorem dX10_runOnce_25 : decode cX10_runOnce 25 = .ok (.aload_n 0, 1) := by decide +kernel
theorem dX10_runOnce_26 : decode cX10_runOnce 26 = .ok (.iconst 1, 1) := by decide +kernel
theorem dX10_runOnce_27 : decode cX10_runOnce 27 = .ok (.invokevirtual 245, 3) := by decide +kernel
theorem dX10_runOnce_30 : decode cX10_runOnce 30 = .ok (.pop, 1) := by decide +kernel
theorem dX10_runOnce_31 : decode cX10_runOnce 31 = .ok (.aload_n 0, 1) := by decide +kernel
theorem dX10_runOnce_32 : decode cX10_runOnce 32 = .ok (.iload_n 1, 1) := by decide +kernel
theorem dX10_runOnce_33 : decode cX10_runOnce 33 = .ok (.invokevirtual 129, 3) := by decide +kernel
theorem dX10_runOnce_36 : decode cX10_runOnce 36 = .ok (.istore_n 2, 1) := by decide +kernel
theorem dX10_runOnce_37 : decode cX10_runOnce 37 = .ok (.aload_n 0, 1) := by decide +kernel
theorem dX10_runOnce_38 : decode cX10_runOnce 38 = .ok (.invokevirtual 227, 3) := by decide +kernel
theorem dX10_runOnce_41 : decode cX10_runOnce 41 = .ok (.iload_n 2, 1) := by decide +kernel
theorem dX10_runOnce_42 : decode cX10_runOnce 42 = .ok (.ireturn, 1) := by decide +kernel
set_option maxRecDepth 20000 in
theorem ggX10_gain_X10_isPurse : GoodIn wsX10_gain wsX10_isPurse := goodIn_r _ [6, 7, 8, 9, 5, 10] (by decide +kernel) (by decide +kernel)
set_option maxRecDepth 20000 in
theorem gX10_gain_X10_isPurse : GoodIn wsX10_gain (va_wsS RX10 166 yX10_isPurse wsX10_isPurse) := goodIn_app (goodIn_of _ (by decide +kernel)) ggX10_gain_X10_isPurse
set_option maxRecDepth 20000 in
theorem ggX10_gain_X10_isCoin : GoodIn wsX10_gain wsX10_isCoin := goodIn_r _ [14, 15, 8, 9, 5, 10, 88, 89, 90, 91, 92, 93, 94, 95, 96, 97, 98, 99, 100, 101, 102, 103, 104, 105, 106, 107, 108, 109, 110, 111, 112, 113, 114, 115, 116, 117, 118, 119, 120, 121, 122] (by decide +kernel) (by decide +kernel)
set_option maxRecDepth 20000 in
theorem gX10_gain_X10_isCoin : GoodIn wsX10_gain (wsV RX10 100 RX10 yX10_isCoin wsX10_isCoin) := goodIn_app (goodIn_of _ (by decide +kernel)) ggX10_gain_X10_isCoin
set_option maxRecDepth 20000 in
theorem ggX10_gain_X10_in : GoodIn wsX10_gain wsX10_in := goodIn_r _ [10] (by decide +kernel) (by decide +kernel)
set_option maxRecDepth 20000 in
theorem gX10_gain_X10_in : GoodIn wsX10_gain (va_wsS RX10 78 yX10_in wsX10_in) := goodIn_app (goodIn_of _ (by decide +kernel)) ggX10_gain_X10_in
set_option maxRecDepth 20000 in
theorem ggX10_gain_X10_runForged : GoodIn wsX10_gain wsX10_runForged := goodIn_r _ [19, 20, 21, 22, 23, 24, 5, 25, 26, 27, 28, 29, 30, 15, 31, 32, 33, 34, 35, 36, 37, 38, 39, 40, 41, 42, 43, 44, 45, 46, 47, 48, 49, 50, 51, 52, 53, 54, 55, 56, 57, 58, 59, 60, 61, 62, 63, 64, 65, 66, 67, 68, 69, 70, 71, 72, 73, 74, 75, 76, 77, 78, 79, 80, 81, 82, 83, 84, 85, 86, 87, 88, 89, 90, 91, 92, 93, 94, 95, 96, 97, 98, 99, 100, 101, 102, 103, 104, 105, 106, 107, 108, 109, 110, 111, 112, 113, 114, 115, 116, 117, 118, 119, 120, 121, 122] (by decide +kernel) (by decide +kernel)
set_option maxRecDepth 20000 in
theorem gX10_gain_X10_runForged : GoodIn wsX10_gain (wsV RX10 252 RX10 yX10_runForged wsX10_runForged) := goodIn_app (goodIn_of _ (by decide +kernel)) ggX10_gain_X10_runForged
set_option maxRecDepth 20000 in
theorem ggX10_gain_X10_runOnce : GoodIn wsX10_gain wsX10_runOnce := goodIn_r _ [25, 26, 27, 28, 29, 5, 30, 15, 31, 32, 33, 34, 35, 36, 37, 38, 39, 40, 41, 42, 43, 44, 45, 46, 47, 48, 49, 50, 51, 52, 53, 54, 55, 56, 57, 58, 59, 60, 61, 62, 63, 64, 65, 66, 67, 68, 69, 70, 71, 20, 21, 72, 73, 74, 75, 76, 77, 78, 79, 80, 81, 82, 83, 84, 85, 86, 87, 88, 89, 90, 91, 92, 93, 94, 95, 96, 97, 98, 99, 100, 101, 102, 103, 104, 105, 106, 107, 108, 109, 110, 111, 112, 113, 114, 115, 116, 117, 118, 119, 120, 121, 122] (by decide +kernel) (by decide +kernel)
set_option maxRecDepth 20000 in
theorem gX10_gain_X10_runOnce : GoodIn wsX10_gain (wsV RX10 248 RX10 yX10_runOnce wsX10_runOnce) := goodIn_app (goodIn_of _ (by decide +kernel)) ggX10_gain_X10_runOnce
theorem dX10_gain_0 : decode cX10_gain 0 = .ok (.iload_n 1, 1) := by decide +kernel
theorem dX10_gain_1 : decode cX10_gain 1 = .ok (.invokestatic 166, 3) := by decide +kernel
theorem dX10_gain_4 : decode cX10_gain 4 = .ok (.ifCond .eq 23, 3) := by decide +kernel
theorem dX10_gain_7 : decode cX10_gain 7 = .ok (.aload_n 0, 1) := by decide +kernel
theorem dX10_gain_8 : decode cX10_gain 8 = .ok (.iload_n 2, 1) := by decide +kernel
theorem dX10_gain_9 : decode cX10_gain 9 = .ok (.invokevirtual 100, 3) := by decide +kernel
theorem dX10_gain_12 : decode cX10_gain 12 = .ok (.ifCond .eq 15, 3) := by decide +kernel
theorem dX10_gain_15 : decode cX10_gain 15 = .ok (.iload_n 3, 1) := by decide +kernel
theorem dX10_gain_16 : decode cX10_gain 16 = .ok (.i2l, 1) := by decide +kernel
theorem dX10_gain_17 : decode cX10_gain 17 = .ok (.lconst 0, 1) := by decide +kernel
theorem dX10_gain_18 : decode cX10_gain 18 = .ok (.ldc2_w 94, 3) := by decide +kernel
theorem dX10_gain_21 : decode cX10_gain 21 = .ok (.invokestatic 78, 3) := by decide +kernel
theorem dX10_gain_24 : decode cX10_gain 24 = .ok (.ifCond .ne 6, 3) := by decide +kernel
theorem dX10_gain_27 : decode cX10_gain 27 = .ok (.ldc 251, 2) := by decide +kernel
theorem dX10_gain_29 : decode cX10_gain 29 = .ok (.ireturn, 1) := by decide +kernel
theorem dX10_gain_30 : decode cX10_gain 30 = .ok (.aload_n 0, 1) := by decide +kernel
theorem dX10_gain_31 : decode cX10_gain 31 = .ok (.iload_n 2, 1) := by decide +kernel
theorem dX10_gain_32 : decode cX10_gain 32 = .ok (.iload_n 3, 1) := by decide +kernel
theorem dX10_gain_33 : decode cX10_gain 33 = .ok (.iload_n 1, 1) := by decide +kernel
theorem dX10_gain_34 : decode cX10_gain 34 = .ok (.invokevirtual 252, 3) := by decide +kernel
theorem dX10_gain_37 : decode cX10_gain 37 = .ok (.aload_n 0, 1) := by decide +kernel
theorem dX10_gain_38 : decode cX10_gain 38 = .ok (.iload_n 1, 1) := by decide +kernel
theorem dX10_gain_39 : decode cX10_gain 39 = .ok (.invokevirtual 248, 3) := by decide +kernel
theorem dX10_gain_42 : decode cX10_gain 42 = .ok (.isub, 1) := by decide +kernel
theorem dX10_gain_43 : decode cX10_gain 43 = .ok (.ireturn, 1) := by decide +kernel
set_option maxRecDepth 20000 in
theorem ggX10_shows_X10_isCoin : GoodIn wsX10_shows wsX10_isCoin := goodIn_r _ [9, 10, 11, 12, 8, 13, 84, 85, 86, 87, 88, 89, 90, 91, 92, 93, 94, 95, 96, 97, 98, 99, 100, 101, 102, 103, 104, 105, 106, 107, 108, 109, 110, 111, 112, 113, 114, 115, 116, 117, 118] (by decide +kernel) (by decide +kernel)
set_option maxRecDepth 20000 in
theorem gX10_shows_X10_isCoin : GoodIn wsX10_shows (wsV RX10 100 RX10 yX10_isCoin wsX10_isCoin) := goodIn_app (goodIn_of _ (by decide +kernel)) ggX10_shows_X10_isCoin
set_option maxRecDepth 20000 in
theorem ggX10_shows_X10_in : GoodIn wsX10_shows wsX10_in := goodIn_r _ [13] (by decide +kernel) (by decide +kernel)
set_option maxRecDepth 20000 in
theorem gX10_shows_X10_in : GoodIn wsX10_shows (va_wsS RX10 78 yX10_in wsX10_in) := goodIn_app (goodIn_of _ (by decide +kernel)) ggX10_shows_X10_in
set_option maxRecDepth 20000 in
theorem ggX10_shows_X10_runForged : GoodIn wsX10_shows wsX10_runForged := goodIn_r _ [17, 18, 19, 20, 21, 22, 8, 23, 3, 24, 25, 26, 27, 10, 28, 29, 30, 31, 32, 33, 4, 34, 35, 36, 37, 38, 39, 40, 41, 42, 43, 44, 45, 46, 47, 48, 49, 50, 51, 52, 53, 54, 55, 56, 57, 58, 59, 60, 61, 62, 63, 64, 65, 66, 67, 68, 69, 70, 71, 72, 73, 74, 75, 76, 77, 78, 79, 80, 81, 82, 83, 84, 85, 86, 87, 88, 89, 90, 91, 92, 93, 94, 95, 96, 97, 98, 99, 100, 101, 102, 103, 104, 105, 106, 107, 108, 109, 110, 111, 112, 113, 114, 115, 116, 117, 118] (by decide +kernel) (by decide +kernel)
set_option maxRecDepth 20000 in
theorem gX10_shows_X10_runForged : GoodIn wsX10_shows (wsV RX10 252 RX10 yX10_runForged wsX10_runForged) := goodIn_app (goodIn_of _ (by decide +kernel)) ggX10_shows_X10_runForged
set_option maxRecDepth 20000 in
theorem ggX10_shows_X10_runOnce : GoodIn wsX10_shows wsX10_runOnce := goodIn_r _ [23, 3, 24, 25, 26, 8, 27, 10, 28, 29, 30, 31, 32, 33, 4, 34, 35, 36, 37, 38, 39, 40, 41, 42, 43, 44, 45, 46, 47, 48, 49, 50, 51, 52, 53, 54, 55, 56, 57, 58, 59, 60, 61, 62, 63, 64, 65, 66, 67, 18, 19, 68, 69, 70, 71, 72, 73, 74, 75, 76, 77, 78, 79, 80, 81, 82, 83, 84, 85, 86, 87, 88, 89, 90, 91, 92, 93, 94, 95, 96, 97, 98, 99, 100, 101, 102, 103, 104, 105, 106, 107, 108, 109, 110, 111, 112, 113, 114, 115, 116, 117, 118] (by decide +kernel) (by decide +kernel)
set_option maxRecDepth 20000 in
theorem gX10_shows_X10_runOnce : GoodIn wsX10_shows (wsV RX10 248 RX10 yX10_runOnce wsX10_runOnce) := goodIn_app (goodIn_of _ (by decide +kernel)) ggX10_shows_X10_runOnce
theorem dX10_shows_0 : decode cX10_shows 0 = .ok (.aload_n 0, 1) := by decide +kernel
theorem dX10_shows_1 : decode cX10_shows 1 = .ok (.iload_n 1, 1) := by decide +kernel
theorem dX10_shows_2 : decode cX10_shows 2 = .ok (.invokevirtual 100, 3) := by decide +kernel
theorem dX10_shows_5 : decode cX10_shows 5 = .ok (.ifCond .eq 15, 3) := by decide +kernel
theorem dX10_shows_8 : decode cX10_shows 8 = .ok (.iload_n 2, 1) := by decide +kernel
theorem dX10_shows_9 : decode cX10_shows 9 = .ok (.i2l, 1) := by decide +kernel
theorem dX10_shows_10 : decode cX10_shows 10 = .ok (.lconst 0, 1) := by decide +kernel
theorem dX10_shows_11 : decode cX10_shows 11 = .ok (.ldc2_w 94, 3) := by decide +kernel
theorem dX10_shows_14 : decode cX10_shows 14 = .ok (.invokestatic 78, 3) := by decide +kernel
theorem dX10_shows_17 : decode cX10_shows 17 = .ok (.ifCond .ne 5, 3) := by decide +kernel
theorem dX10_shows_20 : decode cX10_shows 20 = .ok (.iconst (-1), 1) := by decide +kernel
theorem dX10_shows_21 : decode cX10_shows 21 = .ok (.ireturn, 1) := by decide +kernel
theorem dX10_shows_22 : decode cX10_shows 22 = .ok (.aload_n 0, 1) := by decide +kernel
theorem dX10_shows_23 : decode cX10_shows 23 = .ok (.iload_n 1, 1) := by decide +kernel
theorem dX10_shows_24 : decode cX10_shows 24 = .ok (.iload_n 2, 1) := by decide +kernel
theorem dX10_shows_25 : decode cX10_shows 25 = .ok (.iconst 0, 1) := by decide +kernel
theorem dX10_shows_26 : decode cX10_shows 26 = .ok (.invokevirtual 252, 3) := by decide +kernel
theorem dX10_shows_29 : decode cX10_shows 29 = .ok (.pop, 1) := by decide +kernel
theorem dX10_shows_30 : decode cX10_shows 30 = .ok (.iconst 0, 1) := by decide +kernel
theorem dX10_shows_31 : decode cX10_shows 31 = .ok (.istore_n 3, 1) := by decide +kernel
theorem dX10_shows_32 : decode cX10_shows 32 = .ok (.iload_n 3, 1) := by decide +kernel
theorem dX10_shows_33 : decode cX10_shows 33 = .ok (.bipush 24, 2) := by decide +kernel
theorem dX10_shows_35 : decode cX10_shows 35 = .ok (.if_icmp .ge 21, 3) := by decide +kernel
theorem dX10_shows_38 : decode cX10_shows 38 = .ok (.aload_n 0, 1) := by decide +kernel
theorem dX10_shows_39 : decode cX10_shows 39 = .ok (.getfield 56, 3) := by decide +kernel
theorem dX10_shows_42 : decode cX10_shows 42 = .ok (.iload_n 3, 1) := by decide +kernel
theorem dX10_shows_43 : decode cX10_shows 43 = .ok (.aload_n 0, 1) := by decide +kernel
theorem dX10_shows_44 : decode cX10_shows 44 = .ok (.getfield 52, 3) := by decide +kernel
theorem dX10_shows_47 : decode cX10_shows 47 = .ok (.iload_n 3, 1) := by decide +kernel
theorem dX10_shows_48 : decode cX10_shows 48 = .ok (.laload, 1) := by decide +kernel
theorem dX10_shows_49 : decode cX10_shows 49 = .ok (.lastore, 1) := by decide +kernel
theorem dX10_shows_50 : decode cX10_shows 50 = .ok (.iinc 3 1, 3) := by decide +kernel
theorem dX10_shows_53 : decode cX10_shows 53 = .ok (.goto (-21), 3) := by decide +kernel
theorem dX10_shows_56 : decode cX10_shows 56 = .ok (.aload_n 0, 1) := by decide +kernel
theorem dX10_shows_57 : decode cX10_shows 57 = .ok (.iconst 0, 1) := by decide +kernel
theorem dX10_shows_58 : decode cX10_shows 58 = .ok (.invokevirtual 248, 3) := by decide +kernel
theorem dX10_shows_61 : decode cX10_shows 61 = .ok (.pop, 1) := by decide +kernel
theorem dX10_shows_62 : decode cX10_shows 62 = .ok (.iconst 0, 1) := by decide +kernel
theorem dX10_shows_63 : decode cX10_shows 63 = .ok (.istore_n 3, 1) := by decide +kernel
theorem dX10_shows_64 : decode cX10_shows 64 = .ok (.iload_n 3, 1) := by decide +kernel
theorem dX10_shows_65 : decode cX10_shows 65 = .ok (.aload_n 0, 1) := by decide +kernel
theorem dX10_shows_66 : decode cX10_shows 66 = .ok (.getfield 132, 3) := by decide +kernel
theorem dX10_shows_69 : decode cX10_shows 69 = .ok (.if_icmp .ge 27, 3) := by decide +kernel
theorem dX10_shows_72 : decode cX10_shows 72 = .ok (.aload_n 0, 1) := by decide +kernel
theorem dX10_shows_73 : decode cX10_shows 73 = .ok (.getfield 56, 3) := by decide +kernel
theorem dX10_shows_76 : decode cX10_shows 76 = .ok (.iload_n 3, 1) := by decide +kernel
theorem dX10_shows_77 : decode cX10_shows 77 = .ok (.laload, 1) := by decide +kernel
theorem dX10_shows_78 : decode cX10_shows 78 = .ok (.aload_n 0, 1) := by decide +kernel
theorem dX10_shows_79 : decode cX10_shows 79 = .ok (.getfield 52, 3) := by decide +kernel
theorem dX10_shows_82 : decode cX10_shows 82 = .ok (.iload_n 3, 1) := by decide +kernel
theorem dX10_shows_83 : decode cX10_shows 83 = .ok (.laload, 1) := by decide +kernel
theorem dX10_shows_84 : decode cX10_shows 84 = .ok (.lcmp, 1) := by decide +kernel
theorem dX10_shows_85 : decode cX10_shows 85 = .ok (.ifCond .eq 5, 3) := by decide +kernel
theorem dX10_shows_88 : decode cX10_shows 88 = .ok (.iload_n 3, 1) := by decide +kernel
theorem dX10_shows_89 : decode cX10_shows 89 = .ok (.ireturn, 1) := by decide +kernel
theorem dX10_shows_90 : decode cX10_shows 90 = .ok (.iinc 3 1, 3) := by decide +kernel
theorem dX10_shows_93 : decode cX10_shows 93 = .ok (.goto (-29), 3) := by decide +kernel
theorem dX10_shows_96 : decode cX10_shows 96 = .ok (.bipush (-4), 2) := by decide +kernel
theorem dX10_shows_98 : decode cX10_shows 98 = .ok (.ireturn, 1) := by decide +kernel
theorem dX10_carried_0 : decode cX10_carried 0 = .ok (.iload_n 1, 1) := by decide +kernel
theorem dX10_carried_1 : decode cX10_carried 1 = .ok (.sipush 200, 3) := by decide +kernel
theorem dX10_carried_4 : decode cX10_carried 4 = .ok (.if_icmp .ge 225, 3) := by decide +kernel
theorem dX10_carried_7 : decode cX10_carried 7 = .ok (.iload_n 1, 1) := by decide +kernel
theorem dX10_carried_8 : decode cX10_carried 8 = .ok (.bipush 40, 2) := by decide +kernel
theorem dX10_carried_10 : decode cX10_carried 10 = .ok (.irem, 1) := by decide +kernel
theorem dX10_carried_11 : decode cX10_carried 11 = .ok (.istore 4, 2) := by decide +kernel
theorem dX10_carried_13 : decode cX10_carried 13 = .ok (.iload_n 1, 1) := by decide +kernel
theorem dX10_carried_14 : decode cX10_carried 14 = .ok (.bipush 40, 2) := by decide +kernel
theorem dX10_carried_16 : decode cX10_carried 16 = .ok (.idiv, 1) := by decide +kernel
theorem dX10_carried_17 : decode cX10_carried 17 = .ok (.istore 5, 2) := by decide +kernel
theorem dX10_carried_19 : decode cX10_carried 19 = .ok (.aload_n 0, 1) := by decide +kernel
theorem dX10_carried_20 : decode cX10_carried 20 = .ok (.getfield 7, 3) := by decide +kernel
theorem dX10_carried_23 : decode cX10_carried 23 = .ok (.iload 4, 2) := by decide +kernel
theorem dX10_carried_25 : decode cX10_carried 25 = .ok (.iload_n 3, 1) := by decide +kernel
theorem dX10_carried_26 : decode cX10_carried 26 = .ok (.ifCond .eq 12, 3) := by decide +kernel
theorem dX10_carried_29 : decode cX10_carried 29 = .ok (.iload 5, 2) := by decide +kernel
theorem dX10_carried_31 : decode cX10_carried 31 = .ok (.ifCond .ne 7, 3) := by decide +kernel
theorem dX10_carried_34 : decode cX10_carried 34 = .ok (.iload_n 2, 1) := by decide +kernel
theorem dX10_carried_35 : decode cX10_carried 35 = .ok (.goto 10, 3) := by decide +kernel
theorem dX10_carried_38 : decode cX10_carried 38 = .ok (.aload_n 0, 1) := by decide +kernel
theorem dX10_carried_39 : decode cX10_carried 39 = .ok (.getfield 7, 3) := by decide +kernel
theorem dX10_carried_42 : decode cX10_carried 42 = .ok (.iload 4, 2) := by decide +kernel
theorem dX10_carried_44 : decode cX10_carried 44 = .ok (.iaload, 1) := by decide +kernel
theorem dX10_carried_45 : decode cX10_carried 45 = .ok (.iastore, 1) := by decide +kernel
theorem dX10_carried_46 : decode cX10_carried 46 = .ok (.aload_n 0, 1) := by decide +kernel
theorem dX10_carried_47 : decode cX10_carried 47 = .ok (.getfield 13, 3) := by decide +kernel
theorem dX10_carried_50 : decode cX10_carried 50 = .ok (.iload 4, 2) := by decide +kernel
theorem dX10_carried_52 : decode cX10_carried 52 = .ok (.iload_n 3, 1) := by decide +kernel
theorem dX10_carried_53 : decode cX10_carried 53 = .ok (.ifCond .eq 13, 3) := by decide +kernel
theorem dX10_carried_56 : decode cX10_carried 56 = .ok (.iload 5, 2) := by decide +kernel
theorem dX10_carried_58 : decode cX10_carried 58 = .ok (.iconst 1, 1) := by decide +kernel
theorem dX10_carried_59 : decode cX10_carried 59 = .ok (.if_icmp .ne 7, 3) := by decide +kernel
theorem dX10_carried_62 : decode cX10_carried 62 = .ok (.iload_n 2, 1) := by decide +kernel
theorem dX10_carried_63 : decode cX10_carried 63 = .ok (.goto 10, 3) := by decide +kernel
theorem dX10_carried_66 : decode cX10_carried 66 = .ok (.aload_n 0, 1) := by decide +kernel
theorem dX10_carried_67 : decode cX10_carried 67 = .ok (.getfield 13, 3) := by decide +kernel
theorem dX10_carried_70 : decode cX10_carried 70 = .ok (.iload 4, 2) := by decide +kernel
theorem dX10_carried_72 : decode cX10_carried 72 = .ok (.iaload, 1) := by decide +kernel
theorem dX10_carried_73 : decode cX10_carried 73 = .ok (.iastore, 1) := by decide +kernel
theorem dX10_carried_74 : decode cX10_carried 74 = .ok (.aload_n 0, 1) := by decide +kernel
theorem dX10_carried_75 : decode cX10_carried 75 = .ok (.getfield 16, 3) := by decide +kernel
theorem dX10_carried_78 : decode cX10_carried 78 = .ok (.iload 4, 2) := by decide +kernel
theorem dX10_carried_80 : decode cX10_carried 80 = .ok (.iload_n 3, 1) := by decide +kernel
theorem dX10_carried_81 : decode cX10_carried 81 = .ok (.ifCond .eq 13, 3) := by decide +kernel
theorem dX10_carried_84 : decode cX10_carried 84 = .ok (.iload 5, 2) := by decide +kernel
theorem dX10_carried_86 : decode cX10_carried 86 = .ok (.iconst 2, 1) := by decide +kernel
theorem dX10_carried_87 : decode cX10_carried 87 = .ok (.if_icmp .ne 7, 3) := by decide +kernel
theorem dX10_carried_90 : decode cX10_carried 90 = .ok (.iload_n 2, 1) := by decide +kernel
theorem dX10_carried_91 : decode cX10_carried 91 = .ok (.goto 10, 3) := by decide +kernel
theorem dX10_carried_94 : decode cX10_carried 94 = .ok (.aload_n 0, 1) := by decide +kernel
theorem dX10_carried_95 : decode cX10_carried 95 = .ok (.getfield 16, 3) := by decide +kernel
theorem dX10_carried_98 : decode cX10_carried 98 = .ok (.iload 4, 2) := by decide +kernel
theorem dX10_carried_100 : decode cX10_carried 100 = .ok (.iaload, 1) := by decide +kernel
theorem dX10_carried_101 : decode cX10_carried 101 = .ok (.iastore, 1) := by decide +kernel
theorem dX10_carried_102 : decode cX10_carried 102 = .ok (.aload_n 0, 1) := by decide +kernel
theorem dX10_carried_103 : decode cX10_carried 103 = .ok (.getfield 19, 3) := by decide +kernel
theorem dX10_carried_106 : decode cX10_carried 106 = .ok (.iload 4, 2) := by decide +kernel
theorem dX10_carried_108 : decode cX10_carried 108 = .ok (.iload_n 3, 1) := by decide +kernel
theorem dX10_carried_109 : decode cX10_carried 109 = .ok (.ifCond .eq 13, 3) := by decide +kernel
theorem dX10_carried_112 : decode cX10_carried 112 = .ok (.iload 5, 2) := by decide +kernel
theorem dX10_carried_114 : decode cX10_carried 114 = .ok (.iconst 3, 1) := by decide +kernel
theorem dX10_carried_115 : decode cX10_carried 115 = .ok (.if_icmp .ne 7, 3) := by decide +kernel
theorem dX10_carried_118 : decode cX10_carried 118 = .ok (.iload_n 2, 1) := by decide +kernel
theorem dX10_carried_119 : decode cX10_carried 119 = .ok (.goto 10, 3) := by decide +kernel
theorem dX10_carried_122 : decode cX10_carried 122 = .ok (.aload_n 0, 1) := by decide +kernel
theorem dX10_carried_123 : decode cX10_carried 123 = .ok (.getfield 19, 3) := by decide +kernel
theorem dX10_carried_126 : decode cX10_carried 126 = .ok (.iload 4, 2) := by decide +kernel
theorem dX10_carried_128 : decode cX10_carried 128 = .ok (.iaload, 1) := by decide +kernel
theorem dX10_carried_129 : decode cX10_carried 129 = .ok (.iastore, 1) := by decide +kernel
theorem dX10_carried_130 : decode cX10_carried 130 = .ok (.aload_n 0, 1) := by decide +kernel
theorem dX10_carried_131 : decode cX10_carried 131 = .ok (.getfield 22, 3) := by decide +kernel
theorem dX10_carried_134 : decode cX10_carried 134 = .ok (.iload 4, 2) := by decide +kernel
theorem dX10_carried_136 : decode cX10_carried 136 = .ok (.iload_n 3, 1) := by decide +kernel
theorem dX10_carried_137 : decode cX10_carried 137 = .ok (.ifCond .eq 13, 3) := by decide +kernel
theorem dX10_carried_140 : decode cX10_carried 140 = .ok (.iload 5, 2) := by decide +kernel
theorem dX10_carried_142 : decode cX10_carried 142 = .ok (.iconst 4, 1) := by decide +kernel
theorem dX10_carried_143 : decode cX10_carried 143 = .ok (.if_icmp .ne 7, 3) := by decide +kernel
theorem dX10_carried_146 : decode cX10_carried 146 = .ok (.iload_n 2, 1) := by decide +kernel
theorem dX10_carried_147 : decode cX10_carried 147 = .ok (.goto 10, 3) := by decide +kernel
theorem dX10_carried_150 : decode cX10_carried 150 = .ok (.aload_n 0, 1) := by decide +kernel
theorem dX10_carried_151 : decode cX10_carried 151 = .ok (.getfield 22, 3) := by decide +kernel
theorem dX10_carried_154 : decode cX10_carried 154 = .ok (.iload 4, 2) := by decide +kernel
theorem dX10_carried_156 : decode cX10_carried 156 = .ok (.iaload, 1) := by decide +kernel
theorem dX10_carried_157 : decode cX10_carried 157 = .ok (.iastore, 1) := by decide +kernel
theorem dX10_carried_158 : decode cX10_carried 158 = .ok (.iload 5, 2) := by decide +kernel
theorem dX10_carried_160 : decode cX10_carried 160 = .ok (.ifCond .ne 13, 3) := by decide +kernel
theorem dX10_carried_163 : decode cX10_carried 163 = .ok (.aload_n 0, 1) := by decide +kernel
theorem dX10_carried_164 : decode cX10_carried 164 = .ok (.getfield 7, 3) := by decide +kernel
theorem dX10_carried_167 : decode cX10_carried 167 = .ok (.iload 4, 2) := by decide +kernel
theorem dX10_carried_169 : decode cX10_carried 169 = .ok (.iaload, 1) := by decide +kernel
theorem dX10_carried_170 : decode cX10_carried 170 = .ok (.goto 58, 3) := by decide +kernel
theorem dX10_carried_173 : decode cX10_carried 173 = .ok (.iload 5, 2) := by decide +kernel
theorem dX10_carried_175 : decode cX10_carried 175 = .ok (.iconst 1, 1) := by decide +kernel
theorem dX10_carried_176 : decode cX10_carried 176 = .ok (.if_icmp .ne 13, 3) := by decide +kernel
theorem dX10_carried_179 : decode cX10_carried 179 = .ok (.aload_n 0, 1) := by decide +kernel
theorem dX10_carried_180 : decode cX10_carried 180 = .ok (.getfield 13, 3) := by decide +kernel
theorem dX10_carried_183 : decode cX10_carried 183 = .ok (.iload 4, 2) := by decide +kernel
theorem dX10_carried_185 : decode cX10_carried 185 = .ok (.iaload, 1) := by decide +kernel
theorem dX10_carried_186 : decode cX10_carried 186 = .ok (.goto 42, 3) := by decide +kernel
theorem dX10_carried_189 : decode cX10_carried 189 = .ok (.iload 5, 2) := by decide +kernel
theorem dX10_carried_191 : decode cX10_carried 191 = .ok (.iconst 2, 1) := by decide +kernel
theorem dX10_carried_192 : decode cX10_carried 192 = .ok (.if_icmp .ne 13, 3) := by decide +kernel
theorem dX10_carried_195 : decode cX10_carried 195 = .ok (.aload_n 0, 1) := by decide +kernel
theorem dX10_carried_196 : decode cX10_carried 196 = .ok (.getfield 16, 3) := by decide +kernel
theorem dX10_carried_199 : decode cX10_carried 199 = .ok (.iload 4, 2) := by decide +kernel
theorem dX10_carried_201 : decode cX10_carried 201 = .ok (.iaload, 1) := by decide +kernel
theorem dX10_carried_202 : decode cX10_carried 202 = .ok (.goto 26, 3) := by decide +kernel
theorem dX10_carried_205 : decode cX10_carried 205 = .ok (.iload 5, 2) := by decide +kernel
theorem dX10_carried_207 : decode cX10_carried 207 = .ok (.iconst 3, 1) := by decide +kernel
theorem dX10_carried_208 : decode cX10_carried 208 = .ok (.if_icmp .ne 13, 3) := by decide +kernel
theorem dX10_carried_211 : decode cX10_carried 211 = .ok (.aload_n 0, 1) := by decide +kernel
theorem dX10_carried_212 : decode cX10_carried 212 = .ok (.getfield 19, 3) := by decide +kernel
theorem dX10_carried_215 : decode cX10_carried 215 = .ok (.iload 4, 2) := by decide +kernel
theorem dX10_carried_217 : decode cX10_carried 217 = .ok (.iaload, 1) := by decide +kernel
theorem dX10_carried_218 : decode cX10_carried 218 = .ok (.goto 10, 3) := by decide +kernel
theorem dX10_carried_221 : decode cX10_carried 221 = .ok (.aload_n 0, 1) := by decide +kernel
theorem dX10_carried_222 : decode cX10_carried 222 = .ok (.getfield 22, 3) := by decide +kernel
theorem dX10_carried_225 : decode cX10_carried 225 = .ok (.iload 4, 2) := by decide +kernel
theorem dX10_carried_227 : decode cX10_carried 227 = .ok (.iaload, 1) := by decide +kernel
theorem dX10_carried_228 : decode cX10_carried 228 = .ok (.ireturn, 1) := by decide +kernel
theorem dX10_carried_229 : decode cX10_carried 229 = .ok (.iload_n 1, 1) := by decide +kernel
theorem dX10_carried_230 : decode cX10_carried 230 = .ok (.sipush 200, 3) := by decide +kernel
theorem dX10_carried_233 : decode cX10_carried 233 = .ok (.isub, 1) := by decide +kernel
theorem dX10_carried_234 : decode cX10_carried 234 = .ok (.istore 4, 2) := by decide +kernel
theorem dX10_carried_236 : decode cX10_carried 236 = .ok (.iload 4, 2) := by decide +kernel
theorem dX10_carried_238 : decode cX10_carried 238 = .ok (.bipush 12, 2) := by decide +kernel
theorem dX10_carried_240 : decode cX10_carried 240 = .ok (.if_icmp .ge 93, 3) := by decide +kernel
theorem dX10_carried_243 : decode cX10_carried 243 = .ok (.iload 4, 2) := by decide +kernel
theorem dX10_carried_245 : decode cX10_carried 245 = .ok (.bipush 6, 2) := by decide +kernel
theorem dX10_carried_247 : decode cX10_carried 247 = .ok (.irem, 1) := by decide +kernel
theorem dX10_carried_248 : decode cX10_carried 248 = .ok (.istore 5, 2) := by decide +kernel
theorem dX10_carried_250 : decode cX10_carried 250 = .ok (.aload_n 0, 1) := by decide +kernel
theorem dX10_carried_251 : decode cX10_carried 251 = .ok (.getfield 25, 3) := by decide +kernel
theorem dX10_carried_254 : decode cX10_carried 254 = .ok (.iload 5, 2) := by decide +kernel
theorem dX10_carried_256 : decode cX10_carried 256 = .ok (.iload_n 3, 1) := by decide +kernel
theorem dX10_carried_257 : decode cX10_carried 257 = .ok (.ifCond .eq 14, 3) := by decide +kernel
theorem dX10_carried_260 : decode cX10_carried 260 = .ok (.iload 4, 2) := by decide +kernel
theorem dX10_carried_262 : decode cX10_carried 262 = .ok (.bipush 6, 2) := by decide +kernel
theorem dX10_carried_264 : decode cX10_carried 264 = .ok (.if_icmp .ge 7, 3) := by decide +kernel
theorem dX10_carried_267 : decode cX10_carried 267 = .ok (.iload_n 2, 1) := by decide +kernel
theorem dX10_carried_268 : decode cX10_carried 268 = .ok (.goto 10, 3) := by decide +kernel
theorem dX10_carried_271 : decode cX10_carried 271 = .ok (.aload_n 0, 1) := by decide +kernel
theorem dX10_carried_272 : decode cX10_carried 272 = .ok (.getfield 25, 3) := by decide +kernel
theorem dX10_carried_275 : decode cX10_carried 275 = .ok (.iload 5, 2) := by decide +kernel
theorem dX10_carried_277 : decode cX10_carried 277 = .ok (.iaload, 1) := by decide +kernel
theorem dX10_carried_278 : decode cX10_carried 278 = .ok (.iastore, 1) := by decide +kernel
theorem dX10_carried_279 : decode cX10_carried 279 = .ok (.aload_n 0, 1) := by decide +kernel
theorem dX10_carried_280 : decode cX10_carried 280 = .ok (.getfield 28, 3) := by decide +kernel
theorem dX10_carried_283 : decode cX10_carried 283 = .ok (.iload 5, 2) := by decide +kernel
theorem dX10_carried_285 : decode cX10_carried 285 = .ok (.iload_n 3, 1) := by decide +kernel
theorem dX10_carried_286 : decode cX10_carried 286 = .ok (.ifCond .eq 14, 3) := by decide +kernel
theorem dX10_carried_289 : decode cX10_carried 289 = .ok (.iload 4, 2) := by decide +kernel
theorem dX10_carried_291 : decode cX10_carried 291 = .ok (.bipush 6, 2) := by decide +kernel
theorem dX10_carried_293 : decode cX10_carried 293 = .ok (.if_icmp .lt 7, 3) := by decide +kernel
theorem dX10_carried_296 : decode cX10_carried 296 = .ok (.iload_n 2, 1) := by decide +kernel
theorem dX10_carried_297 : decode cX10_carried 297 = .ok (.goto 10, 3) := by decide +kernel
theorem dX10_carried_300 : decode cX10_carried 300 = .ok (.aload_n 0, 1) := by decide +kernel
theorem dX10_carried_301 : decode cX10_carried 301 = .ok (.getfield 28, 3) := by decide +kernel
theorem dX10_carried_304 : decode cX10_carried 304 = .ok (.iload 5, 2) := by decide +kernel
theorem dX10_carried_306 : decode cX10_carried 306 = .ok (.iaload, 1) := by decide +kernel
theorem dX10_carried_307 : decode cX10_carried 307 = .ok (.iastore, 1) := by decide +kernel
theorem dX10_carried_308 : decode cX10_carried 308 = .ok (.iload 4, 2) := by decide +kernel
theorem dX10_carried_310 : decode cX10_carried 310 = .ok (.bipush 6, 2) := by decide +kernel
theorem dX10_carried_312 : decode cX10_carried 312 = .ok (.if_icmp .ge 13, 3) := by decide +kernel
theorem dX10_carried_315 : decode cX10_carried 315 = .ok (.aload_n 0, 1) := by decide +kernel
theorem dX10_carried_316 : decode cX10_carried 316 = .ok (.getfield 25, 3) := by decide +kernel
theorem dX10_carried_319 : decode cX10_carried 319 = .ok (.iload 5, 2) := by decide +kernel
theorem dX10_carried_321 : decode cX10_carried 321 = .ok (.iaload, 1) := by decide +kernel
theorem dX10_carried_322 : decode cX10_carried 322 = .ok (.goto 10, 3) := by decide +kernel
theorem dX10_carried_325 : decode cX10_carried 325 = .ok (.aload_n 0, 1) := by decide +kernel
theorem dX10_carried_326 : decode cX10_carried 326 = .ok (.getfield 28, 3) := by decide +kernel
theorem dX10_carried_329 : decode cX10_carried 329 = .ok (.iload 5, 2) := by decide +kernel
theorem dX10_carried_331 : decode cX10_carried 331 = .ok (.iaload, 1) := by decide +kernel
theorem dX10_carried_332 : decode cX10_carried 332 = .ok (.ireturn, 1) := by decide +kernel
theorem dX10_carried_333 : decode cX10_carried 333 = .ok (.iinc 4 (-12), 3) := by decide +kernel
theorem dX10_carried_336 : decode cX10_carried 336 = .ok (.aload_n 0, 1) := by decide +kernel
theorem dX10_carried_337 : decode cX10_carried 337 = .ok (.getfield 31, 3) := by decide +kernel
theorem dX10_carried_340 : decode cX10_carried 340 = .ok (.iload 4, 2) := by decide +kernel
theorem dX10_carried_342 : decode cX10_carried 342 = .ok (.iload_n 3, 1) := by decide +kernel
theorem dX10_carried_343 : decode cX10_carried 343 = .ok (.ifCond .eq 7, 3) := by decide +kernel
theorem dX10_carried_346 : decode cX10_carried 346 = .ok (.iload_n 2, 1) := by decide +kernel
theorem dX10_carried_347 : decode cX10_carried 347 = .ok (.goto 10, 3) := by decide +kernel
theorem dX10_carried_350 : decode cX10_carried 350 = .ok (.aload_n 0, 1) := by decide +kernel
theorem dX10_carried_351 : decode cX10_carried 351 = .ok (.getfield 31, 3) := by decide +kernel
theorem dX10_carried_354 : decode cX10_carried 354 = .ok (.iload 4, 2) := by decide +kernel
theorem dX10_carried_356 : decode cX10_carried 356 = .ok (.iaload, 1) := by decide +kernel
theorem dX10_carried_357 : decode cX10_carried 357 = .ok (.iastore, 1) := by decide +kernel
theorem dX10_carried_358 : decode cX10_carried 358 = .ok (.aload_n 0, 1) := by decide +kernel
theorem dX10_carried_359 : decode cX10_carried 359 = .ok (.getfield 31, 3) := by decide +kernel
theorem dX10_carried_362 : decode cX10_carried 362 = .ok (.iload 4, 2) := by decide +kernel
theorem dX10_carried_364 : decode cX10_carried 364 = .ok (.iaload, 1) := by decide +kernel
theorem dX10_carried_365 : decode cX10_carried 365 = .ok (.ireturn, 1) := by decide +kernel
set_option maxRecDepth 20000 in
theorem ggX10_image_X10_carried : GoodIn wsX10_image wsX10_carried := goodIn_r _ [12, 13, 14, 15, 16, 17, 18, 19, 20, 21, 22, 23, 24, 25, 26, 27, 28, 29, 30, 31, 32, 33, 34, 35, 36, 37, 38, 39, 40, 41, 42, 43, 44, 45, 46, 47, 48, 49, 50, 51, 52, 53, 54, 55] (by decide +kernel) (by decide +kernel)
set_option maxRecDepth 20000 in
theorem gX10_image_X10_carried : GoodIn wsX10_image (wsV RX10 256 RX10 yX10_carried wsX10_carried) := goodIn_app (goodIn_of _ (by decide +kernel)) ggX10_image_X10_carried
theorem dX10_image_0 : decode cX10_image 0 = .ok (.iconst 0, 1) := by decide +kernel
theorem dX10_image_1 : decode cX10_image 1 = .ok (.istore_n 1, 1) := by decide +kernel
theorem dX10_image_2 : decode cX10_image 2 = .ok (.iload_n 1, 1) := by decide +kernel
theorem dX10_image_3 : decode cX10_image 3 = .ok (.sipush 284, 3) := by decide +kernel
theorem dX10_image_6 : decode cX10_image 6 = .ok (.if_icmp .ge 22, 3) := by decide +kernel
theorem dX10_image_9 : decode cX10_image 9 = .ok (.aload_n 0, 1) := by decide +kernel
theorem dX10_image_10 : decode cX10_image 10 = .ok (.getfield 59, 3) := by decide +kernel
theorem dX10_image_13 : decode cX10_image 13 = .ok (.iload_n 1, 1) := by decide +kernel
theorem dX10_image_14 : decode cX10_image 14 = .ok (.aload_n 0, 1) := by decide +kernel
theorem dX10_image_15 : decode cX10_image 15 = .ok (.iload_n 1, 1) := by decide +kernel
theorem dX10_image_16 : decode cX10_image 16 = .ok (.iconst 0, 1) := by decide +kernel
theorem dX10_image_17 : decode cX10_image 17 = .ok (.iconst 0, 1) := by decide +kernel
theorem dX10_image_18 : decode cX10_image 18 = .ok (.invokevirtual 256, 3) := by decide +kernel
theorem dX10_image_21 : decode cX10_image 21 = .ok (.iastore, 1) := by decide +kernel
theorem dX10_image_22 : decode cX10_image 22 = .ok (.iinc 1 1, 3) := by decide +kernel
theorem dX10_image_25 : decode cX10_image 25 = .ok (.goto (-23), 3) := by decide +kernel
theorem dX10_image_28 : decode cX10_image 28 = .ok (.aload_n 0, 1) := by decide +kernel
theorem dX10_image_29 : decode cX10_image 29 = .ok (.getfield 62, 3) := by decide +kernel
theorem dX10_image_32 : decode cX10_image 32 = .ok (.iconst 0, 1) := by decide +kernel
theorem dX10_image_33 : decode cX10_image 33 = .ok (.aload_n 0, 1) := by decide +kernel
theorem dX10_image_34 : decode cX10_image 34 = .ok (.getfield 74, 3) := by decide +kernel
theorem dX10_image_37 : decode cX10_image 37 = .ok (.iastore, 1) := by decide +kernel
theorem dX10_image_38 : decode cX10_image 38 = .ok (.aload_n 0, 1) := by decide +kernel
theorem dX10_image_39 : decode cX10_image 39 = .ok (.getfield 62, 3) := by decide +kernel
theorem dX10_image_42 : decode cX10_image 42 = .ok (.iconst 1, 1) := by decide +kernel
theorem dX10_image_43 : decode cX10_image 43 = .ok (.aload_n 0, 1) := by decide +kernel
theorem dX10_image_44 : decode cX10_image 44 = .ok (.getfield 111, 3) := by decide +kernel
theorem dX10_image_47 : decode cX10_image 47 = .ok (.iastore, 1) := by decide +kernel
theorem dX10_image_48 : decode cX10_image 48 = .ok (.aload_n 0, 1) := by decide +kernel
theorem dX10_image_49 : decode cX10_image 49 = .ok (.getfield 62, 3) := by decide +kernel
theorem dX10_image_52 : decode cX10_image 52 = .ok (.iconst 2, 1) := by decide +kernel
theorem dX10_image_53 : decode cX10_image 53 = .ok (.aload_n 0, 1) := by decide +kernel
theorem dX10_image_54 : decode cX10_image 54 = .ok (.getfield 135, 3) := by decide +kernel
theorem dX10_image_57 : decode cX10_image 57 = .ok (.iastore, 1) := by decide +kernel
theorem dX10_image_58 : decode cX10_image 58 = .ok (.aload_n 0, 1) := by decide +kernel
theorem dX10_image_59 : decode cX10_image 59 = .ok (.getfield 62, 3) := by decide +kernel
theorem dX10_image_62 : decode cX10_image 62 = .ok (.iconst 3, 1) := by decide +kernel
theorem dX10_image_63 : decode cX10_image 63 = .ok (.aload_n 0, 1) := by decide +kernel
theorem dX10_image_64 : decode cX10_image 64 = .ok (.getfield 132, 3) := by decide +kernel
theorem dX10_image_67 : decode cX10_image 67 = .ok (.iastore, 1) := by decide +kernel
theorem dX10_image_68 : decode cX10_image 68 = .ok (.aload_n 0, 1) := by decide +kernel
theorem dX10_image_69 : decode cX10_image 69 = .ok (.iconst 1, 1) := by decide +kernel
theorem dX10_image_70 : decode cX10_image 70 = .ok (.putfield 260, 3) := by decide +kernel
theorem dX10_image_73 : decode cX10_image 73 = .ok (.iconst 1, 1) := by decide +kernel
theorem dX10_image_74 : decode cX10_image 74 = .ok (.ireturn, 1) := by decide +kernel
set_option maxRecDepth 20000 in
theorem ggX10_restore_X10_carried : GoodIn wsX10_restore wsX10_carried := goodIn_r _ [12, 13, 14, 15, 16, 17, 18, 19, 20, 21, 22, 23, 24, 25, 26, 27, 28, 29, 30, 31, 32, 33, 34, 35, 36, 37, 38, 39, 40, 41, 42, 43, 44, 45, 46, 47, 48, 49, 50, 51, 52, 53, 54, 55] (by decide +kernel) (by decide +kernel)
set_option maxRecDepth 20000 in
theorem gX10_restore_X10_carried : GoodIn wsX10_restore (wsV RX10 256 RX10 yX10_carried wsX10_carried) := goodIn_app (goodIn_of _ (by decide +kernel)) ggX10_restore_X10_carried
theorem dX10_restore_0 : decode cX10_restore 0 = .ok (.aload_n 0, 1) := by decide +kernel
theorem dX10_restore_1 : decode cX10_restore 1 = .ok (.getfield 260, 3) := by decide +kernel
theorem dX10_restore_4 : decode cX10_restore 4 = .ok (.ifCond .ne 6, 3) := by decide +kernel
theorem dX10_restore_7 : decode cX10_restore 7 = .ok (.bipush (-4), 2) := by decide +kernel
theorem dX10_restore_9 : decode cX10_restore 9 = .ok (.ireturn, 1) := by decide +kernel
theorem dX10_restore_10 : decode cX10_restore 10 = .ok (.iconst 0, 1) := by decide +kernel
theorem dX10_restore_11 : decode cX10_restore 11 = .ok (.istore_n 1, 1) := by decide +kernel
theorem dX10_restore_12 : decode cX10_restore 12 = .ok (.iload_n 1, 1) := by decide +kernel
theorem dX10_restore_13 : decode cX10_restore 13 = .ok (.sipush 284, 3) := by decide +kernel
theorem dX10_restore_16 : decode cX10_restore 16 = .ok (.if_icmp .ge 22, 3) := by decide +kernel
theorem dX10_restore_19 : decode cX10_restore 19 = .ok (.aload_n 0, 1) := by decide +kernel
theorem dX10_restore_20 : decode cX10_restore 20 = .ok (.iload_n 1, 1) := by decide +kernel
theorem dX10_restore_21 : decode cX10_restore 21 = .ok (.aload_n 0, 1) := by decide +kernel
theorem dX10_restore_22 : decode cX10_restore 22 = .ok (.getfield 59, 3) := by decide +kernel
theorem dX10_restore_25 : decode cX10_restore 25 = .ok (.iload_n 1, 1) := by decide +kernel
theorem dX10_restore_26 : decode cX10_restore 26 = .ok (.iaload, 1) := by decide +kernel
theorem dX10_restore_27 : decode cX10_restore 27 = .ok (.iconst 1, 1) := by decide +kernel
theorem dX10_restore_28 : decode cX10_restore 28 = .ok (.invokevirtual 256, 3) := by decide +kernel
theorem dX10_restore_31 : decode cX10_restore 31 = .ok (.pop, 1) := by decide +kernel
theorem dX10_restore_32 : decode cX10_restore 32 = .ok (.iinc 1 1, 3) := by decide +kernel
theorem dX10_restore_35 : decode cX10_restore 35 = .ok (.goto (-23), 3) := by decide +kernel
theorem dX10_restore_38 : decode cX10_restore 38 = .ok (.aload_n 0, 1) := by decide +kernel
theorem dX10_restore_39 : decode cX10_restore 39 = .ok (.aload_n 0, 1) := by decide +kernel
theorem dX10_restore_40 : decode cX10_restore 40 = .ok (.getfield 62, 3) := by decide +kernel
theorem dX10_restore_43 : decode cX10_restore 43 = .ok (.iconst 0, 1) := by decide +kernel
theorem dX10_restore_44 : decode cX10_restore 44 = .ok (.iaload, 1) := by decide +kernel
theorem dX10_restore_45 : decode cX10_restore 45 = .ok (.putfield 74, 3) := by decide +kernel
theorem dX10_restore_48 : decode cX10_restore 48 = .ok (.aload_n 0, 1) := by decide +kernel
theorem dX10_restore_49 : decode cX10_restore 49 = .ok (.aload_n 0, 1) := by decide +kernel
theorem dX10_restore_50 : decode cX10_restore 50 = .ok (.getfield 62, 3) := by decide +kernel
theorem dX10_restore_53 : decode cX10_restore 53 = .ok (.iconst 1, 1) := by decide +kernel
theorem dX10_restore_54 : decode cX10_restore 54 = .ok (.iaload, 1) := by decide +kernel
theorem dX10_restore_55 : decode cX10_restore 55 = .ok (.putfield 111, 3) := by decide +kernel
theorem dX10_restore_58 : decode cX10_restore 58 = .ok (.aload_n 0, 1) := by decide +kernel
theorem dX10_restore_59 : decode cX10_restore 59 = .ok (.aload_n 0, 1) := by decide +kernel
theorem dX10_restore_60 : decode cX10_restore 60 = .ok (.getfield 62, 3) := by decide +kernel
theorem dX10_restore_63 : decode cX10_restore 63 = .ok (.iconst 2, 1) := by decide +kernel
theorem dX10_restore_64 : decode cX10_restore 64 = .ok (.iaload, 1) := by decide +kernel
theorem dX10_restore_65 : decode cX10_restore 65 = .ok (.putfield 135, 3) := by decide +kernel
theorem dX10_restore_68 : decode cX10_restore 68 = .ok (.aload_n 0, 1) := by decide +kernel
theorem dX10_restore_69 : decode cX10_restore 69 = .ok (.aload_n 0, 1) := by decide +kernel
theorem dX10_restore_70 : decode cX10_restore 70 = .ok (.getfield 62, 3) := by decide +kernel
theorem dX10_restore_73 : decode cX10_restore 73 = .ok (.iconst 3, 1) := by decide +kernel
theorem dX10_restore_74 : decode cX10_restore 74 = .ok (.iaload, 1) := by decide +kernel
theorem dX10_restore_75 : decode cX10_restore 75 = .ok (.putfield 132, 3) := by decide +kernel
theorem dX10_restore_78 : decode cX10_restore 78 = .ok (.iconst 1, 1) := by decide +kernel
theorem dX10_restore_79 : decode cX10_restore 79 = .ok (.ireturn, 1) := by decide +kernel
set_option maxRecDepth 20000 in
theorem ggX10_isSheet_X10_in : GoodIn wsX10_isSheet wsX10_in := goodIn_r _ [6] (by decide +kernel) (by decide +kernel)
set_option maxRecDepth 20000 in
theorem gX10_isSheet_X10_in : GoodIn wsX10_isSheet (va_wsS RX10 78 yX10_in wsX10_in) := goodIn_app (goodIn_of _ (by decide +kernel)) ggX10_isSheet_X10_in
theorem dX10_isSheet_0 : decode cX10_isSheet 0 = .ok (.iload_n 0, 1) := by decide +kernel
theorem dX10_isSheet_1 : decode cX10_isSheet 1 = .ok (.i2l, 1) := by decide +kernel
theorem dX10_isSheet_2 : decode cX10_isSheet 2 = .ok (.lconst 0, 1) := by decide +kernel
theorem dX10_isSheet_3 : decode cX10_isSheet 3 = .ok (.ldc2_w 84, 3) := by decide +kernel
theorem dX10_isSheet_6 : decode cX10_isSheet 6 = .ok (.invokestatic 78, 3) := by decide +kernel
theorem dX10_isSheet_9 : decode cX10_isSheet 9 = .ok (.ifCond .eq 19, 3) := by decide +kernel
theorem dX10_isSheet_12 : decode cX10_isSheet 12 = .ok (.iload_n 1, 1) := by decide +kernel
theorem dX10_isSheet_13 : decode cX10_isSheet 13 = .ok (.i2l, 1) := by decide +kernel
theorem dX10_isSheet_14 : decode cX10_isSheet 14 = .ok (.lconst 0, 1) := by decide +kernel
theorem dX10_isSheet_15 : decode cX10_isSheet 15 = .ok (.ldc2_w 264, 3) := by decide +kernel
theorem dX10_isSheet_18 : decode cX10_isSheet 18 = .ok (.invokestatic 78, 3) := by decide +kernel
theorem dX10_isSheet_21 : decode cX10_isSheet 21 = .ok (.ifCond .eq 7, 3) := by decide +kernel
theorem dX10_isSheet_24 : decode cX10_isSheet 24 = .ok (.iconst 1, 1) := by decide +kernel
theorem dX10_isSheet_25 : decode cX10_isSheet 25 = .ok (.goto 4, 3) := by decide +kernel
theorem dX10_isSheet_28 : decode cX10_isSheet 28 = .ok (.iconst 0, 1) := by decide +kernel
theorem dX10_isSheet_29 : decode cX10_isSheet 29 = .ok (.ireturn, 1) := by decide +kernel
set_option maxRecDepth 20000 in
theorem ggX10_sheet_X10_isSheet : GoodIn wsX10_sheet wsX10_isSheet := goodIn_r _ [7, 8, 9, 10, 11, 6, 12] (by decide +kernel) (by decide +kernel)
set_option maxRecDepth 20000 in
theorem gX10_sheet_X10_isSheet : GoodIn wsX10_sheet (va_wsS RX10 266 yX10_isSheet wsX10_isSheet) := goodIn_app (goodIn_of _ (by decide +kernel)) ggX10_sheet_X10_isSheet
theorem dX10_sheet_0 : decode cX10_sheet 0 = .ok (.iload_n 1, 1) := by decide +kernel
theorem dX10_sheet_1 : decode cX10_sheet 1 = .ok (.iload_n 2, 1) := by decide +kernel
theorem dX10_sheet_2 : decode cX10_sheet 2 = .ok (.invokestatic 266, 3) := by decide +kernel
theorem dX10_sheet_5 : decode cX10_sheet 5 = .ok (.ifCond .eq 9, 3) := by decide +kernel
theorem dX10_sheet_8 : decode cX10_sheet 8 = .ok (.iload_n 3, 1) := by decide +kernel
theorem dX10_sheet_9 : decode cX10_sheet 9 = .ok (.bipush 24, 2) := by decide +kernel
theorem dX10_sheet_11 : decode cX10_sheet 11 = .ok (.if_icmp .le 5, 3) := by decide +kernel
theorem dX10_sheet_14 : decode cX10_sheet 14 = .ok (.iconst (-1), 1) := by decide +kernel
theorem dX10_sheet_15 : decode cX10_sheet 15 = .ok (.ireturn, 1) := by decide +kernel
theorem dX10_sheet_16 : decode cX10_sheet 16 = .ok (.iload_n 3, 1) := by decide +kernel
theorem dX10_sheet_17 : decode cX10_sheet 17 = .ok (.ifCond .ge 6, 3) := by decide +kernel
theorem dX10_sheet_20 : decode cX10_sheet 20 = .ok (.bipush (-14), 2) := by decide +kernel
theorem dX10_sheet_22 : decode cX10_sheet 22 = .ok (.ireturn, 1) := by decide +kernel
theorem dX10_sheet_23 : decode cX10_sheet 23 = .ok (.aload_n 0, 1) := by decide +kernel
theorem dX10_sheet_24 : decode cX10_sheet 24 = .ok (.getfield 65, 3) := by decide +kernel
theorem dX10_sheet_27 : decode cX10_sheet 27 = .ok (.iload_n 1, 1) := by decide +kernel
theorem dX10_sheet_28 : decode cX10_sheet 28 = .ok (.iload_n 2, 1) := by decide +kernel
theorem dX10_sheet_29 : decode cX10_sheet 29 = .ok (.iastore, 1) := by decide +kernel
theorem dX10_sheet_30 : decode cX10_sheet 30 = .ok (.aload_n 0, 1) := by decide +kernel
theorem dX10_sheet_31 : decode cX10_sheet 31 = .ok (.getfield 68, 3) := by decide +kernel
theorem dX10_sheet_34 : decode cX10_sheet 34 = .ok (.iload_n 1, 1) := by decide +kernel
theorem dX10_sheet_35 : decode cX10_sheet 35 = .ok (.iload_n 3, 1) := by decide +kernel
theorem dX10_sheet_36 : decode cX10_sheet 36 = .ok (.iastore, 1) := by decide +kernel
theorem dX10_sheet_37 : decode cX10_sheet 37 = .ok (.iconst 0, 1) := by decide +kernel
theorem dX10_sheet_38 : decode cX10_sheet 38 = .ok (.istore 4, 2) := by decide +kernel
theorem dX10_sheet_40 : decode cX10_sheet 40 = .ok (.iload 4, 2) := by decide +kernel
theorem dX10_sheet_42 : decode cX10_sheet 42 = .ok (.bipush 24, 2) := by decide +kernel
theorem dX10_sheet_44 : decode cX10_sheet 44 = .ok (.if_icmp .ge 22, 3) := by decide +kernel
theorem dX10_sheet_47 : decode cX10_sheet 47 = .ok (.aload_n 0, 1) := by decide +kernel
theorem dX10_sheet_48 : decode cX10_sheet 48 = .ok (.getfield 71, 3) := by decide +kernel
theorem dX10_sheet_51 : decode cX10_sheet 51 = .ok (.bipush 24, 2) := by decide +kernel
theorem dX10_sheet_53 : decode cX10_sheet 53 = .ok (.iload_n 1, 1) := by decide +kernel
theorem dX10_sheet_54 : decode cX10_sheet 54 = .ok (.imul, 1) := by decide +kernel
theorem dX10_sheet_55 : decode cX10_sheet 55 = .ok (.iload 4, 2) := by decide +kernel
theorem dX10_sheet_57 : decode cX10_sheet 57 = .ok (.iadd, 1) := by decide +kernel
theorem dX10_sheet_58 : decode cX10_sheet 58 = .ok (.lconst 0, 1) := by decide +kernel
theorem dX10_sheet_59 : decode cX10_sheet 59 = .ok (.lastore, 1) := by decide +kernel
theorem dX10_sheet_60 : decode cX10_sheet 60 = .ok (.iinc 4 1, 3) := by decide +kernel
theorem dX10_sheet_63 : decode cX10_sheet 63 = .ok (.goto (-23), 3) := by decide +kernel
theorem dX10_sheet_66 : decode cX10_sheet 66 = .ok (.iload_n 3, 1) := by decide +kernel
theorem dX10_sheet_67 : decode cX10_sheet 67 = .ok (.ireturn, 1) := by decide +kernel
set_option maxRecDepth 20000 in
theorem ggX10_drop_X10_in : GoodIn wsX10_drop wsX10_in := goodIn_r _ [7] (by decide +kernel) (by decide +kernel)
set_option maxRecDepth 20000 in
theorem gX10_drop_X10_in : GoodIn wsX10_drop (va_wsS RX10 78 yX10_in wsX10_in) := goodIn_app (goodIn_of _ (by decide +kernel)) ggX10_drop_X10_in
theorem dX10_drop_0 : decode cX10_drop 0 = .ok (.iload_n 1, 1) := by decide +kernel
theorem dX10_drop_1 : decode cX10_drop 1 = .ok (.i2l, 1) := by decide +kernel
theorem dX10_drop_2 : decode cX10_drop 2 = .ok (.lconst 0, 1) := by decide +kernel
theorem dX10_drop_3 : decode cX10_drop 3 = .ok (.ldc2_w 84, 3) := by decide +kernel
theorem dX10_drop_6 : decode cX10_drop 6 = .ok (.invokestatic 78, 3) := by decide +kernel
theorem dX10_drop_9 : decode cX10_drop 9 = .ok (.ifCond .ne 5, 3) := by decide +kernel
theorem dX10_drop_12 : decode cX10_drop 12 = .ok (.iconst (-1), 1) := by decide +kernel
theorem dX10_drop_13 : decode cX10_drop 13 = .ok (.ireturn, 1) := by decide +kernel
theorem dX10_drop_14 : decode cX10_drop 14 = .ok (.aload_n 0, 1) := by decide +kernel
theorem dX10_drop_15 : decode cX10_drop 15 = .ok (.getfield 65, 3) := by decide +kernel
theorem dX10_drop_18 : decode cX10_drop 18 = .ok (.iload_n 1, 1) := by decide +kernel
theorem dX10_drop_19 : decode cX10_drop 19 = .ok (.iaload, 1) := by decide +kernel
theorem dX10_drop_20 : decode cX10_drop 20 = .ok (.ifCond .ge 6, 3) := by decide +kernel
theorem dX10_drop_23 : decode cX10_drop 23 = .ok (.bipush (-11), 2) := by decide +kernel
theorem dX10_drop_25 : decode cX10_drop 25 = .ok (.ireturn, 1) := by decide +kernel
theorem dX10_drop_26 : decode cX10_drop 26 = .ok (.aload_n 0, 1) := by decide +kernel
theorem dX10_drop_27 : decode cX10_drop 27 = .ok (.getfield 65, 3) := by decide +kernel
theorem dX10_drop_30 : decode cX10_drop 30 = .ok (.iload_n 1, 1) := by decide +kernel
theorem dX10_drop_31 : decode cX10_drop 31 = .ok (.iconst (-1), 1) := by decide +kernel
theorem dX10_drop_32 : decode cX10_drop 32 = .ok (.iastore, 1) := by decide +kernel
theorem dX10_drop_33 : decode cX10_drop 33 = .ok (.aload_n 0, 1) := by decide +kernel
theorem dX10_drop_34 : decode cX10_drop 34 = .ok (.getfield 68, 3) := by decide +kernel
theorem dX10_drop_37 : decode cX10_drop 37 = .ok (.iload_n 1, 1) := by decide +kernel
theorem dX10_drop_38 : decode cX10_drop 38 = .ok (.iaload, 1) := by decide +kernel
theorem dX10_drop_39 : decode cX10_drop 39 = .ok (.ireturn, 1) := by decide +kernel
set_option maxRecDepth 20000 in
theorem ggX10_lacksRow_X10_in : GoodIn wsX10_lacksRow wsX10_in := goodIn_r _ [6] (by decide +kernel) (by decide +kernel)
set_option maxRecDepth 20000 in
theorem gX10_lacksRow_X10_in : GoodIn wsX10_lacksRow (va_wsS RX10 78 yX10_in wsX10_in) := goodIn_app (goodIn_of _ (by decide +kernel)) ggX10_lacksRow_X10_in
theorem dX10_lacksRow_0 : decode cX10_lacksRow 0 = .ok (.aload_n 0, 1) := by decide +kernel
theorem dX10_lacksRow_1 : decode cX10_lacksRow 1 = .ok (.getfield 65, 3) := by decide +kernel
theorem dX10_lacksRow_4 : decode cX10_lacksRow 4 = .ok (.iload_n 1, 1) := by decide +kernel
theorem dX10_lacksRow_5 : decode cX10_lacksRow 5 = .ok (.iaload, 1) := by decide +kernel
theorem dX10_lacksRow_6 : decode cX10_lacksRow 6 = .ok (.iload_n 2, 1) := by decide +kernel
theorem dX10_lacksRow_7 : decode cX10_lacksRow 7 = .ok (.if_icmp .eq 20, 3) := by decide +kernel
theorem dX10_lacksRow_10 : decode cX10_lacksRow 10 = .ok (.aload_n 0, 1) := by decide +kernel
theorem dX10_lacksRow_11 : decode cX10_lacksRow 11 = .ok (.getfield 65, 3) := by decide +kernel
theorem dX10_lacksRow_14 : decode cX10_lacksRow 14 = .ok (.iload_n 1, 1) := by decide +kernel
theorem dX10_lacksRow_15 : decode cX10_lacksRow 15 = .ok (.iaload, 1) := by decide +kernel
theorem dX10_lacksRow_16 : decode cX10_lacksRow 16 = .ok (.ifCond .ge 8, 3) := by decide +kernel
theorem dX10_lacksRow_19 : decode cX10_lacksRow 19 = .ok (.bipush (-11), 2) := by decide +kernel
theorem dX10_lacksRow_21 : decode cX10_lacksRow 21 = .ok (.goto 5, 3) := by decide +kernel
theorem dX10_lacksRow_24 : decode cX10_lacksRow 24 = .ok (.bipush (-12), 2) := by decide +kernel
theorem dX10_lacksRow_26 : decode cX10_lacksRow 26 = .ok (.ireturn, 1) := by decide +kernel
theorem dX10_lacksRow_27 : decode cX10_lacksRow 27 = .ok (.iload_n 3, 1) := by decide +kernel
theorem dX10_lacksRow_28 : decode cX10_lacksRow 28 = .ok (.i2l, 1) := by decide +kernel
theorem dX10_lacksRow_29 : decode cX10_lacksRow 29 = .ok (.lconst 0, 1) := by decide +kernel
theorem dX10_lacksRow_30 : decode cX10_lacksRow 30 = .ok (.aload_n 0, 1) := by decide +kernel
theorem dX10_lacksRow_31 : decode cX10_lacksRow 31 = .ok (.getfield 68, 3) := by decide +kernel
theorem dX10_lacksRow_34 : decode cX10_lacksRow 34 = .ok (.iload_n 1, 1) := by decide +kernel
theorem dX10_lacksRow_35 : decode cX10_lacksRow 35 = .ok (.iaload, 1) := by decide +kernel
theorem dX10_lacksRow_36 : decode cX10_lacksRow 36 = .ok (.iload 4, 2) := by decide +kernel
theorem dX10_lacksRow_38 : decode cX10_lacksRow 38 = .ok (.isub, 1) := by decide +kernel
theorem dX10_lacksRow_39 : decode cX10_lacksRow 39 = .ok (.i2l, 1) := by decide +kernel
theorem dX10_lacksRow_40 : decode cX10_lacksRow 40 = .ok (.invokestatic 78, 3) := by decide +kernel
theorem dX10_lacksRow_43 : decode cX10_lacksRow 43 = .ok (.ifCond .eq 7, 3) := by decide +kernel
theorem dX10_lacksRow_46 : decode cX10_lacksRow 46 = .ok (.iconst 0, 1) := by decide +kernel
theorem dX10_lacksRow_47 : decode cX10_lacksRow 47 = .ok (.goto 5, 3) := by decide +kernel
theorem dX10_lacksRow_50 : decode cX10_lacksRow 50 = .ok (.bipush (-13), 2) := by decide +kernel
theorem dX10_lacksRow_52 : decode cX10_lacksRow 52 = .ok (.ireturn, 1) := by decide +kernel
set_option maxRecDepth 20000 in
theorem ggX10_item_X10_isSheet : GoodIn wsX10_item wsX10_isSheet := goodIn_r _ [5, 6, 7, 8, 9, 4, 10] (by decide +kernel) (by decide +kernel)
set_option maxRecDepth 20000 in
theorem gX10_item_X10_isSheet : GoodIn wsX10_item (va_wsS RX10 266 yX10_isSheet wsX10_isSheet) := goodIn_app (goodIn_of _ (by decide +kernel)) ggX10_item_X10_isSheet
set_option maxRecDepth 20000 in
theorem ggX10_item_X10_lacksRow : GoodIn wsX10_item wsX10_lacksRow := goodIn_r _ [14, 15, 16, 8, 9, 4, 10, 17, 18, 19, 20, 21, 22, 23, 24, 25, 26, 27, 28, 29, 30, 31, 32, 33, 34, 35, 36, 37, 38, 39, 40, 41, 42, 43, 44, 45, 46, 47, 48, 49, 50, 51] (by decide +kernel) (by decide +kernel)
set_option maxRecDepth 20000 in
theorem gX10_item_X10_lacksRow : GoodIn wsX10_item (wsV RX10 269 RX10 yX10_lacksRow wsX10_lacksRow) := goodIn_app (goodIn_of _ (by decide +kernel)) ggX10_item_X10_lacksRow
theorem dX10_item_0 : decode cX10_item 0 = .ok (.iload_n 1, 1) := by decide +kernel
theorem dX10_item_1 : decode cX10_item 1 = .ok (.iload_n 2, 1) := by decide +kernel
theorem dX10_item_2 : decode cX10_item 2 = .ok (.invokestatic 266, 3) := by decide +kernel
theorem dX10_item_5 : decode cX10_item 5 = .ok (.ifCond .ne 5, 3) := by decide +kernel
theorem dX10_item_8 : decode cX10_item 8 = .ok (.iconst (-1), 1) := by decide +kernel
theorem dX10_item_9 : decode cX10_item 9 = .ok (.ireturn, 1) := by decide +kernel
theorem dX10_item_10 : decode cX10_item 10 = .ok (.aload_n 0, 1) := by decide +kernel
theorem dX10_item_11 : decode cX10_item 11 = .ok (.iload_n 1, 1) := by decide +kernel
theorem dX10_item_12 : decode cX10_item 12 = .ok (.iload_n 2, 1) := by decide +kernel
theorem dX10_item_13 : decode cX10_item 13 = .ok (.iload_n 3, 1) := by decide +kernel
theorem dX10_item_14 : decode cX10_item 14 = .ok (.iconst 1, 1) := by decide +kernel
theorem dX10_item_15 : decode cX10_item 15 = .ok (.invokevirtual 269, 3) := by decide +kernel
theorem dX10_item_18 : decode cX10_item 18 = .ok (.istore 6, 2) := by decide +kernel
theorem dX10_item_20 : decode cX10_item 20 = .ok (.iload 6, 2) := by decide +kernel
theorem dX10_item_22 : decode cX10_item 22 = .ok (.ifCond .ge 6, 3) := by decide +kernel
theorem dX10_item_25 : decode cX10_item 25 = .ok (.iload 6, 2) := by decide +kernel
theorem dX10_item_27 : decode cX10_item 27 = .ok (.ireturn, 1) := by decide +kernel
theorem dX10_item_28 : decode cX10_item 28 = .ok (.aload_n 0, 1) := by decide +kernel
theorem dX10_item_29 : decode cX10_item 29 = .ok (.getfield 71, 3) := by decide +kernel
theorem dX10_item_32 : decode cX10_item 32 = .ok (.bipush 24, 2) := by decide +kernel
theorem dX10_item_34 : decode cX10_item 34 = .ok (.iload_n 1, 1) := by decide +kernel
theorem dX10_item_35 : decode cX10_item 35 = .ok (.imul, 1) := by decide +kernel
theorem dX10_item_36 : decode cX10_item 36 = .ok (.iload_n 3, 1) := by decide +kernel
theorem dX10_item_37 : decode cX10_item 37 = .ok (.iadd, 1) := by decide +kernel
theorem dX10_item_38 : decode cX10_item 38 = .ok (.iload_n 2, 1) := by decide +kernel
theorem dX10_item_39 : decode cX10_item 39 = .ok (.ifCond .ne 14, 3) := by decide +kernel
theorem dX10_item_42 : decode cX10_item 42 = .ok (.lload 4, 2) := by decide +kernel
theorem dX10_item_44 : decode cX10_item 44 = .ok (.bipush 56, 2) := by decide +kernel
theorem dX10_item_46 : decode cX10_item 46 = .ok (.lshl, 1) := by decide +kernel
theorem dX10_item_47 : decode cX10_item 47 = .ok (.bipush 56, 2) := by decide +kernel
theorem dX10_item_49 : decode cX10_item 49 = .ok (.lshr, 1) := by decide +kernel
theorem dX10_item_50 : decode cX10_item 50 = .ok (.goto 21, 3) := by decide +kernel
theorem dX10_item_53 : decode cX10_item 53 = .ok (.iload_n 2, 1) := by decide +kernel
theorem dX10_item_54 : decode cX10_item 54 = .ok (.iconst 1, 1) := by decide +kernel
theorem dX10_item_55 : decode cX10_item 55 = .ok (.if_icmp .ne 14, 3) := by decide +kernel
theorem dX10_item_58 : decode cX10_item 58 = .ok (.lload 4, 2) := by decide +kernel
theorem dX10_item_60 : decode cX10_item 60 = .ok (.bipush 32, 2) := by decide +kernel
theorem dX10_item_62 : decode cX10_item 62 = .ok (.lshl, 1) := by decide +kernel
theorem dX10_item_63 : decode cX10_item 63 = .ok (.bipush 32, 2) := by decide +kernel
theorem dX10_item_65 : decode cX10_item 65 = .ok (.lshr, 1) := by decide +kernel
theorem dX10_item_66 : decode cX10_item 66 = .ok (.goto 5, 3) := by decide +kernel
theorem dX10_item_69 : decode cX10_item 69 = .ok (.lload 4, 2) := by decide +kernel
theorem dX10_item_71 : decode cX10_item 71 = .ok (.lastore, 1) := by decide +kernel
theorem dX10_item_72 : decode cX10_item 72 = .ok (.iconst 1, 1) := by decide +kernel
theorem dX10_item_73 : decode cX10_item 73 = .ok (.ireturn, 1) := by decide +kernel
theorem dX10_isSeen_0 : decode cX10_isSeen 0 = .ok (.lconst 0, 1) := by decide +kernel
theorem dX10_isSeen_1 : decode cX10_isSeen 1 = .ok (.lstore 5, 2) := by decide +kernel
theorem dX10_isSeen_3 : decode cX10_isSeen 3 = .ok (.iconst 0, 1) := by decide +kernel
theorem dX10_isSeen_4 : decode cX10_isSeen 4 = .ok (.istore 7, 2) := by decide +kernel
theorem dX10_isSeen_6 : decode cX10_isSeen 6 = .ok (.iload 7, 2) := by decide +kernel
theorem dX10_isSeen_8 : decode cX10_isSeen 8 = .ok (.iload_n 3, 1) := by decide +kernel
theorem dX10_isSeen_9 : decode cX10_isSeen 9 = .ok (.if_icmp .ge 38, 3) := by decide +kernel
theorem dX10_isSeen_12 : decode cX10_isSeen 12 = .ok (.lload 5, 2) := by decide +kernel
theorem dX10_isSeen_14 : decode cX10_isSeen 14 = .ok (.iload_n 2, 1) := by decide +kernel
theorem dX10_isSeen_15 : decode cX10_isSeen 15 = .ok (.i2l, 1) := by decide +kernel
theorem dX10_isSeen_16 : decode cX10_isSeen 16 = .ok (.lcmp, 1) := by decide +kernel
theorem dX10_isSeen_17 : decode cX10_isSeen 17 = .ok (.ifCond .lt 5, 3) := by decide +kernel
theorem dX10_isSeen_20 : decode cX10_isSeen 20 = .ok (.iconst 0, 1) := by decide +kernel
theorem dX10_isSeen_21 : decode cX10_isSeen 21 = .ok (.ireturn, 1) := by decide +kernel
theorem dX10_isSeen_22 : decode cX10_isSeen 22 = .ok (.lload 5, 2) := by decide +kernel
theorem dX10_isSeen_24 : decode cX10_isSeen 24 = .ok (.aload_n 0, 1) := by decide +kernel
theorem dX10_isSeen_25 : decode cX10_isSeen 25 = .ok (.getfield 71, 3) := by decide +kernel
theorem dX10_isSeen_28 : decode cX10_isSeen 28 = .ok (.iload_n 1, 1) := by decide +kernel
theorem dX10_isSeen_29 : decode cX10_isSeen 29 = .ok (.aload_n 0, 1) := by decide +kernel
theorem dX10_isSeen_30 : decode cX10_isSeen 30 = .ok (.getfield 46, 3) := by decide +kernel
theorem dX10_isSeen_33 : decode cX10_isSeen 33 = .ok (.iload 7, 2) := by decide +kernel
theorem dX10_isSeen_35 : decode cX10_isSeen 35 = .ok (.iaload, 1) := by decide +kernel
theorem dX10_isSeen_36 : decode cX10_isSeen 36 = .ok (.iadd, 1) := by decide +kernel
theorem dX10_isSeen_37 : decode cX10_isSeen 37 = .ok (.laload, 1) := by decide +kernel
theorem dX10_isSeen_38 : decode cX10_isSeen 38 = .ok (.ladd, 1) := by decide +kernel
theorem dX10_isSeen_39 : decode cX10_isSeen 39 = .ok (.lstore 5, 2) := by decide +kernel
theorem dX10_isSeen_41 : decode cX10_isSeen 41 = .ok (.iinc 7 1, 3) := by decide +kernel
theorem dX10_isSeen_44 : decode cX10_isSeen 44 = .ok (.goto (-38), 3) := by decide +kernel
theorem dX10_isSeen_47 : decode cX10_isSeen 47 = .ok (.lload 5, 2) := by decide +kernel
theorem dX10_isSeen_49 : decode cX10_isSeen 49 = .ok (.iload_n 2, 1) := by decide +kernel
theorem dX10_isSeen_50 : decode cX10_isSeen 50 = .ok (.i2l, 1) := by decide +kernel
theorem dX10_isSeen_51 : decode cX10_isSeen 51 = .ok (.lsub, 1) := by decide +kernel
theorem dX10_isSeen_52 : decode cX10_isSeen 52 = .ok (.iload 4, 2) := by decide +kernel
theorem dX10_isSeen_54 : decode cX10_isSeen 54 = .ok (.i2l, 1) := by decide +kernel
theorem dX10_isSeen_55 : decode cX10_isSeen 55 = .ok (.lcmp, 1) := by decide +kernel
theorem dX10_isSeen_56 : decode cX10_isSeen 56 = .ok (.ifCond .ne 7, 3) := by decide +kernel
theorem dX10_isSeen_59 : decode cX10_isSeen 59 = .ok (.iconst 1, 1) := by decide +kernel
theorem dX10_isSeen_60 : decode cX10_isSeen 60 = .ok (.goto 4, 3) := by decide +kernel
theorem dX10_isSeen_63 : decode cX10_isSeen 63 = .ok (.iconst 0, 1) := by decide +kernel
theorem dX10_isSeen_64 : decode cX10_isSeen 64 = .ok (.ireturn, 1) := by decide +kernel
set_option maxRecDepth 20000 in
theorem ggX10_seen_X10_isSheet : GoodIn wsX10_seen wsX10_isSheet := goodIn_r _ [10, 11, 12, 13, 14, 9, 15] (by decide +kernel) (by decide +kernel)
set_option maxRecDepth 20000 in
theorem gX10_seen_X10_isSheet : GoodIn wsX10_seen (va_wsS RX10 266 yX10_isSheet wsX10_isSheet) := goodIn_app (goodIn_of _ (by decide +kernel)) ggX10_seen_X10_isSheet
set_option maxRecDepth 20000 in
theorem ggX10_seen_X10_in : GoodIn wsX10_seen wsX10_in := goodIn_r _ [15] (by decide +kernel) (by decide +kernel)
set_option maxRecDepth 20000 in
theorem gX10_seen_X10_in : GoodIn wsX10_seen (va_wsS RX10 78 yX10_in wsX10_in) := goodIn_app (goodIn_of _ (by decide +kernel)) ggX10_seen_X10_in
set_option maxRecDepth 20000 in
theorem ggX10_seen_X10_isSum : GoodIn wsX10_seen wsX10_isSum := goodIn_r _ [18, 19, 13, 14, 9, 15] (by decide +kernel) (by decide +kernel)
set_option maxRecDepth 20000 in
theorem gX10_seen_X10_isSum : GoodIn wsX10_seen (va_wsS RX10 208 yX10_isSum wsX10_isSum) := goodIn_app (goodIn_of _ (by decide +kernel)) ggX10_seen_X10_isSum
set_option maxRecDepth 20000 in
theorem ggX10_seen_X10_lacksRow : GoodIn wsX10_seen wsX10_lacksRow := goodIn_r _ [23, 24, 25, 13, 14, 9, 15, 38, 39, 40, 41, 42, 43, 44, 45, 46, 47, 48, 49, 50, 51, 52, 53, 54, 55, 56, 57, 58, 59, 60, 61, 62, 63, 64, 65, 66, 67, 68, 69, 70, 71, 72] (by decide +kernel) (by decide +kernel)
set_option maxRecDepth 20000 in
theorem gX10_seen_X10_lacksRow : GoodIn wsX10_seen (wsV RX10 269 RX10 yX10_lacksRow wsX10_lacksRow) := goodIn_app (goodIn_of _ (by decide +kernel)) ggX10_seen_X10_lacksRow
set_option maxRecDepth 20000 in
theorem ggX10_seen_X10_firstOrder : GoodIn wsX10_seen wsX10_firstOrder := goodIn_r _ [29, 6, 38, 39, 40, 41, 42, 43, 44, 45, 46, 47, 48, 49, 50, 51, 52, 53, 54, 55, 56, 57, 58, 59, 60, 61, 62, 63, 64, 65, 66, 67, 68, 69, 70, 71, 72] (by decide +kernel) (by decide +kernel)
set_option maxRecDepth 20000 in
theorem gX10_seen_X10_firstOrder : GoodIn wsX10_seen (wsV RX10 234 RX10 yX10_firstOrder wsX10_firstOrder) := goodIn_app (goodIn_of _ (by decide +kernel)) ggX10_seen_X10_firstOrder
set_option maxRecDepth 20000 in
theorem ggX10_seen_X10_isSeen : GoodIn wsX10_seen wsX10_isSeen := goodIn_r _ [33, 4, 6, 38, 39, 40, 41, 42, 43, 44, 45, 46, 47, 48, 49, 50, 51, 52, 53, 54, 55, 56, 57, 58, 59, 60, 61, 62, 63, 64, 65, 66, 67, 68, 69, 70, 71, 72] (by decide +kernel) (by decide +kernel)
set_option maxRecDepth 20000 in
theorem gX10_seen_X10_isSeen : GoodIn wsX10_seen (wsV RX10 273 RX10 yX10_isSeen wsX10_isSeen) := goodIn_app (goodIn_of _ (by decide +kernel)) ggX10_seen_X10_isSeen
set_option maxRecDepth 20000 in
theorem ggX10_seen_X10_nextOrder : GoodIn wsX10_seen wsX10_nextOrder := goodIn_r _ [37, 6, 38, 39, 40, 41, 42, 43, 44, 45, 46, 47, 48, 49, 50, 51, 52, 53, 54, 55, 56, 57, 58, 59, 60, 61, 62, 63, 64, 65, 66, 67, 68, 69, 70, 71, 72] (by decide +kernel) (by decide +kernel)
set_option maxRecDepth 20000 in
theorem gX10_seen_X10_nextOrder : GoodIn wsX10_seen (wsV RX10 240 RX10 yX10_nextOrder wsX10_nextOrder) := goodIn_app (goodIn_of _ (by decide +kernel)) ggX10_seen_X10_nextOrder
theorem dX10_seen_0 : decode cX10_seen 0 = .ok (.iload_n 1, 1) := by decide +kernel
theorem dX10_seen_1 : decode cX10_seen 1 = .ok (.iload_n 2, 1) := by decide +kernel
theorem dX10_seen_2 : decode cX10_seen 2 = .ok (.invokestatic 266, 3) := by decide +kernel
theorem dX10_seen_5 : decode cX10_seen 5 = .ok (.ifCond .eq 67, 3) := by decide +kernel
theorem dX10_seen_8 : decode cX10_seen 8 = .ok (.iload 4, 2) := by decide +kernel
theorem dX10_seen_10 : decode cX10_seen 10 = .ok (.i2l, 1) := by decide +kernel
theorem dX10_seen_11 : decode cX10_seen 11 = .ok (.lconst 1, 1) := by decide +kernel
theorem dX10_seen_12 : decode cX10_seen 12 = .ok (.ldc2_w 86, 3) := by decide +kernel
theorem dX10_seen_15 : decode cX10_seen 15 = .ok (.invokestatic 78, 3) := by decide +kernel
theorem dX10_seen_18 : decode cX10_seen 18 = .ok (.ifCond .eq 54, 3) := by decide +kernel
theorem dX10_seen_21 : decode cX10_seen 21 = .ok (.iload 5, 2) := by decide +kernel
theorem dX10_seen_23 : decode cX10_seen 23 = .ok (.invokestatic 208, 3) := by decide +kernel
theorem dX10_seen_26 : decode cX10_seen 26 = .ok (.ifCond .eq 46, 3) := by decide +kernel
theorem dX10_seen_29 : decode cX10_seen 29 = .ok (.iload 6, 2) := by decide +kernel
theorem dX10_seen_31 : decode cX10_seen 31 = .ok (.i2l, 1) := by decide +kernel
theorem dX10_seen_32 : decode cX10_seen 32 = .ok (.lconst 1, 1) := by decide +kernel
theorem dX10_seen_33 : decode cX10_seen 33 = .ok (.ldc2_w 86, 3) := by decide +kernel
theorem dX10_seen_36 : decode cX10_seen 36 = .ok (.invokestatic 78, 3) := by decide +kernel
theorem dX10_seen_39 : decode cX10_seen 39 = .ok (.ifCond .eq 33, 3) := by decide +kernel
theorem dX10_seen_42 : decode cX10_seen 42 = .ok (.iload 7, 2) := by decide +kernel
theorem dX10_seen_44 : decode cX10_seen 44 = .ok (.i2l, 1) := by decide +kernel
theorem dX10_seen_45 : decode cX10_seen 45 = .ok (.lconst 0, 1) := by decide +kernel
theorem dX10_seen_46 : decode cX10_seen 46 = .ok (.ldc2_w 94, 3) := by decide +kernel
theorem dX10_seen_49 : decode cX10_seen 49 = .ok (.invokestatic 78, 3) := by decide +kernel
theorem dX10_seen_52 : decode cX10_seen 52 = .ok (.ifCond .eq 20, 3) := by decide +kernel
theorem dX10_seen_55 : decode cX10_seen 55 = .ok (.iload 8, 2) := by decide +kernel
theorem dX10_seen_57 : decode cX10_seen 57 = .ok (.i2l, 1) := by decide +kernel
theorem dX10_seen_58 : decode cX10_seen 58 = .ok (.ldc2_w 230, 3) := by decide +kernel
theorem dX10_seen_61 : decode cX10_seen 61 = .ok (.iload 4, 2) := by decide +kernel
theorem dX10_seen_63 : decode cX10_seen 63 = .ok (.iconst 1, 1) := by decide +kernel
theorem dX10_seen_64 : decode cX10_seen 64 = .ok (.isub, 1) := by decide +kernel
theorem dX10_seen_65 : decode cX10_seen 65 = .ok (.i2l, 1) := by decide +kernel
theorem dX10_seen_66 : decode cX10_seen 66 = .ok (.invokestatic 78, 3) := by decide +kernel
theorem dX10_seen_69 : decode cX10_seen 69 = .ok (.ifCond .ne 5, 3) := by decide +kernel
theorem dX10_seen_72 : decode cX10_seen 72 = .ok (.iconst (-1), 1) := by decide +kernel
theorem dX10_seen_73 : decode cX10_seen 73 = .ok (.ireturn, 1) := by decide +kernel
theorem dX10_seen_74 : decode cX10_seen 74 = .ok (.aload_n 0, 1) := by decide +kernel
theorem dX10_seen_75 : decode cX10_seen 75 = .ok (.iload_n 1, 1) := by decide +kernel
theorem dX10_seen_76 : decode cX10_seen 76 = .ok (.iload_n 2, 1) := by decide +kernel
theorem dX10_seen_77 : decode cX10_seen 77 = .ok (.iload_n 3, 1) := by decide +kernel
theorem dX10_seen_78 : decode cX10_seen 78 = .ok (.iload 4, 2) := by decide +kernel
theorem dX10_seen_80 : decode cX10_seen 80 = .ok (.invokevirtual 269, 3) := by decide +kernel
theorem dX10_seen_83 : decode cX10_seen 83 = .ok (.istore 9, 2) := by decide +kernel
theorem dX10_seen_85 : decode cX10_seen 85 = .ok (.iload 9, 2) := by decide +kernel
theorem dX10_seen_87 : decode cX10_seen 87 = .ok (.ifCond .ge 6, 3) := by decide +kernel
theorem dX10_seen_90 : decode cX10_seen 90 = .ok (.iload 9, 2) := by decide +kernel
theorem dX10_seen_92 : decode cX10_seen 92 = .ok (.ireturn, 1) := by decide +kernel
theorem dX10_seen_93 : decode cX10_seen 93 = .ok (.bipush 24, 2) := by decide +kernel
theorem dX10_seen_95 : decode cX10_seen 95 = .ok (.iload_n 1, 1) := by decide +kernel
theorem dX10_seen_96 : decode cX10_seen 96 = .ok (.imul, 1) := by decide +kernel
theorem dX10_seen_97 : decode cX10_seen 97 = .ok (.iload_n 3, 1) := by decide +kernel
theorem dX10_seen_98 : decode cX10_seen 98 = .ok (.iadd, 1) := by decide +kernel
theorem dX10_seen_99 : decode cX10_seen 99 = .ok (.istore 10, 2) := by decide +kernel
theorem dX10_seen_101 : decode cX10_seen 101 = .ok (.iconst 0, 1) := by decide +kernel
theorem dX10_seen_102 : decode cX10_seen 102 = .ok (.istore 11, 2) := by decide +kernel
theorem dX10_seen_104 : decode cX10_seen 104 = .ok (.iload 11, 2) := by decide +kernel
theorem dX10_seen_106 : decode cX10_seen 106 = .ok (.iload 4, 2) := by decide +kernel
theorem dX10_seen_108 : decode cX10_seen 108 = .ok (.if_icmp .ge 32, 3) := by decide +kernel
theorem dX10_seen_111 : decode cX10_seen 111 = .ok (.aload_n 0, 1) := by decide +kernel
theorem dX10_seen_112 : decode cX10_seen 112 = .ok (.getfield 71, 3) := by decide +kernel
theorem dX10_seen_115 : decode cX10_seen 115 = .ok (.iload 10, 2) := by decide +kernel
theorem dX10_seen_117 : decode cX10_seen 117 = .ok (.iload 11, 2) := by decide +kernel
theorem dX10_seen_119 : decode cX10_seen 119 = .ok (.iadd, 1) := by decide +kernel
theorem dX10_seen_120 : decode cX10_seen 120 = .ok (.laload, 1) := by decide +kernel
theorem dX10_seen_121 : decode cX10_seen 121 = .ok (.lconst 1, 1) := by decide +kernel
theorem dX10_seen_122 : decode cX10_seen 122 = .ok (.ldc2_w 94, 3) := by decide +kernel
theorem dX10_seen_125 : decode cX10_seen 125 = .ok (.invokestatic 78, 3) := by decide +kernel
theorem dX10_seen_128 : decode cX10_seen 128 = .ok (.ifCond .ne 6, 3) := by decide +kernel
theorem dX10_seen_131 : decode cX10_seen 131 = .ok (.bipush (-2), 2) := by decide +kernel
theorem dX10_seen_133 : decode cX10_seen 133 = .ok (.ireturn, 1) := by decide +kernel
theorem dX10_seen_134 : decode cX10_seen 134 = .ok (.iinc 11 1, 3) := by decide +kernel
theorem dX10_seen_137 : decode cX10_seen 137 = .ok (.goto (-33), 3) := by decide +kernel
theorem dX10_seen_140 : decode cX10_seen 140 = .ok (.aload_n 0, 1) := by decide +kernel
theorem dX10_seen_141 : decode cX10_seen 141 = .ok (.invokevirtual 234, 3) := by decide +kernel
theorem dX10_seen_144 : decode cX10_seen 144 = .ok (.iconst 0, 1) := by decide +kernel
theorem dX10_seen_145 : decode cX10_seen 145 = .ok (.istore 11, 2) := by decide +kernel
theorem dX10_seen_147 : decode cX10_seen 147 = .ok (.iload 6, 2) := by decide +kernel
theorem dX10_seen_149 : decode cX10_seen 149 = .ok (.iload 4, 2) := by decide +kernel
theorem dX10_seen_151 : decode cX10_seen 151 = .ok (.if_icmp .gt 7, 3) := by decide +kernel
theorem dX10_seen_154 : decode cX10_seen 154 = .ok (.iconst 1, 1) := by decide +kernel
theorem dX10_seen_155 : decode cX10_seen 155 = .ok (.goto 4, 3) := by decide +kernel
theorem dX10_seen_158 : decode cX10_seen 158 = .ok (.iconst 0, 1) := by decide +kernel
theorem dX10_seen_159 : decode cX10_seen 159 = .ok (.istore 12, 2) := by decide +kernel
theorem dX10_seen_161 : decode cX10_seen 161 = .ok (.iload 12, 2) := by decide +kernel
theorem dX10_seen_163 : decode cX10_seen 163 = .ok (.ifCond .eq 67, 3) := by decide +kernel
theorem dX10_seen_166 : decode cX10_seen 166 = .ok (.aload_n 0, 1) := by decide +kernel
theorem dX10_seen_167 : decode cX10_seen 167 = .ok (.iload 10, 2) := by decide +kernel
theorem dX10_seen_169 : decode cX10_seen 169 = .ok (.iload 5, 2) := by decide +kernel
theorem dX10_seen_171 : decode cX10_seen 171 = .ok (.iload 6, 2) := by decide +kernel
theorem dX10_seen_173 : decode cX10_seen 173 = .ok (.iload 7, 2) := by decide +kernel
theorem dX10_seen_175 : decode cX10_seen 175 = .ok (.invokevirtual 273, 3) := by decide +kernel
theorem dX10_seen_178 : decode cX10_seen 178 = .ok (.ifCond .eq 41, 3) := by decide +kernel
theorem dX10_seen_181 : decode cX10_seen 181 = .ok (.iconst 0, 1) := by decide +kernel
theorem dX10_seen_182 : decode cX10_seen 182 = .ok (.istore 13, 2) := by decide +kernel
theorem dX10_seen_184 : decode cX10_seen 184 = .ok (.iload 13, 2) := by decide +kernel
theorem dX10_seen_186 : decode cX10_seen 186 = .ok (.iload 4, 2) := by decide +kernel
theorem dX10_seen_188 : decode cX10_seen 188 = .ok (.if_icmp .ge 28, 3) := by decide +kernel
theorem dX10_seen_191 : decode cX10_seen 191 = .ok (.iload 11, 2) := by decide +kernel
theorem dX10_seen_193 : decode cX10_seen 193 = .ok (.ifCond .ne 23, 3) := by decide +kernel
theorem dX10_seen_196 : decode cX10_seen 196 = .ok (.aload_n 0, 1) := by decide +kernel
theorem dX10_seen_197 : decode cX10_seen 197 = .ok (.getfield 49, 3) := by decide +kernel
theorem dX10_seen_200 : decode cX10_seen 200 = .ok (.iload 13, 2) := by decide +kernel
theorem dX10_seen_202 : decode cX10_seen 202 = .ok (.aload_n 0, 1) := by decide +kernel
theorem dX10_seen_203 : decode cX10_seen 203 = .ok (.getfield 46, 3) := by decide +kernel
theorem dX10_seen_206 : decode cX10_seen 206 = .ok (.iload 13, 2) := by decide +kernel
theorem dX10_seen_208 : decode cX10_seen 208 = .ok (.iaload, 1) := by decide +kernel
theorem dX10_seen_209 : decode cX10_seen 209 = .ok (.iastore, 1) := by decide +kernel
theorem dX10_seen_210 : decode cX10_seen 210 = .ok (.iinc 13 1, 3) := by decide +kernel
theorem dX10_seen_213 : decode cX10_seen 213 = .ok (.goto (-29), 3) := by decide +kernel
theorem dX10_seen_216 : decode cX10_seen 216 = .ok (.iinc 11 1, 3) := by decide +kernel
theorem dX10_seen_219 : decode cX10_seen 219 = .ok (.aload_n 0, 1) := by decide +kernel
theorem dX10_seen_220 : decode cX10_seen 220 = .ok (.iload 4, 2) := by decide +kernel
theorem dX10_seen_222 : decode cX10_seen 222 = .ok (.invokevirtual 240, 3) := by decide +kernel
theorem dX10_seen_225 : decode cX10_seen 225 = .ok (.istore 12, 2) := by decide +kernel
theorem dX10_seen_227 : decode cX10_seen 227 = .ok (.goto (-66), 3) := by decide +kernel
theorem dX10_seen_230 : decode cX10_seen 230 = .ok (.iload 11, 2) := by decide +kernel
theorem dX10_seen_232 : decode cX10_seen 232 = .ok (.ifCond .ne 8, 3) := by decide +kernel
theorem dX10_seen_235 : decode cX10_seen 235 = .ok (.bipush (-4), 2) := by decide +kernel
theorem dX10_seen_237 : decode cX10_seen 237 = .ok (.goto 20, 3) := by decide +kernel
theorem dX10_seen_240 : decode cX10_seen 240 = .ok (.iload 8, 2) := by decide +kernel
theorem dX10_seen_242 : decode cX10_seen 242 = .ok (.ifCond .ge 8, 3) := by decide +kernel
theorem dX10_seen_245 : decode cX10_seen 245 = .ok (.iload 11, 2) := by decide +kernel
theorem dX10_seen_247 : decode cX10_seen 247 = .ok (.goto 10, 3) := by decide +kernel
theorem dX10_seen_250 : decode cX10_seen 250 = .ok (.aload_n 0, 1) := by decide +kernel
theorem dX10_seen_251 : decode cX10_seen 251 = .ok (.getfield 49, 3) := by decide +kernel
theorem dX10_seen_254 : decode cX10_seen 254 = .ok (.iload 8, 2) := by decide +kernel
theorem dX10_seen_256 : decode cX10_seen 256 = .ok (.iaload, 1) := by decide +kernel
theorem dX10_seen_257 : decode cX10_seen 257 = .ok (.ireturn, 1) := by decide +kernel
set_option maxRecDepth 20000 in
theorem ggX10_film_X10_isHolder : GoodIn wsX10_film wsX10_isHolder := goodIn_r _ [8, 9, 10, 11, 7, 12] (by decide +kernel) (by decide +kernel)
set_option maxRecDepth 20000 in
theorem gX10_film_X10_isHolder : GoodIn wsX10_film (va_wsS RX10 90 yX10_isHolder wsX10_isHolder) := goodIn_app (goodIn_of _ (by decide +kernel)) ggX10_film_X10_isHolder
set_option maxRecDepth 20000 in
theorem ggX10_film_X10_isSheet : GoodIn wsX10_film wsX10_isSheet := goodIn_r _ [15, 16, 17, 10, 11, 7, 12] (by decide +kernel) (by decide +kernel)
set_option maxRecDepth 20000 in
theorem gX10_film_X10_isSheet : GoodIn wsX10_film (va_wsS RX10 266 yX10_isSheet wsX10_isSheet) := goodIn_app (goodIn_of _ (by decide +kernel)) ggX10_film_X10_isSheet
set_option maxRecDepth 20000 in
theorem ggX10_film_X10_findRow : GoodIn wsX10_film wsX10_findRow := goodIn_r _ [21, 2, 22, 23, 4, 24, 25, 26, 7, 27, 28, 29, 30, 31, 32, 33, 34, 35, 36, 37, 38, 39, 46, 47, 48, 49, 50, 51, 52, 53, 54, 55, 56, 57, 58, 59, 60, 61, 62, 63, 64, 65, 66, 67, 68, 69, 70, 71, 72, 73, 74, 75, 76, 77, 78, 79, 80] (by decide +kernel) (by decide +kernel)
set_option maxRecDepth 20000 in
theorem gX10_film_X10_findRow : GoodIn wsX10_film (wsV RX10 125 RX10 yX10_findRow wsX10_findRow) := goodIn_app (goodIn_of _ (by decide +kernel)) ggX10_film_X10_findRow
set_option maxRecDepth 20000 in
theorem ggX10_film_X10_lacksRow : GoodIn wsX10_film wsX10_lacksRow := goodIn_r _ [43, 44, 45, 10, 11, 7, 12, 46, 47, 48, 49, 50, 51, 52, 53, 54, 55, 56, 57, 58, 59, 60, 61, 62, 63, 64, 65, 66, 67, 68, 69, 70, 71, 72, 73, 74, 75, 76, 77, 78, 79, 80] (by decide +kernel) (by decide +kernel)
set_option maxRecDepth 20000 in
theorem gX10_film_X10_lacksRow : GoodIn wsX10_film (wsV RX10 269 RX10 yX10_lacksRow wsX10_lacksRow) := goodIn_app (goodIn_of _ (by decide +kernel)) ggX10_film_X10_lacksRow
theorem dX10_film_0 : decode cX10_film 0 = .ok (.iload_n 1, 1) := by decide +kernel
theorem dX10_film_1 : decode cX10_film 1 = .ok (.invokestatic 90, 3) := by decide +kernel
theorem dX10_film_4 : decode cX10_film 4 = .ok (.ifCond .eq 11, 3) := by decide +kernel
theorem dX10_film_7 : decode cX10_film 7 = .ok (.iload_n 2, 1) := by decide +kernel
theorem dX10_film_8 : decode cX10_film 8 = .ok (.iload_n 3, 1) := by decide +kernel
theorem dX10_film_9 : decode cX10_film 9 = .ok (.invokestatic 266, 3) := by decide +kernel
theorem dX10_film_12 : decode cX10_film 12 = .ok (.ifCond .ne 5, 3) := by decide +kernel
theorem dX10_film_15 : decode cX10_film 15 = .ok (.iconst (-1), 1) := by decide +kernel
theorem dX10_film_16 : decode cX10_film 16 = .ok (.ireturn, 1) := by decide +kernel
theorem dX10_film_17 : decode cX10_film 17 = .ok (.aload_n 0, 1) := by decide +kernel
theorem dX10_film_18 : decode cX10_film 18 = .ok (.iload_n 1, 1) := by decide +kernel
theorem dX10_film_19 : decode cX10_film 19 = .ok (.aload_n 0, 1) := by decide +kernel
theorem dX10_film_20 : decode cX10_film 20 = .ok (.getfield 111, 3) := by decide +kernel
theorem dX10_film_23 : decode cX10_film 23 = .ok (.invokevirtual 125, 3) := by decide +kernel
theorem dX10_film_26 : decode cX10_film 26 = .ok (.aload_n 0, 1) := by decide +kernel
theorem dX10_film_27 : decode cX10_film 27 = .ok (.getfield 114, 3) := by decide +kernel
theorem dX10_film_30 : decode cX10_film 30 = .ok (.istore 5, 2) := by decide +kernel
theorem dX10_film_32 : decode cX10_film 32 = .ok (.aload_n 0, 1) := by decide +kernel
theorem dX10_film_33 : decode cX10_film 33 = .ok (.iload_n 2, 1) := by decide +kernel
theorem dX10_film_34 : decode cX10_film 34 = .ok (.iload_n 3, 1) := by decide +kernel
theorem dX10_film_35 : decode cX10_film 35 = .ok (.iload 4, 2) := by decide +kernel
theorem dX10_film_37 : decode cX10_film 37 = .ok (.iload 5, 2) := by decide +kernel
theorem dX10_film_39 : decode cX10_film 39 = .ok (.invokevirtual 269, 3) := by decide +kernel
theorem dX10_film_42 : decode cX10_film 42 = .ok (.istore 6, 2) := by decide +kernel
theorem dX10_film_44 : decode cX10_film 44 = .ok (.iload 6, 2) := by decide +kernel
theorem dX10_film_46 : decode cX10_film 46 = .ok (.ifCond .ge 6, 3) := by decide +kernel
theorem dX10_film_49 : decode cX10_film 49 = .ok (.iload 6, 2) := by decide +kernel
theorem dX10_film_51 : decode cX10_film 51 = .ok (.ireturn, 1) := by decide +kernel
theorem dX10_film_52 : decode cX10_film 52 = .ok (.iconst 0, 1) := by decide +kernel
theorem dX10_film_53 : decode cX10_film 53 = .ok (.istore 7, 2) := by decide +kernel
theorem dX10_film_55 : decode cX10_film 55 = .ok (.iload 7, 2) := by decide +kernel
theorem dX10_film_57 : decode cX10_film 57 = .ok (.iload 5, 2) := by decide +kernel
theorem dX10_film_59 : decode cX10_film 59 = .ok (.if_icmp .ge 32, 3) := by decide +kernel
theorem dX10_film_62 : decode cX10_film 62 = .ok (.aload_n 0, 1) := by decide +kernel
theorem dX10_film_63 : decode cX10_film 63 = .ok (.getfield 71, 3) := by decide +kernel
theorem dX10_film_66 : decode cX10_film 66 = .ok (.bipush 24, 2) := by decide +kernel
theorem dX10_film_68 : decode cX10_film 68 = .ok (.iload_n 2, 1) := by decide +kernel
theorem dX10_film_69 : decode cX10_film 69 = .ok (.imul, 1) := by decide +kernel
theorem dX10_film_70 : decode cX10_film 70 = .ok (.iload 4, 2) := by decide +kernel
theorem dX10_film_72 : decode cX10_film 72 = .ok (.iadd, 1) := by decide +kernel
theorem dX10_film_73 : decode cX10_film 73 = .ok (.iload 7, 2) := by decide +kernel
theorem dX10_film_75 : decode cX10_film 75 = .ok (.iadd, 1) := by decide +kernel
theorem dX10_film_76 : decode cX10_film 76 = .ok (.aload_n 0, 1) := by decide +kernel
theorem dX10_film_77 : decode cX10_film 77 = .ok (.getfield 34, 3) := by decide +kernel
theorem dX10_film_80 : decode cX10_film 80 = .ok (.iload 7, 2) := by decide +kernel
theorem dX10_film_82 : decode cX10_film 82 = .ok (.iaload, 1) := by decide +kernel
theorem dX10_film_83 : decode cX10_film 83 = .ok (.i2l, 1) := by decide +kernel
theorem dX10_film_84 : decode cX10_film 84 = .ok (.lastore, 1) := by decide +kernel
theorem dX10_film_85 : decode cX10_film 85 = .ok (.iinc 7 1, 3) := by decide +kernel
theorem dX10_film_88 : decode cX10_film 88 = .ok (.goto (-33), 3) := by decide +kernel
theorem dX10_film_91 : decode cX10_film 91 = .ok (.iload 5, 2) := by decide +kernel
theorem dX10_film_93 : decode cX10_film 93 = .ok (.ireturn, 1) := by decide +kernel
theorem dJ6_numberOfLeadingZeros_0f7a4_0 : decode cJ6_numberOfLeadingZeros_0f7a4 0 = .ok (.iload_n 0, 1) := by decide +kernel
theorem dJ6_numberOfLeadingZeros_0f7a4_1 : decode cJ6_numberOfLeadingZeros_0f7a4 1 = .ok (.ifCond .gt 14, 3) := by decide +kernel
theorem dJ6_numberOfLeadingZeros_0f7a4_4 : decode cJ6_numberOfLeadingZeros_0f7a4 4 = .ok (.iload_n 0, 1) := by decide +kernel
theorem dJ6_numberOfLeadingZeros_0f7a4_5 : decode cJ6_numberOfLeadingZeros_0f7a4 5 = .ok (.ifCond .ne 8, 3) := by decide +kernel
theorem dJ6_numberOfLeadingZeros_0f7a4_8 : decode cJ6_numberOfLeadingZeros_0f7a4 8 = .ok (.bipush 32, 2) := by decide +kernel
theorem dJ6_numberOfLeadingZeros_0f7a4_10 : decode cJ6_numberOfLeadingZeros_0f7a4 10 = .ok (.goto 4, 3) := by decide +kernel
theorem dJ6_numberOfLeadingZeros_0f7a4_13 : decode cJ6_numberOfLeadingZeros_0f7a4 13 = .ok (.iconst 0, 1) := by decide +kernel
theorem dJ6_numberOfLeadingZeros_0f7a4_14 : decode cJ6_numberOfLeadingZeros_0f7a4 14 = .ok (.ireturn, 1) := by decide +kernel
theorem dJ6_numberOfLeadingZeros_0f7a4_15 : decode cJ6_numberOfLeadingZeros_0f7a4 15 = .ok (.bipush 31, 2) := by decide +kernel
theorem dJ6_numberOfLeadingZeros_0f7a4_17 : decode cJ6_numberOfLeadingZeros_0f7a4 17 = .ok (.istore_n 1, 1) := by decide +kernel
theorem dJ6_numberOfLeadingZeros_0f7a4_18 : decode cJ6_numberOfLeadingZeros_0f7a4 18 = .ok (.iload_n 0, 1) := by decide +kernel
theorem dJ6_numberOfLeadingZeros_0f7a4_19 : decode cJ6_numberOfLeadingZeros_0f7a4 19 = .ok (.ldc_w 264, 3) := by decide +kernel
theorem dJ6_numberOfLeadingZeros_0f7a4_22 : decode cJ6_numberOfLeadingZeros_0f7a4 22 = .ok (.if_icmp .lt 11, 3) := by decide +kernel
theorem dJ6_numberOfLeadingZeros_0f7a4_25 : decode cJ6_numberOfLeadingZeros_0f7a4 25 = .ok (.iinc 1 (-16), 3) := by decide +kernel
theorem dJ6_numberOfLeadingZeros_0f7a4_28 : decode cJ6_numberOfLeadingZeros_0f7a4 28 = .ok (.iload_n 0, 1) := by decide +kernel
theorem dJ6_numberOfLeadingZeros_0f7a4_29 : decode cJ6_numberOfLeadingZeros_0f7a4 29 = .ok (.bipush 16, 2) := by decide +kernel
theorem dJ6_numberOfLeadingZeros_0f7a4_31 : decode cJ6_numberOfLeadingZeros_0f7a4 31 = .ok (.iushr, 1) := by decide +kernel
theorem dJ6_numberOfLeadingZeros_0f7a4_32 : decode cJ6_numberOfLeadingZeros_0f7a4 32 = .ok (.istore_n 0, 1) := by decide +kernel
theorem dJ6_numberOfLeadingZeros_0f7a4_33 : decode cJ6_numberOfLeadingZeros_0f7a4 33 = .ok (.iload_n 0, 1) := by decide +kernel
theorem dJ6_numberOfLeadingZeros_0f7a4_34 : decode cJ6_numberOfLeadingZeros_0f7a4 34 = .ok (.sipush 256, 3) := by decide +kernel
theorem dJ6_numberOfLeadingZeros_0f7a4_37 : decode cJ6_numberOfLeadingZeros_0f7a4 37 = .ok (.if_icmp .lt 11, 3) := by decide +kernel
theorem dJ6_numberOfLeadingZeros_0f7a4_40 : decode cJ6_numberOfLeadingZeros_0f7a4 40 = .ok (.iinc 1 (-8), 3) := by decide +kernel
theorem dJ6_numberOfLeadingZeros_0f7a4_43 : decode cJ6_numberOfLeadingZeros_0f7a4 43 = .ok (.iload_n 0, 1) := by decide +kernel
theorem dJ6_numberOfLeadingZeros_0f7a4_44 : decode cJ6_numberOfLeadingZeros_0f7a4 44 = .ok (.bipush 8, 2) := by decide +kernel
theorem dJ6_numberOfLeadingZeros_0f7a4_46 : decode cJ6_numberOfLeadingZeros_0f7a4 46 = .ok (.iushr, 1) := by decide +kernel
theorem dJ6_numberOfLeadingZeros_0f7a4_47 : decode cJ6_numberOfLeadingZeros_0f7a4 47 = .ok (.istore_n 0, 1) := by decide +kernel
theorem dJ6_numberOfLeadingZeros_0f7a4_48 : decode cJ6_numberOfLeadingZeros_0f7a4 48 = .ok (.iload_n 0, 1) := by decide +kernel
theorem dJ6_numberOfLeadingZeros_0f7a4_49 : decode cJ6_numberOfLeadingZeros_0f7a4 49 = .ok (.bipush 16, 2) := by decide +kernel
theorem dJ6_numberOfLeadingZeros_0f7a4_51 : decode cJ6_numberOfLeadingZeros_0f7a4 51 = .ok (.if_icmp .lt 10, 3) := by decide +kernel
theorem dJ6_numberOfLeadingZeros_0f7a4_54 : decode cJ6_numberOfLeadingZeros_0f7a4 54 = .ok (.iinc 1 (-4), 3) := by decide +kernel
theorem dJ6_numberOfLeadingZeros_0f7a4_57 : decode cJ6_numberOfLeadingZeros_0f7a4 57 = .ok (.iload_n 0, 1) := by decide +kernel
theorem dJ6_numberOfLeadingZeros_0f7a4_58 : decode cJ6_numberOfLeadingZeros_0f7a4 58 = .ok (.iconst 4, 1) := by decide +kernel
theorem dJ6_numberOfLeadingZeros_0f7a4_59 : decode cJ6_numberOfLeadingZeros_0f7a4 59 = .ok (.iushr, 1) := by decide +kernel
theorem dJ6_numberOfLeadingZeros_0f7a4_60 : decode cJ6_numberOfLeadingZeros_0f7a4 60 = .ok (.istore_n 0, 1) := by decide +kernel
theorem dJ6_numberOfLeadingZeros_0f7a4_61 : decode cJ6_numberOfLeadingZeros_0f7a4 61 = .ok (.iload_n 0, 1) := by decide +kernel
theorem dJ6_numberOfLeadingZeros_0f7a4_62 : decode cJ6_numberOfLeadingZeros_0f7a4 62 = .ok (.iconst 4, 1) := by decide +kernel
theorem dJ6_numberOfLeadingZeros_0f7a4_63 : decode cJ6_numberOfLeadingZeros_0f7a4 63 = .ok (.if_icmp .lt 10, 3) := by decide +kernel
theorem dJ6_numberOfLeadingZeros_0f7a4_66 : decode cJ6_numberOfLeadingZeros_0f7a4 66 = .ok (.iinc 1 (-2), 3) := by decide +kernel
theorem dJ6_numberOfLeadingZeros_0f7a4_69 : decode cJ6_numberOfLeadingZeros_0f7a4 69 = .ok (.iload_n 0, 1) := by decide +kernel
theorem dJ6_numberOfLeadingZeros_0f7a4_70 : decode cJ6_numberOfLeadingZeros_0f7a4 70 = .ok (.iconst 2, 1) := by decide +kernel
theorem dJ6_numberOfLeadingZeros_0f7a4_71 : decode cJ6_numberOfLeadingZeros_0f7a4 71 = .ok (.iushr, 1) := by decide +kernel
theorem dJ6_numberOfLeadingZeros_0f7a4_72 : decode cJ6_numberOfLeadingZeros_0f7a4 72 = .ok (.istore_n 0, 1) := by decide +kernel
theorem dJ6_numberOfLeadingZeros_0f7a4_73 : decode cJ6_numberOfLeadingZeros_0f7a4 73 = .ok (.iload_n 1, 1) := by decide +kernel
theorem dJ6_numberOfLeadingZeros_0f7a4_74 : decode cJ6_numberOfLeadingZeros_0f7a4 74 = .ok (.iload_n 0, 1) := by decide +kernel
theorem dJ6_numberOfLeadingZeros_0f7a4_75 : decode cJ6_numberOfLeadingZeros_0f7a4 75 = .ok (.iconst 1, 1) := by decide +kernel
theorem dJ6_numberOfLeadingZeros_0f7a4_76 : decode cJ6_numberOfLeadingZeros_0f7a4 76 = .ok (.iushr, 1) := by decide +kernel
theorem dJ6_numberOfLeadingZeros_0f7a4_77 : decode cJ6_numberOfLeadingZeros_0f7a4 77 = .ok (.isub, 1) := by decide +kernel
theorem dJ6_numberOfLeadingZeros_0f7a4_78 : decode cJ6_numberOfLeadingZeros_0f7a4 78 = .ok (.ireturn, 1) := by decide +kernel
theorem dJ6_numberOfTrailingZeros_0f7a4_0 : decode cJ6_numberOfTrailingZeros_0f7a4 0 = .ok (.iload_n 0, 1) := by decide +kernel
theorem dJ6_numberOfTrailingZeros_0f7a4_1 : decode cJ6_numberOfTrailingZeros_0f7a4 1 = .ok (.iconst (-1), 1) := by decide +kernel
theorem dJ6_numberOfTrailingZeros_0f7a4_2 : decode cJ6_numberOfTrailingZeros_0f7a4 2 = .ok (.ixor, 1) := by decide +kernel
theorem dJ6_numberOfTrailingZeros_0f7a4_3 : decode cJ6_numberOfTrailingZeros_0f7a4 3 = .ok (.iload_n 0, 1) := by decide +kernel
theorem dJ6_numberOfTrailingZeros_0f7a4_4 : decode cJ6_numberOfTrailingZeros_0f7a4 4 = .ok (.iconst 1, 1) := by decide +kernel
theorem dJ6_numberOfTrailingZeros_0f7a4_5 : decode cJ6_numberOfTrailingZeros_0f7a4 5 = .ok (.isub, 1) := by decide +kernel
theorem dJ6_numberOfTrailingZeros_0f7a4_6 : decode cJ6_numberOfTrailingZeros_0f7a4 6 = .ok (.iand, 1) := by decide +kernel
theorem dJ6_numberOfTrailingZeros_0f7a4_7 : decode cJ6_numberOfTrailingZeros_0f7a4 7 = .ok (.istore_n 0, 1) := by decide +kernel
theorem dJ6_numberOfTrailingZeros_0f7a4_8 : decode cJ6_numberOfTrailingZeros_0f7a4 8 = .ok (.iload_n 0, 1) := by decide +kernel
theorem dJ6_numberOfTrailingZeros_0f7a4_9 : decode cJ6_numberOfTrailingZeros_0f7a4 9 = .ok (.ifCond .gt 8, 3) := by decide +kernel
theorem dJ6_numberOfTrailingZeros_0f7a4_12 : decode cJ6_numberOfTrailingZeros_0f7a4 12 = .ok (.iload_n 0, 1) := by decide +kernel
theorem dJ6_numberOfTrailingZeros_0f7a4_13 : decode cJ6_numberOfTrailingZeros_0f7a4 13 = .ok (.bipush 32, 2) := by decide +kernel
theorem dJ6_numberOfTrailingZeros_0f7a4_15 : decode cJ6_numberOfTrailingZeros_0f7a4 15 = .ok (.iand, 1) := by decide +kernel
theorem dJ6_numberOfTrailingZeros_0f7a4_16 : decode cJ6_numberOfTrailingZeros_0f7a4 16 = .ok (.ireturn, 1) := by decide +kernel
theorem dJ6_numberOfTrailingZeros_0f7a4_17 : decode cJ6_numberOfTrailingZeros_0f7a4 17 = .ok (.iconst 1, 1) := by decide +kernel
theorem dJ6_numberOfTrailingZeros_0f7a4_18 : decode cJ6_numberOfTrailingZeros_0f7a4 18 = .ok (.istore_n 1, 1) := by decide +kernel
theorem dJ6_numberOfTrailingZeros_0f7a4_19 : decode cJ6_numberOfTrailingZeros_0f7a4 19 = .ok (.iload_n 0, 1) := by decide +kernel
theorem dJ6_numberOfTrailingZeros_0f7a4_20 : decode cJ6_numberOfTrailingZeros_0f7a4 20 = .ok (.ldc_w 264, 3) := by decide +kernel
theorem dJ6_numberOfTrailingZeros_0f7a4_23 : decode cJ6_numberOfTrailingZeros_0f7a4 23 = .ok (.if_icmp .le 11, 3) := by decide +kernel
theorem dJ6_numberOfTrailingZeros_0f7a4_26 : decode cJ6_numberOfTrailingZeros_0f7a4 26 = .ok (.iinc 1 16, 3) := by decide +kernel
theorem dJ6_numberOfTrailingZeros_0f7a4_29 : decode cJ6_numberOfTrailingZeros_0f7a4 29 = .ok (.iload_n 0, 1) := by decide +kernel
theorem dJ6_numberOfTrailingZeros_0f7a4_30 : decode cJ6_numberOfTrailingZeros_0f7a4 30 = .ok (.bipush 16, 2) := by decide +kernel
theorem dJ6_numberOfTrailingZeros_0f7a4_32 : decode cJ6_numberOfTrailingZeros_0f7a4 32 = .ok (.iushr, 1) := by decide +kernel
theorem dJ6_numberOfTrailingZeros_0f7a4_33 : decode cJ6_numberOfTrailingZeros_0f7a4 33 = .ok (.istore_n 0, 1) := by decide +kernel
theorem dJ6_numberOfTrailingZeros_0f7a4_34 : decode cJ6_numberOfTrailingZeros_0f7a4 34 = .ok (.iload_n 0, 1) := by decide +kernel
theorem dJ6_numberOfTrailingZeros_0f7a4_35 : decode cJ6_numberOfTrailingZeros_0f7a4 35 = .ok (.sipush 256, 3) := by decide +kernel
theorem dJ6_numberOfTrailingZeros_0f7a4_38 : decode cJ6_numberOfTrailingZeros_0f7a4 38 = .ok (.if_icmp .le 11, 3) := by decide +kernel
theorem dJ6_numberOfTrailingZeros_0f7a4_41 : decode cJ6_numberOfTrailingZeros_0f7a4 41 = .ok (.iinc 1 8, 3) := by decide +kernel
theorem dJ6_numberOfTrailingZeros_0f7a4_44 : decode cJ6_numberOfTrailingZeros_0f7a4 44 = .ok (.iload_n 0, 1) := by decide +kernel
theorem dJ6_numberOfTrailingZeros_0f7a4_45 : decode cJ6_numberOfTrailingZeros_0f7a4 45 = .ok (.bipush 8, 2) := by decide +kernel
theorem dJ6_numberOfTrailingZeros_0f7a4_47 : decode cJ6_numberOfTrailingZeros_0f7a4 47 = .ok (.iushr, 1) := by decide +kernel
theorem dJ6_numberOfTrailingZeros_0f7a4_48 : decode cJ6_numberOfTrailingZeros_0f7a4 48 = .ok (.istore_n 0, 1) := by decide +kernel
theorem dJ6_numberOfTrailingZeros_0f7a4_49 : decode cJ6_numberOfTrailingZeros_0f7a4 49 = .ok (.iload_n 0, 1) := by decide +kernel
theorem dJ6_numberOfTrailingZeros_0f7a4_50 : decode cJ6_numberOfTrailingZeros_0f7a4 50 = .ok (.bipush 16, 2) := by decide +kernel
theorem dJ6_numberOfTrailingZeros_0f7a4_52 : decode cJ6_numberOfTrailingZeros_0f7a4 52 = .ok (.if_icmp .le 10, 3) := by decide +kernel
theorem dJ6_numberOfTrailingZeros_0f7a4_55 : decode cJ6_numberOfTrailingZeros_0f7a4 55 = .ok (.iinc 1 4, 3) := by decide +kernel
theorem dJ6_numberOfTrailingZeros_0f7a4_58 : decode cJ6_numberOfTrailingZeros_0f7a4 58 = .ok (.iload_n 0, 1) := by decide +kernel
theorem dJ6_numberOfTrailingZeros_0f7a4_59 : decode cJ6_numberOfTrailingZeros_0f7a4 59 = .ok (.iconst 4, 1) := by decide +kernel
theorem dJ6_numberOfTrailingZeros_0f7a4_60 : decode cJ6_numberOfTrailingZeros_0f7a4 60 = .ok (.iushr, 1) := by decide +kernel
theorem dJ6_numberOfTrailingZeros_0f7a4_61 : decode cJ6_numberOfTrailingZeros_0f7a4 61 = .ok (.istore_n 0, 1) := by decide +kernel
theorem dJ6_numberOfTrailingZeros_0f7a4_62 : decode cJ6_numberOfTrailingZeros_0f7a4 62 = .ok (.iload_n 0, 1) := by decide +kernel
theorem dJ6_numberOfTrailingZeros_0f7a4_63 : decode cJ6_numberOfTrailingZeros_0f7a4 63 = .ok (.iconst 4, 1) := by decide +kernel
theorem dJ6_numberOfTrailingZeros_0f7a4_64 : decode cJ6_numberOfTrailingZeros_0f7a4 64 = .ok (.if_icmp .le 10, 3) := by decide +kernel
theorem dJ6_numberOfTrailingZeros_0f7a4_67 : decode cJ6_numberOfTrailingZeros_0f7a4 67 = .ok (.iinc 1 2, 3) := by decide +kernel
theorem dJ6_numberOfTrailingZeros_0f7a4_70 : decode cJ6_numberOfTrailingZeros_0f7a4 70 = .ok (.iload_n 0, 1) := by decide +kernel
theorem dJ6_numberOfTrailingZeros_0f7a4_71 : decode cJ6_numberOfTrailingZeros_0f7a4 71 = .ok (.iconst 2, 1) := by decide +kernel
theorem dJ6_numberOfTrailingZeros_0f7a4_72 : decode cJ6_numberOfTrailingZeros_0f7a4 72 = .ok (.iushr, 1) := by decide +kernel
theorem dJ6_numberOfTrailingZeros_0f7a4_73 : decode cJ6_numberOfTrailingZeros_0f7a4 73 = .ok (.istore_n 0, 1) := by decide +kernel
theorem dJ6_numberOfTrailingZeros_0f7a4_74 : decode cJ6_numberOfTrailingZeros_0f7a4 74 = .ok (.iload_n 1, 1) := by decide +kernel
theorem dJ6_numberOfTrailingZeros_0f7a4_75 : decode cJ6_numberOfTrailingZeros_0f7a4 75 = .ok (.iload_n 0, 1) := by decide +kernel
theorem dJ6_numberOfTrailingZeros_0f7a4_76 : decode cJ6_numberOfTrailingZeros_0f7a4 76 = .ok (.iconst 1, 1) := by decide +kernel
theorem dJ6_numberOfTrailingZeros_0f7a4_77 : decode cJ6_numberOfTrailingZeros_0f7a4 77 = .ok (.iushr, 1) := by decide +kernel
theorem dJ6_numberOfTrailingZeros_0f7a4_78 : decode cJ6_numberOfTrailingZeros_0f7a4 78 = .ok (.iadd, 1) := by decide +kernel
theorem dJ6_numberOfTrailingZeros_0f7a4_79 : decode cJ6_numberOfTrailingZeros_0f7a4 79 = .ok (.ireturn, 1) := by decide +kernel
set_option maxRecDepth 20000 in
theorem ggJ13_numberOfLeadingZeros_95d88_J6_numberOfLeadingZeros_0f7a4 : GoodIn wsJ13_numberOfLeadingZeros_95d88 wsJ6_numberOfLeadingZeros_0f7a4 := goodIn_r _ [4, 5] (by decide +kernel) (by decide +kernel)
set_option maxRecDepth 20000 in
theorem gJ13_numberOfLeadingZeros_95d88_J6_numberOfLeadingZeros_0f7a4 : GoodIn wsJ13_numberOfLeadingZeros_95d88 (va_wsS RJ13 308 yJ6_numberOfLeadingZeros_0f7a4 wsJ6_numberOfLeadingZeros_0f7a4) := goodIn_app (goodIn_of _ (by decide +kernel)) ggJ13_numberOfLeadingZeros_95d88_J6_numberOfLeadingZeros_0f7a4
theorem dJ13_numberOfLeadingZeros_95d88_0 : decode cJ13_numberOfLeadingZeros_95d88 0 = .ok (.lload_n 0, 1) := by decide +kernel
theorem dJ13_numberOfLeadingZeros_95d88_1 : decode cJ13_numberOfLeadingZeros_95d88 1 = .ok (.bipush 32, 2) := by decide +kernel
theorem dJ13_numberOfLeadingZeros_95d88_3 : decode cJ13_numberOfLeadingZeros_95d88 3 = .ok (.lushr, 1) := by decide +kernel
theorem dJ13_numberOfLeadingZeros_95d88_4 : decode cJ13_numberOfLeadingZeros_95d88 4 = .ok (.l2i, 1) := by decide +kernel
theorem dJ13_numberOfLeadingZeros_95d88_5 : decode cJ13_numberOfLeadingZeros_95d88 5 = .ok (.istore_n 2, 1) := by decide +kernel
theorem dJ13_numberOfLeadingZeros_95d88_6 : decode cJ13_numberOfLeadingZeros_95d88 6 = .ok (.iload_n 2, 1) := by decide +kernel
theorem dJ13_numberOfLeadingZeros_95d88_7 : decode cJ13_numberOfLeadingZeros_95d88 7 = .ok (.ifCond .ne 14, 3) := by decide +kernel
theorem dJ13_numberOfLeadingZeros_95d88_10 : decode cJ13_numberOfLeadingZeros_95d88 10 = .ok (.bipush 32, 2) := by decide +kernel
theorem dJ13_numberOfLeadingZeros_95d88_12 : decode cJ13_numberOfLeadingZeros_95d88 12 = .ok (.lload_n 0, 1) := by decide +kernel
theorem dJ13_numberOfLeadingZeros_95d88_13 : decode cJ13_numberOfLeadingZeros_95d88 13 = .ok (.l2i, 1) := by decide +kernel
theorem dJ13_numberOfLeadingZeros_95d88_14 : decode cJ13_numberOfLeadingZeros_95d88 14 = .ok (.invokestatic 308, 3) := by decide +kernel
theorem dJ13_numberOfLeadingZeros_95d88_17 : decode cJ13_numberOfLeadingZeros_95d88 17 = .ok (.iadd, 1) := by decide +kernel
theorem dJ13_numberOfLeadingZeros_95d88_18 : decode cJ13_numberOfLeadingZeros_95d88 18 = .ok (.goto 7, 3) := by decide +kernel
theorem dJ13_numberOfLeadingZeros_95d88_21 : decode cJ13_numberOfLeadingZeros_95d88 21 = .ok (.iload_n 2, 1) := by decide +kernel
theorem dJ13_numberOfLeadingZeros_95d88_22 : decode cJ13_numberOfLeadingZeros_95d88 22 = .ok (.invokestatic 308, 3) := by decide +kernel
theorem dJ13_numberOfLeadingZeros_95d88_25 : decode cJ13_numberOfLeadingZeros_95d88 25 = .ok (.ireturn, 1) := by decide +kernel
set_option maxRecDepth 20000 in
theorem ggJ13_numberOfTrailingZeros_95d88_J6_numberOfTrailingZeros_0f7a4 : GoodIn wsJ13_numberOfTrailingZeros_95d88 wsJ6_numberOfTrailingZeros_0f7a4 := goodIn_r _ [4, 5] (by decide +kernel) (by decide +kernel)
set_option maxRecDepth 20000 in
theorem gJ13_numberOfTrailingZeros_95d88_J6_numberOfTrailingZeros_0f7a4 : GoodIn wsJ13_numberOfTrailingZeros_95d88 (va_wsS RJ13 311 yJ6_numberOfTrailingZeros_0f7a4 wsJ6_numberOfTrailingZeros_0f7a4) := goodIn_app (goodIn_of _ (by decide +kernel)) ggJ13_numberOfTrailingZeros_95d88_J6_numberOfTrailingZeros_0f7a4
theorem dJ13_numberOfTrailingZeros_95d88_0 : decode cJ13_numberOfTrailingZeros_95d88 0 = .ok (.lload_n 0, 1) := by decide +kernel
theorem dJ13_numberOfTrailingZeros_95d88_1 : decode cJ13_numberOfTrailingZeros_95d88 1 = .ok (.l2i, 1) := by decide +kernel
theorem dJ13_numberOfTrailingZeros_95d88_2 : decode cJ13_numberOfTrailingZeros_95d88 2 = .ok (.istore_n 2, 1) := by decide +kernel
theorem dJ13_numberOfTrailingZeros_95d88_3 : decode cJ13_numberOfTrailingZeros_95d88 3 = .ok (.iload_n 2, 1) := by decide +kernel
theorem dJ13_numberOfTrailingZeros_95d88_4 : decode cJ13_numberOfTrailingZeros_95d88 4 = .ok (.ifCond .ne 17, 3) := by decide +kernel
theorem dJ13_numberOfTrailingZeros_95d88_7 : decode cJ13_numberOfTrailingZeros_95d88 7 = .ok (.bipush 32, 2) := by decide +kernel
theorem dJ13_numberOfTrailingZeros_95d88_9 : decode cJ13_numberOfTrailingZeros_95d88 9 = .ok (.lload_n 0, 1) := by decide +kernel
theorem dJ13_numberOfTrailingZeros_95d88_10 : decode cJ13_numberOfTrailingZeros_95d88 10 = .ok (.bipush 32, 2) := by decide +kernel
theorem dJ13_numberOfTrailingZeros_95d88_12 : decode cJ13_numberOfTrailingZeros_95d88 12 = .ok (.lushr, 1) := by decide +kernel
theorem dJ13_numberOfTrailingZeros_95d88_13 : decode cJ13_numberOfTrailingZeros_95d88 13 = .ok (.l2i, 1) := by decide +kernel
theorem dJ13_numberOfTrailingZeros_95d88_14 : decode cJ13_numberOfTrailingZeros_95d88 14 = .ok (.invokestatic 311, 3) := by decide +kernel
theorem dJ13_numberOfTrailingZeros_95d88_17 : decode cJ13_numberOfTrailingZeros_95d88 17 = .ok (.iadd, 1) := by decide +kernel
theorem dJ13_numberOfTrailingZeros_95d88_18 : decode cJ13_numberOfTrailingZeros_95d88 18 = .ok (.goto 7, 3) := by decide +kernel
theorem dJ13_numberOfTrailingZeros_95d88_21 : decode cJ13_numberOfTrailingZeros_95d88 21 = .ok (.iload_n 2, 1) := by decide +kernel
theorem dJ13_numberOfTrailingZeros_95d88_22 : decode cJ13_numberOfTrailingZeros_95d88 22 = .ok (.invokestatic 311, 3) := by decide +kernel
theorem dJ13_numberOfTrailingZeros_95d88_25 : decode cJ13_numberOfTrailingZeros_95d88 25 = .ok (.ireturn, 1) := by decide +kernel
theorem dJ13_bitCount_95d88_0 : decode cJ13_bitCount_95d88 0 = .ok (.lload_n 0, 1) := by decide +kernel
theorem dJ13_bitCount_95d88_1 : decode cJ13_bitCount_95d88 1 = .ok (.lload_n 0, 1) := by decide +kernel
theorem dJ13_bitCount_95d88_2 : decode cJ13_bitCount_95d88 2 = .ok (.iconst 1, 1) := by decide +kernel
theorem dJ13_bitCount_95d88_3 : decode cJ13_bitCount_95d88 3 = .ok (.lushr, 1) := by decide +kernel
theorem dJ13_bitCount_95d88_4 : decode cJ13_bitCount_95d88 4 = .ok (.ldc2_w 314, 3) := by decide +kernel
theorem dJ13_bitCount_95d88_7 : decode cJ13_bitCount_95d88 7 = .ok (.land, 1) := by decide +kernel
theorem dJ13_bitCount_95d88_8 : decode cJ13_bitCount_95d88 8 = .ok (.lsub, 1) := by decide +kernel
theorem dJ13_bitCount_95d88_9 : decode cJ13_bitCount_95d88 9 = .ok (.lstore_n 0, 1) := by decide +kernel
theorem dJ13_bitCount_95d88_10 : decode cJ13_bitCount_95d88 10 = .ok (.lload_n 0, 1) := by decide +kernel
theorem dJ13_bitCount_95d88_11 : decode cJ13_bitCount_95d88 11 = .ok (.ldc2_w 316, 3) := by decide +kernel
theorem dJ13_bitCount_95d88_14 : decode cJ13_bitCount_95d88 14 = .ok (.land, 1) := by decide +kernel
theorem dJ13_bitCount_95d88_15 : decode cJ13_bitCount_95d88 15 = .ok (.lload_n 0, 1) := by decide +kernel
theorem dJ13_bitCount_95d88_16 : decode cJ13_bitCount_95d88 16 = .ok (.iconst 2, 1) := by decide +kernel
theorem dJ13_bitCount_95d88_17 : decode cJ13_bitCount_95d88 17 = .ok (.lushr, 1) := by decide +kernel
theorem dJ13_bitCount_95d88_18 : decode cJ13_bitCount_95d88 18 = .ok (.ldc2_w 316, 3) := by decide +kernel
theorem dJ13_bitCount_95d88_21 : decode cJ13_bitCount_95d88 21 = .ok (.land, 1) := by decide +kernel
theorem dJ13_bitCount_95d88_22 : decode cJ13_bitCount_95d88 22 = .ok (.ladd, 1) := by decide +kernel
theorem dJ13_bitCount_95d88_23 : decode cJ13_bitCount_95d88 23 = .ok (.lstore_n 0, 1) := by decide +kernel
theorem dJ13_bitCount_95d88_24 : decode cJ13_bitCount_95d88 24 = .ok (.lload_n 0, 1) := by decide +kernel
theorem dJ13_bitCount_95d88_25 : decode cJ13_bitCount_95d88 25 = .ok (.lload_n 0, 1) := by decide +kernel
theorem dJ13_bitCount_95d88_26 : decode cJ13_bitCount_95d88 26 = .ok (.iconst 4, 1) := by decide +kernel
theorem dJ13_bitCount_95d88_27 : decode cJ13_bitCount_95d88 27 = .ok (.lushr, 1) := by decide +kernel
theorem dJ13_bitCount_95d88_28 : decode cJ13_bitCount_95d88 28 = .ok (.ladd, 1) := by decide +kernel
theorem dJ13_bitCount_95d88_29 : decode cJ13_bitCount_95d88 29 = .ok (.ldc2_w 318, 3) := by decide +kernel
theorem dJ13_bitCount_95d88_32 : decode cJ13_bitCount_95d88 32 = .ok (.land, 1) := by decide +kernel
theorem dJ13_bitCount_95d88_33 : decode cJ13_bitCount_95d88 33 = .ok (.lstore_n 0, 1) := by decide +kernel
theorem dJ13_bitCount_95d88_34 : decode cJ13_bitCount_95d88 34 = .ok (.lload_n 0, 1) := by decide +kernel
theorem dJ13_bitCount_95d88_35 : decode cJ13_bitCount_95d88 35 = .ok (.lload_n 0, 1) := by decide +kernel
theorem dJ13_bitCount_95d88_36 : decode cJ13_bitCount_95d88 36 = .ok (.bipush 8, 2) := by decide +kernel
theorem dJ13_bitCount_95d88_38 : decode cJ13_bitCount_95d88 38 = .ok (.lushr, 1) := by decide +kernel
theorem dJ13_bitCount_95d88_39 : decode cJ13_bitCount_95d88 39 = .ok (.ladd, 1) := by decide +kernel
theorem dJ13_bitCount_95d88_40 : decode cJ13_bitCount_95d88 40 = .ok (.lstore_n 0, 1) := by decide +kernel
theorem dJ13_bitCount_95d88_41 : decode cJ13_bitCount_95d88 41 = .ok (.lload_n 0, 1) := by decide +kernel
theorem dJ13_bitCount_95d88_42 : decode cJ13_bitCount_95d88 42 = .ok (.lload_n 0, 1) := by decide +kernel
theorem dJ13_bitCount_95d88_43 : decode cJ13_bitCount_95d88 43 = .ok (.bipush 16, 2) := by decide +kernel
theorem dJ13_bitCount_95d88_45 : decode cJ13_bitCount_95d88 45 = .ok (.lushr, 1) := by decide +kernel
theorem dJ13_bitCount_95d88_46 : decode cJ13_bitCount_95d88 46 = .ok (.ladd, 1) := by decide +kernel
theorem dJ13_bitCount_95d88_47 : decode cJ13_bitCount_95d88 47 = .ok (.lstore_n 0, 1) := by decide +kernel
theorem dJ13_bitCount_95d88_48 : decode cJ13_bitCount_95d88 48 = .ok (.lload_n 0, 1) := by decide +kernel
theorem dJ13_bitCount_95d88_49 : decode cJ13_bitCount_95d88 49 = .ok (.lload_n 0, 1) := by decide +kernel
theorem dJ13_bitCount_95d88_50 : decode cJ13_bitCount_95d88 50 = .ok (.bipush 32, 2) := by decide +kernel
theorem dJ13_bitCount_95d88_52 : decode cJ13_bitCount_95d88 52 = .ok (.lushr, 1) := by decide +kernel
theorem dJ13_bitCount_95d88_53 : decode cJ13_bitCount_95d88 53 = .ok (.ladd, 1) := by decide +kernel
theorem dJ13_bitCount_95d88_54 : decode cJ13_bitCount_95d88 54 = .ok (.lstore_n 0, 1) := by decide +kernel
theorem dJ13_bitCount_95d88_55 : decode cJ13_bitCount_95d88 55 = .ok (.lload_n 0, 1) := by decide +kernel
theorem dJ13_bitCount_95d88_56 : decode cJ13_bitCount_95d88 56 = .ok (.l2i, 1) := by decide +kernel
theorem dJ13_bitCount_95d88_57 : decode cJ13_bitCount_95d88 57 = .ok (.bipush 127, 2) := by decide +kernel
theorem dJ13_bitCount_95d88_59 : decode cJ13_bitCount_95d88 59 = .ok (.iand, 1) := by decide +kernel
theorem dJ13_bitCount_95d88_60 : decode cJ13_bitCount_95d88 60 = .ok (.ireturn, 1) := by decide +kernel
theorem dJ9_min_7cf53_0 : decode cJ9_min_7cf53 0 = .ok (.iload_n 0, 1) := by decide +kernel
theorem dJ9_min_7cf53_1 : decode cJ9_min_7cf53 1 = .ok (.iload_n 1, 1) := by decide +kernel
theorem dJ9_min_7cf53_2 : decode cJ9_min_7cf53 2 = .ok (.if_icmp .gt 7, 3) := by decide +kernel
theorem dJ9_min_7cf53_5 : decode cJ9_min_7cf53 5 = .ok (.iload_n 0, 1) := by decide +kernel
theorem dJ9_min_7cf53_6 : decode cJ9_min_7cf53 6 = .ok (.goto 4, 3) := by decide +kernel
theorem dJ9_min_7cf53_9 : decode cJ9_min_7cf53 9 = .ok (.iload_n 1, 1) := by decide +kernel
theorem dJ9_min_7cf53_10 : decode cJ9_min_7cf53 10 = .ok (.ireturn, 1) := by decide +kernel
