theorem dX10_age_10 : decode cX10_age 10 = .ok (.iconst (-1), 1) := by decide +kernel
theorem dX10_age_11 : decode cX10_age 11 = .ok (.goto 43, 3) := by decide +kernel
theorem dX10_age_14 : decode cX10_age 14 = .ok (.aload_n 0, 1) := by decide +kernel
theorem dX10_age_15 : decode cX10_age 15 = .ok (.getfield 19, 3) := by decide +kernel
theorem dX10_age_18 : decode cX10_age 18 = .ok (.iload_n 1, 1) := by decide +kernel
theorem dX10_age_19 : decode cX10_age 19 = .ok (.iaload, 1) := by decide +kernel
theorem dX10_age_20 : decode cX10_age 20 = .ok (.iconst 3, 1) := by decide +kernel
theorem dX10_age_21 : decode cX10_age 21 = .ok (.if_icmp .ne 8, 3) := by decide +kernel
theorem dX10_age_24 : decode cX10_age 24 = .ok (.bipush 100, 2) := by decide +kernel
theorem dX10_age_26 : decode cX10_age 26 = .ok (.goto 28, 3) := by decide +kernel
theorem dX10_age_29 : decode cX10_age 29 = .ok (.aload_n 0, 1) := by decide +kernel
theorem dX10_age_30 : decode cX10_age 30 = .ok (.getfield 19, 3) := by decide +kernel
theorem dX10_age_33 : decode cX10_age 33 = .ok (.iload_n 1, 1) := by decide +kernel
theorem dX10_age_34 : decode cX10_age 34 = .ok (.iaload, 1) := by decide +kernel
theorem dX10_age_35 : decode cX10_age 35 = .ok (.iconst 1, 1) := by decide +kernel
theorem dX10_age_36 : decode cX10_age 36 = .ok (.if_icmp .ne 12, 3) := by decide +kernel
theorem dX10_age_39 : decode cX10_age 39 = .ok (.aload_n 0, 1) := by decide +kernel
theorem dX10_age_40 : decode cX10_age 40 = .ok (.getfield 16, 3) := by decide +kernel
theorem dX10_age_43 : decode cX10_age 43 = .ok (.iload_n 1, 1) := by decide +kernel
theorem dX10_age_44 : decode cX10_age 44 = .ok (.iaload, 1) := by decide +kernel
theorem dX10_age_45 : decode cX10_age 45 = .ok (.goto 9, 3) := by decide +kernel
theorem dX10_age_48 : decode cX10_age 48 = .ok (.aload_n 0, 1) := by decide +kernel
theorem dX10_age_49 : decode cX10_age 49 = .ok (.getfield 13, 3) := by decide +kernel
theorem dX10_age_52 : decode cX10_age 52 = .ok (.iload_n 1, 1) := by decide +kernel
theorem dX10_age_53 : decode cX10_age 53 = .ok (.iaload, 1) := by decide +kernel
theorem dX10_age_54 : decode cX10_age 54 = .ok (.ireturn, 1) := by decide +kernel
set_option maxRecDepth 20000 in
theorem ggX10_isOlder_X10_age : GoodIn wsX10_isOlder wsX10_age := goodIn_r _ [5, 6, 7, 8, 9, 10, 11, 12, 13, 14, 15, 16, 17, 18, 19, 20, 21, 22, 23, 24, 25, 26, 27, 28, 29, 30, 31, 32, 33, 34, 35, 36, 37, 38, 39, 40, 41, 42, 43] (by decide +kernel) (by decide +kernel)
set_option maxRecDepth 20000 in
theorem gX10_isOlder_X10_age : GoodIn wsX10_isOlder (wsV RX10 103 RX10 yX10_age wsX10_age) := goodIn_app (goodIn_of _ (by decide +kernel)) ggX10_isOlder_X10_age
theorem dX10_isOlder_0 : decode cX10_isOlder 0 = .ok (.aload_n 0, 1) := by decide +kernel
theorem dX10_isOlder_1 : decode cX10_isOlder 1 = .ok (.iload_n 1, 1) := by decide +kernel
theorem dX10_isOlder_2 : decode cX10_isOlder 2 = .ok (.invokevirtual 103, 3) := by decide +kernel
theorem dX10_isOlder_5 : decode cX10_isOlder 5 = .ok (.aload_n 0, 1) := by decide +kernel
theorem dX10_isOlder_6 : decode cX10_isOlder 6 = .ok (.iload_n 2, 1) := by decide +kernel
theorem dX10_isOlder_7 : decode cX10_isOlder 7 = .ok (.invokevirtual 103, 3) := by decide +kernel
theorem dX10_isOlder_10 : decode cX10_isOlder 10 = .ok (.if_icmp .lt 21, 3) := by decide +kernel
theorem dX10_isOlder_13 : decode cX10_isOlder 13 = .ok (.aload_n 0, 1) := by decide +kernel
theorem dX10_isOlder_14 : decode cX10_isOlder 14 = .ok (.iload_n 1, 1) := by decide +kernel
theorem dX10_isOlder_15 : decode cX10_isOlder 15 = .ok (.invokevirtual 103, 3) := by decide +kernel
theorem dX10_isOlder_18 : decode cX10_isOlder 18 = .ok (.aload_n 0, 1) := by decide +kernel
theorem dX10_isOlder_19 : decode cX10_isOlder 19 = .ok (.iload_n 2, 1) := by decide +kernel
theorem dX10_isOlder_20 : decode cX10_isOlder 20 = .ok (.invokevirtual 103, 3) := by decide +kernel
theorem dX10_isOlder_23 : decode cX10_isOlder 23 = .ok (.if_icmp .ne 12, 3) := by decide +kernel
theorem dX10_isOlder_26 : decode cX10_isOlder 26 = .ok (.iload_n 1, 1) := by decide +kernel
theorem dX10_isOlder_27 : decode cX10_isOlder 27 = .ok (.iload_n 2, 1) := by decide +kernel
theorem dX10_isOlder_28 : decode cX10_isOlder 28 = .ok (.if_icmp .ge 7, 3) := by decide +kernel
theorem dX10_isOlder_31 : decode cX10_isOlder 31 = .ok (.iconst 1, 1) := by decide +kernel
theorem dX10_isOlder_32 : decode cX10_isOlder 32 = .ok (.goto 4, 3) := by decide +kernel
theorem dX10_isOlder_35 : decode cX10_isOlder 35 = .ok (.iconst 0, 1) := by decide +kernel
theorem dX10_isOlder_36 : decode cX10_isOlder 36 = .ok (.ireturn, 1) := by decide +kernel
set_option maxRecDepth 20000 in
theorem ggX10_isAhead_X10_isOlder : GoodIn wsX10_isAhead wsX10_isOlder := goodIn_r _ [6, 7, 8, 9, 5, 10, 11, 12, 13, 14, 15, 16, 17, 18, 19, 20, 21, 22, 23, 24, 25, 26, 27, 28, 29, 30, 31, 32, 33, 34, 35, 36, 37, 38, 39, 40, 41, 42, 43, 44, 45, 46, 47, 48] (by decide +kernel) (by decide +kernel)
set_option maxRecDepth 20000 in
theorem gX10_isAhead_X10_isOlder : GoodIn wsX10_isAhead (wsV RX10 107 RX10 yX10_isOlder wsX10_isOlder) := goodIn_app (goodIn_of _ (by decide +kernel)) ggX10_isAhead_X10_isOlder
theorem dX10_isAhead_0 : decode cX10_isAhead 0 = .ok (.iload_n 3, 1) := by decide +kernel
theorem dX10_isAhead_1 : decode cX10_isAhead 1 = .ok (.iconst 2, 1) := by decide +kernel
theorem dX10_isAhead_2 : decode cX10_isAhead 2 = .ok (.if_icmp .ge 23, 3) := by decide +kernel
theorem dX10_isAhead_5 : decode cX10_isAhead 5 = .ok (.iload_n 3, 1) := by decide +kernel
theorem dX10_isAhead_6 : decode cX10_isAhead 6 = .ok (.ifCond .ne 12, 3) := by decide +kernel
theorem dX10_isAhead_9 : decode cX10_isAhead 9 = .ok (.aload_n 0, 1) := by decide +kernel
theorem dX10_isAhead_10 : decode cX10_isAhead 10 = .ok (.iload_n 1, 1) := by decide +kernel
theorem dX10_isAhead_11 : decode cX10_isAhead 11 = .ok (.iload_n 2, 1) := by decide +kernel
theorem dX10_isAhead_12 : decode cX10_isAhead 12 = .ok (.invokevirtual 107, 3) := by decide +kernel
theorem dX10_isAhead_15 : decode cX10_isAhead 15 = .ok (.goto 9, 3) := by decide +kernel
theorem dX10_isAhead_18 : decode cX10_isAhead 18 = .ok (.aload_n 0, 1) := by decide +kernel
theorem dX10_isAhead_19 : decode cX10_isAhead 19 = .ok (.iload_n 2, 1) := by decide +kernel
theorem dX10_isAhead_20 : decode cX10_isAhead 20 = .ok (.iload_n 1, 1) := by decide +kernel
theorem dX10_isAhead_21 : decode cX10_isAhead 21 = .ok (.invokevirtual 107, 3) := by decide +kernel
theorem dX10_isAhead_24 : decode cX10_isAhead 24 = .ok (.ireturn, 1) := by decide +kernel
theorem dX10_isAhead_25 : decode cX10_isAhead 25 = .ok (.iload_n 3, 1) := by decide +kernel
theorem dX10_isAhead_26 : decode cX10_isAhead 26 = .ok (.iconst 2, 1) := by decide +kernel
theorem dX10_isAhead_27 : decode cX10_isAhead 27 = .ok (.if_icmp .ne 19, 3) := by decide +kernel
theorem dX10_isAhead_30 : decode cX10_isAhead 30 = .ok (.aload_n 0, 1) := by decide +kernel
theorem dX10_isAhead_31 : decode cX10_isAhead 31 = .ok (.getfield 7, 3) := by decide +kernel
theorem dX10_isAhead_34 : decode cX10_isAhead 34 = .ok (.iload_n 1, 1) := by decide +kernel
theorem dX10_isAhead_35 : decode cX10_isAhead 35 = .ok (.iaload, 1) := by decide +kernel
theorem dX10_isAhead_36 : decode cX10_isAhead 36 = .ok (.aload_n 0, 1) := by decide +kernel
theorem dX10_isAhead_37 : decode cX10_isAhead 37 = .ok (.getfield 7, 3) := by decide +kernel
theorem dX10_isAhead_40 : decode cX10_isAhead 40 = .ok (.iload_n 2, 1) := by decide +kernel
theorem dX10_isAhead_41 : decode cX10_isAhead 41 = .ok (.iaload, 1) := by decide +kernel
theorem dX10_isAhead_42 : decode cX10_isAhead 42 = .ok (.isub, 1) := by decide +kernel
theorem dX10_isAhead_43 : decode cX10_isAhead 43 = .ok (.goto 16, 3) := by decide +kernel
theorem dX10_isAhead_46 : decode cX10_isAhead 46 = .ok (.aload_n 0, 1) := by decide +kernel
theorem dX10_isAhead_47 : decode cX10_isAhead 47 = .ok (.getfield 7, 3) := by decide +kernel
theorem dX10_isAhead_50 : decode cX10_isAhead 50 = .ok (.iload_n 2, 1) := by decide +kernel
theorem dX10_isAhead_51 : decode cX10_isAhead 51 = .ok (.iaload, 1) := by decide +kernel
theorem dX10_isAhead_52 : decode cX10_isAhead 52 = .ok (.aload_n 0, 1) := by decide +kernel
theorem dX10_isAhead_53 : decode cX10_isAhead 53 = .ok (.getfield 7, 3) := by decide +kernel
theorem dX10_isAhead_56 : decode cX10_isAhead 56 = .ok (.iload_n 1, 1) := by decide +kernel
theorem dX10_isAhead_57 : decode cX10_isAhead 57 = .ok (.iaload, 1) := by decide +kernel
theorem dX10_isAhead_58 : decode cX10_isAhead 58 = .ok (.isub, 1) := by decide +kernel
theorem dX10_isAhead_59 : decode cX10_isAhead 59 = .ok (.istore 4, 2) := by decide +kernel
theorem dX10_isAhead_61 : decode cX10_isAhead 61 = .ok (.iload 4, 2) := by decide +kernel
theorem dX10_isAhead_63 : decode cX10_isAhead 63 = .ok (.ifCond .lt 17, 3) := by decide +kernel
theorem dX10_isAhead_66 : decode cX10_isAhead 66 = .ok (.iload 4, 2) := by decide +kernel
theorem dX10_isAhead_68 : decode cX10_isAhead 68 = .ok (.ifCond .ne 16, 3) := by decide +kernel
theorem dX10_isAhead_71 : decode cX10_isAhead 71 = .ok (.aload_n 0, 1) := by decide +kernel
theorem dX10_isAhead_72 : decode cX10_isAhead 72 = .ok (.iload_n 1, 1) := by decide +kernel
theorem dX10_isAhead_73 : decode cX10_isAhead 73 = .ok (.iload_n 2, 1) := by decide +kernel
theorem dX10_isAhead_74 : decode cX10_isAhead 74 = .ok (.invokevirtual 107, 3) := by decide +kernel
theorem dX10_isAhead_77 : decode cX10_isAhead 77 = .ok (.ifCond .eq 7, 3) := by decide +kernel
theorem dX10_isAhead_80 : decode cX10_isAhead 80 = .ok (.iconst 1, 1) := by decide +kernel
theorem dX10_isAhead_81 : decode cX10_isAhead 81 = .ok (.goto 4, 3) := by decide +kernel
theorem dX10_isAhead_84 : decode cX10_isAhead 84 = .ok (.iconst 0, 1) := by decide +kernel
theorem dX10_isAhead_85 : decode cX10_isAhead 85 = .ok (.ireturn, 1) := by decide +kernel
theorem dX10_backLaw_0 : decode cX10_backLaw 0 = .ok (.aload_n 0, 1) := by decide +kernel
theorem dX10_backLaw_1 : decode cX10_backLaw 1 = .ok (.getfield 111, 3) := by decide +kernel
theorem dX10_backLaw_4 : decode cX10_backLaw 4 = .ok (.iconst 1, 1) := by decide +kernel
theorem dX10_backLaw_5 : decode cX10_backLaw 5 = .ok (.ixor, 1) := by decide +kernel
theorem dX10_backLaw_6 : decode cX10_backLaw 6 = .ok (.ireturn, 1) := by decide +kernel
set_option maxRecDepth 20000 in
theorem ggX10_older_X10_isCoin : GoodIn wsX10_older wsX10_isCoin := goodIn_r _ [5, 6, 7, 8, 4, 9, 21, 22, 23, 24, 25, 26, 27, 28, 29, 30, 31, 32, 33, 34, 35, 36, 37, 38, 39, 40, 41, 42, 43, 44, 45, 46, 47, 48, 49, 50, 51, 52, 53, 54, 55] (by decide +kernel) (by decide +kernel)
set_option maxRecDepth 20000 in
theorem gX10_older_X10_isCoin : GoodIn wsX10_older (wsV RX10 100 RX10 yX10_isCoin wsX10_isCoin) := goodIn_app (goodIn_of _ (by decide +kernel)) ggX10_older_X10_isCoin
set_option maxRecDepth 20000 in
theorem ggX10_older_X10_isOlder : GoodIn wsX10_older wsX10_isOlder := goodIn_r _ [13, 14, 15, 16, 4, 17, 18, 19, 20, 21, 22, 23, 24, 25, 26, 27, 28, 29, 30, 31, 32, 33, 34, 35, 36, 37, 38, 39, 40, 41, 42, 43, 44, 45, 46, 47, 48, 49, 50, 51, 52, 53, 54, 55] (by decide +kernel) (by decide +kernel)
set_option maxRecDepth 20000 in
theorem gX10_older_X10_isOlder : GoodIn wsX10_older (wsV RX10 107 RX10 yX10_isOlder wsX10_isOlder) := goodIn_app (goodIn_of _ (by decide +kernel)) ggX10_older_X10_isOlder
theorem dX10_older_0 : decode cX10_older 0 = .ok (.aload_n 0, 1) := by decide +kernel
theorem dX10_older_1 : decode cX10_older 1 = .ok (.iload_n 1, 1) := by decide +kernel
theorem dX10_older_2 : decode cX10_older 2 = .ok (.invokevirtual 100, 3) := by decide +kernel
theorem dX10_older_5 : decode cX10_older 5 = .ok (.ifCond .eq 16, 3) := by decide +kernel
theorem dX10_older_8 : decode cX10_older 8 = .ok (.aload_n 0, 1) := by decide +kernel
theorem dX10_older_9 : decode cX10_older 9 = .ok (.iload_n 2, 1) := by decide +kernel
theorem dX10_older_10 : decode cX10_older 10 = .ok (.invokevirtual 100, 3) := by decide +kernel
theorem dX10_older_13 : decode cX10_older 13 = .ok (.ifCond .eq 8, 3) := by decide +kernel
theorem dX10_older_16 : decode cX10_older 16 = .ok (.iload_n 1, 1) := by decide +kernel
theorem dX10_older_17 : decode cX10_older 17 = .ok (.iload_n 2, 1) := by decide +kernel
theorem dX10_older_18 : decode cX10_older 18 = .ok (.if_icmp .ne 7, 3) := by decide +kernel
theorem dX10_older_21 : decode cX10_older 21 = .ok (.iconst (-1), 1) := by decide +kernel
theorem dX10_older_22 : decode cX10_older 22 = .ok (.goto 17, 3) := by decide +kernel
theorem dX10_older_25 : decode cX10_older 25 = .ok (.aload_n 0, 1) := by decide +kernel
theorem dX10_older_26 : decode cX10_older 26 = .ok (.iload_n 1, 1) := by decide +kernel
theorem dX10_older_27 : decode cX10_older 27 = .ok (.iload_n 2, 1) := by decide +kernel
theorem dX10_older_28 : decode cX10_older 28 = .ok (.invokevirtual 107, 3) := by decide +kernel
theorem dX10_older_31 : decode cX10_older 31 = .ok (.ifCond .eq 7, 3) := by decide +kernel
theorem dX10_older_34 : decode cX10_older 34 = .ok (.iload_n 1, 1) := by decide +kernel
theorem dX10_older_35 : decode cX10_older 35 = .ok (.goto 4, 3) := by decide +kernel
theorem dX10_older_38 : decode cX10_older 38 = .ok (.iload_n 2, 1) := by decide +kernel
theorem dX10_older_39 : decode cX10_older 39 = .ok (.ireturn, 1) := by decide +kernel
set_option maxRecDepth 20000 in
theorem ggX10_rule_X10_in : GoodIn wsX10_rule wsX10_in := goodIn_r _ [6] (by decide +kernel) (by decide +kernel)
set_option maxRecDepth 20000 in
theorem gX10_rule_X10_in : GoodIn wsX10_rule (va_wsS RX10 78 yX10_in wsX10_in) := goodIn_app (goodIn_of _ (by decide +kernel)) ggX10_rule_X10_in
theorem dX10_rule_0 : decode cX10_rule 0 = .ok (.iload_n 1, 1) := by decide +kernel
theorem dX10_rule_1 : decode cX10_rule 1 = .ok (.i2l, 1) := by decide +kernel
theorem dX10_rule_2 : decode cX10_rule 2 = .ok (.lconst 0, 1) := by decide +kernel
theorem dX10_rule_3 : decode cX10_rule 3 = .ok (.ldc2_w 84, 3) := by decide +kernel
theorem dX10_rule_6 : decode cX10_rule 6 = .ok (.invokestatic 78, 3) := by decide +kernel
theorem dX10_rule_9 : decode cX10_rule 9 = .ok (.ifCond .ne 5, 3) := by decide +kernel
theorem dX10_rule_12 : decode cX10_rule 12 = .ok (.iconst (-1), 1) := by decide +kernel
theorem dX10_rule_13 : decode cX10_rule 13 = .ok (.ireturn, 1) := by decide +kernel
theorem dX10_rule_14 : decode cX10_rule 14 = .ok (.aload_n 0, 1) := by decide +kernel
theorem dX10_rule_15 : decode cX10_rule 15 = .ok (.getfield 111, 3) := by decide +kernel
theorem dX10_rule_18 : decode cX10_rule 18 = .ok (.istore_n 2, 1) := by decide +kernel
theorem dX10_rule_19 : decode cX10_rule 19 = .ok (.aload_n 0, 1) := by decide +kernel
theorem dX10_rule_20 : decode cX10_rule 20 = .ok (.iload_n 1, 1) := by decide +kernel
theorem dX10_rule_21 : decode cX10_rule 21 = .ok (.putfield 111, 3) := by decide +kernel
theorem dX10_rule_24 : decode cX10_rule 24 = .ok (.iload_n 2, 1) := by decide +kernel
theorem dX10_rule_25 : decode cX10_rule 25 = .ok (.ireturn, 1) := by decide +kernel
set_option maxRecDepth 20000 in
theorem ggX10_findRow_X10_isAhead : GoodIn wsX10_findRow wsX10_isAhead := goodIn_r _ [9, 10, 11, 12, 13, 8, 14, 15, 16, 17, 18, 19, 20, 21, 22, 23, 24, 25, 26, 27, 28, 29, 30, 31, 32, 33, 34, 35, 36, 37, 38, 39, 40, 41, 42, 43, 44, 45, 46, 47, 48, 49, 50, 51, 52, 53, 54, 55, 56] (by decide +kernel) (by decide +kernel)
set_option maxRecDepth 20000 in
theorem gX10_findRow_X10_isAhead : GoodIn wsX10_findRow (wsV RX10 117 RX10 yX10_isAhead wsX10_isAhead) := goodIn_app (goodIn_of _ (by decide +kernel)) ggX10_findRow_X10_isAhead
theorem dX10_findRow_0 : decode cX10_findRow 0 = .ok (.aload_n 0, 1) := by decide +kernel
theorem dX10_findRow_1 : decode cX10_findRow 1 = .ok (.iconst 0, 1) := by decide +kernel
theorem dX10_findRow_2 : decode cX10_findRow 2 = .ok (.putfield 114, 3) := by decide +kernel
theorem dX10_findRow_5 : decode cX10_findRow 5 = .ok (.iconst 0, 1) := by decide +kernel
theorem dX10_findRow_6 : decode cX10_findRow 6 = .ok (.istore_n 3, 1) := by decide +kernel
theorem dX10_findRow_7 : decode cX10_findRow 7 = .ok (.iload_n 3, 1) := by decide +kernel
theorem dX10_findRow_8 : decode cX10_findRow 8 = .ok (.aload_n 0, 1) := by decide +kernel
theorem dX10_findRow_9 : decode cX10_findRow 9 = .ok (.getfield 74, 3) := by decide +kernel
theorem dX10_findRow_12 : decode cX10_findRow 12 = .ok (.if_icmp .ge 88, 3) := by decide +kernel
theorem dX10_findRow_15 : decode cX10_findRow 15 = .ok (.aload_n 0, 1) := by decide +kernel
theorem dX10_findRow_16 : decode cX10_findRow 16 = .ok (.getfield 22, 3) := by decide +kernel
theorem dX10_findRow_19 : decode cX10_findRow 19 = .ok (.iload_n 3, 1) := by decide +kernel
theorem dX10_findRow_20 : decode cX10_findRow 20 = .ok (.iaload, 1) := by decide +kernel
theorem dX10_findRow_21 : decode cX10_findRow 21 = .ok (.iload_n 1, 1) := by decide +kernel
theorem dX10_findRow_22 : decode cX10_findRow 22 = .ok (.if_icmp .ne 72, 3) := by decide +kernel
theorem dX10_findRow_25 : decode cX10_findRow 25 = .ok (.aload_n 0, 1) := by decide +kernel
theorem dX10_findRow_26 : decode cX10_findRow 26 = .ok (.getfield 114, 3) := by decide +kernel
theorem dX10_findRow_29 : decode cX10_findRow 29 = .ok (.istore 4, 2) := by decide +kernel
theorem dX10_findRow_31 : decode cX10_findRow 31 = .ok (.iload 4, 2) := by decide +kernel
theorem dX10_findRow_33 : decode cX10_findRow 33 = .ok (.ifCond .le 43, 3) := by decide +kernel
theorem dX10_findRow_36 : decode cX10_findRow 36 = .ok (.aload_n 0, 1) := by decide +kernel
theorem dX10_findRow_37 : decode cX10_findRow 37 = .ok (.iload_n 3, 1) := by decide +kernel
theorem dX10_findRow_38 : decode cX10_findRow 38 = .ok (.aload_n 0, 1) := by decide +kernel
theorem dX10_findRow_39 : decode cX10_findRow 39 = .ok (.getfield 34, 3) := by decide +kernel
theorem dX10_findRow_42 : decode cX10_findRow 42 = .ok (.iload 4, 2) := by decide +kernel
theorem dX10_findRow_44 : decode cX10_findRow 44 = .ok (.iconst 1, 1) := by decide +kernel
theorem dX10_findRow_45 : decode cX10_findRow 45 = .ok (.isub, 1) := by decide +kernel
theorem dX10_findRow_46 : decode cX10_findRow 46 = .ok (.iaload, 1) := by decide +kernel
theorem dX10_findRow_47 : decode cX10_findRow 47 = .ok (.iload_n 2, 1) := by decide +kernel
theorem dX10_findRow_48 : decode cX10_findRow 48 = .ok (.invokevirtual 117, 3) := by decide +kernel
theorem dX10_findRow_51 : decode cX10_findRow 51 = .ok (.ifCond .eq 25, 3) := by decide +kernel
theorem dX10_findRow_54 : decode cX10_findRow 54 = .ok (.aload_n 0, 1) := by decide +kernel
theorem dX10_findRow_55 : decode cX10_findRow 55 = .ok (.getfield 34, 3) := by decide +kernel
theorem dX10_findRow_58 : decode cX10_findRow 58 = .ok (.iload 4, 2) := by decide +kernel
theorem dX10_findRow_60 : decode cX10_findRow 60 = .ok (.aload_n 0, 1) := by decide +kernel
theorem dX10_findRow_61 : decode cX10_findRow 61 = .ok (.getfield 34, 3) := by decide +kernel
theorem dX10_findRow_64 : decode cX10_findRow 64 = .ok (.iload 4, 2) := by decide +kernel
theorem dX10_findRow_66 : decode cX10_findRow 66 = .ok (.iconst 1, 1) := by decide +kernel
theorem dX10_findRow_67 : decode cX10_findRow 67 = .ok (.isub, 1) := by decide +kernel
theorem dX10_findRow_68 : decode cX10_findRow 68 = .ok (.iaload, 1) := by decide +kernel
theorem dX10_findRow_69 : decode cX10_findRow 69 = .ok (.iastore, 1) := by decide +kernel
theorem dX10_findRow_70 : decode cX10_findRow 70 = .ok (.iinc 4 (-1), 3) := by decide +kernel
theorem dX10_findRow_73 : decode cX10_findRow 73 = .ok (.goto (-42), 3) := by decide +kernel
theorem dX10_findRow_76 : decode cX10_findRow 76 = .ok (.aload_n 0, 1) := by decide +kernel
theorem dX10_findRow_77 : decode cX10_findRow 77 = .ok (.getfield 34, 3) := by decide +kernel
theorem dX10_findRow_80 : decode cX10_findRow 80 = .ok (.iload 4, 2) := by decide +kernel
theorem dX10_findRow_82 : decode cX10_findRow 82 = .ok (.iload_n 3, 1) := by decide +kernel
theorem dX10_findRow_83 : decode cX10_findRow 83 = .ok (.iastore, 1) := by decide +kernel
theorem dX10_findRow_84 : decode cX10_findRow 84 = .ok (.aload_n 0, 1) := by decide +kernel
theorem dX10_findRow_85 : decode cX10_findRow 85 = .ok (.dup, 1) := by decide +kernel
theorem dX10_findRow_86 : decode cX10_findRow 86 = .ok (.getfield 114, 3) := by decide +kernel
theorem dX10_findRow_89 : decode cX10_findRow 89 = .ok (.iconst 1, 1) := by decide +kernel
theorem dX10_findRow_90 : decode cX10_findRow 90 = .ok (.iadd, 1) := by decide +kernel
theorem dX10_findRow_91 : decode cX10_findRow 91 = .ok (.putfield 114, 3) := by decide +kernel
theorem dX10_findRow_94 : decode cX10_findRow 94 = .ok (.iinc 3 1, 3) := by decide +kernel
theorem dX10_findRow_97 : decode cX10_findRow 97 = .ok (.goto (-90), 3) := by decide +kernel
theorem dX10_findRow_100 : decode cX10_findRow 100 = .ok (.return_, 1) := by decide +kernel
theorem dX10_worthOf_0 : decode cX10_worthOf 0 = .ok (.iconst 0, 1) := by decide +kernel
theorem dX10_worthOf_1 : decode cX10_worthOf 1 = .ok (.istore_n 2, 1) := by decide +kernel
theorem dX10_worthOf_2 : decode cX10_worthOf 2 = .ok (.iconst 0, 1) := by decide +kernel
theorem dX10_worthOf_3 : decode cX10_worthOf 3 = .ok (.istore_n 3, 1) := by decide +kernel
theorem dX10_worthOf_4 : decode cX10_worthOf 4 = .ok (.iload_n 3, 1) := by decide +kernel
theorem dX10_worthOf_5 : decode cX10_worthOf 5 = .ok (.aload_n 0, 1) := by decide +kernel
theorem dX10_worthOf_6 : decode cX10_worthOf 6 = .ok (.getfield 74, 3) := by decide +kernel
theorem dX10_worthOf_9 : decode cX10_worthOf 9 = .ok (.if_icmp .ge 32, 3) := by decide +kernel
theorem dX10_worthOf_12 : decode cX10_worthOf 12 = .ok (.iload_n 2, 1) := by decide +kernel
theorem dX10_worthOf_13 : decode cX10_worthOf 13 = .ok (.aload_n 0, 1) := by decide +kernel
theorem dX10_worthOf_14 : decode cX10_worthOf 14 = .ok (.getfield 22, 3) := by decide +kernel
theorem dX10_worthOf_17 : decode cX10_worthOf 17 = .ok (.iload_n 3, 1) := by decide +kernel
theorem dX10_worthOf_18 : decode cX10_worthOf 18 = .ok (.iaload, 1) := by decide +kernel
theorem dX10_worthOf_19 : decode cX10_worthOf 19 = .ok (.iload_n 1, 1) := by decide +kernel
theorem dX10_worthOf_20 : decode cX10_worthOf 20 = .ok (.if_icmp .ne 12, 3) := by decide +kernel
theorem dX10_worthOf_23 : decode cX10_worthOf 23 = .ok (.aload_n 0, 1) := by decide +kernel
theorem dX10_worthOf_24 : decode cX10_worthOf 24 = .ok (.getfield 7, 3) := by decide +kernel
theorem dX10_worthOf_27 : decode cX10_worthOf 27 = .ok (.iload_n 3, 1) := by decide +kernel
theorem dX10_worthOf_28 : decode cX10_worthOf 28 = .ok (.iaload, 1) := by decide +kernel
theorem dX10_worthOf_29 : decode cX10_worthOf 29 = .ok (.goto 4, 3) := by decide +kernel
theorem dX10_worthOf_32 : decode cX10_worthOf 32 = .ok (.iconst 0, 1) := by decide +kernel
theorem dX10_worthOf_33 : decode cX10_worthOf 33 = .ok (.iadd, 1) := by decide +kernel
theorem dX10_worthOf_34 : decode cX10_worthOf 34 = .ok (.istore_n 2, 1) := by decide +kernel
theorem dX10_worthOf_35 : decode cX10_worthOf 35 = .ok (.iinc 3 1, 3) := by decide +kernel
theorem dX10_worthOf_38 : decode cX10_worthOf 38 = .ok (.goto (-34), 3) := by decide +kernel
theorem dX10_worthOf_41 : decode cX10_worthOf 41 = .ok (.iload_n 2, 1) := by decide +kernel
theorem dX10_worthOf_42 : decode cX10_worthOf 42 = .ok (.ireturn, 1) := by decide +kernel
set_option maxRecDepth 20000 in
theorem ggX10_of_X10_isHolder : GoodIn wsX10_of wsX10_isHolder := goodIn_r _ [8, 9, 10, 11, 7, 12] (by decide +kernel) (by decide +kernel)
set_option maxRecDepth 20000 in
theorem gX10_of_X10_isHolder : GoodIn wsX10_of (va_wsS RX10 90 yX10_isHolder wsX10_isHolder) := goodIn_app (goodIn_of _ (by decide +kernel)) ggX10_of_X10_isHolder
set_option maxRecDepth 20000 in
theorem ggX10_of_X10_in : GoodIn wsX10_of wsX10_in := goodIn_r _ [12] (by decide +kernel) (by decide +kernel)
set_option maxRecDepth 20000 in
theorem gX10_of_X10_in : GoodIn wsX10_of (va_wsS RX10 78 yX10_in wsX10_in) := goodIn_app (goodIn_of _ (by decide +kernel)) ggX10_of_X10_in
set_option maxRecDepth 20000 in
theorem ggX10_of_X10_backLaw : GoodIn wsX10_of wsX10_backLaw := goodIn_r _ [16, 2, 43, 44, 45, 46, 47, 48, 49, 50, 51, 52, 53, 54, 55, 56, 57, 58, 59, 60, 61, 62, 63, 64, 65, 66, 67, 68, 69, 70, 71, 72, 73, 74, 75, 76, 77] (by decide +kernel) (by decide +kernel)
set_option maxRecDepth 20000 in
theorem gX10_of_X10_backLaw : GoodIn wsX10_of (wsV RX10 121 RX10 yX10_backLaw wsX10_backLaw) := goodIn_app (goodIn_of _ (by decide +kernel)) ggX10_of_X10_backLaw
set_option maxRecDepth 20000 in
theorem ggX10_of_X10_findRow : GoodIn wsX10_of wsX10_findRow := goodIn_r _ [20, 3, 21, 22, 4, 23, 24, 25, 7, 26, 27, 28, 29, 30, 31, 32, 33, 34, 35, 36, 37, 38, 43, 44, 45, 46, 47, 48, 49, 50, 51, 52, 53, 54, 55, 56, 57, 58, 59, 60, 61, 62, 63, 64, 65, 66, 67, 68, 69, 70, 71, 72, 73, 74, 75, 76, 77] (by decide +kernel) (by decide +kernel)
set_option maxRecDepth 20000 in
theorem gX10_of_X10_findRow : GoodIn wsX10_of (wsV RX10 125 RX10 yX10_findRow wsX10_findRow) := goodIn_app (goodIn_of _ (by decide +kernel)) ggX10_of_X10_findRow
set_option maxRecDepth 20000 in
theorem ggX10_of_X10_worthOf : GoodIn wsX10_of wsX10_worthOf := goodIn_r _ [42, 21, 22, 27, 43, 44, 45, 46, 47, 48, 49, 50, 51, 52, 53, 54, 55, 56, 57, 58, 59, 60, 61, 62, 63, 64, 65, 66, 67, 68, 69, 70, 71, 72, 73, 74, 75, 76, 77] (by decide +kernel) (by decide +kernel)
set_option maxRecDepth 20000 in
theorem gX10_of_X10_worthOf : GoodIn wsX10_of (wsV RX10 129 RX10 yX10_worthOf wsX10_worthOf) := goodIn_app (goodIn_of _ (by decide +kernel)) ggX10_of_X10_worthOf
theorem dX10_of_0 : decode cX10_of 0 = .ok (.iload_n 1, 1) := by decide +kernel
theorem dX10_of_1 : decode cX10_of 1 = .ok (.invokestatic 90, 3) := by decide +kernel
theorem dX10_of_4 : decode cX10_of 4 = .ok (.ifCond .eq 15, 3) := by decide +kernel
theorem dX10_of_7 : decode cX10_of 7 = .ok (.iload_n 2, 1) := by decide +kernel
theorem dX10_of_8 : decode cX10_of 8 = .ok (.i2l, 1) := by decide +kernel
theorem dX10_of_9 : decode cX10_of 9 = .ok (.lconst 0, 1) := by decide +kernel
theorem dX10_of_10 : decode cX10_of 10 = .ok (.ldc2_w 84, 3) := by decide +kernel
theorem dX10_of_13 : decode cX10_of 13 = .ok (.invokestatic 78, 3) := by decide +kernel
theorem dX10_of_16 : decode cX10_of 16 = .ok (.ifCond .ne 5, 3) := by decide +kernel
theorem dX10_of_19 : decode cX10_of 19 = .ok (.iconst (-1), 1) := by decide +kernel
theorem dX10_of_20 : decode cX10_of 20 = .ok (.ireturn, 1) := by decide +kernel
theorem dX10_of_21 : decode cX10_of 21 = .ok (.aload_n 0, 1) := by decide +kernel
theorem dX10_of_22 : decode cX10_of 22 = .ok (.iload_n 1, 1) := by decide +kernel
theorem dX10_of_23 : decode cX10_of 23 = .ok (.iload_n 2, 1) := by decide +kernel
theorem dX10_of_24 : decode cX10_of 24 = .ok (.iconst 3, 1) := by decide +kernel
theorem dX10_of_25 : decode cX10_of 25 = .ok (.if_icmp .ne 10, 3) := by decide +kernel
theorem dX10_of_28 : decode cX10_of 28 = .ok (.aload_n 0, 1) := by decide +kernel
theorem dX10_of_29 : decode cX10_of 29 = .ok (.invokevirtual 121, 3) := by decide +kernel
theorem dX10_of_32 : decode cX10_of 32 = .ok (.goto 7, 3) := by decide +kernel
theorem dX10_of_35 : decode cX10_of 35 = .ok (.aload_n 0, 1) := by decide +kernel
theorem dX10_of_36 : decode cX10_of 36 = .ok (.getfield 111, 3) := by decide +kernel
theorem dX10_of_39 : decode cX10_of 39 = .ok (.invokevirtual 125, 3) := by decide +kernel
theorem dX10_of_42 : decode cX10_of 42 = .ok (.iload_n 2, 1) := by decide +kernel
theorem dX10_of_43 : decode cX10_of 43 = .ok (.ifCond .ne 10, 3) := by decide +kernel
theorem dX10_of_46 : decode cX10_of 46 = .ok (.aload_n 0, 1) := by decide +kernel
theorem dX10_of_47 : decode cX10_of 47 = .ok (.getfield 114, 3) := by decide +kernel
theorem dX10_of_50 : decode cX10_of 50 = .ok (.goto 34, 3) := by decide +kernel
theorem dX10_of_53 : decode cX10_of 53 = .ok (.iload_n 2, 1) := by decide +kernel
theorem dX10_of_54 : decode cX10_of 54 = .ok (.iconst 1, 1) := by decide +kernel
theorem dX10_of_55 : decode cX10_of 55 = .ok (.if_icmp .ne 11, 3) := by decide +kernel
theorem dX10_of_58 : decode cX10_of 58 = .ok (.aload_n 0, 1) := by decide +kernel
theorem dX10_of_59 : decode cX10_of 59 = .ok (.iload_n 1, 1) := by decide +kernel
theorem dX10_of_60 : decode cX10_of 60 = .ok (.invokevirtual 129, 3) := by decide +kernel
theorem dX10_of_63 : decode cX10_of 63 = .ok (.goto 21, 3) := by decide +kernel
theorem dX10_of_66 : decode cX10_of 66 = .ok (.aload_n 0, 1) := by decide +kernel
theorem dX10_of_67 : decode cX10_of 67 = .ok (.getfield 114, 3) := by decide +kernel
theorem dX10_of_70 : decode cX10_of 70 = .ok (.ifCond .ne 8, 3) := by decide +kernel
theorem dX10_of_73 : decode cX10_of 73 = .ok (.bipush (-4), 2) := by decide +kernel
theorem dX10_of_75 : decode cX10_of 75 = .ok (.goto 9, 3) := by decide +kernel
theorem dX10_of_78 : decode cX10_of 78 = .ok (.aload_n 0, 1) := by decide +kernel
theorem dX10_of_79 : decode cX10_of 79 = .ok (.getfield 34, 3) := by decide +kernel
theorem dX10_of_82 : decode cX10_of 82 = .ok (.iconst 0, 1) := by decide +kernel
theorem dX10_of_83 : decode cX10_of 83 = .ok (.iaload, 1) := by decide +kernel
theorem dX10_of_84 : decode cX10_of 84 = .ok (.ireturn, 1) := by decide +kernel
theorem dX10_count_0 : decode cX10_count 0 = .ok (.iconst 0, 1) := by decide +kernel
theorem dX10_count_1 : decode cX10_count 1 = .ok (.istore_n 2, 1) := by decide +kernel
theorem dX10_count_2 : decode cX10_count 2 = .ok (.iconst 0, 1) := by decide +kernel
theorem dX10_count_3 : decode cX10_count 3 = .ok (.istore_n 3, 1) := by decide +kernel
theorem dX10_count_4 : decode cX10_count 4 = .ok (.iload_n 3, 1) := by decide +kernel
theorem dX10_count_5 : decode cX10_count 5 = .ok (.aload_n 0, 1) := by decide +kernel
theorem dX10_count_6 : decode cX10_count 6 = .ok (.getfield 74, 3) := by decide +kernel
theorem dX10_count_9 : decode cX10_count 9 = .ok (.if_icmp .ge 18, 3) := by decide +kernel
theorem dX10_count_12 : decode cX10_count 12 = .ok (.iload_n 2, 1) := by decide +kernel
theorem dX10_count_13 : decode cX10_count 13 = .ok (.aload_n 0, 1) := by decide +kernel
theorem dX10_count_14 : decode cX10_count 14 = .ok (.getfield 7, 3) := by decide +kernel
theorem dX10_count_17 : decode cX10_count 17 = .ok (.iload_n 3, 1) := by decide +kernel
theorem dX10_count_18 : decode cX10_count 18 = .ok (.iaload, 1) := by decide +kernel
theorem dX10_count_19 : decode cX10_count 19 = .ok (.iadd, 1) := by decide +kernel
theorem dX10_count_20 : decode cX10_count 20 = .ok (.istore_n 2, 1) := by decide +kernel
theorem dX10_count_21 : decode cX10_count 21 = .ok (.iinc 3 1, 3) := by decide +kernel
theorem dX10_count_24 : decode cX10_count 24 = .ok (.goto (-20), 3) := by decide +kernel
theorem dX10_count_27 : decode cX10_count 27 = .ok (.iload_n 1, 1) := by decide +kernel
theorem dX10_count_28 : decode cX10_count 28 = .ok (.ifCond .ne 10, 3) := by decide +kernel
theorem dX10_count_31 : decode cX10_count 31 = .ok (.aload_n 0, 1) := by decide +kernel
theorem dX10_count_32 : decode cX10_count 32 = .ok (.getfield 74, 3) := by decide +kernel
theorem dX10_count_35 : decode cX10_count 35 = .ok (.goto 37, 3) := by decide +kernel
theorem dX10_count_38 : decode cX10_count 38 = .ok (.iload_n 1, 1) := by decide +kernel
theorem dX10_count_39 : decode cX10_count 39 = .ok (.iconst 1, 1) := by decide +kernel
theorem dX10_count_40 : decode cX10_count 40 = .ok (.if_icmp .ne 7, 3) := by decide +kernel
theorem dX10_count_43 : decode cX10_count 43 = .ok (.iload_n 2, 1) := by decide +kernel
theorem dX10_count_44 : decode cX10_count 44 = .ok (.goto 28, 3) := by decide +kernel
theorem dX10_count_47 : decode cX10_count 47 = .ok (.iload_n 1, 1) := by decide +kernel
theorem dX10_count_48 : decode cX10_count 48 = .ok (.iconst 2, 1) := by decide +kernel
theorem dX10_count_49 : decode cX10_count 49 = .ok (.if_icmp .ne 10, 3) := by decide +kernel
theorem dX10_count_52 : decode cX10_count 52 = .ok (.aload_n 0, 1) := by decide +kernel
theorem dX10_count_53 : decode cX10_count 53 = .ok (.getfield 132, 3) := by decide +kernel
theorem dX10_count_56 : decode cX10_count 56 = .ok (.goto 16, 3) := by decide +kernel
theorem dX10_count_59 : decode cX10_count 59 = .ok (.iload_n 1, 1) := by decide +kernel
theorem dX10_count_60 : decode cX10_count 60 = .ok (.iconst 3, 1) := by decide +kernel
theorem dX10_count_61 : decode cX10_count 61 = .ok (.if_icmp .ne 10, 3) := by decide +kernel
theorem dX10_count_64 : decode cX10_count 64 = .ok (.aload_n 0, 1) := by decide +kernel
theorem dX10_count_65 : decode cX10_count 65 = .ok (.getfield 135, 3) := by decide +kernel
theorem dX10_count_68 : decode cX10_count 68 = .ok (.goto 4, 3) := by decide +kernel
theorem dX10_count_71 : decode cX10_count 71 = .ok (.iconst (-1), 1) := by decide +kernel
theorem dX10_count_72 : decode cX10_count 72 = .ok (.ireturn, 1) := by decide +kernel
set_option maxRecDepth 20000 in
theorem ggX10_type_X10_in : GoodIn wsX10_type wsX10_in := goodIn_r _ [10] (by decide +kernel) (by decide +kernel)
set_option maxRecDepth 20000 in
theorem gX10_type_X10_in : GoodIn wsX10_type (va_wsS RX10 78 yX10_in wsX10_in) := goodIn_app (goodIn_of _ (by decide +kernel)) ggX10_type_X10_in
theorem dX10_type_0 : decode cX10_type 0 = .ok (.iload_n 3, 1) := by decide +kernel
theorem dX10_type_1 : decode cX10_type 1 = .ok (.i2l, 1) := by decide +kernel
theorem dX10_type_2 : decode cX10_type 2 = .ok (.lconst 1, 1) := by decide +kernel
theorem dX10_type_3 : decode cX10_type 3 = .ok (.ldc2_w 138, 3) := by decide +kernel
theorem dX10_type_6 : decode cX10_type 6 = .ok (.invokestatic 78, 3) := by decide +kernel
theorem dX10_type_9 : decode cX10_type 9 = .ok (.ifCond .ne 5, 3) := by decide +kernel
theorem dX10_type_12 : decode cX10_type 12 = .ok (.iconst (-1), 1) := by decide +kernel
theorem dX10_type_13 : decode cX10_type 13 = .ok (.ireturn, 1) := by decide +kernel
theorem dX10_type_14 : decode cX10_type 14 = .ok (.iload_n 3, 1) := by decide +kernel
theorem dX10_type_15 : decode cX10_type 15 = .ok (.iconst 1, 1) := by decide +kernel
theorem dX10_type_16 : decode cX10_type 16 = .ok (.isub, 1) := by decide +kernel
theorem dX10_type_17 : decode cX10_type 17 = .ok (.istore 4, 2) := by decide +kernel
theorem dX10_type_19 : decode cX10_type 19 = .ok (.iload 4, 2) := by decide +kernel
theorem dX10_type_21 : decode cX10_type 21 = .ok (.ifCond .lt 34, 3) := by decide +kernel
theorem dX10_type_24 : decode cX10_type 24 = .ok (.lload_n 1, 1) := by decide +kernel
theorem dX10_type_25 : decode cX10_type 25 = .ok (.bipush 8, 2) := by decide +kernel
theorem dX10_type_27 : decode cX10_type 27 = .ok (.iload 4, 2) := by decide +kernel
theorem dX10_type_29 : decode cX10_type 29 = .ok (.imul, 1) := by decide +kernel
theorem dX10_type_30 : decode cX10_type 30 = .ok (.lshr, 1) := by decide +kernel
theorem dX10_type_31 : decode cX10_type 31 = .ok (.ldc2_w 140, 3) := by decide +kernel
theorem dX10_type_34 : decode cX10_type 34 = .ok (.land, 1) := by decide +kernel
theorem dX10_type_35 : decode cX10_type 35 = .ok (.ldc2_w 142, 3) := by decide +kernel
theorem dX10_type_38 : decode cX10_type 38 = .ok (.ldc2_w 144, 3) := by decide +kernel
theorem dX10_type_41 : decode cX10_type 41 = .ok (.invokestatic 78, 3) := by decide +kernel
theorem dX10_type_44 : decode cX10_type 44 = .ok (.ifCond .ne 5, 3) := by decide +kernel
theorem dX10_type_47 : decode cX10_type 47 = .ok (.iconst (-1), 1) := by decide +kernel
theorem dX10_type_48 : decode cX10_type 48 = .ok (.ireturn, 1) := by decide +kernel
theorem dX10_type_49 : decode cX10_type 49 = .ok (.iinc 4 (-1), 3) := by decide +kernel
theorem dX10_type_52 : decode cX10_type 52 = .ok (.goto (-33), 3) := by decide +kernel
theorem dX10_type_55 : decode cX10_type 55 = .ok (.aload_n 0, 1) := by decide +kernel
theorem dX10_type_56 : decode cX10_type 56 = .ok (.getfield 146, 3) := by decide +kernel
theorem dX10_type_59 : decode cX10_type 59 = .ok (.iload_n 3, 1) := by decide +kernel
theorem dX10_type_60 : decode cX10_type 60 = .ok (.iadd, 1) := by decide +kernel
theorem dX10_type_61 : decode cX10_type 61 = .ok (.sipush 160, 3) := by decide +kernel
theorem dX10_type_64 : decode cX10_type 64 = .ok (.if_icmp .le 6, 3) := by decide +kernel
theorem dX10_type_67 : decode cX10_type 67 = .ok (.bipush (-3), 2) := by decide +kernel
theorem dX10_type_69 : decode cX10_type 69 = .ok (.ireturn, 1) := by decide +kernel
theorem dX10_type_70 : decode cX10_type 70 = .ok (.iload_n 3, 1) := by decide +kernel
theorem dX10_type_71 : decode cX10_type 71 = .ok (.iconst 1, 1) := by decide +kernel
theorem dX10_type_72 : decode cX10_type 72 = .ok (.isub, 1) := by decide +kernel
theorem dX10_type_73 : decode cX10_type 73 = .ok (.istore 4, 2) := by decide +kernel
theorem dX10_type_75 : decode cX10_type 75 = .ok (.iload 4, 2) := by decide +kernel
theorem dX10_type_77 : decode cX10_type 77 = .ok (.ifCond .lt 40, 3) := by decide +kernel
theorem dX10_type_80 : decode cX10_type 80 = .ok (.aload_n 0, 1) := by decide +kernel
theorem dX10_type_81 : decode cX10_type 81 = .ok (.getfield 37, 3) := by decide +kernel
theorem dX10_type_84 : decode cX10_type 84 = .ok (.aload_n 0, 1) := by decide +kernel
theorem dX10_type_85 : decode cX10_type 85 = .ok (.getfield 146, 3) := by decide +kernel
theorem dX10_type_88 : decode cX10_type 88 = .ok (.lload_n 1, 1) := by decide +kernel
theorem dX10_type_89 : decode cX10_type 89 = .ok (.bipush 8, 2) := by decide +kernel
theorem dX10_type_91 : decode cX10_type 91 = .ok (.iload 4, 2) := by decide +kernel
theorem dX10_type_93 : decode cX10_type 93 = .ok (.imul, 1) := by decide +kernel
theorem dX10_type_94 : decode cX10_type 94 = .ok (.lshr, 1) := by decide +kernel
theorem dX10_type_95 : decode cX10_type 95 = .ok (.ldc2_w 140, 3) := by decide +kernel
theorem dX10_type_98 : decode cX10_type 98 = .ok (.land, 1) := by decide +kernel
theorem dX10_type_99 : decode cX10_type 99 = .ok (.l2i, 1) := by decide +kernel
theorem dX10_type_100 : decode cX10_type 100 = .ok (.iastore, 1) := by decide +kernel
theorem dX10_type_101 : decode cX10_type 101 = .ok (.aload_n 0, 1) := by decide +kernel
theorem dX10_type_102 : decode cX10_type 102 = .ok (.dup, 1) := by decide +kernel
theorem dX10_type_103 : decode cX10_type 103 = .ok (.getfield 146, 3) := by decide +kernel
theorem dX10_type_106 : decode cX10_type 106 = .ok (.iconst 1, 1) := by decide +kernel
theorem dX10_type_107 : decode cX10_type 107 = .ok (.iadd, 1) := by decide +kernel
theorem dX10_type_108 : decode cX10_type 108 = .ok (.putfield 146, 3) := by decide +kernel
theorem dX10_type_111 : decode cX10_type 111 = .ok (.iinc 4 (-1), 3) := by decide +kernel
theorem dX10_type_114 : decode cX10_type 114 = .ok (.goto (-39), 3) := by decide +kernel
theorem dX10_type_117 : decode cX10_type 117 = .ok (.aload_n 0, 1) := by decide +kernel
theorem dX10_type_118 : decode cX10_type 118 = .ok (.getfield 146, 3) := by decide +kernel
theorem dX10_type_121 : decode cX10_type 121 = .ok (.ireturn, 1) := by decide +kernel
theorem dX10_nextByte_0 : decode cX10_nextByte 0 = .ok (.aload_n 0, 1) := by decide +kernel
theorem dX10_nextByte_1 : decode cX10_nextByte 1 = .ok (.getfield 149, 3) := by decide +kernel
theorem dX10_nextByte_4 : decode cX10_nextByte 4 = .ok (.aload_n 0, 1) := by decide +kernel
theorem dX10_nextByte_5 : decode cX10_nextByte 5 = .ok (.getfield 146, 3) := by decide +kernel
theorem dX10_nextByte_8 : decode cX10_nextByte 8 = .ok (.if_icmp .ge 30, 3) := by decide +kernel
theorem dX10_nextByte_11 : decode cX10_nextByte 11 = .ok (.aload_n 0, 1) := by decide +kernel
theorem dX10_nextByte_12 : decode cX10_nextByte 12 = .ok (.getfield 37, 3) := by decide +kernel
theorem dX10_nextByte_15 : decode cX10_nextByte 15 = .ok (.aload_n 0, 1) := by decide +kernel
theorem dX10_nextByte_16 : decode cX10_nextByte 16 = .ok (.getfield 149, 3) := by decide +kernel
theorem dX10_nextByte_19 : decode cX10_nextByte 19 = .ok (.iaload, 1) := by decide +kernel
theorem dX10_nextByte_20 : decode cX10_nextByte 20 = .ok (.bipush 32, 2) := by decide +kernel
theorem dX10_nextByte_22 : decode cX10_nextByte 22 = .ok (.if_icmp .ne 16, 3) := by decide +kernel
theorem dX10_nextByte_25 : decode cX10_nextByte 25 = .ok (.aload_n 0, 1) := by decide +kernel
theorem dX10_nextByte_26 : decode cX10_nextByte 26 = .ok (.dup, 1) := by decide +kernel
theorem dX10_nextByte_27 : decode cX10_nextByte 27 = .ok (.getfield 149, 3) := by decide +kernel
theorem dX10_nextByte_30 : decode cX10_nextByte 30 = .ok (.iconst 1, 1) := by decide +kernel
theorem dX10_nextByte_31 : decode cX10_nextByte 31 = .ok (.iadd, 1) := by decide +kernel
theorem dX10_nextByte_32 : decode cX10_nextByte 32 = .ok (.putfield 149, 3) := by decide +kernel
theorem dX10_nextByte_35 : decode cX10_nextByte 35 = .ok (.goto (-35), 3) := by decide +kernel
theorem dX10_nextByte_38 : decode cX10_nextByte 38 = .ok (.aload_n 0, 1) := by decide +kernel
theorem dX10_nextByte_39 : decode cX10_nextByte 39 = .ok (.getfield 149, 3) := by decide +kernel
theorem dX10_nextByte_42 : decode cX10_nextByte 42 = .ok (.aload_n 0, 1) := by decide +kernel
theorem dX10_nextByte_43 : decode cX10_nextByte 43 = .ok (.getfield 146, 3) := by decide +kernel
theorem dX10_nextByte_46 : decode cX10_nextByte 46 = .ok (.if_icmp .ge 15, 3) := by decide +kernel
theorem dX10_nextByte_49 : decode cX10_nextByte 49 = .ok (.aload_n 0, 1) := by decide +kernel
theorem dX10_nextByte_50 : decode cX10_nextByte 50 = .ok (.getfield 37, 3) := by decide +kernel
theorem dX10_nextByte_53 : decode cX10_nextByte 53 = .ok (.aload_n 0, 1) := by decide +kernel
theorem dX10_nextByte_54 : decode cX10_nextByte 54 = .ok (.getfield 149, 3) := by decide +kernel
theorem dX10_nextByte_57 : decode cX10_nextByte 57 = .ok (.iaload, 1) := by decide +kernel
theorem dX10_nextByte_58 : decode cX10_nextByte 58 = .ok (.goto 4, 3) := by decide +kernel
theorem dX10_nextByte_61 : decode cX10_nextByte 61 = .ok (.iconst (-1), 1) := by decide +kernel
theorem dX10_nextByte_62 : decode cX10_nextByte 62 = .ok (.ireturn, 1) := by decide +kernel
set_option maxRecDepth 20000 in
theorem ggX10_takes_X10_nextByte : GoodIn wsX10_takes wsX10_nextByte := goodIn_r _ [6, 1, 7, 8, 9, 10, 11, 12, 13, 14, 15, 16, 17, 18, 19, 20, 21, 22, 23, 24, 25, 26, 27, 28, 29, 30, 31, 32, 33, 34, 35, 36, 37, 38, 39, 40, 41, 42, 43] (by decide +kernel) (by decide +kernel)
set_option maxRecDepth 20000 in
theorem gX10_takes_X10_nextByte : GoodIn wsX10_takes (wsV RX10 152 RX10 yX10_nextByte wsX10_nextByte) := goodIn_app (goodIn_of _ (by decide +kernel)) ggX10_takes_X10_nextByte
theorem dX10_takes_0 : decode cX10_takes 0 = .ok (.aload_n 0, 1) := by decide +kernel
theorem dX10_takes_1 : decode cX10_takes 1 = .ok (.invokevirtual 152, 3) := by decide +kernel
theorem dX10_takes_4 : decode cX10_takes 4 = .ok (.iload_n 1, 1) := by decide +kernel
theorem dX10_takes_5 : decode cX10_takes 5 = .ok (.if_icmp .ne 7, 3) := by decide +kernel
theorem dX10_takes_8 : decode cX10_takes 8 = .ok (.iconst 1, 1) := by decide +kernel
theorem dX10_takes_9 : decode cX10_takes 9 = .ok (.goto 4, 3) := by decide +kernel
theorem dX10_takes_12 : decode cX10_takes 12 = .ok (.iconst 0, 1) := by decide +kernel
theorem dX10_takes_13 : decode cX10_takes 13 = .ok (.istore_n 2, 1) := by decide +kernel
theorem dX10_takes_14 : decode cX10_takes 14 = .ok (.aload_n 0, 1) := by decide +kernel
theorem dX10_takes_15 : decode cX10_takes 15 = .ok (.dup, 1) := by decide +kernel
theorem dX10_takes_16 : decode cX10_takes 16 = .ok (.getfield 149, 3) := by decide +kernel
theorem dX10_takes_19 : decode cX10_takes 19 = .ok (.iload_n 2, 1) := by decide +kernel
theorem dX10_takes_20 : decode cX10_takes 20 = .ok (.ifCond .eq 7, 3) := by decide +kernel
theorem dX10_takes_23 : decode cX10_takes 23 = .ok (.iconst 1, 1) := by decide +kernel
theorem dX10_takes_24 : decode cX10_takes 24 = .ok (.goto 4, 3) := by decide +kernel
theorem dX10_takes_27 : decode cX10_takes 27 = .ok (.iconst 0, 1) := by decide +kernel
theorem dX10_takes_28 : decode cX10_takes 28 = .ok (.iadd, 1) := by decide +kernel
theorem dX10_takes_29 : decode cX10_takes 29 = .ok (.putfield 149, 3) := by decide +kernel
theorem dX10_takes_32 : decode cX10_takes 32 = .ok (.iload_n 2, 1) := by decide +kernel
theorem dX10_takes_33 : decode cX10_takes 33 = .ok (.ireturn, 1) := by decide +kernel
set_option maxRecDepth 20000 in
theorem ggX10_readNumber_X10_nextByte : GoodIn wsX10_readNumber wsX10_nextByte := goodIn_r _ [10, 1, 2, 3, 14, 15, 16, 17, 18, 19, 20, 21, 22, 23, 24, 25, 26, 27, 28, 29, 30, 31, 32, 33, 34, 35, 36, 37, 38, 39, 40, 41, 42, 43, 44, 45, 46, 47, 48] (by decide +kernel) (by decide +kernel)
set_option maxRecDepth 20000 in
theorem gX10_readNumber_X10_nextByte : GoodIn wsX10_readNumber (wsV RX10 152 RX10 yX10_nextByte wsX10_nextByte) := goodIn_app (goodIn_of _ (by decide +kernel)) ggX10_readNumber_X10_nextByte
set_option maxRecDepth 20000 in
theorem ggX10_readNumber_X10_in : GoodIn wsX10_readNumber wsX10_in := goodIn_r _ [13] (by decide +kernel) (by decide +kernel)
set_option maxRecDepth 20000 in
theorem gX10_readNumber_X10_in : GoodIn wsX10_readNumber (va_wsS RX10 78 yX10_in wsX10_in) := goodIn_app (goodIn_of _ (by decide +kernel)) ggX10_readNumber_X10_in
theorem dX10_readNumber_0 : decode cX10_readNumber 0 = .ok (.aload_n 0, 1) := by decide +kernel
theorem dX10_readNumber_1 : decode cX10_readNumber 1 = .ok (.invokevirtual 152, 3) := by decide +kernel
theorem dX10_readNumber_4 : decode cX10_readNumber 4 = .ok (.pop, 1) := by decide +kernel
theorem dX10_readNumber_5 : decode cX10_readNumber 5 = .ok (.aload_n 0, 1) := by decide +kernel
theorem dX10_readNumber_6 : decode cX10_readNumber 6 = .ok (.getfield 149, 3) := by decide +kernel
theorem dX10_readNumber_9 : decode cX10_readNumber 9 = .ok (.istore_n 3, 1) := by decide +kernel
theorem dX10_readNumber_10 : decode cX10_readNumber 10 = .ok (.iconst 0, 1) := by decide +kernel
theorem dX10_readNumber_11 : decode cX10_readNumber 11 = .ok (.istore 4, 2) := by decide +kernel
theorem dX10_readNumber_13 : decode cX10_readNumber 13 = .ok (.aload_n 0, 1) := by decide +kernel
theorem dX10_readNumber_14 : decode cX10_readNumber 14 = .ok (.getfield 149, 3) := by decide +kernel
theorem dX10_readNumber_17 : decode cX10_readNumber 17 = .ok (.aload_n 0, 1) := by decide +kernel
theorem dX10_readNumber_18 : decode cX10_readNumber 18 = .ok (.getfield 146, 3) := by decide +kernel
theorem dX10_readNumber_21 : decode cX10_readNumber 21 = .ok (.if_icmp .ge 71, 3) := by decide +kernel
theorem dX10_readNumber_24 : decode cX10_readNumber 24 = .ok (.aload_n 0, 1) := by decide +kernel
theorem dX10_readNumber_25 : decode cX10_readNumber 25 = .ok (.getfield 37, 3) := by decide +kernel
theorem dX10_readNumber_28 : decode cX10_readNumber 28 = .ok (.aload_n 0, 1) := by decide +kernel
theorem dX10_readNumber_29 : decode cX10_readNumber 29 = .ok (.getfield 149, 3) := by decide +kernel
theorem dX10_readNumber_32 : decode cX10_readNumber 32 = .ok (.iaload, 1) := by decide +kernel
theorem dX10_readNumber_33 : decode cX10_readNumber 33 = .ok (.i2l, 1) := by decide +kernel
theorem dX10_readNumber_34 : decode cX10_readNumber 34 = .ok (.ldc2_w 155, 3) := by decide +kernel
theorem dX10_readNumber_37 : decode cX10_readNumber 37 = .ok (.ldc2_w 157, 3) := by decide +kernel
theorem dX10_readNumber_40 : decode cX10_readNumber 40 = .ok (.invokestatic 78, 3) := by decide +kernel
theorem dX10_readNumber_43 : decode cX10_readNumber 43 = .ok (.ifCond .eq 49, 3) := by decide +kernel
theorem dX10_readNumber_46 : decode cX10_readNumber 46 = .ok (.iload 4, 2) := by decide +kernel
theorem dX10_readNumber_48 : decode cX10_readNumber 48 = .ok (.sipush 9999, 3) := by decide +kernel
theorem dX10_readNumber_51 : decode cX10_readNumber 51 = .ok (.if_icmp .le 8, 3) := by decide +kernel
theorem dX10_readNumber_54 : decode cX10_readNumber 54 = .ok (.iload 4, 2) := by decide +kernel
theorem dX10_readNumber_56 : decode cX10_readNumber 56 = .ok (.goto 21, 3) := by decide +kernel
theorem dX10_readNumber_59 : decode cX10_readNumber 59 = .ok (.bipush 10, 2) := by decide +kernel
theorem dX10_readNumber_61 : decode cX10_readNumber 61 = .ok (.iload 4, 2) := by decide +kernel
theorem dX10_readNumber_63 : decode cX10_readNumber 63 = .ok (.imul, 1) := by decide +kernel
theorem dX10_readNumber_64 : decode cX10_readNumber 64 = .ok (.aload_n 0, 1) := by decide +kernel
theorem dX10_readNumber_65 : decode cX10_readNumber 65 = .ok (.getfield 37, 3) := by decide +kernel
theorem dX10_readNumber_68 : decode cX10_readNumber 68 = .ok (.aload_n 0, 1) := by decide +kernel
theorem dX10_readNumber_69 : decode cX10_readNumber 69 = .ok (.getfield 149, 3) := by decide +kernel
theorem dX10_readNumber_72 : decode cX10_readNumber 72 = .ok (.iaload, 1) := by decide +kernel
theorem dX10_readNumber_73 : decode cX10_readNumber 73 = .ok (.iadd, 1) := by decide +kernel
theorem dX10_readNumber_74 : decode cX10_readNumber 74 = .ok (.bipush 48, 2) := by decide +kernel
theorem dX10_readNumber_76 : decode cX10_readNumber 76 = .ok (.isub, 1) := by decide +kernel
theorem dX10_readNumber_77 : decode cX10_readNumber 77 = .ok (.istore 4, 2) := by decide +kernel
theorem dX10_readNumber_79 : decode cX10_readNumber 79 = .ok (.aload_n 0, 1) := by decide +kernel
theorem dX10_readNumber_80 : decode cX10_readNumber 80 = .ok (.dup, 1) := by decide +kernel
theorem dX10_readNumber_81 : decode cX10_readNumber 81 = .ok (.getfield 149, 3) := by decide +kernel
theorem dX10_readNumber_84 : decode cX10_readNumber 84 = .ok (.iconst 1, 1) := by decide +kernel
theorem dX10_readNumber_85 : decode cX10_readNumber 85 = .ok (.iadd, 1) := by decide +kernel
theorem dX10_readNumber_86 : decode cX10_readNumber 86 = .ok (.putfield 149, 3) := by decide +kernel
theorem dX10_readNumber_89 : decode cX10_readNumber 89 = .ok (.goto (-76), 3) := by decide +kernel
theorem dX10_readNumber_92 : decode cX10_readNumber 92 = .ok (.aload_n 0, 1) := by decide +kernel
theorem dX10_readNumber_93 : decode cX10_readNumber 93 = .ok (.getfield 149, 3) := by decide +kernel
theorem dX10_readNumber_96 : decode cX10_readNumber 96 = .ok (.iload_n 3, 1) := by decide +kernel
theorem dX10_readNumber_97 : decode cX10_readNumber 97 = .ok (.if_icmp .ne 5, 3) := by decide +kernel
theorem dX10_readNumber_100 : decode cX10_readNumber 100 = .ok (.iconst (-1), 1) := by decide +kernel
theorem dX10_readNumber_101 : decode cX10_readNumber 101 = .ok (.ireturn, 1) := by decide +kernel
theorem dX10_readNumber_102 : decode cX10_readNumber 102 = .ok (.iload 4, 2) := by decide +kernel
theorem dX10_readNumber_104 : decode cX10_readNumber 104 = .ok (.i2l, 1) := by decide +kernel
theorem dX10_readNumber_105 : decode cX10_readNumber 105 = .ok (.iload_n 1, 1) := by decide +kernel
theorem dX10_readNumber_106 : decode cX10_readNumber 106 = .ok (.i2l, 1) := by decide +kernel
theorem dX10_readNumber_107 : decode cX10_readNumber 107 = .ok (.iload_n 2, 1) := by decide +kernel
theorem dX10_readNumber_108 : decode cX10_readNumber 108 = .ok (.i2l, 1) := by decide +kernel
theorem dX10_readNumber_109 : decode cX10_readNumber 109 = .ok (.invokestatic 78, 3) := by decide +kernel
theorem dX10_readNumber_112 : decode cX10_readNumber 112 = .ok (.ifCond .ne 10, 3) := by decide +kernel
theorem dX10_readNumber_115 : decode cX10_readNumber 115 = .ok (.aload_n 0, 1) := by decide +kernel
theorem dX10_readNumber_116 : decode cX10_readNumber 116 = .ok (.iload_n 3, 1) := by decide +kernel
theorem dX10_readNumber_117 : decode cX10_readNumber 117 = .ok (.putfield 149, 3) := by decide +kernel
theorem dX10_readNumber_120 : decode cX10_readNumber 120 = .ok (.iconst (-1), 1) := by decide +kernel
theorem dX10_readNumber_121 : decode cX10_readNumber 121 = .ok (.ireturn, 1) := by decide +kernel
theorem dX10_readNumber_122 : decode cX10_readNumber 122 = .ok (.iload 4, 2) := by decide +kernel
theorem dX10_readNumber_124 : decode cX10_readNumber 124 = .ok (.ireturn, 1) := by decide +kernel
set_option maxRecDepth 20000 in
theorem ggX10_readCoin_X10_readNumber : GoodIn wsX10_readCoin wsX10_readNumber := goodIn_r _ [6, 7, 8, 9, 10, 11, 12, 13, 14, 5, 15, 16, 17, 18, 23, 24, 25, 26, 27, 28, 29, 30, 31, 32, 33, 34, 35, 36, 37, 38, 39, 40, 41, 42, 43, 44, 45, 46, 47, 48, 49, 50, 51, 52, 53, 54, 55, 56, 57] (by decide +kernel) (by decide +kernel)
set_option maxRecDepth 20000 in
theorem gX10_readCoin_X10_readNumber : GoodIn wsX10_readCoin (wsV RX10 159 RX10 yX10_readNumber wsX10_readNumber) := goodIn_app (goodIn_of _ (by decide +kernel)) ggX10_readCoin_X10_readNumber
set_option maxRecDepth 20000 in
theorem ggX10_readCoin_X10_takes : GoodIn wsX10_readCoin wsX10_takes := goodIn_r _ [22, 7, 12, 13, 14, 5, 15, 8, 9, 23, 24, 25, 26, 27, 28, 29, 30, 31, 32, 33, 34, 35, 36, 37, 38, 39, 40, 41, 42, 43, 44, 45, 46, 47, 48, 49, 50, 51, 52, 53, 54, 55, 56, 57] (by decide +kernel) (by decide +kernel)
set_option maxRecDepth 20000 in
theorem gX10_readCoin_X10_takes : GoodIn wsX10_readCoin (wsV RX10 163 RX10 yX10_takes wsX10_takes) := goodIn_app (goodIn_of _ (by decide +kernel)) ggX10_readCoin_X10_takes
theorem dX10_readCoin_0 : decode cX10_readCoin 0 = .ok (.aload_n 0, 1) := by decide +kernel
theorem dX10_readCoin_1 : decode cX10_readCoin 1 = .ok (.getfield 40, 3) := by decide +kernel
theorem dX10_readCoin_4 : decode cX10_readCoin 4 = .ok (.iload_n 1, 1) := by decide +kernel
theorem dX10_readCoin_5 : decode cX10_readCoin 5 = .ok (.aload_n 0, 1) := by decide +kernel
theorem dX10_readCoin_6 : decode cX10_readCoin 6 = .ok (.iconst 1, 1) := by decide +kernel
theorem dX10_readCoin_7 : decode cX10_readCoin 7 = .ok (.bipush 99, 2) := by decide +kernel
theorem dX10_readCoin_9 : decode cX10_readCoin 9 = .ok (.invokevirtual 159, 3) := by decide +kernel
theorem dX10_readCoin_12 : decode cX10_readCoin 12 = .ok (.iastore, 1) := by decide +kernel
theorem dX10_readCoin_13 : decode cX10_readCoin 13 = .ok (.aload_n 0, 1) := by decide +kernel
theorem dX10_readCoin_14 : decode cX10_readCoin 14 = .ok (.getfield 40, 3) := by decide +kernel
theorem dX10_readCoin_17 : decode cX10_readCoin 17 = .ok (.iload_n 1, 1) := by decide +kernel
theorem dX10_readCoin_18 : decode cX10_readCoin 18 = .ok (.iaload, 1) := by decide +kernel
theorem dX10_readCoin_19 : decode cX10_readCoin 19 = .ok (.ifCond .lt 12, 3) := by decide +kernel
theorem dX10_readCoin_22 : decode cX10_readCoin 22 = .ok (.aload_n 0, 1) := by decide +kernel
theorem dX10_readCoin_23 : decode cX10_readCoin 23 = .ok (.bipush 121, 2) := by decide +kernel
theorem dX10_readCoin_25 : decode cX10_readCoin 25 = .ok (.invokevirtual 163, 3) := by decide +kernel
theorem dX10_readCoin_28 : decode cX10_readCoin 28 = .ok (.ifCond .ne 5, 3) := by decide +kernel
theorem dX10_readCoin_31 : decode cX10_readCoin 31 = .ok (.iconst 0, 1) := by decide +kernel
theorem dX10_readCoin_32 : decode cX10_readCoin 32 = .ok (.ireturn, 1) := by decide +kernel
theorem dX10_readCoin_33 : decode cX10_readCoin 33 = .ok (.aload_n 0, 1) := by decide +kernel
theorem dX10_readCoin_34 : decode cX10_readCoin 34 = .ok (.getfield 40, 3) := by decide +kernel
theorem dX10_readCoin_37 : decode cX10_readCoin 37 = .ok (.iload_n 1, 1) := by decide +kernel
theorem dX10_readCoin_38 : decode cX10_readCoin 38 = .ok (.iconst 1, 1) := by decide +kernel
theorem dX10_readCoin_39 : decode cX10_readCoin 39 = .ok (.iadd, 1) := by decide +kernel
theorem dX10_readCoin_40 : decode cX10_readCoin 40 = .ok (.aload_n 0, 1) := by decide +kernel
theorem dX10_readCoin_41 : decode cX10_readCoin 41 = .ok (.iconst 0, 1) := by decide +kernel
theorem dX10_readCoin_42 : decode cX10_readCoin 42 = .ok (.bipush 99, 2) := by decide +kernel
theorem dX10_readCoin_44 : decode cX10_readCoin 44 = .ok (.invokevirtual 159, 3) := by decide +kernel
theorem dX10_readCoin_47 : decode cX10_readCoin 47 = .ok (.iastore, 1) := by decide +kernel
theorem dX10_readCoin_48 : decode cX10_readCoin 48 = .ok (.aload_n 0, 1) := by decide +kernel
theorem dX10_readCoin_49 : decode cX10_readCoin 49 = .ok (.getfield 40, 3) := by decide +kernel
theorem dX10_readCoin_52 : decode cX10_readCoin 52 = .ok (.iload_n 1, 1) := by decide +kernel
theorem dX10_readCoin_53 : decode cX10_readCoin 53 = .ok (.iconst 2, 1) := by decide +kernel
theorem dX10_readCoin_54 : decode cX10_readCoin 54 = .ok (.iadd, 1) := by decide +kernel
theorem dX10_readCoin_55 : decode cX10_readCoin 55 = .ok (.aload_n 0, 1) := by decide +kernel
theorem dX10_readCoin_56 : decode cX10_readCoin 56 = .ok (.getfield 40, 3) := by decide +kernel
theorem dX10_readCoin_59 : decode cX10_readCoin 59 = .ok (.iload_n 1, 1) := by decide +kernel
theorem dX10_readCoin_60 : decode cX10_readCoin 60 = .ok (.iconst 1, 1) := by decide +kernel
theorem dX10_readCoin_61 : decode cX10_readCoin 61 = .ok (.iadd, 1) := by decide +kernel
theorem dX10_readCoin_62 : decode cX10_readCoin 62 = .ok (.iaload, 1) := by decide +kernel
theorem dX10_readCoin_63 : decode cX10_readCoin 63 = .ok (.iastore, 1) := by decide +kernel
theorem dX10_readCoin_64 : decode cX10_readCoin 64 = .ok (.aload_n 0, 1) := by decide +kernel
theorem dX10_readCoin_65 : decode cX10_readCoin 65 = .ok (.getfield 40, 3) := by decide +kernel
theorem dX10_readCoin_68 : decode cX10_readCoin 68 = .ok (.iload_n 1, 1) := by decide +kernel
theorem dX10_readCoin_69 : decode cX10_readCoin 69 = .ok (.iconst 3, 1) := by decide +kernel
theorem dX10_readCoin_70 : decode cX10_readCoin 70 = .ok (.iadd, 1) := by decide +kernel
theorem dX10_readCoin_71 : decode cX10_readCoin 71 = .ok (.iconst 0, 1) := by decide +kernel
theorem dX10_readCoin_72 : decode cX10_readCoin 72 = .ok (.iastore, 1) := by decide +kernel
theorem dX10_readCoin_73 : decode cX10_readCoin 73 = .ok (.aload_n 0, 1) := by decide +kernel
theorem dX10_readCoin_74 : decode cX10_readCoin 74 = .ok (.getfield 40, 3) := by decide +kernel
theorem dX10_readCoin_77 : decode cX10_readCoin 77 = .ok (.iload_n 1, 1) := by decide +kernel
theorem dX10_readCoin_78 : decode cX10_readCoin 78 = .ok (.iconst 1, 1) := by decide +kernel
theorem dX10_readCoin_79 : decode cX10_readCoin 79 = .ok (.iadd, 1) := by decide +kernel
theorem dX10_readCoin_80 : decode cX10_readCoin 80 = .ok (.iaload, 1) := by decide +kernel
theorem dX10_readCoin_81 : decode cX10_readCoin 81 = .ok (.ifCond .ge 5, 3) := by decide +kernel
theorem dX10_readCoin_84 : decode cX10_readCoin 84 = .ok (.iconst 0, 1) := by decide +kernel
theorem dX10_readCoin_85 : decode cX10_readCoin 85 = .ok (.ireturn, 1) := by decide +kernel
theorem dX10_readCoin_86 : decode cX10_readCoin 86 = .ok (.aload_n 0, 1) := by decide +kernel
theorem dX10_readCoin_87 : decode cX10_readCoin 87 = .ok (.bipush 102, 2) := by decide +kernel
theorem dX10_readCoin_89 : decode cX10_readCoin 89 = .ok (.invokevirtual 163, 3) := by decide +kernel
theorem dX10_readCoin_92 : decode cX10_readCoin 92 = .ok (.ifCond .eq 30, 3) := by decide +kernel
theorem dX10_readCoin_95 : decode cX10_readCoin 95 = .ok (.aload_n 0, 1) := by decide +kernel
theorem dX10_readCoin_96 : decode cX10_readCoin 96 = .ok (.getfield 40, 3) := by decide +kernel
theorem dX10_readCoin_99 : decode cX10_readCoin 99 = .ok (.iload_n 1, 1) := by decide +kernel
theorem dX10_readCoin_100 : decode cX10_readCoin 100 = .ok (.iconst 2, 1) := by decide +kernel
theorem dX10_readCoin_101 : decode cX10_readCoin 101 = .ok (.iadd, 1) := by decide +kernel
theorem dX10_readCoin_102 : decode cX10_readCoin 102 = .ok (.aload_n 0, 1) := by decide +kernel
theorem dX10_readCoin_103 : decode cX10_readCoin 103 = .ok (.iconst 0, 1) := by decide +kernel
theorem dX10_readCoin_104 : decode cX10_readCoin 104 = .ok (.bipush 99, 2) := by decide +kernel
theorem dX10_readCoin_106 : decode cX10_readCoin 106 = .ok (.invokevirtual 159, 3) := by decide +kernel
theorem dX10_readCoin_109 : decode cX10_readCoin 109 = .ok (.iastore, 1) := by decide +kernel
theorem dX10_readCoin_110 : decode cX10_readCoin 110 = .ok (.aload_n 0, 1) := by decide +kernel
theorem dX10_readCoin_111 : decode cX10_readCoin 111 = .ok (.getfield 40, 3) := by decide +kernel
theorem dX10_readCoin_114 : decode cX10_readCoin 114 = .ok (.iload_n 1, 1) := by decide +kernel
theorem dX10_readCoin_115 : decode cX10_readCoin 115 = .ok (.iconst 3, 1) := by decide +kernel
theorem dX10_readCoin_116 : decode cX10_readCoin 116 = .ok (.iadd, 1) := by decide +kernel
theorem dX10_readCoin_117 : decode cX10_readCoin 117 = .ok (.iconst 1, 1) := by decide +kernel
theorem dX10_readCoin_118 : decode cX10_readCoin 118 = .ok (.iastore, 1) := by decide +kernel
theorem dX10_readCoin_119 : decode cX10_readCoin 119 = .ok (.goto 42, 3) := by decide +kernel
theorem dX10_readCoin_122 : decode cX10_readCoin 122 = .ok (.aload_n 0, 1) := by decide +kernel
theorem dX10_readCoin_123 : decode cX10_readCoin 123 = .ok (.bipush 119, 2) := by decide +kernel
theorem dX10_readCoin_125 : decode cX10_readCoin 125 = .ok (.invokevirtual 163, 3) := by decide +kernel
theorem dX10_readCoin_128 : decode cX10_readCoin 128 = .ok (.ifCond .eq 15, 3) := by decide +kernel
theorem dX10_readCoin_131 : decode cX10_readCoin 131 = .ok (.aload_n 0, 1) := by decide +kernel
theorem dX10_readCoin_132 : decode cX10_readCoin 132 = .ok (.getfield 40, 3) := by decide +kernel
theorem dX10_readCoin_135 : decode cX10_readCoin 135 = .ok (.iload_n 1, 1) := by decide +kernel
theorem dX10_readCoin_136 : decode cX10_readCoin 136 = .ok (.iconst 3, 1) := by decide +kernel
theorem dX10_readCoin_137 : decode cX10_readCoin 137 = .ok (.iadd, 1) := by decide +kernel
theorem dX10_readCoin_138 : decode cX10_readCoin 138 = .ok (.iconst 2, 1) := by decide +kernel
theorem dX10_readCoin_139 : decode cX10_readCoin 139 = .ok (.iastore, 1) := by decide +kernel
theorem dX10_readCoin_140 : decode cX10_readCoin 140 = .ok (.goto 21, 3) := by decide +kernel
theorem dX10_readCoin_143 : decode cX10_readCoin 143 = .ok (.aload_n 0, 1) := by decide +kernel
theorem dX10_readCoin_144 : decode cX10_readCoin 144 = .ok (.bipush 98, 2) := by decide +kernel
theorem dX10_readCoin_146 : decode cX10_readCoin 146 = .ok (.invokevirtual 163, 3) := by decide +kernel
theorem dX10_readCoin_149 : decode cX10_readCoin 149 = .ok (.ifCond .eq 12, 3) := by decide +kernel
theorem dX10_readCoin_152 : decode cX10_readCoin 152 = .ok (.aload_n 0, 1) := by decide +kernel
theorem dX10_readCoin_153 : decode cX10_readCoin 153 = .ok (.getfield 40, 3) := by decide +kernel
theorem dX10_readCoin_156 : decode cX10_readCoin 156 = .ok (.iload_n 1, 1) := by decide +kernel
theorem dX10_readCoin_157 : decode cX10_readCoin 157 = .ok (.iconst 3, 1) := by decide +kernel
theorem dX10_readCoin_158 : decode cX10_readCoin 158 = .ok (.iadd, 1) := by decide +kernel
theorem dX10_readCoin_159 : decode cX10_readCoin 159 = .ok (.iconst 3, 1) := by decide +kernel
theorem dX10_readCoin_160 : decode cX10_readCoin 160 = .ok (.iastore, 1) := by decide +kernel
theorem dX10_readCoin_161 : decode cX10_readCoin 161 = .ok (.aload_n 0, 1) := by decide +kernel
theorem dX10_readCoin_162 : decode cX10_readCoin 162 = .ok (.getfield 40, 3) := by decide +kernel
theorem dX10_readCoin_165 : decode cX10_readCoin 165 = .ok (.iload_n 1, 1) := by decide +kernel
theorem dX10_readCoin_166 : decode cX10_readCoin 166 = .ok (.iconst 2, 1) := by decide +kernel
theorem dX10_readCoin_167 : decode cX10_readCoin 167 = .ok (.iadd, 1) := by decide +kernel
theorem dX10_readCoin_168 : decode cX10_readCoin 168 = .ok (.iaload, 1) := by decide +kernel
theorem dX10_readCoin_169 : decode cX10_readCoin 169 = .ok (.ifCond .lt 7, 3) := by decide +kernel
theorem dX10_readCoin_172 : decode cX10_readCoin 172 = .ok (.iconst 1, 1) := by decide +kernel
theorem dX10_readCoin_173 : decode cX10_readCoin 173 = .ok (.goto 4, 3) := by decide +kernel
theorem dX10_readCoin_176 : decode cX10_readCoin 176 = .ok (.iconst 0, 1) := by decide +kernel
theorem dX10_readCoin_177 : decode cX10_readCoin 177 = .ok (.ireturn, 1) := by decide +kernel
set_option maxRecDepth 20000 in
theorem ggX10_readBill_X10_nextByte : GoodIn wsX10_readBill wsX10_nextByte := goodIn_r _ [7, 1, 8, 9, 32, 33, 34, 35, 36, 37, 38, 39, 40, 41, 42, 43, 44, 45, 46, 47, 48, 49, 50, 51, 52, 53, 54, 55, 56, 57, 58, 59, 60, 61, 62, 63, 64, 65, 66] (by decide +kernel) (by decide +kernel)
set_option maxRecDepth 20000 in
theorem gX10_readBill_X10_nextByte : GoodIn wsX10_readBill (wsV RX10 152 RX10 yX10_nextByte wsX10_nextByte) := goodIn_app (goodIn_of _ (by decide +kernel)) ggX10_readBill_X10_nextByte
set_option maxRecDepth 20000 in
theorem ggX10_readBill_X10_isPurse : GoodIn wsX10_readBill wsX10_isPurse := goodIn_r _ [12, 13, 14, 15, 6, 16] (by decide +kernel) (by decide +kernel)
set_option maxRecDepth 20000 in
theorem gX10_readBill_X10_isPurse : GoodIn wsX10_readBill (va_wsS RX10 166 yX10_isPurse wsX10_isPurse) := goodIn_app (goodIn_of _ (by decide +kernel)) ggX10_readBill_X10_isPurse
set_option maxRecDepth 20000 in
theorem ggX10_readBill_X10_takes : GoodIn wsX10_readBill wsX10_takes := goodIn_r _ [20, 1, 3, 4, 5, 6, 7, 8, 9, 32, 33, 34, 35, 36, 37, 38, 39, 40, 41, 42, 43, 44, 45, 46, 47, 48, 49, 50, 51, 52, 53, 54, 55, 56, 57, 58, 59, 60, 61, 62, 63, 64, 65, 66] (by decide +kernel) (by decide +kernel)
set_option maxRecDepth 20000 in
theorem gX10_readBill_X10_takes : GoodIn wsX10_readBill (wsV RX10 163 RX10 yX10_takes wsX10_takes) := goodIn_app (goodIn_of _ (by decide +kernel)) ggX10_readBill_X10_takes
set_option maxRecDepth 20000 in
theorem ggX10_readBill_X10_isShop : GoodIn wsX10_readBill wsX10_isShop := goodIn_r _ [23, 24, 25, 14, 15, 6, 16] (by decide +kernel) (by decide +kernel)
set_option maxRecDepth 20000 in
theorem gX10_readBill_X10_isShop : GoodIn wsX10_readBill (va_wsS RX10 169 yX10_isShop wsX10_isShop) := goodIn_app (goodIn_of _ (by decide +kernel)) ggX10_readBill_X10_isShop
set_option maxRecDepth 20000 in
theorem ggX10_readBill_X10_readNumber : GoodIn wsX10_readBill wsX10_readNumber := goodIn_r _ [29, 1, 8, 9, 30, 31, 3, 4, 5, 6, 7, 14, 15, 16, 32, 33, 34, 35, 36, 37, 38, 39, 40, 41, 42, 43, 44, 45, 46, 47, 48, 49, 50, 51, 52, 53, 54, 55, 56, 57, 58, 59, 60, 61, 62, 63, 64, 65, 66] (by decide +kernel) (by decide +kernel)
set_option maxRecDepth 20000 in
theorem gX10_readBill_X10_readNumber : GoodIn wsX10_readBill (wsV RX10 159 RX10 yX10_readNumber wsX10_readNumber) := goodIn_app (goodIn_of _ (by decide +kernel)) ggX10_readBill_X10_readNumber
theorem dX10_readBill_0 : decode cX10_readBill 0 = .ok (.aload_n 0, 1) := by decide +kernel
theorem dX10_readBill_1 : decode cX10_readBill 1 = .ok (.invokevirtual 152, 3) := by decide +kernel
theorem dX10_readBill_4 : decode cX10_readBill 4 = .ok (.bipush 48, 2) := by decide +kernel
theorem dX10_readBill_6 : decode cX10_readBill 6 = .ok (.isub, 1) := by decide +kernel
theorem dX10_readBill_7 : decode cX10_readBill 7 = .ok (.istore_n 2, 1) := by decide +kernel
theorem dX10_readBill_8 : decode cX10_readBill 8 = .ok (.iload_n 2, 1) := by decide +kernel
theorem dX10_readBill_9 : decode cX10_readBill 9 = .ok (.invokestatic 166, 3) := by decide +kernel
theorem dX10_readBill_12 : decode cX10_readBill 12 = .ok (.ifCond .ne 5, 3) := by decide +kernel
theorem dX10_readBill_15 : decode cX10_readBill 15 = .ok (.iconst 0, 1) := by decide +kernel
theorem dX10_readBill_16 : decode cX10_readBill 16 = .ok (.ireturn, 1) := by decide +kernel
theorem dX10_readBill_17 : decode cX10_readBill 17 = .ok (.aload_n 0, 1) := by decide +kernel
theorem dX10_readBill_18 : decode cX10_readBill 18 = .ok (.dup, 1) := by decide +kernel
theorem dX10_readBill_19 : decode cX10_readBill 19 = .ok (.getfield 149, 3) := by decide +kernel
theorem dX10_readBill_22 : decode cX10_readBill 22 = .ok (.iconst 1, 1) := by decide +kernel
theorem dX10_readBill_23 : decode cX10_readBill 23 = .ok (.iadd, 1) := by decide +kernel
theorem dX10_readBill_24 : decode cX10_readBill 24 = .ok (.putfield 149, 3) := by decide +kernel
theorem dX10_readBill_27 : decode cX10_readBill 27 = .ok (.aload_n 0, 1) := by decide +kernel
theorem dX10_readBill_28 : decode cX10_readBill 28 = .ok (.bipush 62, 2) := by decide +kernel
theorem dX10_readBill_30 : decode cX10_readBill 30 = .ok (.invokevirtual 163, 3) := by decide +kernel
theorem dX10_readBill_33 : decode cX10_readBill 33 = .ok (.ifCond .ne 5, 3) := by decide +kernel
theorem dX10_readBill_36 : decode cX10_readBill 36 = .ok (.iconst 0, 1) := by decide +kernel
theorem dX10_readBill_37 : decode cX10_readBill 37 = .ok (.ireturn, 1) := by decide +kernel
theorem dX10_readBill_38 : decode cX10_readBill 38 = .ok (.aload_n 0, 1) := by decide +kernel
theorem dX10_readBill_39 : decode cX10_readBill 39 = .ok (.invokevirtual 152, 3) := by decide +kernel
theorem dX10_readBill_42 : decode cX10_readBill 42 = .ok (.bipush 48, 2) := by decide +kernel
theorem dX10_readBill_44 : decode cX10_readBill 44 = .ok (.isub, 1) := by decide +kernel
theorem dX10_readBill_45 : decode cX10_readBill 45 = .ok (.istore_n 3, 1) := by decide +kernel
theorem dX10_readBill_46 : decode cX10_readBill 46 = .ok (.iload_n 3, 1) := by decide +kernel
theorem dX10_readBill_47 : decode cX10_readBill 47 = .ok (.invokestatic 169, 3) := by decide +kernel
theorem dX10_readBill_50 : decode cX10_readBill 50 = .ok (.ifCond .ne 5, 3) := by decide +kernel
theorem dX10_readBill_53 : decode cX10_readBill 53 = .ok (.iconst 0, 1) := by decide +kernel
theorem dX10_readBill_54 : decode cX10_readBill 54 = .ok (.ireturn, 1) := by decide +kernel
theorem dX10_readBill_55 : decode cX10_readBill 55 = .ok (.aload_n 0, 1) := by decide +kernel
theorem dX10_readBill_56 : decode cX10_readBill 56 = .ok (.dup, 1) := by decide +kernel
theorem dX10_readBill_57 : decode cX10_readBill 57 = .ok (.getfield 149, 3) := by decide +kernel
theorem dX10_readBill_60 : decode cX10_readBill 60 = .ok (.iconst 1, 1) := by decide +kernel
theorem dX10_readBill_61 : decode cX10_readBill 61 = .ok (.iadd, 1) := by decide +kernel
theorem dX10_readBill_62 : decode cX10_readBill 62 = .ok (.putfield 149, 3) := by decide +kernel
theorem dX10_readBill_65 : decode cX10_readBill 65 = .ok (.aload_n 0, 1) := by decide +kernel
theorem dX10_readBill_66 : decode cX10_readBill 66 = .ok (.bipush 58, 2) := by decide +kernel
theorem dX10_readBill_68 : decode cX10_readBill 68 = .ok (.invokevirtual 163, 3) := by decide +kernel
theorem dX10_readBill_71 : decode cX10_readBill 71 = .ok (.ifCond .ne 5, 3) := by decide +kernel
theorem dX10_readBill_74 : decode cX10_readBill 74 = .ok (.iconst 0, 1) := by decide +kernel
theorem dX10_readBill_75 : decode cX10_readBill 75 = .ok (.ireturn, 1) := by decide +kernel
theorem dX10_readBill_76 : decode cX10_readBill 76 = .ok (.aload_n 0, 1) := by decide +kernel
theorem dX10_readBill_77 : decode cX10_readBill 77 = .ok (.getfield 40, 3) := by decide +kernel
theorem dX10_readBill_80 : decode cX10_readBill 80 = .ok (.iload_n 1, 1) := by decide +kernel
theorem dX10_readBill_81 : decode cX10_readBill 81 = .ok (.iload_n 2, 1) := by decide +kernel
theorem dX10_readBill_82 : decode cX10_readBill 82 = .ok (.iastore, 1) := by decide +kernel
theorem dX10_readBill_83 : decode cX10_readBill 83 = .ok (.aload_n 0, 1) := by decide +kernel
theorem dX10_readBill_84 : decode cX10_readBill 84 = .ok (.getfield 40, 3) := by decide +kernel
theorem dX10_readBill_87 : decode cX10_readBill 87 = .ok (.iload_n 1, 1) := by decide +kernel
theorem dX10_readBill_88 : decode cX10_readBill 88 = .ok (.iconst 1, 1) := by decide +kernel
theorem dX10_readBill_89 : decode cX10_readBill 89 = .ok (.iadd, 1) := by decide +kernel
theorem dX10_readBill_90 : decode cX10_readBill 90 = .ok (.iload_n 3, 1) := by decide +kernel
theorem dX10_readBill_91 : decode cX10_readBill 91 = .ok (.iastore, 1) := by decide +kernel
theorem dX10_readBill_92 : decode cX10_readBill 92 = .ok (.aload_n 0, 1) := by decide +kernel
theorem dX10_readBill_93 : decode cX10_readBill 93 = .ok (.getfield 40, 3) := by decide +kernel
theorem dX10_readBill_96 : decode cX10_readBill 96 = .ok (.iload_n 1, 1) := by decide +kernel
theorem dX10_readBill_97 : decode cX10_readBill 97 = .ok (.iconst 2, 1) := by decide +kernel
theorem dX10_readBill_98 : decode cX10_readBill 98 = .ok (.iadd, 1) := by decide +kernel
theorem dX10_readBill_99 : decode cX10_readBill 99 = .ok (.aload_n 0, 1) := by decide +kernel
theorem dX10_readBill_100 : decode cX10_readBill 100 = .ok (.iconst 1, 1) := by decide +kernel
theorem dX10_readBill_101 : decode cX10_readBill 101 = .ok (.sipush 999, 3) := by decide +kernel
theorem dX10_readBill_104 : decode cX10_readBill 104 = .ok (.invokevirtual 159, 3) := by decide +kernel
theorem dX10_readBill_107 : decode cX10_readBill 107 = .ok (.iastore, 1) := by decide +kernel
theorem dX10_readBill_108 : decode cX10_readBill 108 = .ok (.aload_n 0, 1) := by decide +kernel
theorem dX10_readBill_109 : decode cX10_readBill 109 = .ok (.getfield 40, 3) := by decide +kernel
theorem dX10_readBill_112 : decode cX10_readBill 112 = .ok (.iload_n 1, 1) := by decide +kernel
theorem dX10_readBill_113 : decode cX10_readBill 113 = .ok (.iconst 2, 1) := by decide +kernel
theorem dX10_readBill_114 : decode cX10_readBill 114 = .ok (.iadd, 1) := by decide +kernel
theorem dX10_readBill_115 : decode cX10_readBill 115 = .ok (.iaload, 1) := by decide +kernel
theorem dX10_readBill_116 : decode cX10_readBill 116 = .ok (.ifCond .lt 7, 3) := by decide +kernel
theorem dX10_readBill_119 : decode cX10_readBill 119 = .ok (.iconst 1, 1) := by decide +kernel
theorem dX10_readBill_120 : decode cX10_readBill 120 = .ok (.goto 4, 3) := by decide +kernel
theorem dX10_readBill_123 : decode cX10_readBill 123 = .ok (.iconst 0, 1) := by decide +kernel
theorem dX10_readBill_124 : decode cX10_readBill 124 = .ok (.ireturn, 1) := by decide +kernel
set_option maxRecDepth 20000 in
theorem ggX10_readAll_X10_readCoin : GoodIn wsX10_readAll wsX10_readCoin := goodIn_r _ [7, 8, 9, 10, 11, 6, 12, 1, 13, 14, 15, 16, 17, 18, 19, 20, 21, 22, 23, 24, 25, 26, 27, 41, 42, 43, 44, 45, 46, 47, 48, 49, 50, 51, 52, 53, 54, 55, 56, 57, 58, 59, 60, 61, 62, 63, 64, 65, 66, 67, 68, 69, 70, 71, 72, 73, 74, 75] (by decide +kernel) (by decide +kernel)
set_option maxRecDepth 20000 in
theorem gX10_readAll_X10_readCoin : GoodIn wsX10_readAll (wsV RX10 172 RX10 yX10_readCoin wsX10_readCoin) := goodIn_app (goodIn_of _ (by decide +kernel)) ggX10_readAll_X10_readCoin
set_option maxRecDepth 20000 in
theorem ggX10_readAll_X10_readBill : GoodIn wsX10_readAll wsX10_readBill := goodIn_r _ [31, 1, 8, 17, 18, 19, 6, 20, 13, 14, 32, 33, 34, 35, 21, 22, 23, 24, 25, 26, 27, 36, 37, 38, 39, 40, 9, 10, 11, 12, 15, 16, 41, 42, 43, 44, 45, 46, 47, 48, 49, 50, 51, 52, 53, 54, 55, 56, 57, 58, 59, 60, 61, 62, 63, 64, 65, 66, 67, 68, 69, 70, 71, 72, 73, 74, 75] (by decide +kernel) (by decide +kernel)
set_option maxRecDepth 20000 in
theorem gX10_readAll_X10_readBill : GoodIn wsX10_readAll (wsV RX10 175 RX10 yX10_readBill wsX10_readBill) := goodIn_app (goodIn_of _ (by decide +kernel)) ggX10_readAll_X10_readBill
set_option maxRecDepth 20000 in
theorem ggX10_readAll_X10_nextByte : GoodIn wsX10_readAll wsX10_nextByte := goodIn_r _ [20, 1, 13, 14, 41, 42, 43, 44, 45, 46, 47, 48, 49, 50, 51, 52, 53, 54, 55, 56, 57, 58, 59, 60, 61, 62, 63, 64, 65, 66, 67, 68, 69, 70, 71, 72, 73, 74, 75] (by decide +kernel) (by decide +kernel)
set_option maxRecDepth 20000 in
theorem gX10_readAll_X10_nextByte : GoodIn wsX10_readAll (wsV RX10 152 RX10 yX10_nextByte wsX10_nextByte) := goodIn_app (goodIn_of _ (by decide +kernel)) ggX10_readAll_X10_nextByte
theorem dX10_readAll_0 : decode cX10_readAll 0 = .ok (.aload_n 0, 1) := by decide +kernel
theorem dX10_readAll_1 : decode cX10_readAll 1 = .ok (.iconst 0, 1) := by decide +kernel
theorem dX10_readAll_2 : decode cX10_readAll 2 = .ok (.putfield 149, 3) := by decide +kernel
theorem dX10_readAll_5 : decode cX10_readAll 5 = .ok (.iload_n 1, 1) := by decide +kernel
theorem dX10_readAll_6 : decode cX10_readAll 6 = .ok (.ifCond .eq 8, 3) := by decide +kernel
theorem dX10_readAll_9 : decode cX10_readAll 9 = .ok (.bipush 10, 2) := by decide +kernel
theorem dX10_readAll_11 : decode cX10_readAll 11 = .ok (.goto 5, 3) := by decide +kernel
theorem dX10_readAll_14 : decode cX10_readAll 14 = .ok (.bipush 24, 2) := by decide +kernel
theorem dX10_readAll_16 : decode cX10_readAll 16 = .ok (.istore_n 2, 1) := by decide +kernel
theorem dX10_readAll_17 : decode cX10_readAll 17 = .ok (.iconst 0, 1) := by decide +kernel
theorem dX10_readAll_18 : decode cX10_readAll 18 = .ok (.istore_n 3, 1) := by decide +kernel
theorem dX10_readAll_19 : decode cX10_readAll 19 = .ok (.iload_n 3, 1) := by decide +kernel
theorem dX10_readAll_20 : decode cX10_readAll 20 = .ok (.iload_n 2, 1) := by decide +kernel
theorem dX10_readAll_21 : decode cX10_readAll 21 = .ok (.if_icmp .ge 84, 3) := by decide +kernel
theorem dX10_readAll_24 : decode cX10_readAll 24 = .ok (.iload_n 1, 1) := by decide +kernel
theorem dX10_readAll_25 : decode cX10_readAll 25 = .ok (.ifCond .eq 16, 3) := by decide +kernel
theorem dX10_readAll_28 : decode cX10_readAll 28 = .ok (.aload_n 0, 1) := by decide +kernel
theorem dX10_readAll_29 : decode cX10_readAll 29 = .ok (.iconst 4, 1) := by decide +kernel
theorem dX10_readAll_30 : decode cX10_readAll 30 = .ok (.iload_n 3, 1) := by decide +kernel
theorem dX10_readAll_31 : decode cX10_readAll 31 = .ok (.imul, 1) := by decide +kernel
theorem dX10_readAll_32 : decode cX10_readAll 32 = .ok (.invokevirtual 172, 3) := by decide +kernel
theorem dX10_readAll_35 : decode cX10_readAll 35 = .ok (.ifCond .eq 16, 3) := by decide +kernel
theorem dX10_readAll_38 : decode cX10_readAll 38 = .ok (.goto 15, 3) := by decide +kernel
theorem dX10_readAll_41 : decode cX10_readAll 41 = .ok (.aload_n 0, 1) := by decide +kernel
theorem dX10_readAll_42 : decode cX10_readAll 42 = .ok (.iconst 3, 1) := by decide +kernel
theorem dX10_readAll_43 : decode cX10_readAll 43 = .ok (.iload_n 3, 1) := by decide +kernel
theorem dX10_readAll_44 : decode cX10_readAll 44 = .ok (.imul, 1) := by decide +kernel
theorem dX10_readAll_45 : decode cX10_readAll 45 = .ok (.invokevirtual 175, 3) := by decide +kernel
theorem dX10_readAll_48 : decode cX10_readAll 48 = .ok (.ifCond .ne 5, 3) := by decide +kernel
theorem dX10_readAll_51 : decode cX10_readAll 51 = .ok (.iconst 0, 1) := by decide +kernel
theorem dX10_readAll_52 : decode cX10_readAll 52 = .ok (.ireturn, 1) := by decide +kernel
theorem dX10_readAll_53 : decode cX10_readAll 53 = .ok (.aload_n 0, 1) := by decide +kernel
theorem dX10_readAll_54 : decode cX10_readAll 54 = .ok (.iload_n 3, 1) := by decide +kernel
theorem dX10_readAll_55 : decode cX10_readAll 55 = .ok (.iconst 1, 1) := by decide +kernel
theorem dX10_readAll_56 : decode cX10_readAll 56 = .ok (.iadd, 1) := by decide +kernel
theorem dX10_readAll_57 : decode cX10_readAll 57 = .ok (.putfield 178, 3) := by decide +kernel
theorem dX10_readAll_60 : decode cX10_readAll 60 = .ok (.aload_n 0, 1) := by decide +kernel
theorem dX10_readAll_61 : decode cX10_readAll 61 = .ok (.invokevirtual 152, 3) := by decide +kernel
theorem dX10_readAll_64 : decode cX10_readAll 64 = .ok (.istore 4, 2) := by decide +kernel
theorem dX10_readAll_66 : decode cX10_readAll 66 = .ok (.iload 4, 2) := by decide +kernel
theorem dX10_readAll_68 : decode cX10_readAll 68 = .ok (.ifCond .ge 5, 3) := by decide +kernel
theorem dX10_readAll_71 : decode cX10_readAll 71 = .ok (.iconst 1, 1) := by decide +kernel
theorem dX10_readAll_72 : decode cX10_readAll 72 = .ok (.ireturn, 1) := by decide +kernel
theorem dX10_readAll_73 : decode cX10_readAll 73 = .ok (.iload 4, 2) := by decide +kernel
theorem dX10_readAll_75 : decode cX10_readAll 75 = .ok (.bipush 44, 2) := by decide +kernel
theorem dX10_readAll_77 : decode cX10_readAll 77 = .ok (.if_icmp .ne 10, 3) := by decide +kernel
theorem dX10_readAll_80 : decode cX10_readAll 80 = .ok (.iload_n 3, 1) := by decide +kernel
theorem dX10_readAll_81 : decode cX10_readAll 81 = .ok (.iload_n 2, 1) := by decide +kernel
theorem dX10_readAll_82 : decode cX10_readAll 82 = .ok (.iconst 1, 1) := by decide +kernel
theorem dX10_readAll_83 : decode cX10_readAll 83 = .ok (.isub, 1) := by decide +kernel
theorem dX10_readAll_84 : decode cX10_readAll 84 = .ok (.if_icmp .ne 5, 3) := by decide +kernel
theorem dX10_readAll_87 : decode cX10_readAll 87 = .ok (.iconst 0, 1) := by decide +kernel
theorem dX10_readAll_88 : decode cX10_readAll 88 = .ok (.ireturn, 1) := by decide +kernel
theorem dX10_readAll_89 : decode cX10_readAll 89 = .ok (.aload_n 0, 1) := by decide +kernel
theorem dX10_readAll_90 : decode cX10_readAll 90 = .ok (.dup, 1) := by decide +kernel
theorem dX10_readAll_91 : decode cX10_readAll 91 = .ok (.getfield 149, 3) := by decide +kernel
theorem dX10_readAll_94 : decode cX10_readAll 94 = .ok (.iconst 1, 1) := by decide +kernel
theorem dX10_readAll_95 : decode cX10_readAll 95 = .ok (.iadd, 1) := by decide +kernel
theorem dX10_readAll_96 : decode cX10_readAll 96 = .ok (.putfield 149, 3) := by decide +kernel
theorem dX10_readAll_99 : decode cX10_readAll 99 = .ok (.iinc 3 1, 3) := by decide +kernel
theorem dX10_readAll_102 : decode cX10_readAll 102 = .ok (.goto (-83), 3) := by decide +kernel
theorem dX10_readAll_105 : decode cX10_readAll 105 = .ok (.iconst 0, 1) := by decide +kernel
theorem dX10_readAll_106 : decode cX10_readAll 106 = .ok (.ireturn, 1) := by decide +kernel
set_option maxRecDepth 20000 in
theorem ggX10_purse_X10_isHolder : GoodIn wsX10_purse wsX10_isHolder := goodIn_r _ [9, 10, 11, 12, 8, 13] (by decide +kernel) (by decide +kernel)
set_option maxRecDepth 20000 in
theorem gX10_purse_X10_isHolder : GoodIn wsX10_purse (va_wsS RX10 90 yX10_isHolder wsX10_isHolder) := goodIn_app (goodIn_of _ (by decide +kernel)) ggX10_purse_X10_isHolder
set_option maxRecDepth 20000 in
theorem ggX10_purse_X10_readAll : GoodIn wsX10_purse wsX10_readAll := goodIn_r _ [17, 2, 4, 18, 19, 20, 8, 21, 5, 22, 23, 24, 25, 1, 26, 27, 28, 29, 30, 31, 32, 11, 12, 13, 33, 34, 35, 36, 37, 38, 39, 40, 41, 42, 43, 44, 45, 46, 47, 48, 10, 58, 59, 60, 61, 62, 63, 64, 65, 66, 67, 68, 69, 70, 71, 72, 73, 74, 75, 76, 77, 78, 79, 80, 81, 82, 83, 84, 85, 86, 87, 88, 89, 90, 91, 92] (by decide +kernel) (by decide +kernel)
set_option maxRecDepth 20000 in
theorem gX10_purse_X10_readAll : GoodIn wsX10_purse (wsV RX10 181 RX10 yX10_readAll wsX10_readAll) := goodIn_app (goodIn_of _ (by decide +kernel)) ggX10_purse_X10_readAll
set_option maxRecDepth 20000 in
theorem ggX10_purse_X10_nextByte : GoodIn wsX10_purse wsX10_nextByte := goodIn_r _ [32, 2, 1, 26, 58, 59, 60, 61, 62, 63, 64, 65, 66, 67, 68, 69, 70, 71, 72, 73, 74, 75, 76, 77, 78, 79, 80, 81, 82, 83, 84, 85, 86, 87, 88, 89, 90, 91, 92] (by decide +kernel) (by decide +kernel)
set_option maxRecDepth 20000 in
theorem gX10_purse_X10_nextByte : GoodIn wsX10_purse (wsV RX10 152 RX10 yX10_nextByte wsX10_nextByte) := goodIn_app (goodIn_of _ (by decide +kernel)) ggX10_purse_X10_nextByte
set_option maxRecDepth 20000 in
theorem ggX10_purse_X10_add : GoodIn wsX10_purse wsX10_add := goodIn_r _ [52, 53, 3, 54, 55, 56, 57, 58, 59, 60, 61, 62, 63, 64, 65, 66, 67, 68, 69, 70, 71, 72, 73, 74, 75, 76, 77, 78, 79, 80, 81, 82, 83, 84, 85, 86, 87, 88, 89, 90, 91, 92] (by decide +kernel) (by decide +kernel)
set_option maxRecDepth 20000 in
theorem gX10_purse_X10_add : GoodIn wsX10_purse (wsV RX10 96 RX10 yX10_add wsX10_add) := goodIn_app (goodIn_of _ (by decide +kernel)) ggX10_purse_X10_add
theorem dX10_purse_0 : decode cX10_purse 0 = .ok (.iload_n 1, 1) := by decide +kernel
theorem dX10_purse_1 : decode cX10_purse 1 = .ok (.invokestatic 90, 3) := by decide +kernel
theorem dX10_purse_4 : decode cX10_purse 4 = .ok (.ifCond .ne 5, 3) := by decide +kernel
theorem dX10_purse_7 : decode cX10_purse 7 = .ok (.iconst (-1), 1) := by decide +kernel
theorem dX10_purse_8 : decode cX10_purse 8 = .ok (.ireturn, 1) := by decide +kernel
theorem dX10_purse_9 : decode cX10_purse 9 = .ok (.aload_n 0, 1) := by decide +kernel
theorem dX10_purse_10 : decode cX10_purse 10 = .ok (.iconst 1, 1) := by decide +kernel
theorem dX10_purse_11 : decode cX10_purse 11 = .ok (.invokevirtual 181, 3) := by decide +kernel
theorem dX10_purse_14 : decode cX10_purse 14 = .ok (.istore_n 2, 1) := by decide +kernel
theorem dX10_purse_15 : decode cX10_purse 15 = .ok (.iload_n 2, 1) := by decide +kernel
theorem dX10_purse_16 : decode cX10_purse 16 = .ok (.ifCond .ne 8, 3) := by decide +kernel
theorem dX10_purse_19 : decode cX10_purse 19 = .ok (.aload_n 0, 1) := by decide +kernel
theorem dX10_purse_20 : decode cX10_purse 20 = .ok (.invokevirtual 152, 3) := by decide +kernel
theorem dX10_purse_23 : decode cX10_purse 23 = .ok (.pop, 1) := by decide +kernel
theorem dX10_purse_24 : decode cX10_purse 24 = .ok (.aload_n 0, 1) := by decide +kernel
theorem dX10_purse_25 : decode cX10_purse 25 = .ok (.iconst 0, 1) := by decide +kernel
theorem dX10_purse_26 : decode cX10_purse 26 = .ok (.putfield 146, 3) := by decide +kernel
theorem dX10_purse_29 : decode cX10_purse 29 = .ok (.iload_n 2, 1) := by decide +kernel
theorem dX10_purse_30 : decode cX10_purse 30 = .ok (.ifCond .ne 11, 3) := by decide +kernel
theorem dX10_purse_33 : decode cX10_purse 33 = .ok (.bipush (-20), 2) := by decide +kernel
theorem dX10_purse_35 : decode cX10_purse 35 = .ok (.aload_n 0, 1) := by decide +kernel
theorem dX10_purse_36 : decode cX10_purse 36 = .ok (.getfield 149, 3) := by decide +kernel
theorem dX10_purse_39 : decode cX10_purse 39 = .ok (.isub, 1) := by decide +kernel
theorem dX10_purse_40 : decode cX10_purse 40 = .ok (.ireturn, 1) := by decide +kernel
theorem dX10_purse_41 : decode cX10_purse 41 = .ok (.aload_n 0, 1) := by decide +kernel
theorem dX10_purse_42 : decode cX10_purse 42 = .ok (.getfield 74, 3) := by decide +kernel
theorem dX10_purse_45 : decode cX10_purse 45 = .ok (.aload_n 0, 1) := by decide +kernel
theorem dX10_purse_46 : decode cX10_purse 46 = .ok (.getfield 178, 3) := by decide +kernel
theorem dX10_purse_49 : decode cX10_purse 49 = .ok (.iadd, 1) := by decide +kernel
theorem dX10_purse_50 : decode cX10_purse 50 = .ok (.bipush 40, 2) := by decide +kernel
theorem dX10_purse_52 : decode cX10_purse 52 = .ok (.if_icmp .le 6, 3) := by decide +kernel
theorem dX10_purse_55 : decode cX10_purse 55 = .ok (.bipush (-3), 2) := by decide +kernel
theorem dX10_purse_57 : decode cX10_purse 57 = .ok (.ireturn, 1) := by decide +kernel
theorem dX10_purse_58 : decode cX10_purse 58 = .ok (.iconst 0, 1) := by decide +kernel
theorem dX10_purse_59 : decode cX10_purse 59 = .ok (.istore_n 3, 1) := by decide +kernel
theorem dX10_purse_60 : decode cX10_purse 60 = .ok (.iload_n 3, 1) := by decide +kernel
theorem dX10_purse_61 : decode cX10_purse 61 = .ok (.aload_n 0, 1) := by decide +kernel
theorem dX10_purse_62 : decode cX10_purse 62 = .ok (.getfield 178, 3) := by decide +kernel
theorem dX10_purse_65 : decode cX10_purse 65 = .ok (.if_icmp .ge 52, 3) := by decide +kernel
theorem dX10_purse_68 : decode cX10_purse 68 = .ok (.aload_n 0, 1) := by decide +kernel
theorem dX10_purse_69 : decode cX10_purse 69 = .ok (.iload_n 1, 1) := by decide +kernel
theorem dX10_purse_70 : decode cX10_purse 70 = .ok (.aload_n 0, 1) := by decide +kernel
theorem dX10_purse_71 : decode cX10_purse 71 = .ok (.getfield 40, 3) := by decide +kernel
theorem dX10_purse_74 : decode cX10_purse 74 = .ok (.iconst 4, 1) := by decide +kernel
theorem dX10_purse_75 : decode cX10_purse 75 = .ok (.iload_n 3, 1) := by decide +kernel
theorem dX10_purse_76 : decode cX10_purse 76 = .ok (.imul, 1) := by decide +kernel
theorem dX10_purse_77 : decode cX10_purse 77 = .ok (.iaload, 1) := by decide +kernel
theorem dX10_purse_78 : decode cX10_purse 78 = .ok (.aload_n 0, 1) := by decide +kernel
theorem dX10_purse_79 : decode cX10_purse 79 = .ok (.getfield 40, 3) := by decide +kernel
theorem dX10_purse_82 : decode cX10_purse 82 = .ok (.iconst 4, 1) := by decide +kernel
theorem dX10_purse_83 : decode cX10_purse 83 = .ok (.iload_n 3, 1) := by decide +kernel
theorem dX10_purse_84 : decode cX10_purse 84 = .ok (.imul, 1) := by decide +kernel
theorem dX10_purse_85 : decode cX10_purse 85 = .ok (.iconst 1, 1) := by decide +kernel
theorem dX10_purse_86 : decode cX10_purse 86 = .ok (.iadd, 1) := by decide +kernel
theorem dX10_purse_87 : decode cX10_purse 87 = .ok (.iaload, 1) := by decide +kernel
theorem dX10_purse_88 : decode cX10_purse 88 = .ok (.aload_n 0, 1) := by decide +kernel
theorem dX10_purse_89 : decode cX10_purse 89 = .ok (.getfield 40, 3) := by decide +kernel
theorem dX10_purse_92 : decode cX10_purse 92 = .ok (.iconst 4, 1) := by decide +kernel
theorem dX10_purse_93 : decode cX10_purse 93 = .ok (.iload_n 3, 1) := by decide +kernel
theorem dX10_purse_94 : decode cX10_purse 94 = .ok (.imul, 1) := by decide +kernel
theorem dX10_purse_95 : decode cX10_purse 95 = .ok (.iconst 2, 1) := by decide +kernel
theorem dX10_purse_96 : decode cX10_purse 96 = .ok (.iadd, 1) := by decide +kernel
theorem dX10_purse_97 : decode cX10_purse 97 = .ok (.iaload, 1) := by decide +kernel
theorem dX10_purse_98 : decode cX10_purse 98 = .ok (.aload_n 0, 1) := by decide +kernel
theorem dX10_purse_99 : decode cX10_purse 99 = .ok (.getfield 40, 3) := by decide +kernel
theorem dX10_purse_102 : decode cX10_purse 102 = .ok (.iconst 4, 1) := by decide +kernel
theorem dX10_purse_103 : decode cX10_purse 103 = .ok (.iload_n 3, 1) := by decide +kernel
theorem dX10_purse_104 : decode cX10_purse 104 = .ok (.imul, 1) := by decide +kernel
theorem dX10_purse_105 : decode cX10_purse 105 = .ok (.iconst 3, 1) := by decide +kernel
theorem dX10_purse_106 : decode cX10_purse 106 = .ok (.iadd, 1) := by decide +kernel
theorem dX10_purse_107 : decode cX10_purse 107 = .ok (.iaload, 1) := by decide +kernel
theorem dX10_purse_108 : decode cX10_purse 108 = .ok (.invokevirtual 96, 3) := by decide +kernel
theorem dX10_purse_111 : decode cX10_purse 111 = .ok (.iinc 3 1, 3) := by decide +kernel
theorem dX10_purse_114 : decode cX10_purse 114 = .ok (.goto (-54), 3) := by decide +kernel
theorem dX10_purse_117 : decode cX10_purse 117 = .ok (.aload_n 0, 1) := by decide +kernel
theorem dX10_purse_118 : decode cX10_purse 118 = .ok (.getfield 178, 3) := by decide +kernel
theorem dX10_purse_121 : decode cX10_purse 121 = .ok (.ireturn, 1) := by decide +kernel
set_option maxRecDepth 20000 in
theorem ggX10_day_X10_readAll : GoodIn wsX10_day wsX10_readAll := goodIn_r _ [11, 2, 3, 12, 13, 14, 10, 15, 6, 16, 17, 18, 19, 1, 20, 21, 22, 23, 24, 25, 26, 27, 28, 29, 30, 31, 32, 33, 34, 35, 36, 37, 38, 39, 40, 41, 42, 43, 44, 45, 46, 47, 48, 49, 50, 51, 52, 53, 54, 55, 56, 57, 58, 59, 60, 61, 62, 63, 64, 65, 66, 67, 68, 69, 70, 71, 72, 73, 74, 75, 76, 77, 78, 79, 80, 81] (by decide +kernel) (by decide +kernel)
set_option maxRecDepth 20000 in
theorem gX10_day_X10_readAll : GoodIn wsX10_day (wsV RX10 181 RX10 yX10_readAll wsX10_readAll) := goodIn_app (goodIn_of _ (by decide +kernel)) ggX10_day_X10_readAll
set_option maxRecDepth 20000 in
theorem ggX10_day_X10_nextByte : GoodIn wsX10_day wsX10_nextByte := goodIn_r _ [26, 2, 1, 20, 47, 48, 49, 50, 51, 52, 53, 54, 55, 56, 57, 58, 59, 60, 61, 62, 63, 64, 65, 66, 67, 68, 69, 70, 71, 72, 73, 74, 75, 76, 77, 78, 79, 80, 81] (by decide +kernel) (by decide +kernel)
set_option maxRecDepth 20000 in
theorem gX10_day_X10_nextByte : GoodIn wsX10_day (wsV RX10 152 RX10 yX10_nextByte wsX10_nextByte) := goodIn_app (goodIn_of _ (by decide +kernel)) ggX10_day_X10_nextByte
theorem dX10_day_0 : decode cX10_day 0 = .ok (.aload_n 0, 1) := by decide +kernel
theorem dX10_day_1 : decode cX10_day 1 = .ok (.iconst 0, 1) := by decide +kernel
theorem dX10_day_2 : decode cX10_day 2 = .ok (.invokevirtual 181, 3) := by decide +kernel
theorem dX10_day_5 : decode cX10_day 5 = .ok (.istore_n 1, 1) := by decide +kernel
theorem dX10_day_6 : decode cX10_day 6 = .ok (.iload_n 1, 1) := by decide +kernel
theorem dX10_day_7 : decode cX10_day 7 = .ok (.ifCond .ne 8, 3) := by decide +kernel
theorem dX10_day_10 : decode cX10_day 10 = .ok (.aload_n 0, 1) := by decide +kernel
theorem dX10_day_11 : decode cX10_day 11 = .ok (.invokevirtual 152, 3) := by decide +kernel
theorem dX10_day_14 : decode cX10_day 14 = .ok (.pop, 1) := by decide +kernel
theorem dX10_day_15 : decode cX10_day 15 = .ok (.aload_n 0, 1) := by decide +kernel
theorem dX10_day_16 : decode cX10_day 16 = .ok (.iconst 0, 1) := by decide +kernel
theorem dX10_day_17 : decode cX10_day 17 = .ok (.putfield 146, 3) := by decide +kernel
theorem dX10_day_20 : decode cX10_day 20 = .ok (.iload_n 1, 1) := by decide +kernel
theorem dX10_day_21 : decode cX10_day 21 = .ok (.ifCond .ne 11, 3) := by decide +kernel
theorem dX10_day_24 : decode cX10_day 24 = .ok (.bipush (-20), 2) := by decide +kernel
theorem dX10_day_26 : decode cX10_day 26 = .ok (.aload_n 0, 1) := by decide +kernel
theorem dX10_day_27 : decode cX10_day 27 = .ok (.getfield 149, 3) := by decide +kernel
theorem dX10_day_30 : decode cX10_day 30 = .ok (.isub, 1) := by decide +kernel
theorem dX10_day_31 : decode cX10_day 31 = .ok (.ireturn, 1) := by decide +kernel
theorem dX10_day_32 : decode cX10_day 32 = .ok (.aload_n 0, 1) := by decide +kernel
theorem dX10_day_33 : decode cX10_day 33 = .ok (.aload_n 0, 1) := by decide +kernel
theorem dX10_day_34 : decode cX10_day 34 = .ok (.getfield 178, 3) := by decide +kernel
theorem dX10_day_37 : decode cX10_day 37 = .ok (.putfield 132, 3) := by decide +kernel
theorem dX10_day_40 : decode cX10_day 40 = .ok (.iconst 0, 1) := by decide +kernel
theorem dX10_day_41 : decode cX10_day 41 = .ok (.istore_n 2, 1) := by decide +kernel
theorem dX10_day_42 : decode cX10_day 42 = .ok (.iload_n 2, 1) := by decide +kernel
theorem dX10_day_43 : decode cX10_day 43 = .ok (.iconst 3, 1) := by decide +kernel
theorem dX10_day_44 : decode cX10_day 44 = .ok (.aload_n 0, 1) := by decide +kernel
theorem dX10_day_45 : decode cX10_day 45 = .ok (.getfield 178, 3) := by decide +kernel
theorem dX10_day_48 : decode cX10_day 48 = .ok (.imul, 1) := by decide +kernel
theorem dX10_day_49 : decode cX10_day 49 = .ok (.if_icmp .ge 21, 3) := by decide +kernel
theorem dX10_day_52 : decode cX10_day 52 = .ok (.aload_n 0, 1) := by decide +kernel
theorem dX10_day_53 : decode cX10_day 53 = .ok (.getfield 31, 3) := by decide +kernel
theorem dX10_day_56 : decode cX10_day 56 = .ok (.iload_n 2, 1) := by decide +kernel
theorem dX10_day_57 : decode cX10_day 57 = .ok (.aload_n 0, 1) := by decide +kernel
theorem dX10_day_58 : decode cX10_day 58 = .ok (.getfield 40, 3) := by decide +kernel
theorem dX10_day_61 : decode cX10_day 61 = .ok (.iload_n 2, 1) := by decide +kernel
theorem dX10_day_62 : decode cX10_day 62 = .ok (.iaload, 1) := by decide +kernel
theorem dX10_day_63 : decode cX10_day 63 = .ok (.iastore, 1) := by decide +kernel
theorem dX10_day_64 : decode cX10_day 64 = .ok (.iinc 2 1, 3) := by decide +kernel
theorem dX10_day_67 : decode cX10_day 67 = .ok (.goto (-25), 3) := by decide +kernel
theorem dX10_day_70 : decode cX10_day 70 = .ok (.aload_n 0, 1) := by decide +kernel
theorem dX10_day_71 : decode cX10_day 71 = .ok (.getfield 178, 3) := by decide +kernel
theorem dX10_day_74 : decode cX10_day 74 = .ok (.ireturn, 1) := by decide +kernel
theorem dX10_bit_0 : decode cX10_bit 0 = .ok (.lconst 1, 1) := by decide +kernel
theorem dX10_bit_1 : decode cX10_bit 1 = .ok (.iload_n 0, 1) := by decide +kernel
theorem dX10_bit_2 : decode cX10_bit 2 = .ok (.lshl, 1) := by decide +kernel
theorem dX10_bit_3 : decode cX10_bit 3 = .ok (.lreturn, 1) := by decide +kernel
theorem dX10_ones_0 : decode cX10_ones 0 = .ok (.iconst 0, 1) := by decide +kernel
theorem dX10_ones_1 : decode cX10_ones 1 = .ok (.istore_n 2, 1) := by decide +kernel
theorem dX10_ones_2 : decode cX10_ones 2 = .ok (.lload_n 0, 1) := by decide +kernel
theorem dX10_ones_3 : decode cX10_ones 3 = .ok (.lstore_n 3, 1) := by decide +kernel
theorem dX10_ones_4 : decode cX10_ones 4 = .ok (.lload_n 3, 1) := by decide +kernel
theorem dX10_ones_5 : decode cX10_ones 5 = .ok (.lconst 0, 1) := by decide +kernel
theorem dX10_ones_6 : decode cX10_ones 6 = .ok (.lcmp, 1) := by decide +kernel
theorem dX10_ones_7 : decode cX10_ones 7 = .ok (.ifCond .eq 15, 3) := by decide +kernel
theorem dX10_ones_10 : decode cX10_ones 10 = .ok (.iinc 2 1, 3) := by decide +kernel
theorem dX10_ones_13 : decode cX10_ones 13 = .ok (.lload_n 3, 1) := by decide +kernel
theorem dX10_ones_14 : decode cX10_ones 14 = .ok (.lload_n 3, 1) := by decide +kernel
theorem dX10_ones_15 : decode cX10_ones 15 = .ok (.lconst 1, 1) := by decide +kernel
theorem dX10_ones_16 : decode cX10_ones 16 = .ok (.lsub, 1) := by decide +kernel
theorem dX10_ones_17 : decode cX10_ones 17 = .ok (.land, 1) := by decide +kernel
theorem dX10_ones_18 : decode cX10_ones 18 = .ok (.lstore_n 3, 1) := by decide +kernel
theorem dX10_ones_19 : decode cX10_ones 19 = .ok (.goto (-15), 3) := by decide +kernel
theorem dX10_ones_22 : decode cX10_ones 22 = .ok (.iload_n 2, 1) := by decide +kernel
theorem dX10_ones_23 : decode cX10_ones 23 = .ok (.ireturn, 1) := by decide +kernel
set_option maxRecDepth 20000 in
theorem ggX10_findBill_X10_findRow : GoodIn wsX10_findBill wsX10_findRow := goodIn_r _ [14, 5, 15, 16, 6, 17, 18, 19, 13, 20, 7, 21, 22, 23, 24, 25, 26, 27, 28, 29, 30, 31, 39, 40, 41, 42, 43, 44, 45, 46, 47, 48, 49, 50, 51, 52, 53, 54, 55, 56, 57, 58, 59, 60, 61, 62, 63, 64, 65, 66, 67, 68, 69, 70, 71, 72, 73] (by decide +kernel) (by decide +kernel)
set_option maxRecDepth 20000 in
theorem gX10_findBill_X10_findRow : GoodIn wsX10_findBill (wsV RX10 125 RX10 yX10_findRow wsX10_findRow) := goodIn_app (goodIn_of _ (by decide +kernel)) ggX10_findBill_X10_findRow
set_option maxRecDepth 20000 in
theorem ggX10_findBill_X10_bit : GoodIn wsX10_findBill wsX10_bit := goodIn_r _ [34] (by decide +kernel) (by decide +kernel)
set_option maxRecDepth 20000 in
theorem gX10_findBill_X10_bit : GoodIn wsX10_findBill (va_wsS RX10 195 yX10_bit wsX10_bit) := goodIn_app (goodIn_of _ (by decide +kernel)) ggX10_findBill_X10_bit
set_option maxRecDepth 20000 in
theorem ggX10_findBill_X10_backLaw : GoodIn wsX10_findBill wsX10_backLaw := goodIn_r _ [38, 4, 39, 40, 41, 42, 43, 44, 45, 46, 47, 48, 49, 50, 51, 52, 53, 54, 55, 56, 57, 58, 59, 60, 61, 62, 63, 64, 65, 66, 67, 68, 69, 70, 71, 72, 73] (by decide +kernel) (by decide +kernel)
set_option maxRecDepth 20000 in
theorem gX10_findBill_X10_backLaw : GoodIn wsX10_findBill (wsV RX10 121 RX10 yX10_backLaw wsX10_backLaw) := goodIn_app (goodIn_of _ (by decide +kernel)) ggX10_findBill_X10_backLaw
theorem dX10_findBill_0 : decode cX10_findBill 0 = .ok (.aload_n 0, 1) := by decide +kernel
theorem dX10_findBill_1 : decode cX10_findBill 1 = .ok (.lconst 0, 1) := by decide +kernel
theorem dX10_findBill_2 : decode cX10_findBill 2 = .ok (.putfield 185, 3) := by decide +kernel
theorem dX10_findBill_5 : decode cX10_findBill 5 = .ok (.aload_n 0, 1) := by decide +kernel
theorem dX10_findBill_6 : decode cX10_findBill 6 = .ok (.lconst 0, 1) := by decide +kernel
theorem dX10_findBill_7 : decode cX10_findBill 7 = .ok (.putfield 189, 3) := by decide +kernel
theorem dX10_findBill_10 : decode cX10_findBill 10 = .ok (.aload_n 0, 1) := by decide +kernel
theorem dX10_findBill_11 : decode cX10_findBill 11 = .ok (.iconst 0, 1) := by decide +kernel
theorem dX10_findBill_12 : decode cX10_findBill 12 = .ok (.putfield 192, 3) := by decide +kernel
theorem dX10_findBill_15 : decode cX10_findBill 15 = .ok (.aload_n 0, 1) := by decide +kernel
theorem dX10_findBill_16 : decode cX10_findBill 16 = .ok (.iload_n 1, 1) := by decide +kernel
theorem dX10_findBill_17 : decode cX10_findBill 17 = .ok (.aload_n 0, 1) := by decide +kernel
theorem dX10_findBill_18 : decode cX10_findBill 18 = .ok (.getfield 111, 3) := by decide +kernel
theorem dX10_findBill_21 : decode cX10_findBill 21 = .ok (.invokevirtual 125, 3) := by decide +kernel
theorem dX10_findBill_24 : decode cX10_findBill 24 = .ok (.iconst 0, 1) := by decide +kernel
theorem dX10_findBill_25 : decode cX10_findBill 25 = .ok (.istore 4, 2) := by decide +kernel
theorem dX10_findBill_27 : decode cX10_findBill 27 = .ok (.iload 4, 2) := by decide +kernel
theorem dX10_findBill_29 : decode cX10_findBill 29 = .ok (.aload_n 0, 1) := by decide +kernel
theorem dX10_findBill_30 : decode cX10_findBill 30 = .ok (.getfield 114, 3) := by decide +kernel
theorem dX10_findBill_33 : decode cX10_findBill 33 = .ok (.if_icmp .ge 57, 3) := by decide +kernel
theorem dX10_findBill_36 : decode cX10_findBill 36 = .ok (.aload_n 0, 1) := by decide +kernel
theorem dX10_findBill_37 : decode cX10_findBill 37 = .ok (.getfield 192, 3) := by decide +kernel
theorem dX10_findBill_40 : decode cX10_findBill 40 = .ok (.iload_n 3, 1) := by decide +kernel
theorem dX10_findBill_41 : decode cX10_findBill 41 = .ok (.if_icmp .ge 49, 3) := by decide +kernel
theorem dX10_findBill_44 : decode cX10_findBill 44 = .ok (.aload_n 0, 1) := by decide +kernel
theorem dX10_findBill_45 : decode cX10_findBill 45 = .ok (.dup, 1) := by decide +kernel
theorem dX10_findBill_46 : decode cX10_findBill 46 = .ok (.getfield 185, 3) := by decide +kernel
theorem dX10_findBill_49 : decode cX10_findBill 49 = .ok (.aload_n 0, 1) := by decide +kernel
theorem dX10_findBill_50 : decode cX10_findBill 50 = .ok (.getfield 34, 3) := by decide +kernel
theorem dX10_findBill_53 : decode cX10_findBill 53 = .ok (.iload 4, 2) := by decide +kernel
theorem dX10_findBill_55 : decode cX10_findBill 55 = .ok (.iaload, 1) := by decide +kernel
theorem dX10_findBill_56 : decode cX10_findBill 56 = .ok (.invokestatic 195, 3) := by decide +kernel
theorem dX10_findBill_59 : decode cX10_findBill 59 = .ok (.lor, 1) := by decide +kernel
theorem dX10_findBill_60 : decode cX10_findBill 60 = .ok (.putfield 185, 3) := by decide +kernel
theorem dX10_findBill_63 : decode cX10_findBill 63 = .ok (.aload_n 0, 1) := by decide +kernel
theorem dX10_findBill_64 : decode cX10_findBill 64 = .ok (.dup, 1) := by decide +kernel
theorem dX10_findBill_65 : decode cX10_findBill 65 = .ok (.getfield 192, 3) := by decide +kernel
theorem dX10_findBill_68 : decode cX10_findBill 68 = .ok (.aload_n 0, 1) := by decide +kernel
theorem dX10_findBill_69 : decode cX10_findBill 69 = .ok (.getfield 7, 3) := by decide +kernel
theorem dX10_findBill_72 : decode cX10_findBill 72 = .ok (.aload_n 0, 1) := by decide +kernel
theorem dX10_findBill_73 : decode cX10_findBill 73 = .ok (.getfield 34, 3) := by decide +kernel
theorem dX10_findBill_76 : decode cX10_findBill 76 = .ok (.iload 4, 2) := by decide +kernel
theorem dX10_findBill_78 : decode cX10_findBill 78 = .ok (.iaload, 1) := by decide +kernel
theorem dX10_findBill_79 : decode cX10_findBill 79 = .ok (.iaload, 1) := by decide +kernel
theorem dX10_findBill_80 : decode cX10_findBill 80 = .ok (.iadd, 1) := by decide +kernel
theorem dX10_findBill_81 : decode cX10_findBill 81 = .ok (.putfield 192, 3) := by decide +kernel
theorem dX10_findBill_84 : decode cX10_findBill 84 = .ok (.iinc 4 1, 3) := by decide +kernel
theorem dX10_findBill_87 : decode cX10_findBill 87 = .ok (.goto (-60), 3) := by decide +kernel
theorem dX10_findBill_90 : decode cX10_findBill 90 = .ok (.aload_n 0, 1) := by decide +kernel
theorem dX10_findBill_91 : decode cX10_findBill 91 = .ok (.getfield 192, 3) := by decide +kernel
theorem dX10_findBill_94 : decode cX10_findBill 94 = .ok (.iload_n 3, 1) := by decide +kernel
theorem dX10_findBill_95 : decode cX10_findBill 95 = .ok (.if_icmp .ge 10, 3) := by decide +kernel
theorem dX10_findBill_98 : decode cX10_findBill 98 = .ok (.aload_n 0, 1) := by decide +kernel
theorem dX10_findBill_99 : decode cX10_findBill 99 = .ok (.lconst 0, 1) := by decide +kernel
theorem dX10_findBill_100 : decode cX10_findBill 100 = .ok (.putfield 185, 3) := by decide +kernel
theorem dX10_findBill_103 : decode cX10_findBill 103 = .ok (.iconst 0, 1) := by decide +kernel
theorem dX10_findBill_104 : decode cX10_findBill 104 = .ok (.ireturn, 1) := by decide +kernel
theorem dX10_findBill_105 : decode cX10_findBill 105 = .ok (.aload_n 0, 1) := by decide +kernel
theorem dX10_findBill_106 : decode cX10_findBill 106 = .ok (.aload_n 0, 1) := by decide +kernel
theorem dX10_findBill_107 : decode cX10_findBill 107 = .ok (.getfield 192, 3) := by decide +kernel
theorem dX10_findBill_110 : decode cX10_findBill 110 = .ok (.iload_n 3, 1) := by decide +kernel
theorem dX10_findBill_111 : decode cX10_findBill 111 = .ok (.isub, 1) := by decide +kernel
theorem dX10_findBill_112 : decode cX10_findBill 112 = .ok (.putfield 199, 3) := by decide +kernel
theorem dX10_findBill_115 : decode cX10_findBill 115 = .ok (.aload_n 0, 1) := by decide +kernel
theorem dX10_findBill_116 : decode cX10_findBill 116 = .ok (.aload_n 0, 1) := by decide +kernel
theorem dX10_findBill_117 : decode cX10_findBill 117 = .ok (.getfield 199, 3) := by decide +kernel
theorem dX10_findBill_120 : decode cX10_findBill 120 = .ok (.putfield 202, 3) := by decide +kernel
theorem dX10_findBill_123 : decode cX10_findBill 123 = .ok (.aload_n 0, 1) := by decide +kernel
theorem dX10_findBill_124 : decode cX10_findBill 124 = .ok (.iload_n 2, 1) := by decide +kernel
theorem dX10_findBill_125 : decode cX10_findBill 125 = .ok (.aload_n 0, 1) := by decide +kernel
theorem dX10_findBill_126 : decode cX10_findBill 126 = .ok (.invokevirtual 121, 3) := by decide +kernel
