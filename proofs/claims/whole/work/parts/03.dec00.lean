theorem dX0_init_0 : decode cX0_init 0 = .ok (.aload_n 0, 1) := by decide +kernel
theorem dX0_init_1 : decode cX0_init 1 = .ok (.invokespecial 1, 3) := by decide +kernel
theorem dX0_init_4 : decode cX0_init 4 = .ok (.aload_n 0, 1) := by decide +kernel
theorem dX0_init_5 : decode cX0_init 5 = .ok (.iload_n 1, 1) := by decide +kernel
theorem dX0_init_6 : decode cX0_init 6 = .ok (.newarray .int, 2) := by decide +kernel
theorem dX0_init_8 : decode cX0_init 8 = .ok (.putfield 7, 3) := by decide +kernel
theorem dX0_init_11 : decode cX0_init 11 = .ok (.aload_n 0, 1) := by decide +kernel
theorem dX0_init_12 : decode cX0_init 12 = .ok (.iload_n 1, 1) := by decide +kernel
theorem dX0_init_13 : decode cX0_init 13 = .ok (.newarray .int, 2) := by decide +kernel
theorem dX0_init_15 : decode cX0_init 15 = .ok (.putfield 13, 3) := by decide +kernel
theorem dX0_init_18 : decode cX0_init 18 = .ok (.aload_n 0, 1) := by decide +kernel
theorem dX0_init_19 : decode cX0_init 19 = .ok (.iload_n 1, 1) := by decide +kernel
theorem dX0_init_20 : decode cX0_init 20 = .ok (.newarray .int, 2) := by decide +kernel
theorem dX0_init_22 : decode cX0_init 22 = .ok (.putfield 16, 3) := by decide +kernel
theorem dX0_init_25 : decode cX0_init 25 = .ok (.return_, 1) := by decide +kernel
theorem dX0_add_0 : decode cX0_add 0 = .ok (.aload_n 0, 1) := by decide +kernel
theorem dX0_add_1 : decode cX0_add 1 = .ok (.getfield 19, 3) := by decide +kernel
theorem dX0_add_4 : decode cX0_add 4 = .ok (.aload_n 0, 1) := by decide +kernel
theorem dX0_add_5 : decode cX0_add 5 = .ok (.getfield 7, 3) := by decide +kernel
theorem dX0_add_8 : decode cX0_add 8 = .ok (.arraylength, 1) := by decide +kernel
theorem dX0_add_9 : decode cX0_add 9 = .ok (.if_icmp .lt 4, 3) := by decide +kernel
theorem dX0_add_12 : decode cX0_add 12 = .ok (.return_, 1) := by decide +kernel
theorem dX0_add_13 : decode cX0_add 13 = .ok (.aload_n 0, 1) := by decide +kernel
theorem dX0_add_14 : decode cX0_add 14 = .ok (.getfield 7, 3) := by decide +kernel
theorem dX0_add_17 : decode cX0_add 17 = .ok (.aload_n 0, 1) := by decide +kernel
theorem dX0_add_18 : decode cX0_add 18 = .ok (.getfield 19, 3) := by decide +kernel
theorem dX0_add_21 : decode cX0_add 21 = .ok (.iload_n 1, 1) := by decide +kernel
theorem dX0_add_22 : decode cX0_add 22 = .ok (.iastore, 1) := by decide +kernel
theorem dX0_add_23 : decode cX0_add 23 = .ok (.aload_n 0, 1) := by decide +kernel
theorem dX0_add_24 : decode cX0_add 24 = .ok (.getfield 13, 3) := by decide +kernel
theorem dX0_add_27 : decode cX0_add 27 = .ok (.aload_n 0, 1) := by decide +kernel
theorem dX0_add_28 : decode cX0_add 28 = .ok (.getfield 19, 3) := by decide +kernel
theorem dX0_add_31 : decode cX0_add 31 = .ok (.iload_n 2, 1) := by decide +kernel
theorem dX0_add_32 : decode cX0_add 32 = .ok (.iastore, 1) := by decide +kernel
theorem dX0_add_33 : decode cX0_add 33 = .ok (.aload_n 0, 1) := by decide +kernel
theorem dX0_add_34 : decode cX0_add 34 = .ok (.getfield 16, 3) := by decide +kernel
theorem dX0_add_37 : decode cX0_add 37 = .ok (.aload_n 0, 1) := by decide +kernel
theorem dX0_add_38 : decode cX0_add 38 = .ok (.getfield 19, 3) := by decide +kernel
theorem dX0_add_41 : decode cX0_add 41 = .ok (.iload_n 3, 1) := by decide +kernel
theorem dX0_add_42 : decode cX0_add 42 = .ok (.iastore, 1) := by decide +kernel
theorem dX0_add_43 : decode cX0_add 43 = .ok (.aload_n 0, 1) := by decide +kernel
theorem dX0_add_44 : decode cX0_add 44 = .ok (.dup, 1) := by decide +kernel
theorem dX0_add_45 : decode cX0_add 45 = .ok (.getfield 19, 3) := by decide +kernel
theorem dX0_add_48 : decode cX0_add 48 = .ok (.iconst 1, 1) := by decide +kernel
theorem dX0_add_49 : decode cX0_add 49 = .ok (.iadd, 1) := by decide +kernel
theorem dX0_add_50 : decode cX0_add 50 = .ok (.putfield 19, 3) := by decide +kernel
theorem dX0_add_53 : decode cX0_add 53 = .ok (.return_, 1) := by decide +kernel
set_option maxRecDepth 20000 in
theorem ggX0_copyFrom_X0_add : GoodIn wsX0_copyFrom wsX0_add := goodIn_r _ [9, 1, 2, 3, 4, 10, 11, 12, 13] (by decide +kernel) (by decide +kernel)
set_option maxRecDepth 20000 in
theorem gX0_copyFrom_X0_add : GoodIn wsX0_copyFrom (wsV RX0 23 RX0 yX0_add wsX0_add) := goodIn_app (goodIn_of _ (by decide +kernel)) ggX0_copyFrom_X0_add
theorem dX0_copyFrom_0 : decode cX0_copyFrom 0 = .ok (.aload_n 0, 1) := by decide +kernel
theorem dX0_copyFrom_1 : decode cX0_copyFrom 1 = .ok (.iconst 0, 1) := by decide +kernel
theorem dX0_copyFrom_2 : decode cX0_copyFrom 2 = .ok (.putfield 19, 3) := by decide +kernel
theorem dX0_copyFrom_5 : decode cX0_copyFrom 5 = .ok (.iconst 0, 1) := by decide +kernel
theorem dX0_copyFrom_6 : decode cX0_copyFrom 6 = .ok (.istore_n 2, 1) := by decide +kernel
theorem dX0_copyFrom_7 : decode cX0_copyFrom 7 = .ok (.iload_n 2, 1) := by decide +kernel
theorem dX0_copyFrom_8 : decode cX0_copyFrom 8 = .ok (.aload_n 1, 1) := by decide +kernel
theorem dX0_copyFrom_9 : decode cX0_copyFrom 9 = .ok (.getfield 19, 3) := by decide +kernel
theorem dX0_copyFrom_12 : decode cX0_copyFrom 12 = .ok (.if_icmp .ge 31, 3) := by decide +kernel
theorem dX0_copyFrom_15 : decode cX0_copyFrom 15 = .ok (.aload_n 0, 1) := by decide +kernel
theorem dX0_copyFrom_16 : decode cX0_copyFrom 16 = .ok (.aload_n 1, 1) := by decide +kernel
theorem dX0_copyFrom_17 : decode cX0_copyFrom 17 = .ok (.getfield 7, 3) := by decide +kernel
theorem dX0_copyFrom_20 : decode cX0_copyFrom 20 = .ok (.iload_n 2, 1) := by decide +kernel
theorem dX0_copyFrom_21 : decode cX0_copyFrom 21 = .ok (.iaload, 1) := by decide +kernel
theorem dX0_copyFrom_22 : decode cX0_copyFrom 22 = .ok (.aload_n 1, 1) := by decide +kernel
theorem dX0_copyFrom_23 : decode cX0_copyFrom 23 = .ok (.getfield 13, 3) := by decide +kernel
theorem dX0_copyFrom_26 : decode cX0_copyFrom 26 = .ok (.iload_n 2, 1) := by decide +kernel
theorem dX0_copyFrom_27 : decode cX0_copyFrom 27 = .ok (.iaload, 1) := by decide +kernel
theorem dX0_copyFrom_28 : decode cX0_copyFrom 28 = .ok (.aload_n 1, 1) := by decide +kernel
theorem dX0_copyFrom_29 : decode cX0_copyFrom 29 = .ok (.getfield 16, 3) := by decide +kernel
theorem dX0_copyFrom_32 : decode cX0_copyFrom 32 = .ok (.iload_n 2, 1) := by decide +kernel
theorem dX0_copyFrom_33 : decode cX0_copyFrom 33 = .ok (.iaload, 1) := by decide +kernel
theorem dX0_copyFrom_34 : decode cX0_copyFrom 34 = .ok (.invokevirtual 23, 3) := by decide +kernel
theorem dX0_copyFrom_37 : decode cX0_copyFrom 37 = .ok (.iinc 2 1, 3) := by decide +kernel
theorem dX0_copyFrom_40 : decode cX0_copyFrom 40 = .ok (.goto (-33), 3) := by decide +kernel
theorem dX0_copyFrom_43 : decode cX0_copyFrom 43 = .ok (.return_, 1) := by decide +kernel
theorem dX1_init_0 : decode cX1_init 0 = .ok (.aload_n 0, 1) := by decide +kernel
theorem dX1_init_1 : decode cX1_init 1 = .ok (.invokespecial 3, 3) := by decide +kernel
theorem dX1_init_4 : decode cX1_init 4 = .ok (.aload_n 0, 1) := by decide +kernel
theorem dX1_init_5 : decode cX1_init 5 = .ok (.bipush 8, 2) := by decide +kernel
theorem dX1_init_7 : decode cX1_init 7 = .ok (.newarray .long, 2) := by decide +kernel
theorem dX1_init_9 : decode cX1_init 9 = .ok (.putfield 9, 3) := by decide +kernel
theorem dX1_init_12 : decode cX1_init 12 = .ok (.return_, 1) := by decide +kernel
theorem dX1_layOut_0 : decode cX1_layOut 0 = .ok (.iconst 0, 1) := by decide +kernel
theorem dX1_layOut_1 : decode cX1_layOut 1 = .ok (.istore_n 3, 1) := by decide +kernel
theorem dX1_layOut_2 : decode cX1_layOut 2 = .ok (.iload_n 3, 1) := by decide +kernel
theorem dX1_layOut_3 : decode cX1_layOut 3 = .ok (.bipush 8, 2) := by decide +kernel
theorem dX1_layOut_5 : decode cX1_layOut 5 = .ok (.if_icmp .ge 16, 3) := by decide +kernel
theorem dX1_layOut_8 : decode cX1_layOut 8 = .ok (.aload_n 0, 1) := by decide +kernel
theorem dX1_layOut_9 : decode cX1_layOut 9 = .ok (.getfield 9, 3) := by decide +kernel
theorem dX1_layOut_12 : decode cX1_layOut 12 = .ok (.iload_n 3, 1) := by decide +kernel
theorem dX1_layOut_13 : decode cX1_layOut 13 = .ok (.lconst 0, 1) := by decide +kernel
theorem dX1_layOut_14 : decode cX1_layOut 14 = .ok (.lastore, 1) := by decide +kernel
theorem dX1_layOut_15 : decode cX1_layOut 15 = .ok (.iinc 3 1, 3) := by decide +kernel
theorem dX1_layOut_18 : decode cX1_layOut 18 = .ok (.goto (-16), 3) := by decide +kernel
theorem dX1_layOut_21 : decode cX1_layOut 21 = .ok (.iconst 0, 1) := by decide +kernel
theorem dX1_layOut_22 : decode cX1_layOut 22 = .ok (.istore_n 3, 1) := by decide +kernel
theorem dX1_layOut_23 : decode cX1_layOut 23 = .ok (.iload_n 3, 1) := by decide +kernel
theorem dX1_layOut_24 : decode cX1_layOut 24 = .ok (.aload_n 1, 1) := by decide +kernel
theorem dX1_layOut_25 : decode cX1_layOut 25 = .ok (.getfield 15, 3) := by decide +kernel
theorem dX1_layOut_28 : decode cX1_layOut 28 = .ok (.if_icmp .ge 31, 3) := by decide +kernel
theorem dX1_layOut_31 : decode cX1_layOut 31 = .ok (.aload_n 0, 1) := by decide +kernel
theorem dX1_layOut_32 : decode cX1_layOut 32 = .ok (.getfield 9, 3) := by decide +kernel
theorem dX1_layOut_35 : decode cX1_layOut 35 = .ok (.aload_n 1, 1) := by decide +kernel
theorem dX1_layOut_36 : decode cX1_layOut 36 = .ok (.getfield 21, 3) := by decide +kernel
theorem dX1_layOut_39 : decode cX1_layOut 39 = .ok (.iload_n 3, 1) := by decide +kernel
theorem dX1_layOut_40 : decode cX1_layOut 40 = .ok (.iaload, 1) := by decide +kernel
theorem dX1_layOut_41 : decode cX1_layOut 41 = .ok (.dup2, 1) := by decide +kernel
theorem dX1_layOut_42 : decode cX1_layOut 42 = .ok (.laload, 1) := by decide +kernel
theorem dX1_layOut_43 : decode cX1_layOut 43 = .ok (.lconst 1, 1) := by decide +kernel
theorem dX1_layOut_44 : decode cX1_layOut 44 = .ok (.aload_n 2, 1) := by decide +kernel
theorem dX1_layOut_45 : decode cX1_layOut 45 = .ok (.getfield 25, 3) := by decide +kernel
theorem dX1_layOut_48 : decode cX1_layOut 48 = .ok (.iload_n 3, 1) := by decide +kernel
theorem dX1_layOut_49 : decode cX1_layOut 49 = .ok (.iaload, 1) := by decide +kernel
theorem dX1_layOut_50 : decode cX1_layOut 50 = .ok (.lshl, 1) := by decide +kernel
theorem dX1_layOut_51 : decode cX1_layOut 51 = .ok (.lor, 1) := by decide +kernel
theorem dX1_layOut_52 : decode cX1_layOut 52 = .ok (.lastore, 1) := by decide +kernel
theorem dX1_layOut_53 : decode cX1_layOut 53 = .ok (.iinc 3 1, 3) := by decide +kernel
theorem dX1_layOut_56 : decode cX1_layOut 56 = .ok (.goto (-33), 3) := by decide +kernel
theorem dX1_layOut_59 : decode cX1_layOut 59 = .ok (.return_, 1) := by decide +kernel
theorem dX1_copyFrom_0 : decode cX1_copyFrom 0 = .ok (.iconst 0, 1) := by decide +kernel
theorem dX1_copyFrom_1 : decode cX1_copyFrom 1 = .ok (.istore_n 2, 1) := by decide +kernel
theorem dX1_copyFrom_2 : decode cX1_copyFrom 2 = .ok (.iload_n 2, 1) := by decide +kernel
theorem dX1_copyFrom_3 : decode cX1_copyFrom 3 = .ok (.bipush 8, 2) := by decide +kernel
theorem dX1_copyFrom_5 : decode cX1_copyFrom 5 = .ok (.if_icmp .ge 21, 3) := by decide +kernel
theorem dX1_copyFrom_8 : decode cX1_copyFrom 8 = .ok (.aload_n 0, 1) := by decide +kernel
theorem dX1_copyFrom_9 : decode cX1_copyFrom 9 = .ok (.getfield 9, 3) := by decide +kernel
theorem dX1_copyFrom_12 : decode cX1_copyFrom 12 = .ok (.iload_n 2, 1) := by decide +kernel
theorem dX1_copyFrom_13 : decode cX1_copyFrom 13 = .ok (.aload_n 1, 1) := by decide +kernel
theorem dX1_copyFrom_14 : decode cX1_copyFrom 14 = .ok (.getfield 9, 3) := by decide +kernel
theorem dX1_copyFrom_17 : decode cX1_copyFrom 17 = .ok (.iload_n 2, 1) := by decide +kernel
theorem dX1_copyFrom_18 : decode cX1_copyFrom 18 = .ok (.laload, 1) := by decide +kernel
theorem dX1_copyFrom_19 : decode cX1_copyFrom 19 = .ok (.lastore, 1) := by decide +kernel
theorem dX1_copyFrom_20 : decode cX1_copyFrom 20 = .ok (.iinc 2 1, 3) := by decide +kernel
theorem dX1_copyFrom_23 : decode cX1_copyFrom 23 = .ok (.goto (-21), 3) := by decide +kernel
theorem dX1_copyFrom_26 : decode cX1_copyFrom 26 = .ok (.return_, 1) := by decide +kernel
theorem dX1_move_0 : decode cX1_move 0 = .ok (.aload_n 0, 1) := by decide +kernel
theorem dX1_move_1 : decode cX1_move 1 = .ok (.getfield 9, 3) := by decide +kernel
theorem dX1_move_4 : decode cX1_move 4 = .ok (.iload_n 2, 1) := by decide +kernel
theorem dX1_move_5 : decode cX1_move 5 = .ok (.dup2, 1) := by decide +kernel
theorem dX1_move_6 : decode cX1_move 6 = .ok (.laload, 1) := by decide +kernel
theorem dX1_move_7 : decode cX1_move 7 = .ok (.lconst 1, 1) := by decide +kernel
theorem dX1_move_8 : decode cX1_move 8 = .ok (.iload_n 1, 1) := by decide +kernel
theorem dX1_move_9 : decode cX1_move 9 = .ok (.lshl, 1) := by decide +kernel
theorem dX1_move_10 : decode cX1_move 10 = .ok (.ldc2_w 30, 3) := by decide +kernel
theorem dX1_move_13 : decode cX1_move 13 = .ok (.lxor, 1) := by decide +kernel
theorem dX1_move_14 : decode cX1_move 14 = .ok (.land, 1) := by decide +kernel
theorem dX1_move_15 : decode cX1_move 15 = .ok (.lastore, 1) := by decide +kernel
theorem dX1_move_16 : decode cX1_move 16 = .ok (.aload_n 0, 1) := by decide +kernel
theorem dX1_move_17 : decode cX1_move 17 = .ok (.getfield 9, 3) := by decide +kernel
theorem dX1_move_20 : decode cX1_move 20 = .ok (.iload_n 3, 1) := by decide +kernel
theorem dX1_move_21 : decode cX1_move 21 = .ok (.dup2, 1) := by decide +kernel
theorem dX1_move_22 : decode cX1_move 22 = .ok (.laload, 1) := by decide +kernel
theorem dX1_move_23 : decode cX1_move 23 = .ok (.lconst 1, 1) := by decide +kernel
theorem dX1_move_24 : decode cX1_move 24 = .ok (.iload_n 1, 1) := by decide +kernel
theorem dX1_move_25 : decode cX1_move 25 = .ok (.lshl, 1) := by decide +kernel
theorem dX1_move_26 : decode cX1_move 26 = .ok (.lor, 1) := by decide +kernel
theorem dX1_move_27 : decode cX1_move 27 = .ok (.lastore, 1) := by decide +kernel
theorem dX1_move_28 : decode cX1_move 28 = .ok (.return_, 1) := by decide +kernel
theorem dX1_holderAt_0 : decode cX1_holderAt 0 = .ok (.iconst 0, 1) := by decide +kernel
theorem dX1_holderAt_1 : decode cX1_holderAt 1 = .ok (.istore_n 2, 1) := by decide +kernel
theorem dX1_holderAt_2 : decode cX1_holderAt 2 = .ok (.iload_n 2, 1) := by decide +kernel
theorem dX1_holderAt_3 : decode cX1_holderAt 3 = .ok (.bipush 7, 2) := by decide +kernel
theorem dX1_holderAt_5 : decode cX1_holderAt 5 = .ok (.if_icmp .ge 24, 3) := by decide +kernel
theorem dX1_holderAt_8 : decode cX1_holderAt 8 = .ok (.aload_n 0, 1) := by decide +kernel
theorem dX1_holderAt_9 : decode cX1_holderAt 9 = .ok (.getfield 9, 3) := by decide +kernel
theorem dX1_holderAt_12 : decode cX1_holderAt 12 = .ok (.iload_n 2, 1) := by decide +kernel
theorem dX1_holderAt_13 : decode cX1_holderAt 13 = .ok (.laload, 1) := by decide +kernel
theorem dX1_holderAt_14 : decode cX1_holderAt 14 = .ok (.iload_n 1, 1) := by decide +kernel
theorem dX1_holderAt_15 : decode cX1_holderAt 15 = .ok (.lshr, 1) := by decide +kernel
theorem dX1_holderAt_16 : decode cX1_holderAt 16 = .ok (.lconst 1, 1) := by decide +kernel
theorem dX1_holderAt_17 : decode cX1_holderAt 17 = .ok (.land, 1) := by decide +kernel
theorem dX1_holderAt_18 : decode cX1_holderAt 18 = .ok (.lconst 0, 1) := by decide +kernel
theorem dX1_holderAt_19 : decode cX1_holderAt 19 = .ok (.lcmp, 1) := by decide +kernel
theorem dX1_holderAt_20 : decode cX1_holderAt 20 = .ok (.ifCond .ne 9, 3) := by decide +kernel
theorem dX1_holderAt_23 : decode cX1_holderAt 23 = .ok (.iinc 2 1, 3) := by decide +kernel
theorem dX1_holderAt_26 : decode cX1_holderAt 26 = .ok (.goto (-24), 3) := by decide +kernel
theorem dX1_holderAt_29 : decode cX1_holderAt 29 = .ok (.iload_n 2, 1) := by decide +kernel
theorem dX1_holderAt_30 : decode cX1_holderAt 30 = .ok (.ireturn, 1) := by decide +kernel
set_option maxRecDepth 20000 in
theorem ggX1_meets_X1_takeOut : GoodIn wsX1_meets wsX1_takeOut := goodIn_r _ [10, 11, 4, 3, 12, 13, 14, 15, 16, 17, 18, 19, 20, 21, 22, 23, 24, 25, 47, 48, 49, 50, 51, 52, 42, 43, 44, 45, 46] (by decide +kernel) (by decide +kernel)
set_option maxRecDepth 20000 in
theorem gX1_meets_X1_takeOut : GoodIn wsX1_meets (wsV RX1 32 RX1 yX1_takeOut wsX1_takeOut) := goodIn_app (goodIn_of _ (by decide +kernel)) ggX1_meets_X1_takeOut
set_option maxRecDepth 20000 in
theorem ggX1_meets_X1_giveBack : GoodIn wsX1_meets wsX1_giveBack := goodIn_r _ [29, 5, 2, 30, 11, 31, 32, 33, 15, 34, 35, 36, 37, 19, 38, 39, 40, 23, 41, 25, 17, 18, 20, 21, 22, 24, 42, 43, 44, 45, 46, 47, 48, 49, 50, 51, 52] (by decide +kernel) (by decide +kernel)
set_option maxRecDepth 20000 in
theorem gX1_meets_X1_giveBack : GoodIn wsX1_meets (wsV RX1 39 RX1 yX1_giveBack wsX1_giveBack) := goodIn_app (goodIn_of _ (by decide +kernel)) ggX1_meets_X1_giveBack
theorem dX1_meets_0 : decode cX1_meets 0 = .ok (.aload_n 0, 1) := by decide +kernel
theorem dX1_meets_1 : decode cX1_meets 1 = .ok (.aload_n 1, 1) := by decide +kernel
theorem dX1_meets_2 : decode cX1_meets 2 = .ok (.aload_n 0, 1) := by decide +kernel
theorem dX1_meets_3 : decode cX1_meets 3 = .ok (.getfield 9, 3) := by decide +kernel
theorem dX1_meets_6 : decode cX1_meets 6 = .ok (.iload_n 2, 1) := by decide +kernel
theorem dX1_meets_7 : decode cX1_meets 7 = .ok (.laload, 1) := by decide +kernel
theorem dX1_meets_8 : decode cX1_meets 8 = .ok (.iload 4, 2) := by decide +kernel
theorem dX1_meets_10 : decode cX1_meets 10 = .ok (.invokevirtual 32, 3) := by decide +kernel
theorem dX1_meets_13 : decode cX1_meets 13 = .ok (.istore 5, 2) := by decide +kernel
theorem dX1_meets_15 : decode cX1_meets 15 = .ok (.iload 5, 2) := by decide +kernel
theorem dX1_meets_17 : decode cX1_meets 17 = .ok (.iload 4, 2) := by decide +kernel
theorem dX1_meets_19 : decode cX1_meets 19 = .ok (.if_icmp .ge 5, 3) := by decide +kernel
theorem dX1_meets_22 : decode cX1_meets 22 = .ok (.iconst 0, 1) := by decide +kernel
theorem dX1_meets_23 : decode cX1_meets 23 = .ok (.ireturn, 1) := by decide +kernel
theorem dX1_meets_24 : decode cX1_meets 24 = .ok (.aload_n 0, 1) := by decide +kernel
theorem dX1_meets_25 : decode cX1_meets 25 = .ok (.iload 5, 2) := by decide +kernel
theorem dX1_meets_27 : decode cX1_meets 27 = .ok (.iload 4, 2) := by decide +kernel
theorem dX1_meets_29 : decode cX1_meets 29 = .ok (.isub, 1) := by decide +kernel
theorem dX1_meets_30 : decode cX1_meets 30 = .ok (.putfield 36, 3) := by decide +kernel
theorem dX1_meets_33 : decode cX1_meets 33 = .ok (.aload_n 0, 1) := by decide +kernel
theorem dX1_meets_34 : decode cX1_meets 34 = .ok (.aload_n 1, 1) := by decide +kernel
theorem dX1_meets_35 : decode cX1_meets 35 = .ok (.aload_n 0, 1) := by decide +kernel
theorem dX1_meets_36 : decode cX1_meets 36 = .ok (.getfield 9, 3) := by decide +kernel
theorem dX1_meets_39 : decode cX1_meets 39 = .ok (.iload_n 3, 1) := by decide +kernel
theorem dX1_meets_40 : decode cX1_meets 40 = .ok (.laload, 1) := by decide +kernel
theorem dX1_meets_41 : decode cX1_meets 41 = .ok (.invokevirtual 39, 3) := by decide +kernel
theorem dX1_meets_44 : decode cX1_meets 44 = .ok (.aload_n 0, 1) := by decide +kernel
theorem dX1_meets_45 : decode cX1_meets 45 = .ok (.getfield 9, 3) := by decide +kernel
theorem dX1_meets_48 : decode cX1_meets 48 = .ok (.iload_n 2, 1) := by decide +kernel
theorem dX1_meets_49 : decode cX1_meets 49 = .ok (.aload_n 0, 1) := by decide +kernel
theorem dX1_meets_50 : decode cX1_meets 50 = .ok (.getfield 9, 3) := by decide +kernel
theorem dX1_meets_53 : decode cX1_meets 53 = .ok (.iload_n 2, 1) := by decide +kernel
theorem dX1_meets_54 : decode cX1_meets 54 = .ok (.laload, 1) := by decide +kernel
theorem dX1_meets_55 : decode cX1_meets 55 = .ok (.aload_n 0, 1) := by decide +kernel
theorem dX1_meets_56 : decode cX1_meets 56 = .ok (.getfield 43, 3) := by decide +kernel
theorem dX1_meets_59 : decode cX1_meets 59 = .ok (.ldc2_w 30, 3) := by decide +kernel
theorem dX1_meets_62 : decode cX1_meets 62 = .ok (.lxor, 1) := by decide +kernel
theorem dX1_meets_63 : decode cX1_meets 63 = .ok (.land, 1) := by decide +kernel
theorem dX1_meets_64 : decode cX1_meets 64 = .ok (.aload_n 0, 1) := by decide +kernel
theorem dX1_meets_65 : decode cX1_meets 65 = .ok (.getfield 47, 3) := by decide +kernel
theorem dX1_meets_68 : decode cX1_meets 68 = .ok (.lor, 1) := by decide +kernel
theorem dX1_meets_69 : decode cX1_meets 69 = .ok (.lastore, 1) := by decide +kernel
theorem dX1_meets_70 : decode cX1_meets 70 = .ok (.aload_n 0, 1) := by decide +kernel
theorem dX1_meets_71 : decode cX1_meets 71 = .ok (.getfield 9, 3) := by decide +kernel
theorem dX1_meets_74 : decode cX1_meets 74 = .ok (.iload_n 3, 1) := by decide +kernel
theorem dX1_meets_75 : decode cX1_meets 75 = .ok (.aload_n 0, 1) := by decide +kernel
theorem dX1_meets_76 : decode cX1_meets 76 = .ok (.getfield 9, 3) := by decide +kernel
theorem dX1_meets_79 : decode cX1_meets 79 = .ok (.iload_n 3, 1) := by decide +kernel
theorem dX1_meets_80 : decode cX1_meets 80 = .ok (.laload, 1) := by decide +kernel
theorem dX1_meets_81 : decode cX1_meets 81 = .ok (.aload_n 0, 1) := by decide +kernel
theorem dX1_meets_82 : decode cX1_meets 82 = .ok (.getfield 47, 3) := by decide +kernel
theorem dX1_meets_85 : decode cX1_meets 85 = .ok (.ldc2_w 30, 3) := by decide +kernel
theorem dX1_meets_88 : decode cX1_meets 88 = .ok (.lxor, 1) := by decide +kernel
theorem dX1_meets_89 : decode cX1_meets 89 = .ok (.land, 1) := by decide +kernel
theorem dX1_meets_90 : decode cX1_meets 90 = .ok (.aload_n 0, 1) := by decide +kernel
theorem dX1_meets_91 : decode cX1_meets 91 = .ok (.getfield 43, 3) := by decide +kernel
theorem dX1_meets_94 : decode cX1_meets 94 = .ok (.lor, 1) := by decide +kernel
theorem dX1_meets_95 : decode cX1_meets 95 = .ok (.lastore, 1) := by decide +kernel
theorem dX1_meets_96 : decode cX1_meets 96 = .ok (.iconst 1, 1) := by decide +kernel
theorem dX1_meets_97 : decode cX1_meets 97 = .ok (.ireturn, 1) := by decide +kernel
set_option maxRecDepth 20000 in
theorem ggX1_meetsEvenly_X1_meets : GoodIn wsX1_meetsEvenly wsX1_meets := goodIn_r _ [6, 7, 1, 8, 9, 10, 11, 12, 13, 5, 14, 15, 16, 17, 18, 19, 20, 21, 22, 23, 24, 25, 26, 27, 28, 29, 30, 31, 32, 33, 34, 35, 36, 37, 38, 39, 40, 41, 42, 43, 44, 45, 46, 47, 48, 49, 50, 51, 52, 53, 54, 55, 56] (by decide +kernel) (by decide +kernel)
set_option maxRecDepth 20000 in
theorem gX1_meetsEvenly_X1_meets : GoodIn wsX1_meetsEvenly (wsV RX1 50 RX1 yX1_meets wsX1_meets) := goodIn_app (goodIn_of _ (by decide +kernel)) ggX1_meetsEvenly_X1_meets
theorem dX1_meetsEvenly_0 : decode cX1_meetsEvenly 0 = .ok (.aload_n 0, 1) := by decide +kernel
theorem dX1_meetsEvenly_1 : decode cX1_meetsEvenly 1 = .ok (.aload_n 1, 1) := by decide +kernel
theorem dX1_meetsEvenly_2 : decode cX1_meetsEvenly 2 = .ok (.iload_n 2, 1) := by decide +kernel
theorem dX1_meetsEvenly_3 : decode cX1_meetsEvenly 3 = .ok (.iload_n 3, 1) := by decide +kernel
theorem dX1_meetsEvenly_4 : decode cX1_meetsEvenly 4 = .ok (.iload 4, 2) := by decide +kernel
theorem dX1_meetsEvenly_6 : decode cX1_meetsEvenly 6 = .ok (.invokevirtual 50, 3) := by decide +kernel
theorem dX1_meetsEvenly_9 : decode cX1_meetsEvenly 9 = .ok (.ifCond .eq 14, 3) := by decide +kernel
theorem dX1_meetsEvenly_12 : decode cX1_meetsEvenly 12 = .ok (.aload_n 0, 1) := by decide +kernel
theorem dX1_meetsEvenly_13 : decode cX1_meetsEvenly 13 = .ok (.getfield 36, 3) := by decide +kernel
theorem dX1_meetsEvenly_16 : decode cX1_meetsEvenly 16 = .ok (.ifCond .ne 7, 3) := by decide +kernel
theorem dX1_meetsEvenly_19 : decode cX1_meetsEvenly 19 = .ok (.iconst 1, 1) := by decide +kernel
theorem dX1_meetsEvenly_20 : decode cX1_meetsEvenly 20 = .ok (.goto 4, 3) := by decide +kernel
theorem dX1_meetsEvenly_23 : decode cX1_meetsEvenly 23 = .ok (.iconst 0, 1) := by decide +kernel
theorem dX1_meetsEvenly_24 : decode cX1_meetsEvenly 24 = .ok (.ireturn, 1) := by decide +kernel
set_option maxRecDepth 20000 in
theorem ggX1_takeOut_X4_nextPaid : GoodIn wsX1_takeOut wsX4_nextPaid := goodIn_r _ [8, 9, 10, 11, 12, 13, 14, 15, 16, 17] (by decide +kernel) (by decide +kernel)
set_option maxRecDepth 20000 in
theorem gX1_takeOut_X4_nextPaid : GoodIn wsX1_takeOut (wsV RX1 54 RX4 yX4_nextPaid wsX4_nextPaid) := goodIn_app (goodIn_of _ (by decide +kernel)) ggX1_takeOut_X4_nextPaid
theorem dX1_takeOut_0 : decode cX1_takeOut 0 = .ok (.lload_n 2, 1) := by decide +kernel
theorem dX1_takeOut_1 : decode cX1_takeOut 1 = .ok (.lstore 5, 2) := by decide +kernel
theorem dX1_takeOut_3 : decode cX1_takeOut 3 = .ok (.iconst 0, 1) := by decide +kernel
theorem dX1_takeOut_4 : decode cX1_takeOut 4 = .ok (.istore 7, 2) := by decide +kernel
theorem dX1_takeOut_6 : decode cX1_takeOut 6 = .ok (.iconst 0, 1) := by decide +kernel
theorem dX1_takeOut_7 : decode cX1_takeOut 7 = .ok (.istore 8, 2) := by decide +kernel
theorem dX1_takeOut_9 : decode cX1_takeOut 9 = .ok (.iload 8, 2) := by decide +kernel
theorem dX1_takeOut_11 : decode cX1_takeOut 11 = .ok (.bipush 40, 2) := by decide +kernel
theorem dX1_takeOut_13 : decode cX1_takeOut 13 = .ok (.if_icmp .ge 52, 3) := by decide +kernel
theorem dX1_takeOut_16 : decode cX1_takeOut 16 = .ok (.lload 5, 2) := by decide +kernel
theorem dX1_takeOut_18 : decode cX1_takeOut 18 = .ok (.lconst 0, 1) := by decide +kernel
theorem dX1_takeOut_19 : decode cX1_takeOut 19 = .ok (.lcmp, 1) := by decide +kernel
theorem dX1_takeOut_20 : decode cX1_takeOut 20 = .ok (.ifCond .eq 45, 3) := by decide +kernel
theorem dX1_takeOut_23 : decode cX1_takeOut 23 = .ok (.iload 7, 2) := by decide +kernel
theorem dX1_takeOut_25 : decode cX1_takeOut 25 = .ok (.iload 4, 2) := by decide +kernel
theorem dX1_takeOut_27 : decode cX1_takeOut 27 = .ok (.if_icmp .ge 38, 3) := by decide +kernel
theorem dX1_takeOut_30 : decode cX1_takeOut 30 = .ok (.aload_n 1, 1) := by decide +kernel
theorem dX1_takeOut_31 : decode cX1_takeOut 31 = .ok (.lload 5, 2) := by decide +kernel
theorem dX1_takeOut_33 : decode cX1_takeOut 33 = .ok (.invokevirtual 54, 3) := by decide +kernel
theorem dX1_takeOut_36 : decode cX1_takeOut 36 = .ok (.istore 9, 2) := by decide +kernel
theorem dX1_takeOut_38 : decode cX1_takeOut 38 = .ok (.lload 5, 2) := by decide +kernel
theorem dX1_takeOut_40 : decode cX1_takeOut 40 = .ok (.lconst 1, 1) := by decide +kernel
theorem dX1_takeOut_41 : decode cX1_takeOut 41 = .ok (.iload 9, 2) := by decide +kernel
theorem dX1_takeOut_43 : decode cX1_takeOut 43 = .ok (.lshl, 1) := by decide +kernel
theorem dX1_takeOut_44 : decode cX1_takeOut 44 = .ok (.lxor, 1) := by decide +kernel
theorem dX1_takeOut_45 : decode cX1_takeOut 45 = .ok (.lstore 5, 2) := by decide +kernel
theorem dX1_takeOut_47 : decode cX1_takeOut 47 = .ok (.iload 7, 2) := by decide +kernel
theorem dX1_takeOut_49 : decode cX1_takeOut 49 = .ok (.aload_n 1, 1) := by decide +kernel
theorem dX1_takeOut_50 : decode cX1_takeOut 50 = .ok (.getfield 58, 3) := by decide +kernel
theorem dX1_takeOut_53 : decode cX1_takeOut 53 = .ok (.iload 9, 2) := by decide +kernel
theorem dX1_takeOut_55 : decode cX1_takeOut 55 = .ok (.iaload, 1) := by decide +kernel
theorem dX1_takeOut_56 : decode cX1_takeOut 56 = .ok (.iadd, 1) := by decide +kernel
theorem dX1_takeOut_57 : decode cX1_takeOut 57 = .ok (.istore 7, 2) := by decide +kernel
theorem dX1_takeOut_59 : decode cX1_takeOut 59 = .ok (.iinc 8 1, 3) := by decide +kernel
theorem dX1_takeOut_62 : decode cX1_takeOut 62 = .ok (.goto (-53), 3) := by decide +kernel
theorem dX1_takeOut_65 : decode cX1_takeOut 65 = .ok (.aload_n 0, 1) := by decide +kernel
theorem dX1_takeOut_66 : decode cX1_takeOut 66 = .ok (.lload_n 2, 1) := by decide +kernel
theorem dX1_takeOut_67 : decode cX1_takeOut 67 = .ok (.lload 5, 2) := by decide +kernel
theorem dX1_takeOut_69 : decode cX1_takeOut 69 = .ok (.ldc2_w 30, 3) := by decide +kernel
theorem dX1_takeOut_72 : decode cX1_takeOut 72 = .ok (.lxor, 1) := by decide +kernel
theorem dX1_takeOut_73 : decode cX1_takeOut 73 = .ok (.land, 1) := by decide +kernel
theorem dX1_takeOut_74 : decode cX1_takeOut 74 = .ok (.putfield 43, 3) := by decide +kernel
theorem dX1_takeOut_77 : decode cX1_takeOut 77 = .ok (.iload 7, 2) := by decide +kernel
theorem dX1_takeOut_79 : decode cX1_takeOut 79 = .ok (.ireturn, 1) := by decide +kernel
set_option maxRecDepth 20000 in
theorem ggX1_giveBack_X4_nextBack : GoodIn wsX1_giveBack wsX4_nextBack := goodIn_r _ [9, 10, 11, 12, 13, 14, 15, 16, 17, 18, 19, 20, 21, 22, 23, 24, 25, 31, 32, 33, 34, 35, 36] (by decide +kernel) (by decide +kernel)
set_option maxRecDepth 20000 in
theorem gX1_giveBack_X4_nextBack : GoodIn wsX1_giveBack (wsV RX1 64 RX4 yX4_nextBack wsX4_nextBack) := goodIn_app (goodIn_of _ (by decide +kernel)) ggX1_giveBack_X4_nextBack
theorem dX1_giveBack_0 : decode cX1_giveBack 0 = .ok (.lload_n 2, 1) := by decide +kernel
theorem dX1_giveBack_1 : decode cX1_giveBack 1 = .ok (.lstore 4, 2) := by decide +kernel
theorem dX1_giveBack_3 : decode cX1_giveBack 3 = .ok (.aload_n 0, 1) := by decide +kernel
theorem dX1_giveBack_4 : decode cX1_giveBack 4 = .ok (.lconst 0, 1) := by decide +kernel
theorem dX1_giveBack_5 : decode cX1_giveBack 5 = .ok (.putfield 47, 3) := by decide +kernel
theorem dX1_giveBack_8 : decode cX1_giveBack 8 = .ok (.aload_n 0, 1) := by decide +kernel
theorem dX1_giveBack_9 : decode cX1_giveBack 9 = .ok (.aload_n 0, 1) := by decide +kernel
theorem dX1_giveBack_10 : decode cX1_giveBack 10 = .ok (.getfield 36, 3) := by decide +kernel
theorem dX1_giveBack_13 : decode cX1_giveBack 13 = .ok (.putfield 61, 3) := by decide +kernel
theorem dX1_giveBack_16 : decode cX1_giveBack 16 = .ok (.iconst 0, 1) := by decide +kernel
theorem dX1_giveBack_17 : decode cX1_giveBack 17 = .ok (.istore 6, 2) := by decide +kernel
theorem dX1_giveBack_19 : decode cX1_giveBack 19 = .ok (.iload 6, 2) := by decide +kernel
theorem dX1_giveBack_21 : decode cX1_giveBack 21 = .ok (.bipush 40, 2) := by decide +kernel
theorem dX1_giveBack_23 : decode cX1_giveBack 23 = .ok (.if_icmp .ge 83, 3) := by decide +kernel
theorem dX1_giveBack_26 : decode cX1_giveBack 26 = .ok (.lload 4, 2) := by decide +kernel
theorem dX1_giveBack_28 : decode cX1_giveBack 28 = .ok (.lconst 0, 1) := by decide +kernel
theorem dX1_giveBack_29 : decode cX1_giveBack 29 = .ok (.lcmp, 1) := by decide +kernel
theorem dX1_giveBack_30 : decode cX1_giveBack 30 = .ok (.ifCond .eq 76, 3) := by decide +kernel
theorem dX1_giveBack_33 : decode cX1_giveBack 33 = .ok (.aload_n 0, 1) := by decide +kernel
theorem dX1_giveBack_34 : decode cX1_giveBack 34 = .ok (.getfield 61, 3) := by decide +kernel
theorem dX1_giveBack_37 : decode cX1_giveBack 37 = .ok (.ifCond .le 69, 3) := by decide +kernel
theorem dX1_giveBack_40 : decode cX1_giveBack 40 = .ok (.aload_n 1, 1) := by decide +kernel
theorem dX1_giveBack_41 : decode cX1_giveBack 41 = .ok (.lload 4, 2) := by decide +kernel
theorem dX1_giveBack_43 : decode cX1_giveBack 43 = .ok (.invokevirtual 64, 3) := by decide +kernel
theorem dX1_giveBack_46 : decode cX1_giveBack 46 = .ok (.istore 7, 2) := by decide +kernel
theorem dX1_giveBack_48 : decode cX1_giveBack 48 = .ok (.lload 4, 2) := by decide +kernel
theorem dX1_giveBack_50 : decode cX1_giveBack 50 = .ok (.lconst 1, 1) := by decide +kernel
theorem dX1_giveBack_51 : decode cX1_giveBack 51 = .ok (.iload 7, 2) := by decide +kernel
theorem dX1_giveBack_53 : decode cX1_giveBack 53 = .ok (.lshl, 1) := by decide +kernel
theorem dX1_giveBack_54 : decode cX1_giveBack 54 = .ok (.lxor, 1) := by decide +kernel
theorem dX1_giveBack_55 : decode cX1_giveBack 55 = .ok (.lstore 4, 2) := by decide +kernel
theorem dX1_giveBack_57 : decode cX1_giveBack 57 = .ok (.aload_n 1, 1) := by decide +kernel
theorem dX1_giveBack_58 : decode cX1_giveBack 58 = .ok (.getfield 58, 3) := by decide +kernel
theorem dX1_giveBack_61 : decode cX1_giveBack 61 = .ok (.iload 7, 2) := by decide +kernel
theorem dX1_giveBack_63 : decode cX1_giveBack 63 = .ok (.iaload, 1) := by decide +kernel
theorem dX1_giveBack_64 : decode cX1_giveBack 64 = .ok (.aload_n 0, 1) := by decide +kernel
theorem dX1_giveBack_65 : decode cX1_giveBack 65 = .ok (.getfield 61, 3) := by decide +kernel
theorem dX1_giveBack_68 : decode cX1_giveBack 68 = .ok (.if_icmp .gt 32, 3) := by decide +kernel
theorem dX1_giveBack_71 : decode cX1_giveBack 71 = .ok (.aload_n 0, 1) := by decide +kernel
theorem dX1_giveBack_72 : decode cX1_giveBack 72 = .ok (.dup, 1) := by decide +kernel
theorem dX1_giveBack_73 : decode cX1_giveBack 73 = .ok (.getfield 61, 3) := by decide +kernel
theorem dX1_giveBack_76 : decode cX1_giveBack 76 = .ok (.aload_n 1, 1) := by decide +kernel
theorem dX1_giveBack_77 : decode cX1_giveBack 77 = .ok (.getfield 58, 3) := by decide +kernel
theorem dX1_giveBack_80 : decode cX1_giveBack 80 = .ok (.iload 7, 2) := by decide +kernel
theorem dX1_giveBack_82 : decode cX1_giveBack 82 = .ok (.iaload, 1) := by decide +kernel
theorem dX1_giveBack_83 : decode cX1_giveBack 83 = .ok (.isub, 1) := by decide +kernel
theorem dX1_giveBack_84 : decode cX1_giveBack 84 = .ok (.putfield 61, 3) := by decide +kernel
theorem dX1_giveBack_87 : decode cX1_giveBack 87 = .ok (.aload_n 0, 1) := by decide +kernel
theorem dX1_giveBack_88 : decode cX1_giveBack 88 = .ok (.dup, 1) := by decide +kernel
theorem dX1_giveBack_89 : decode cX1_giveBack 89 = .ok (.getfield 47, 3) := by decide +kernel
theorem dX1_giveBack_92 : decode cX1_giveBack 92 = .ok (.lconst 1, 1) := by decide +kernel
theorem dX1_giveBack_93 : decode cX1_giveBack 93 = .ok (.iload 7, 2) := by decide +kernel
theorem dX1_giveBack_95 : decode cX1_giveBack 95 = .ok (.lshl, 1) := by decide +kernel
theorem dX1_giveBack_96 : decode cX1_giveBack 96 = .ok (.lor, 1) := by decide +kernel
theorem dX1_giveBack_97 : decode cX1_giveBack 97 = .ok (.putfield 47, 3) := by decide +kernel
theorem dX1_giveBack_100 : decode cX1_giveBack 100 = .ok (.iinc 6 1, 3) := by decide +kernel
theorem dX1_giveBack_103 : decode cX1_giveBack 103 = .ok (.goto (-84), 3) := by decide +kernel
theorem dX1_giveBack_106 : decode cX1_giveBack 106 = .ok (.return_, 1) := by decide +kernel
theorem dX2_init_0 : decode cX2_init 0 = .ok (.aload_n 0, 1) := by decide +kernel
theorem dX2_init_1 : decode cX2_init 1 = .ok (.invokespecial 3, 3) := by decide +kernel
theorem dX2_init_4 : decode cX2_init 4 = .ok (.aload_n 0, 1) := by decide +kernel
theorem dX2_init_5 : decode cX2_init 5 = .ok (.iload_n 1, 1) := by decide +kernel
theorem dX2_init_6 : decode cX2_init 6 = .ok (.newarray .int, 2) := by decide +kernel
theorem dX2_init_8 : decode cX2_init 8 = .ok (.putfield 9, 3) := by decide +kernel
theorem dX2_init_11 : decode cX2_init 11 = .ok (.aload_n 0, 1) := by decide +kernel
theorem dX2_init_12 : decode cX2_init 12 = .ok (.iload_n 1, 1) := by decide +kernel
theorem dX2_init_13 : decode cX2_init 13 = .ok (.newarray .int, 2) := by decide +kernel
theorem dX2_init_15 : decode cX2_init 15 = .ok (.putfield 15, 3) := by decide +kernel
theorem dX2_init_18 : decode cX2_init 18 = .ok (.aload_n 0, 1) := by decide +kernel
theorem dX2_init_19 : decode cX2_init 19 = .ok (.iload_n 1, 1) := by decide +kernel
theorem dX2_init_20 : decode cX2_init 20 = .ok (.newarray .int, 2) := by decide +kernel
theorem dX2_init_22 : decode cX2_init 22 = .ok (.putfield 18, 3) := by decide +kernel
theorem dX2_init_25 : decode cX2_init 25 = .ok (.aload_n 0, 1) := by decide +kernel
theorem dX2_init_26 : decode cX2_init 26 = .ok (.iload_n 1, 1) := by decide +kernel
theorem dX2_init_27 : decode cX2_init 27 = .ok (.newarray .int, 2) := by decide +kernel
theorem dX2_init_29 : decode cX2_init 29 = .ok (.putfield 21, 3) := by decide +kernel
theorem dX2_init_32 : decode cX2_init 32 = .ok (.aload_n 0, 1) := by decide +kernel
theorem dX2_init_33 : decode cX2_init 33 = .ok (.iload_n 1, 1) := by decide +kernel
theorem dX2_init_34 : decode cX2_init 34 = .ok (.newarray .int, 2) := by decide +kernel
theorem dX2_init_36 : decode cX2_init 36 = .ok (.putfield 24, 3) := by decide +kernel
theorem dX2_init_39 : decode cX2_init 39 = .ok (.return_, 1) := by decide +kernel
theorem dX2_add_0 : decode cX2_add 0 = .ok (.aload_n 0, 1) := by decide +kernel
theorem dX2_add_1 : decode cX2_add 1 = .ok (.getfield 27, 3) := by decide +kernel
theorem dX2_add_4 : decode cX2_add 4 = .ok (.aload_n 0, 1) := by decide +kernel
theorem dX2_add_5 : decode cX2_add 5 = .ok (.getfield 9, 3) := by decide +kernel
theorem dX2_add_8 : decode cX2_add 8 = .ok (.arraylength, 1) := by decide +kernel
theorem dX2_add_9 : decode cX2_add 9 = .ok (.if_icmp .lt 4, 3) := by decide +kernel
theorem dX2_add_12 : decode cX2_add 12 = .ok (.return_, 1) := by decide +kernel
theorem dX2_add_13 : decode cX2_add 13 = .ok (.aload_n 0, 1) := by decide +kernel
theorem dX2_add_14 : decode cX2_add 14 = .ok (.getfield 9, 3) := by decide +kernel
theorem dX2_add_17 : decode cX2_add 17 = .ok (.aload_n 0, 1) := by decide +kernel
theorem dX2_add_18 : decode cX2_add 18 = .ok (.getfield 27, 3) := by decide +kernel
theorem dX2_add_21 : decode cX2_add 21 = .ok (.iload_n 1, 1) := by decide +kernel
theorem dX2_add_22 : decode cX2_add 22 = .ok (.iastore, 1) := by decide +kernel
theorem dX2_add_23 : decode cX2_add 23 = .ok (.aload_n 0, 1) := by decide +kernel
theorem dX2_add_24 : decode cX2_add 24 = .ok (.getfield 15, 3) := by decide +kernel
theorem dX2_add_27 : decode cX2_add 27 = .ok (.aload_n 0, 1) := by decide +kernel
theorem dX2_add_28 : decode cX2_add 28 = .ok (.getfield 27, 3) := by decide +kernel
theorem dX2_add_31 : decode cX2_add 31 = .ok (.iload_n 2, 1) := by decide +kernel
theorem dX2_add_32 : decode cX2_add 32 = .ok (.iastore, 1) := by decide +kernel
theorem dX2_add_33 : decode cX2_add 33 = .ok (.aload_n 0, 1) := by decide +kernel
theorem dX2_add_34 : decode cX2_add 34 = .ok (.getfield 18, 3) := by decide +kernel
theorem dX2_add_37 : decode cX2_add 37 = .ok (.aload_n 0, 1) := by decide +kernel
theorem dX2_add_38 : decode cX2_add 38 = .ok (.getfield 27, 3) := by decide +kernel
theorem dX2_add_41 : decode cX2_add 41 = .ok (.iload_n 3, 1) := by decide +kernel
theorem dX2_add_42 : decode cX2_add 42 = .ok (.iastore, 1) := by decide +kernel
theorem dX2_add_43 : decode cX2_add 43 = .ok (.aload_n 0, 1) := by decide +kernel
theorem dX2_add_44 : decode cX2_add 44 = .ok (.getfield 21, 3) := by decide +kernel
theorem dX2_add_47 : decode cX2_add 47 = .ok (.aload_n 0, 1) := by decide +kernel
theorem dX2_add_48 : decode cX2_add 48 = .ok (.getfield 27, 3) := by decide +kernel
theorem dX2_add_51 : decode cX2_add 51 = .ok (.iload 4, 2) := by decide +kernel
theorem dX2_add_53 : decode cX2_add 53 = .ok (.iastore, 1) := by decide +kernel
theorem dX2_add_54 : decode cX2_add 54 = .ok (.aload_n 0, 1) := by decide +kernel
theorem dX2_add_55 : decode cX2_add 55 = .ok (.getfield 24, 3) := by decide +kernel
theorem dX2_add_58 : decode cX2_add 58 = .ok (.aload_n 0, 1) := by decide +kernel
theorem dX2_add_59 : decode cX2_add 59 = .ok (.getfield 27, 3) := by decide +kernel
theorem dX2_add_62 : decode cX2_add 62 = .ok (.iload 5, 2) := by decide +kernel
theorem dX2_add_64 : decode cX2_add 64 = .ok (.iastore, 1) := by decide +kernel
theorem dX2_add_65 : decode cX2_add 65 = .ok (.aload_n 0, 1) := by decide +kernel
theorem dX2_add_66 : decode cX2_add 66 = .ok (.dup, 1) := by decide +kernel
theorem dX2_add_67 : decode cX2_add 67 = .ok (.getfield 27, 3) := by decide +kernel
theorem dX2_add_70 : decode cX2_add 70 = .ok (.iconst 1, 1) := by decide +kernel
theorem dX2_add_71 : decode cX2_add 71 = .ok (.iadd, 1) := by decide +kernel
theorem dX2_add_72 : decode cX2_add 72 = .ok (.putfield 27, 3) := by decide +kernel
theorem dX2_add_75 : decode cX2_add 75 = .ok (.return_, 1) := by decide +kernel
set_option maxRecDepth 20000 in
theorem ggX2_addAll_X2_add : GoodIn wsX2_addAll wsX2_add := goodIn_r _ [11, 1, 2, 3, 4, 5, 6, 12, 13, 14, 15, 16, 17] (by decide +kernel) (by decide +kernel)
set_option maxRecDepth 20000 in
theorem gX2_addAll_X2_add : GoodIn wsX2_addAll (wsV RX2 31 RX2 yX2_add wsX2_add) := goodIn_app (goodIn_of _ (by decide +kernel)) ggX2_addAll_X2_add
theorem dX2_addAll_0 : decode cX2_addAll 0 = .ok (.iconst 0, 1) := by decide +kernel
theorem dX2_addAll_1 : decode cX2_addAll 1 = .ok (.istore_n 2, 1) := by decide +kernel
theorem dX2_addAll_2 : decode cX2_addAll 2 = .ok (.iload_n 2, 1) := by decide +kernel
theorem dX2_addAll_3 : decode cX2_addAll 3 = .ok (.aload_n 1, 1) := by decide +kernel
theorem dX2_addAll_4 : decode cX2_addAll 4 = .ok (.getfield 27, 3) := by decide +kernel
theorem dX2_addAll_7 : decode cX2_addAll 7 = .ok (.if_icmp .ge 43, 3) := by decide +kernel
theorem dX2_addAll_10 : decode cX2_addAll 10 = .ok (.aload_n 0, 1) := by decide +kernel
theorem dX2_addAll_11 : decode cX2_addAll 11 = .ok (.aload_n 1, 1) := by decide +kernel
theorem dX2_addAll_12 : decode cX2_addAll 12 = .ok (.getfield 9, 3) := by decide +kernel
theorem dX2_addAll_15 : decode cX2_addAll 15 = .ok (.iload_n 2, 1) := by decide +kernel
theorem dX2_addAll_16 : decode cX2_addAll 16 = .ok (.iaload, 1) := by decide +kernel
theorem dX2_addAll_17 : decode cX2_addAll 17 = .ok (.aload_n 1, 1) := by decide +kernel
theorem dX2_addAll_18 : decode cX2_addAll 18 = .ok (.getfield 15, 3) := by decide +kernel
theorem dX2_addAll_21 : decode cX2_addAll 21 = .ok (.iload_n 2, 1) := by decide +kernel
theorem dX2_addAll_22 : decode cX2_addAll 22 = .ok (.iaload, 1) := by decide +kernel
theorem dX2_addAll_23 : decode cX2_addAll 23 = .ok (.aload_n 1, 1) := by decide +kernel
theorem dX2_addAll_24 : decode cX2_addAll 24 = .ok (.getfield 18, 3) := by decide +kernel
theorem dX2_addAll_27 : decode cX2_addAll 27 = .ok (.iload_n 2, 1) := by decide +kernel
theorem dX2_addAll_28 : decode cX2_addAll 28 = .ok (.iaload, 1) := by decide +kernel
theorem dX2_addAll_29 : decode cX2_addAll 29 = .ok (.aload_n 1, 1) := by decide +kernel
theorem dX2_addAll_30 : decode cX2_addAll 30 = .ok (.getfield 21, 3) := by decide +kernel
theorem dX2_addAll_33 : decode cX2_addAll 33 = .ok (.iload_n 2, 1) := by decide +kernel
theorem dX2_addAll_34 : decode cX2_addAll 34 = .ok (.iaload, 1) := by decide +kernel
theorem dX2_addAll_35 : decode cX2_addAll 35 = .ok (.aload_n 1, 1) := by decide +kernel
theorem dX2_addAll_36 : decode cX2_addAll 36 = .ok (.getfield 24, 3) := by decide +kernel
theorem dX2_addAll_39 : decode cX2_addAll 39 = .ok (.iload_n 2, 1) := by decide +kernel
theorem dX2_addAll_40 : decode cX2_addAll 40 = .ok (.iaload, 1) := by decide +kernel
theorem dX2_addAll_41 : decode cX2_addAll 41 = .ok (.invokevirtual 31, 3) := by decide +kernel
theorem dX2_addAll_44 : decode cX2_addAll 44 = .ok (.iinc 2 1, 3) := by decide +kernel
theorem dX2_addAll_47 : decode cX2_addAll 47 = .ok (.goto (-45), 3) := by decide +kernel
theorem dX2_addAll_50 : decode cX2_addAll 50 = .ok (.return_, 1) := by decide +kernel
set_option maxRecDepth 20000 in
theorem ggX2_copyFrom_X2_addAll : GoodIn wsX2_copyFrom wsX2_addAll := goodIn_r _ [6, 1, 7, 8, 9, 10, 11, 12, 13, 14, 5, 15, 16, 17, 18, 19, 20, 21] (by decide +kernel) (by decide +kernel)
set_option maxRecDepth 20000 in
theorem gX2_copyFrom_X2_addAll : GoodIn wsX2_copyFrom (wsV RX2 35 RX2 yX2_addAll wsX2_addAll) := goodIn_app (goodIn_of _ (by decide +kernel)) ggX2_copyFrom_X2_addAll
theorem dX2_copyFrom_0 : decode cX2_copyFrom 0 = .ok (.aload_n 0, 1) := by decide +kernel
theorem dX2_copyFrom_1 : decode cX2_copyFrom 1 = .ok (.iconst 0, 1) := by decide +kernel
theorem dX2_copyFrom_2 : decode cX2_copyFrom 2 = .ok (.putfield 27, 3) := by decide +kernel
theorem dX2_copyFrom_5 : decode cX2_copyFrom 5 = .ok (.aload_n 0, 1) := by decide +kernel
theorem dX2_copyFrom_6 : decode cX2_copyFrom 6 = .ok (.aload_n 1, 1) := by decide +kernel
theorem dX2_copyFrom_7 : decode cX2_copyFrom 7 = .ok (.invokevirtual 35, 3) := by decide +kernel
theorem dX2_copyFrom_10 : decode cX2_copyFrom 10 = .ok (.return_, 1) := by decide +kernel
theorem dX2_worthOfAll_0 : decode cX2_worthOfAll 0 = .ok (.iconst 0, 1) := by decide +kernel
theorem dX2_worthOfAll_1 : decode cX2_worthOfAll 1 = .ok (.istore_n 1, 1) := by decide +kernel
theorem dX2_worthOfAll_2 : decode cX2_worthOfAll 2 = .ok (.iconst 0, 1) := by decide +kernel
theorem dX2_worthOfAll_3 : decode cX2_worthOfAll 3 = .ok (.istore_n 2, 1) := by decide +kernel
theorem dX2_worthOfAll_4 : decode cX2_worthOfAll 4 = .ok (.iload_n 2, 1) := by decide +kernel
theorem dX2_worthOfAll_5 : decode cX2_worthOfAll 5 = .ok (.aload_n 0, 1) := by decide +kernel
theorem dX2_worthOfAll_6 : decode cX2_worthOfAll 6 = .ok (.getfield 27, 3) := by decide +kernel
theorem dX2_worthOfAll_9 : decode cX2_worthOfAll 9 = .ok (.if_icmp .ge 18, 3) := by decide +kernel
theorem dX2_worthOfAll_12 : decode cX2_worthOfAll 12 = .ok (.iload_n 1, 1) := by decide +kernel
theorem dX2_worthOfAll_13 : decode cX2_worthOfAll 13 = .ok (.aload_n 0, 1) := by decide +kernel
theorem dX2_worthOfAll_14 : decode cX2_worthOfAll 14 = .ok (.getfield 15, 3) := by decide +kernel
theorem dX2_worthOfAll_17 : decode cX2_worthOfAll 17 = .ok (.iload_n 2, 1) := by decide +kernel
theorem dX2_worthOfAll_18 : decode cX2_worthOfAll 18 = .ok (.iaload, 1) := by decide +kernel
theorem dX2_worthOfAll_19 : decode cX2_worthOfAll 19 = .ok (.iadd, 1) := by decide +kernel
theorem dX2_worthOfAll_20 : decode cX2_worthOfAll 20 = .ok (.istore_n 1, 1) := by decide +kernel
theorem dX2_worthOfAll_21 : decode cX2_worthOfAll 21 = .ok (.iinc 2 1, 3) := by decide +kernel
theorem dX2_worthOfAll_24 : decode cX2_worthOfAll 24 = .ok (.goto (-20), 3) := by decide +kernel
theorem dX2_worthOfAll_27 : decode cX2_worthOfAll 27 = .ok (.iload_n 1, 1) := by decide +kernel
theorem dX2_worthOfAll_28 : decode cX2_worthOfAll 28 = .ok (.ireturn, 1) := by decide +kernel
set_option maxRecDepth 20000 in
theorem ggX2_oldness_X2_oldnessAs : GoodIn wsX2_oldness wsX2_oldnessAs := goodIn_r _ [7, 8, 9, 10, 6, 11, 12, 13, 14, 15, 16, 17] (by decide +kernel) (by decide +kernel)
set_option maxRecDepth 20000 in
theorem gX2_oldness_X2_oldnessAs : GoodIn wsX2_oldness (wsV RX2 39 RX2 yX2_oldnessAs wsX2_oldnessAs) := goodIn_app (goodIn_of _ (by decide +kernel)) ggX2_oldness_X2_oldnessAs
theorem dX2_oldness_0 : decode cX2_oldness 0 = .ok (.aload_n 0, 1) := by decide +kernel
theorem dX2_oldness_1 : decode cX2_oldness 1 = .ok (.iload_n 1, 1) := by decide +kernel
theorem dX2_oldness_2 : decode cX2_oldness 2 = .ok (.aload_n 0, 1) := by decide +kernel
theorem dX2_oldness_3 : decode cX2_oldness 3 = .ok (.getfield 24, 3) := by decide +kernel
theorem dX2_oldness_6 : decode cX2_oldness 6 = .ok (.iload_n 1, 1) := by decide +kernel
theorem dX2_oldness_7 : decode cX2_oldness 7 = .ok (.iaload, 1) := by decide +kernel
theorem dX2_oldness_8 : decode cX2_oldness 8 = .ok (.aload_n 0, 1) := by decide +kernel
theorem dX2_oldness_9 : decode cX2_oldness 9 = .ok (.getfield 21, 3) := by decide +kernel
theorem dX2_oldness_12 : decode cX2_oldness 12 = .ok (.iload_n 1, 1) := by decide +kernel
theorem dX2_oldness_13 : decode cX2_oldness 13 = .ok (.iaload, 1) := by decide +kernel
theorem dX2_oldness_14 : decode cX2_oldness 14 = .ok (.invokevirtual 39, 3) := by decide +kernel
theorem dX2_oldness_17 : decode cX2_oldness 17 = .ok (.ireturn, 1) := by decide +kernel
set_option maxRecDepth 20000 in
theorem ggX2_oldnessAs_X2_ageAs : GoodIn wsX2_oldnessAs wsX2_ageAs := goodIn_r _ [5] (by decide +kernel) (by decide +kernel)
set_option maxRecDepth 20000 in
theorem gX2_oldnessAs_X2_ageAs : GoodIn wsX2_oldnessAs (va_wsS RX2 43 yX2_ageAs wsX2_ageAs) := goodIn_app (goodIn_of _ (by decide +kernel)) ggX2_oldnessAs_X2_ageAs
theorem dX2_oldnessAs_0 : decode cX2_oldnessAs 0 = .ok (.aload_n 0, 1) := by decide +kernel
theorem dX2_oldnessAs_1 : decode cX2_oldnessAs 1 = .ok (.getfield 18, 3) := by decide +kernel
theorem dX2_oldnessAs_4 : decode cX2_oldnessAs 4 = .ok (.iload_n 1, 1) := by decide +kernel
theorem dX2_oldnessAs_5 : decode cX2_oldnessAs 5 = .ok (.iaload, 1) := by decide +kernel
theorem dX2_oldnessAs_6 : decode cX2_oldnessAs 6 = .ok (.iload_n 2, 1) := by decide +kernel
theorem dX2_oldnessAs_7 : decode cX2_oldnessAs 7 = .ok (.iload_n 3, 1) := by decide +kernel
theorem dX2_oldnessAs_8 : decode cX2_oldnessAs 8 = .ok (.invokestatic 43, 3) := by decide +kernel
theorem dX2_oldnessAs_11 : decode cX2_oldnessAs 11 = .ok (.bipush 64, 2) := by decide +kernel
theorem dX2_oldnessAs_13 : decode cX2_oldnessAs 13 = .ok (.imul, 1) := by decide +kernel
theorem dX2_oldnessAs_14 : decode cX2_oldnessAs 14 = .ok (.iload_n 1, 1) := by decide +kernel
theorem dX2_oldnessAs_15 : decode cX2_oldnessAs 15 = .ok (.iadd, 1) := by decide +kernel
theorem dX2_oldnessAs_16 : decode cX2_oldnessAs 16 = .ok (.ireturn, 1) := by decide +kernel
theorem dX2_ageAs_0 : decode cX2_ageAs 0 = .ok (.iload_n 1, 1) := by decide +kernel
theorem dX2_ageAs_1 : decode cX2_ageAs 1 = .ok (.tableswitch 36 1 3 #[27, 31, 33], 27) := by decide +kernel
theorem dX2_ageAs_28 : decode cX2_ageAs 28 = .ok (.iload_n 2, 1) := by decide +kernel
theorem dX2_ageAs_29 : decode cX2_ageAs 29 = .ok (.iconst 1, 1) := by decide +kernel
theorem dX2_ageAs_30 : decode cX2_ageAs 30 = .ok (.iadd, 1) := by decide +kernel
theorem dX2_ageAs_31 : decode cX2_ageAs 31 = .ok (.ireturn, 1) := by decide +kernel
theorem dX2_ageAs_32 : decode cX2_ageAs 32 = .ok (.iconst 0, 1) := by decide +kernel
theorem dX2_ageAs_33 : decode cX2_ageAs 33 = .ok (.ireturn, 1) := by decide +kernel
theorem dX2_ageAs_34 : decode cX2_ageAs 34 = .ok (.bipush 101, 2) := by decide +kernel
theorem dX2_ageAs_36 : decode cX2_ageAs 36 = .ok (.ireturn, 1) := by decide +kernel
theorem dX2_ageAs_37 : decode cX2_ageAs 37 = .ok (.iload_n 0, 1) := by decide +kernel
theorem dX2_ageAs_38 : decode cX2_ageAs 38 = .ok (.iconst 1, 1) := by decide +kernel
theorem dX2_ageAs_39 : decode cX2_ageAs 39 = .ok (.iadd, 1) := by decide +kernel
theorem dX2_ageAs_40 : decode cX2_ageAs 40 = .ok (.ireturn, 1) := by decide +kernel
theorem dX3_init_0 : decode cX3_init 0 = .ok (.aload_n 0, 1) := by decide +kernel
theorem dX3_init_1 : decode cX3_init 1 = .ok (.invokespecial 3, 3) := by decide +kernel
theorem dX3_init_4 : decode cX3_init 4 = .ok (.aload_n 0, 1) := by decide +kernel
theorem dX3_init_5 : decode cX3_init 5 = .ok (.iconst 4, 1) := by decide +kernel
theorem dX3_init_6 : decode cX3_init 6 = .ok (.newarray .int, 2) := by decide +kernel
theorem dX3_init_8 : decode cX3_init 8 = .ok (.putfield 9, 3) := by decide +kernel
theorem dX3_init_11 : decode cX3_init 11 = .ok (.aload_n 0, 1) := by decide +kernel
theorem dX3_init_12 : decode cX3_init 12 = .ok (.iconst 4, 1) := by decide +kernel
theorem dX3_init_13 : decode cX3_init 13 = .ok (.newarray .int, 2) := by decide +kernel
theorem dX3_init_15 : decode cX3_init 15 = .ok (.putfield 15, 3) := by decide +kernel
theorem dX3_init_18 : decode cX3_init 18 = .ok (.aload_n 0, 1) := by decide +kernel
theorem dX3_init_19 : decode cX3_init 19 = .ok (.iconst 4, 1) := by decide +kernel
theorem dX3_init_20 : decode cX3_init 20 = .ok (.newarray .int, 2) := by decide +kernel
theorem dX3_init_22 : decode cX3_init 22 = .ok (.putfield 18, 3) := by decide +kernel
theorem dX3_init_25 : decode cX3_init 25 = .ok (.return_, 1) := by decide +kernel
set_option maxRecDepth 20000 in
theorem ggX3_countOrders_X3_arrange : GoodIn wsX3_countOrders wsX3_arrange := goodIn_r _ [10, 1, 11, 12, 13, 14, 9, 15, 2, 16, 3, 4, 5, 17, 6, 7, 8, 18, 19, 20, 21, 22, 23, 24, 25] (by decide +kernel) (by decide +kernel)
set_option maxRecDepth 20000 in
theorem gX3_countOrders_X3_arrange : GoodIn wsX3_countOrders (wsV RX3 37 RX3 yX3_arrange wsX3_arrange) := goodIn_app (goodIn_of _ (by decide +kernel)) ggX3_countOrders_X3_arrange
theorem dX3_countOrders_0 : decode cX3_countOrders 0 = .ok (.aload_n 0, 1) := by decide +kernel
theorem dX3_countOrders_1 : decode cX3_countOrders 1 = .ok (.iload_n 1, 1) := by decide +kernel
theorem dX3_countOrders_2 : decode cX3_countOrders 2 = .ok (.putfield 21, 3) := by decide +kernel
theorem dX3_countOrders_5 : decode cX3_countOrders 5 = .ok (.aload_n 0, 1) := by decide +kernel
theorem dX3_countOrders_6 : decode cX3_countOrders 6 = .ok (.iload_n 2, 1) := by decide +kernel
theorem dX3_countOrders_7 : decode cX3_countOrders 7 = .ok (.putfield 25, 3) := by decide +kernel
theorem dX3_countOrders_10 : decode cX3_countOrders 10 = .ok (.aload_n 0, 1) := by decide +kernel
theorem dX3_countOrders_11 : decode cX3_countOrders 11 = .ok (.iload_n 3, 1) := by decide +kernel
theorem dX3_countOrders_12 : decode cX3_countOrders 12 = .ok (.putfield 28, 3) := by decide +kernel
theorem dX3_countOrders_15 : decode cX3_countOrders 15 = .ok (.aload_n 0, 1) := by decide +kernel
theorem dX3_countOrders_16 : decode cX3_countOrders 16 = .ok (.iload 4, 2) := by decide +kernel
theorem dX3_countOrders_18 : decode cX3_countOrders 18 = .ok (.putfield 31, 3) := by decide +kernel
theorem dX3_countOrders_21 : decode cX3_countOrders 21 = .ok (.aload_n 0, 1) := by decide +kernel
theorem dX3_countOrders_22 : decode cX3_countOrders 22 = .ok (.iconst 0, 1) := by decide +kernel
theorem dX3_countOrders_23 : decode cX3_countOrders 23 = .ok (.putfield 34, 3) := by decide +kernel
theorem dX3_countOrders_26 : decode cX3_countOrders 26 = .ok (.aload_n 0, 1) := by decide +kernel
theorem dX3_countOrders_27 : decode cX3_countOrders 27 = .ok (.iconst 0, 1) := by decide +kernel
theorem dX3_countOrders_28 : decode cX3_countOrders 28 = .ok (.iconst 0, 1) := by decide +kernel
theorem dX3_countOrders_29 : decode cX3_countOrders 29 = .ok (.invokevirtual 37, 3) := by decide +kernel
theorem dX3_countOrders_32 : decode cX3_countOrders 32 = .ok (.aload_n 0, 1) := by decide +kernel
theorem dX3_countOrders_33 : decode cX3_countOrders 33 = .ok (.getfield 34, 3) := by decide +kernel
theorem dX3_countOrders_36 : decode cX3_countOrders 36 = .ok (.ireturn, 1) := by decide +kernel
set_option maxRecDepth 20000 in
theorem ggX3_arrange_X3_judge : GoodIn wsX3_arrange wsX3_judge := goodIn_r _ [7, 1, 8, 9, 2, 10, 11, 12, 13, 17, 18, 19, 20, 21, 22, 23, 24] (by decide +kernel) (by decide +kernel)
set_option maxRecDepth 20000 in
theorem gX3_arrange_X3_judge : GoodIn wsX3_arrange (wsV RX3 41 RX3 yX3_judge wsX3_judge) := goodIn_app (goodIn_of _ (by decide +kernel)) ggX3_arrange_X3_judge
set_option maxRecDepth 20000 in
theorem ggX3_arrange_X3_arrange : GoodIn wsX3_arrange wsX3_arrange := goodIn_r _ [0, 1, 2, 3, 4, 5, 6, 7, 8, 9, 10, 11, 12, 13, 14, 15, 16, 17, 18, 19, 20, 21, 22, 23, 24] (by decide +kernel) (by decide +kernel)
set_option maxRecDepth 20000 in
theorem gX3_arrange_X3_arrange : GoodIn wsX3_arrange (wsV RX3 37 RX3 yX3_arrange wsX3_arrange) := goodIn_app (goodIn_of _ (by decide +kernel)) ggX3_arrange_X3_arrange
theorem dX3_arrange_0 : decode cX3_arrange 0 = .ok (.iload_n 1, 1) := by decide +kernel
theorem dX3_arrange_1 : decode cX3_arrange 1 = .ok (.aload_n 0, 1) := by decide +kernel
theorem dX3_arrange_2 : decode cX3_arrange 2 = .ok (.getfield 21, 3) := by decide +kernel
theorem dX3_arrange_5 : decode cX3_arrange 5 = .ok (.if_icmp .ge 8, 3) := by decide +kernel
theorem dX3_arrange_8 : decode cX3_arrange 8 = .ok (.iload_n 1, 1) := by decide +kernel
theorem dX3_arrange_9 : decode cX3_arrange 9 = .ok (.iconst 4, 1) := by decide +kernel
theorem dX3_arrange_10 : decode cX3_arrange 10 = .ok (.if_icmp .lt 8, 3) := by decide +kernel
theorem dX3_arrange_13 : decode cX3_arrange 13 = .ok (.aload_n 0, 1) := by decide +kernel
theorem dX3_arrange_14 : decode cX3_arrange 14 = .ok (.invokevirtual 41, 3) := by decide +kernel
theorem dX3_arrange_17 : decode cX3_arrange 17 = .ok (.return_, 1) := by decide +kernel
theorem dX3_arrange_18 : decode cX3_arrange 18 = .ok (.iconst 0, 1) := by decide +kernel
theorem dX3_arrange_19 : decode cX3_arrange 19 = .ok (.istore_n 3, 1) := by decide +kernel
theorem dX3_arrange_20 : decode cX3_arrange 20 = .ok (.iload_n 3, 1) := by decide +kernel
theorem dX3_arrange_21 : decode cX3_arrange 21 = .ok (.aload_n 0, 1) := by decide +kernel
theorem dX3_arrange_22 : decode cX3_arrange 22 = .ok (.getfield 21, 3) := by decide +kernel
theorem dX3_arrange_25 : decode cX3_arrange 25 = .ok (.if_icmp .ge 36, 3) := by decide +kernel
theorem dX3_arrange_28 : decode cX3_arrange 28 = .ok (.iload_n 2, 1) := by decide +kernel
theorem dX3_arrange_29 : decode cX3_arrange 29 = .ok (.iload_n 3, 1) := by decide +kernel
theorem dX3_arrange_30 : decode cX3_arrange 30 = .ok (.ishr, 1) := by decide +kernel
theorem dX3_arrange_31 : decode cX3_arrange 31 = .ok (.iconst 1, 1) := by decide +kernel
theorem dX3_arrange_32 : decode cX3_arrange 32 = .ok (.iand, 1) := by decide +kernel
theorem dX3_arrange_33 : decode cX3_arrange 33 = .ok (.ifCond .ne 22, 3) := by decide +kernel
theorem dX3_arrange_36 : decode cX3_arrange 36 = .ok (.aload_n 0, 1) := by decide +kernel
theorem dX3_arrange_37 : decode cX3_arrange 37 = .ok (.getfield 18, 3) := by decide +kernel
theorem dX3_arrange_40 : decode cX3_arrange 40 = .ok (.iload_n 1, 1) := by decide +kernel
theorem dX3_arrange_41 : decode cX3_arrange 41 = .ok (.iload_n 3, 1) := by decide +kernel
theorem dX3_arrange_42 : decode cX3_arrange 42 = .ok (.iastore, 1) := by decide +kernel
theorem dX3_arrange_43 : decode cX3_arrange 43 = .ok (.aload_n 0, 1) := by decide +kernel
theorem dX3_arrange_44 : decode cX3_arrange 44 = .ok (.iload_n 1, 1) := by decide +kernel
theorem dX3_arrange_45 : decode cX3_arrange 45 = .ok (.iconst 1, 1) := by decide +kernel
theorem dX3_arrange_46 : decode cX3_arrange 46 = .ok (.iadd, 1) := by decide +kernel
theorem dX3_arrange_47 : decode cX3_arrange 47 = .ok (.iload_n 2, 1) := by decide +kernel
theorem dX3_arrange_48 : decode cX3_arrange 48 = .ok (.iconst 1, 1) := by decide +kernel
theorem dX3_arrange_49 : decode cX3_arrange 49 = .ok (.iload_n 3, 1) := by decide +kernel
theorem dX3_arrange_50 : decode cX3_arrange 50 = .ok (.ishl, 1) := by decide +kernel
theorem dX3_arrange_51 : decode cX3_arrange 51 = .ok (.ior, 1) := by decide +kernel
theorem dX3_arrange_52 : decode cX3_arrange 52 = .ok (.invokevirtual 37, 3) := by decide +kernel
theorem dX3_arrange_55 : decode cX3_arrange 55 = .ok (.iinc 3 1, 3) := by decide +kernel
theorem dX3_arrange_58 : decode cX3_arrange 58 = .ok (.goto (-38), 3) := by decide +kernel
theorem dX3_arrange_61 : decode cX3_arrange 61 = .ok (.return_, 1) := by decide +kernel
theorem dX3_judge_0 : decode cX3_judge 0 = .ok (.iconst 0, 1) := by decide +kernel
theorem dX3_judge_1 : decode cX3_judge 1 = .ok (.istore_n 1, 1) := by decide +kernel
theorem dX3_judge_2 : decode cX3_judge 2 = .ok (.iconst 0, 1) := by decide +kernel
theorem dX3_judge_3 : decode cX3_judge 3 = .ok (.istore_n 2, 1) := by decide +kernel
theorem dX3_judge_4 : decode cX3_judge 4 = .ok (.iload_n 1, 1) := by decide +kernel
theorem dX3_judge_5 : decode cX3_judge 5 = .ok (.aload_n 0, 1) := by decide +kernel
theorem dX3_judge_6 : decode cX3_judge 6 = .ok (.getfield 21, 3) := by decide +kernel
theorem dX3_judge_9 : decode cX3_judge 9 = .ok (.if_icmp .ge 31, 3) := by decide +kernel
theorem dX3_judge_12 : decode cX3_judge 12 = .ok (.iload_n 2, 1) := by decide +kernel
theorem dX3_judge_13 : decode cX3_judge 13 = .ok (.aload_n 0, 1) := by decide +kernel
theorem dX3_judge_14 : decode cX3_judge 14 = .ok (.getfield 25, 3) := by decide +kernel
theorem dX3_judge_17 : decode cX3_judge 17 = .ok (.if_icmp .ge 23, 3) := by decide +kernel
theorem dX3_judge_20 : decode cX3_judge 20 = .ok (.iload_n 2, 1) := by decide +kernel
theorem dX3_judge_21 : decode cX3_judge 21 = .ok (.aload_n 0, 1) := by decide +kernel
theorem dX3_judge_22 : decode cX3_judge 22 = .ok (.getfield 9, 3) := by decide +kernel
theorem dX3_judge_25 : decode cX3_judge 25 = .ok (.aload_n 0, 1) := by decide +kernel
theorem dX3_judge_26 : decode cX3_judge 26 = .ok (.getfield 18, 3) := by decide +kernel
theorem dX3_judge_29 : decode cX3_judge 29 = .ok (.iload_n 1, 1) := by decide +kernel
theorem dX3_judge_30 : decode cX3_judge 30 = .ok (.iaload, 1) := by decide +kernel
theorem dX3_judge_31 : decode cX3_judge 31 = .ok (.iaload, 1) := by decide +kernel
theorem dX3_judge_32 : decode cX3_judge 32 = .ok (.iadd, 1) := by decide +kernel
theorem dX3_judge_33 : decode cX3_judge 33 = .ok (.istore_n 2, 1) := by decide +kernel
theorem dX3_judge_34 : decode cX3_judge 34 = .ok (.iinc 1 1, 3) := by decide +kernel
theorem dX3_judge_37 : decode cX3_judge 37 = .ok (.goto (-33), 3) := by decide +kernel
theorem dX3_judge_40 : decode cX3_judge 40 = .ok (.iload_n 1, 1) := by decide +kernel
theorem dX3_judge_41 : decode cX3_judge 41 = .ok (.aload_n 0, 1) := by decide +kernel
theorem dX3_judge_42 : decode cX3_judge 42 = .ok (.getfield 28, 3) := by decide +kernel
theorem dX3_judge_45 : decode cX3_judge 45 = .ok (.if_icmp .ne 16, 3) := by decide +kernel
theorem dX3_judge_48 : decode cX3_judge 48 = .ok (.iload_n 2, 1) := by decide +kernel
theorem dX3_judge_49 : decode cX3_judge 49 = .ok (.aload_n 0, 1) := by decide +kernel
theorem dX3_judge_50 : decode cX3_judge 50 = .ok (.getfield 25, 3) := by decide +kernel
theorem dX3_judge_53 : decode cX3_judge 53 = .ok (.isub, 1) := by decide +kernel
theorem dX3_judge_54 : decode cX3_judge 54 = .ok (.aload_n 0, 1) := by decide +kernel
theorem dX3_judge_55 : decode cX3_judge 55 = .ok (.getfield 31, 3) := by decide +kernel
theorem dX3_judge_58 : decode cX3_judge 58 = .ok (.if_icmp .eq 4, 3) := by decide +kernel
theorem dX3_judge_61 : decode cX3_judge 61 = .ok (.return_, 1) := by decide +kernel
theorem dX3_judge_62 : decode cX3_judge 62 = .ok (.aload_n 0, 1) := by decide +kernel
theorem dX3_judge_63 : decode cX3_judge 63 = .ok (.getfield 34, 3) := by decide +kernel
theorem dX3_judge_66 : decode cX3_judge 66 = .ok (.ifCond .ne 31, 3) := by decide +kernel
theorem dX3_judge_69 : decode cX3_judge 69 = .ok (.iconst 0, 1) := by decide +kernel
theorem dX3_judge_70 : decode cX3_judge 70 = .ok (.istore_n 3, 1) := by decide +kernel
theorem dX3_judge_71 : decode cX3_judge 71 = .ok (.iload_n 3, 1) := by decide +kernel
theorem dX3_judge_72 : decode cX3_judge 72 = .ok (.aload_n 0, 1) := by decide +kernel
theorem dX3_judge_73 : decode cX3_judge 73 = .ok (.getfield 21, 3) := by decide +kernel
theorem dX3_judge_76 : decode cX3_judge 76 = .ok (.if_icmp .ge 21, 3) := by decide +kernel
theorem dX3_judge_79 : decode cX3_judge 79 = .ok (.aload_n 0, 1) := by decide +kernel
theorem dX3_judge_80 : decode cX3_judge 80 = .ok (.getfield 15, 3) := by decide +kernel
theorem dX3_judge_83 : decode cX3_judge 83 = .ok (.iload_n 3, 1) := by decide +kernel
theorem dX3_judge_84 : decode cX3_judge 84 = .ok (.aload_n 0, 1) := by decide +kernel
theorem dX3_judge_85 : decode cX3_judge 85 = .ok (.getfield 18, 3) := by decide +kernel
theorem dX3_judge_88 : decode cX3_judge 88 = .ok (.iload_n 3, 1) := by decide +kernel
theorem dX3_judge_89 : decode cX3_judge 89 = .ok (.iaload, 1) := by decide +kernel
theorem dX3_judge_90 : decode cX3_judge 90 = .ok (.iastore, 1) := by decide +kernel
theorem dX3_judge_91 : decode cX3_judge 91 = .ok (.iinc 3 1, 3) := by decide +kernel
theorem dX3_judge_94 : decode cX3_judge 94 = .ok (.goto (-23), 3) := by decide +kernel
theorem dX3_judge_97 : decode cX3_judge 97 = .ok (.aload_n 0, 1) := by decide +kernel
theorem dX3_judge_98 : decode cX3_judge 98 = .ok (.dup, 1) := by decide +kernel
theorem dX3_judge_99 : decode cX3_judge 99 = .ok (.getfield 34, 3) := by decide +kernel
theorem dX3_judge_102 : decode cX3_judge 102 = .ok (.iconst 1, 1) := by decide +kernel
theorem dX3_judge_103 : decode cX3_judge 103 = .ok (.iadd, 1) := by decide +kernel
theorem dX3_judge_104 : decode cX3_judge 104 = .ok (.putfield 34, 3) := by decide +kernel
theorem dX3_judge_107 : decode cX3_judge 107 = .ok (.return_, 1) := by decide +kernel
theorem dX4_init_0 : decode cX4_init 0 = .ok (.aload_n 0, 1) := by decide +kernel
theorem dX4_init_1 : decode cX4_init 1 = .ok (.invokespecial 3, 3) := by decide +kernel
theorem dX4_init_4 : decode cX4_init 4 = .ok (.aload_n 0, 1) := by decide +kernel
theorem dX4_init_5 : decode cX4_init 5 = .ok (.bipush 64, 2) := by decide +kernel
theorem dX4_init_7 : decode cX4_init 7 = .ok (.newarray .int, 2) := by decide +kernel
theorem dX4_init_9 : decode cX4_init 9 = .ok (.putfield 9, 3) := by decide +kernel
theorem dX4_init_12 : decode cX4_init 12 = .ok (.aload_n 0, 1) := by decide +kernel
theorem dX4_init_13 : decode cX4_init 13 = .ok (.bipush 64, 2) := by decide +kernel
theorem dX4_init_15 : decode cX4_init 15 = .ok (.newarray .int, 2) := by decide +kernel
theorem dX4_init_17 : decode cX4_init 17 = .ok (.putfield 15, 3) := by decide +kernel
theorem dX4_init_20 : decode cX4_init 20 = .ok (.aload_n 0, 1) := by decide +kernel
theorem dX4_init_21 : decode cX4_init 21 = .ok (.bipush 40, 2) := by decide +kernel
theorem dX4_init_23 : decode cX4_init 23 = .ok (.newarray .int, 2) := by decide +kernel
theorem dX4_init_25 : decode cX4_init 25 = .ok (.putfield 18, 3) := by decide +kernel
theorem dX4_init_28 : decode cX4_init 28 = .ok (.aload_n 0, 1) := by decide +kernel
theorem dX4_init_29 : decode cX4_init 29 = .ok (.bipush 64, 2) := by decide +kernel
theorem dX4_init_31 : decode cX4_init 31 = .ok (.newarray .int, 2) := by decide +kernel
theorem dX4_init_33 : decode cX4_init 33 = .ok (.putfield 21, 3) := by decide +kernel
theorem dX4_init_36 : decode cX4_init 36 = .ok (.aload_n 0, 1) := by decide +kernel
theorem dX4_init_37 : decode cX4_init 37 = .ok (.bipush 64, 2) := by decide +kernel
theorem dX4_init_39 : decode cX4_init 39 = .ok (.newarray .long, 2) := by decide +kernel
theorem dX4_init_41 : decode cX4_init 41 = .ok (.putfield 24, 3) := by decide +kernel
theorem dX4_init_44 : decode cX4_init 44 = .ok (.return_, 1) := by decide +kernel
set_option maxRecDepth 20000 in
theorem ggX4_build_X2_oldnessAs : GoodIn wsX4_build wsX2_oldnessAs := goodIn_r _ [14, 15, 16, 17, 13, 18, 45, 46, 47, 48, 49, 50] (by decide +kernel) (by decide +kernel)
set_option maxRecDepth 20000 in
theorem gX4_build_X2_oldnessAs : GoodIn wsX4_build (wsV RX4 41 RX2 yX2_oldnessAs wsX2_oldnessAs) := goodIn_app (goodIn_of _ (by decide +kernel)) ggX4_build_X2_oldnessAs
set_option maxRecDepth 20000 in
theorem ggX4_build_X2_oldness : GoodIn wsX4_build wsX2_oldness := goodIn_r _ [22, 23, 24, 25, 11, 12, 13, 14, 15, 16, 17, 18, 45, 46, 47, 48, 49, 50] (by decide +kernel) (by decide +kernel)
set_option maxRecDepth 20000 in
theorem gX4_build_X2_oldness : GoodIn wsX4_build (wsV RX4 45 RX2 yX2_oldness wsX2_oldness) := goodIn_app (goodIn_of _ (by decide +kernel)) ggX4_build_X2_oldness
set_option maxRecDepth 20000 in
theorem ggX4_build_X4_keyBy : GoodIn wsX4_build wsX4_keyBy := goodIn_r _ [29] (by decide +kernel) (by decide +kernel)
set_option maxRecDepth 20000 in
theorem gX4_build_X4_keyBy : GoodIn wsX4_build (va_wsS RX4 55 yX4_keyBy wsX4_keyBy) := goodIn_app (goodIn_of _ (by decide +kernel)) ggX4_build_X4_keyBy
set_option maxRecDepth 20000 in
theorem ggX4_build_X4_insert : GoodIn wsX4_build wsX4_insert := goodIn_r _ [33, 1, 34, 6, 35, 36, 37, 38, 39, 40] (by decide +kernel) (by decide +kernel)
set_option maxRecDepth 20000 in
theorem gX4_build_X4_insert : GoodIn wsX4_build (wsV RX4 58 RX4 yX4_insert wsX4_insert) := goodIn_app (goodIn_of _ (by decide +kernel)) ggX4_build_X4_insert
theorem dX4_build_0 : decode cX4_build 0 = .ok (.aload_n 0, 1) := by decide +kernel
theorem dX4_build_1 : decode cX4_build 1 = .ok (.iconst 0, 1) := by decide +kernel
theorem dX4_build_2 : decode cX4_build 2 = .ok (.putfield 28, 3) := by decide +kernel
theorem dX4_build_5 : decode cX4_build 5 = .ok (.iconst 0, 1) := by decide +kernel
theorem dX4_build_6 : decode cX4_build 6 = .ok (.istore 4, 2) := by decide +kernel
theorem dX4_build_8 : decode cX4_build 8 = .ok (.iload 4, 2) := by decide +kernel
theorem dX4_build_10 : decode cX4_build 10 = .ok (.aload_n 1, 1) := by decide +kernel
theorem dX4_build_11 : decode cX4_build 11 = .ok (.getfield 32, 3) := by decide +kernel
theorem dX4_build_14 : decode cX4_build 14 = .ok (.getfield 38, 3) := by decide +kernel
theorem dX4_build_17 : decode cX4_build 17 = .ok (.if_icmp .ge 65, 3) := by decide +kernel
theorem dX4_build_20 : decode cX4_build 20 = .ok (.iload 4, 2) := by decide +kernel
theorem dX4_build_22 : decode cX4_build 22 = .ok (.iload_n 2, 1) := by decide +kernel
theorem dX4_build_23 : decode cX4_build 23 = .ok (.if_icmp .ne 17, 3) := by decide +kernel
theorem dX4_build_26 : decode cX4_build 26 = .ok (.aload_n 1, 1) := by decide +kernel
theorem dX4_build_27 : decode cX4_build 27 = .ok (.getfield 32, 3) := by decide +kernel
theorem dX4_build_30 : decode cX4_build 30 = .ok (.iload 4, 2) := by decide +kernel
theorem dX4_build_32 : decode cX4_build 32 = .ok (.iconst 1, 1) := by decide +kernel
theorem dX4_build_33 : decode cX4_build 33 = .ok (.iload_n 3, 1) := by decide +kernel
theorem dX4_build_34 : decode cX4_build 34 = .ok (.invokevirtual 41, 3) := by decide +kernel
theorem dX4_build_37 : decode cX4_build 37 = .ok (.goto 12, 3) := by decide +kernel
theorem dX4_build_40 : decode cX4_build 40 = .ok (.aload_n 1, 1) := by decide +kernel
theorem dX4_build_41 : decode cX4_build 41 = .ok (.getfield 32, 3) := by decide +kernel
theorem dX4_build_44 : decode cX4_build 44 = .ok (.iload 4, 2) := by decide +kernel
theorem dX4_build_46 : decode cX4_build 46 = .ok (.invokevirtual 45, 3) := by decide +kernel
theorem dX4_build_49 : decode cX4_build 49 = .ok (.istore 5, 2) := by decide +kernel
theorem dX4_build_51 : decode cX4_build 51 = .ok (.aload_n 0, 1) := by decide +kernel
theorem dX4_build_52 : decode cX4_build 52 = .ok (.iload 4, 2) := by decide +kernel
theorem dX4_build_54 : decode cX4_build 54 = .ok (.aload_n 1, 1) := by decide +kernel
theorem dX4_build_55 : decode cX4_build 55 = .ok (.getfield 49, 3) := by decide +kernel
theorem dX4_build_58 : decode cX4_build 58 = .ok (.aload_n 1, 1) := by decide +kernel
theorem dX4_build_59 : decode cX4_build 59 = .ok (.getfield 32, 3) := by decide +kernel
theorem dX4_build_62 : decode cX4_build 62 = .ok (.getfield 52, 3) := by decide +kernel
theorem dX4_build_65 : decode cX4_build 65 = .ok (.iload 4, 2) := by decide +kernel
theorem dX4_build_67 : decode cX4_build 67 = .ok (.iaload, 1) := by decide +kernel
theorem dX4_build_68 : decode cX4_build 68 = .ok (.iload 5, 2) := by decide +kernel
theorem dX4_build_70 : decode cX4_build 70 = .ok (.invokestatic 55, 3) := by decide +kernel
theorem dX4_build_73 : decode cX4_build 73 = .ok (.invokevirtual 58, 3) := by decide +kernel
theorem dX4_build_76 : decode cX4_build 76 = .ok (.iinc 4 1, 3) := by decide +kernel
theorem dX4_build_79 : decode cX4_build 79 = .ok (.goto (-71), 3) := by decide +kernel
theorem dX4_build_82 : decode cX4_build 82 = .ok (.iconst 0, 1) := by decide +kernel
theorem dX4_build_83 : decode cX4_build 83 = .ok (.istore 4, 2) := by decide +kernel
theorem dX4_build_85 : decode cX4_build 85 = .ok (.iload 4, 2) := by decide +kernel
theorem dX4_build_87 : decode cX4_build 87 = .ok (.aload_n 0, 1) := by decide +kernel
theorem dX4_build_88 : decode cX4_build 88 = .ok (.getfield 28, 3) := by decide +kernel
theorem dX4_build_91 : decode cX4_build 91 = .ok (.if_icmp .ge 113, 3) := by decide +kernel
theorem dX4_build_94 : decode cX4_build 94 = .ok (.aload_n 0, 1) := by decide +kernel
theorem dX4_build_95 : decode cX4_build 95 = .ok (.getfield 9, 3) := by decide +kernel
theorem dX4_build_98 : decode cX4_build 98 = .ok (.iload 4, 2) := by decide +kernel
theorem dX4_build_100 : decode cX4_build 100 = .ok (.iaload, 1) := by decide +kernel
theorem dX4_build_101 : decode cX4_build 101 = .ok (.istore 5, 2) := by decide +kernel
theorem dX4_build_103 : decode cX4_build 103 = .ok (.aload_n 0, 1) := by decide +kernel
theorem dX4_build_104 : decode cX4_build 104 = .ok (.getfield 18, 3) := by decide +kernel
theorem dX4_build_107 : decode cX4_build 107 = .ok (.iload 5, 2) := by decide +kernel
theorem dX4_build_109 : decode cX4_build 109 = .ok (.iload 4, 2) := by decide +kernel
theorem dX4_build_111 : decode cX4_build 111 = .ok (.iastore, 1) := by decide +kernel
theorem dX4_build_112 : decode cX4_build 112 = .ok (.aload_n 0, 1) := by decide +kernel
theorem dX4_build_113 : decode cX4_build 113 = .ok (.getfield 15, 3) := by decide +kernel
theorem dX4_build_116 : decode cX4_build 116 = .ok (.iload 4, 2) := by decide +kernel
theorem dX4_build_118 : decode cX4_build 118 = .ok (.aload_n 1, 1) := by decide +kernel
theorem dX4_build_119 : decode cX4_build 119 = .ok (.getfield 32, 3) := by decide +kernel
theorem dX4_build_122 : decode cX4_build 122 = .ok (.getfield 52, 3) := by decide +kernel
theorem dX4_build_125 : decode cX4_build 125 = .ok (.iload 5, 2) := by decide +kernel
theorem dX4_build_127 : decode cX4_build 127 = .ok (.iaload, 1) := by decide +kernel
theorem dX4_build_128 : decode cX4_build 128 = .ok (.iastore, 1) := by decide +kernel
theorem dX4_build_129 : decode cX4_build 129 = .ok (.aload_n 1, 1) := by decide +kernel
theorem dX4_build_130 : decode cX4_build 130 = .ok (.getfield 49, 3) := by decide +kernel
theorem dX4_build_133 : decode cX4_build 133 = .ok (.iconst 2, 1) := by decide +kernel
theorem dX4_build_134 : decode cX4_build 134 = .ok (.if_icmp .lt 31, 3) := by decide +kernel
theorem dX4_build_137 : decode cX4_build 137 = .ok (.iload 4, 2) := by decide +kernel
theorem dX4_build_139 : decode cX4_build 139 = .ok (.ifCond .le 26, 3) := by decide +kernel
theorem dX4_build_142 : decode cX4_build 142 = .ok (.aload_n 0, 1) := by decide +kernel
theorem dX4_build_143 : decode cX4_build 143 = .ok (.getfield 15, 3) := by decide +kernel
theorem dX4_build_146 : decode cX4_build 146 = .ok (.iload 4, 2) := by decide +kernel
theorem dX4_build_148 : decode cX4_build 148 = .ok (.iconst 1, 1) := by decide +kernel
theorem dX4_build_149 : decode cX4_build 149 = .ok (.isub, 1) := by decide +kernel
theorem dX4_build_150 : decode cX4_build 150 = .ok (.iaload, 1) := by decide +kernel
theorem dX4_build_151 : decode cX4_build 151 = .ok (.aload_n 0, 1) := by decide +kernel
theorem dX4_build_152 : decode cX4_build 152 = .ok (.getfield 15, 3) := by decide +kernel
theorem dX4_build_155 : decode cX4_build 155 = .ok (.iload 4, 2) := by decide +kernel
theorem dX4_build_157 : decode cX4_build 157 = .ok (.iaload, 1) := by decide +kernel
theorem dX4_build_158 : decode cX4_build 158 = .ok (.if_icmp .ne 7, 3) := by decide +kernel
theorem dX4_build_161 : decode cX4_build 161 = .ok (.iconst 1, 1) := by decide +kernel
theorem dX4_build_162 : decode cX4_build 162 = .ok (.goto 4, 3) := by decide +kernel
theorem dX4_build_165 : decode cX4_build 165 = .ok (.iconst 0, 1) := by decide +kernel
theorem dX4_build_166 : decode cX4_build 166 = .ok (.istore 6, 2) := by decide +kernel
theorem dX4_build_168 : decode cX4_build 168 = .ok (.aload_n 0, 1) := by decide +kernel
theorem dX4_build_169 : decode cX4_build 169 = .ok (.getfield 24, 3) := by decide +kernel
theorem dX4_build_172 : decode cX4_build 172 = .ok (.iload 4, 2) := by decide +kernel
theorem dX4_build_174 : decode cX4_build 174 = .ok (.lconst 1, 1) := by decide +kernel
theorem dX4_build_175 : decode cX4_build 175 = .ok (.iload 4, 2) := by decide +kernel
theorem dX4_build_177 : decode cX4_build 177 = .ok (.lshl, 1) := by decide +kernel
theorem dX4_build_178 : decode cX4_build 178 = .ok (.iload 6, 2) := by decide +kernel
theorem dX4_build_180 : decode cX4_build 180 = .ok (.ifCond .eq 15, 3) := by decide +kernel
theorem dX4_build_183 : decode cX4_build 183 = .ok (.aload_n 0, 1) := by decide +kernel
theorem dX4_build_184 : decode cX4_build 184 = .ok (.getfield 24, 3) := by decide +kernel
theorem dX4_build_187 : decode cX4_build 187 = .ok (.iload 4, 2) := by decide +kernel
theorem dX4_build_189 : decode cX4_build 189 = .ok (.iconst 1, 1) := by decide +kernel
theorem dX4_build_190 : decode cX4_build 190 = .ok (.isub, 1) := by decide +kernel
theorem dX4_build_191 : decode cX4_build 191 = .ok (.laload, 1) := by decide +kernel
theorem dX4_build_192 : decode cX4_build 192 = .ok (.goto 4, 3) := by decide +kernel
theorem dX4_build_195 : decode cX4_build 195 = .ok (.lconst 0, 1) := by decide +kernel
theorem dX4_build_196 : decode cX4_build 196 = .ok (.lor, 1) := by decide +kernel
theorem dX4_build_197 : decode cX4_build 197 = .ok (.lastore, 1) := by decide +kernel
theorem dX4_build_198 : decode cX4_build 198 = .ok (.iinc 4 1, 3) := by decide +kernel
theorem dX4_build_201 : decode cX4_build 201 = .ok (.goto (-116), 3) := by decide +kernel
theorem dX4_build_204 : decode cX4_build 204 = .ok (.return_, 1) := by decide +kernel
theorem dX4_keyBy_0 : decode cX4_keyBy 0 = .ok (.sipush 6528, 3) := by decide +kernel
theorem dX4_keyBy_3 : decode cX4_keyBy 3 = .ok (.istore_n 3, 1) := by decide +kernel
theorem dX4_keyBy_4 : decode cX4_keyBy 4 = .ok (.iload_n 0, 1) := by decide +kernel
theorem dX4_keyBy_5 : decode cX4_keyBy 5 = .ok (.tableswitch 38 0 2 #[27, 29, 32], 27) := by decide +kernel
theorem dX4_keyBy_32 : decode cX4_keyBy 32 = .ok (.iload_n 2, 1) := by decide +kernel
theorem dX4_keyBy_33 : decode cX4_keyBy 33 = .ok (.ireturn, 1) := by decide +kernel
theorem dX4_keyBy_34 : decode cX4_keyBy 34 = .ok (.iload_n 2, 1) := by decide +kernel
theorem dX4_keyBy_35 : decode cX4_keyBy 35 = .ok (.ineg, 1) := by decide +kernel
theorem dX4_keyBy_36 : decode cX4_keyBy 36 = .ok (.ireturn, 1) := by decide +kernel
theorem dX4_keyBy_37 : decode cX4_keyBy 37 = .ok (.iload_n 1, 1) := by decide +kernel
theorem dX4_keyBy_38 : decode cX4_keyBy 38 = .ok (.iload_n 3, 1) := by decide +kernel
theorem dX4_keyBy_39 : decode cX4_keyBy 39 = .ok (.imul, 1) := by decide +kernel
theorem dX4_keyBy_40 : decode cX4_keyBy 40 = .ok (.iload_n 2, 1) := by decide +kernel
theorem dX4_keyBy_41 : decode cX4_keyBy 41 = .ok (.iadd, 1) := by decide +kernel
theorem dX4_keyBy_42 : decode cX4_keyBy 42 = .ok (.ireturn, 1) := by decide +kernel
theorem dX4_keyBy_43 : decode cX4_keyBy 43 = .ok (.iload_n 1, 1) := by decide +kernel
theorem dX4_keyBy_44 : decode cX4_keyBy 44 = .ok (.ineg, 1) := by decide +kernel
theorem dX4_keyBy_45 : decode cX4_keyBy 45 = .ok (.iload_n 3, 1) := by decide +kernel
theorem dX4_keyBy_46 : decode cX4_keyBy 46 = .ok (.imul, 1) := by decide +kernel
theorem dX4_keyBy_47 : decode cX4_keyBy 47 = .ok (.iload_n 2, 1) := by decide +kernel
theorem dX4_keyBy_48 : decode cX4_keyBy 48 = .ok (.iadd, 1) := by decide +kernel
theorem dX4_keyBy_49 : decode cX4_keyBy 49 = .ok (.ireturn, 1) := by decide +kernel
theorem dX4_insert_0 : decode cX4_insert 0 = .ok (.aload_n 0, 1) := by decide +kernel
theorem dX4_insert_1 : decode cX4_insert 1 = .ok (.getfield 28, 3) := by decide +kernel
theorem dX4_insert_4 : decode cX4_insert 4 = .ok (.istore_n 3, 1) := by decide +kernel
theorem dX4_insert_5 : decode cX4_insert 5 = .ok (.iload_n 3, 1) := by decide +kernel
theorem dX4_insert_6 : decode cX4_insert 6 = .ok (.ifCond .le 49, 3) := by decide +kernel
theorem dX4_insert_9 : decode cX4_insert 9 = .ok (.aload_n 0, 1) := by decide +kernel
theorem dX4_insert_10 : decode cX4_insert 10 = .ok (.getfield 21, 3) := by decide +kernel
theorem dX4_insert_13 : decode cX4_insert 13 = .ok (.iload_n 3, 1) := by decide +kernel
theorem dX4_insert_14 : decode cX4_insert 14 = .ok (.iconst 1, 1) := by decide +kernel
theorem dX4_insert_15 : decode cX4_insert 15 = .ok (.isub, 1) := by decide +kernel
theorem dX4_insert_16 : decode cX4_insert 16 = .ok (.iaload, 1) := by decide +kernel
theorem dX4_insert_17 : decode cX4_insert 17 = .ok (.iload_n 2, 1) := by decide +kernel
theorem dX4_insert_18 : decode cX4_insert 18 = .ok (.if_icmp .le 37, 3) := by decide +kernel
theorem dX4_insert_21 : decode cX4_insert 21 = .ok (.aload_n 0, 1) := by decide +kernel
theorem dX4_insert_22 : decode cX4_insert 22 = .ok (.getfield 21, 3) := by decide +kernel
theorem dX4_insert_25 : decode cX4_insert 25 = .ok (.iload_n 3, 1) := by decide +kernel
theorem dX4_insert_26 : decode cX4_insert 26 = .ok (.aload_n 0, 1) := by decide +kernel
theorem dX4_insert_27 : decode cX4_insert 27 = .ok (.getfield 21, 3) := by decide +kernel
theorem dX4_insert_30 : decode cX4_insert 30 = .ok (.iload_n 3, 1) := by decide +kernel
theorem dX4_insert_31 : decode cX4_insert 31 = .ok (.iconst 1, 1) := by decide +kernel
theorem dX4_insert_32 : decode cX4_insert 32 = .ok (.isub, 1) := by decide +kernel
theorem dX4_insert_33 : decode cX4_insert 33 = .ok (.iaload, 1) := by decide +kernel
theorem dX4_insert_34 : decode cX4_insert 34 = .ok (.iastore, 1) := by decide +kernel
theorem dX4_insert_35 : decode cX4_insert 35 = .ok (.aload_n 0, 1) := by decide +kernel
theorem dX4_insert_36 : decode cX4_insert 36 = .ok (.getfield 9, 3) := by decide +kernel
theorem dX4_insert_39 : decode cX4_insert 39 = .ok (.iload_n 3, 1) := by decide +kernel
theorem dX4_insert_40 : decode cX4_insert 40 = .ok (.aload_n 0, 1) := by decide +kernel
theorem dX4_insert_41 : decode cX4_insert 41 = .ok (.getfield 9, 3) := by decide +kernel
theorem dX4_insert_44 : decode cX4_insert 44 = .ok (.iload_n 3, 1) := by decide +kernel
theorem dX4_insert_45 : decode cX4_insert 45 = .ok (.iconst 1, 1) := by decide +kernel
theorem dX4_insert_46 : decode cX4_insert 46 = .ok (.isub, 1) := by decide +kernel
theorem dX4_insert_47 : decode cX4_insert 47 = .ok (.iaload, 1) := by decide +kernel
theorem dX4_insert_48 : decode cX4_insert 48 = .ok (.iastore, 1) := by decide +kernel
theorem dX4_insert_49 : decode cX4_insert 49 = .ok (.iinc 3 (-1), 3) := by decide +kernel
theorem dX4_insert_52 : decode cX4_insert 52 = .ok (.goto (-47), 3) := by decide +kernel
theorem dX4_insert_55 : decode cX4_insert 55 = .ok (.aload_n 0, 1) := by decide +kernel
theorem dX4_insert_56 : decode cX4_insert 56 = .ok (.getfield 21, 3) := by decide +kernel
theorem dX4_insert_59 : decode cX4_insert 59 = .ok (.iload_n 3, 1) := by decide +kernel
theorem dX4_insert_60 : decode cX4_insert 60 = .ok (.iload_n 2, 1) := by decide +kernel
theorem dX4_insert_61 : decode cX4_insert 61 = .ok (.iastore, 1) := by decide +kernel
theorem dX4_insert_62 : decode cX4_insert 62 = .ok (.aload_n 0, 1) := by decide +kernel
theorem dX4_insert_63 : decode cX4_insert 63 = .ok (.getfield 9, 3) := by decide +kernel
theorem dX4_insert_66 : decode cX4_insert 66 = .ok (.iload_n 3, 1) := by decide +kernel
theorem dX4_insert_67 : decode cX4_insert 67 = .ok (.iload_n 1, 1) := by decide +kernel
theorem dX4_insert_68 : decode cX4_insert 68 = .ok (.iastore, 1) := by decide +kernel
theorem dX4_insert_69 : decode cX4_insert 69 = .ok (.aload_n 0, 1) := by decide +kernel
theorem dX4_insert_70 : decode cX4_insert 70 = .ok (.dup, 1) := by decide +kernel
theorem dX4_insert_71 : decode cX4_insert 71 = .ok (.getfield 28, 3) := by decide +kernel
theorem dX4_insert_74 : decode cX4_insert 74 = .ok (.iconst 1, 1) := by decide +kernel
theorem dX4_insert_75 : decode cX4_insert 75 = .ok (.iadd, 1) := by decide +kernel
theorem dX4_insert_76 : decode cX4_insert 76 = .ok (.putfield 28, 3) := by decide +kernel
theorem dX4_insert_79 : decode cX4_insert 79 = .ok (.return_, 1) := by decide +kernel
set_option maxRecDepth 20000 in
theorem ggX4_nextPaid_J13_numberOfTrailingZeros_95d88 : GoodIn wsX4_nextPaid wsJ13_numberOfTrailingZeros_95d88 := goodIn_r _ [4, 5, 6, 7, 8, 9] (by decide +kernel) (by decide +kernel)
set_option maxRecDepth 20000 in
theorem gX4_nextPaid_J13_numberOfTrailingZeros_95d88 : GoodIn wsX4_nextPaid (va_wsS RX4 62 yJ13_numberOfTrailingZeros_95d88 wsJ13_numberOfTrailingZeros_95d88) := goodIn_app (goodIn_of _ (by decide +kernel)) ggX4_nextPaid_J13_numberOfTrailingZeros_95d88
theorem dX4_nextPaid_0 : decode cX4_nextPaid 0 = .ok (.lload_n 1, 1) := by decide +kernel
theorem dX4_nextPaid_1 : decode cX4_nextPaid 1 = .ok (.invokestatic 62, 3) := by decide +kernel
theorem dX4_nextPaid_4 : decode cX4_nextPaid 4 = .ok (.bipush 63, 2) := by decide +kernel
theorem dX4_nextPaid_6 : decode cX4_nextPaid 6 = .ok (.iand, 1) := by decide +kernel
theorem dX4_nextPaid_7 : decode cX4_nextPaid 7 = .ok (.ireturn, 1) := by decide +kernel
set_option maxRecDepth 20000 in
theorem ggX4_nextBack_J13_numberOfLeadingZeros_95d88 : GoodIn wsX4_nextBack wsJ13_numberOfLeadingZeros_95d88 := goodIn_r _ [5, 6, 7, 8, 9, 10] (by decide +kernel) (by decide +kernel)
set_option maxRecDepth 20000 in
theorem gX4_nextBack_J13_numberOfLeadingZeros_95d88 : GoodIn wsX4_nextBack (va_wsS RX4 68 yJ13_numberOfLeadingZeros_95d88 wsJ13_numberOfLeadingZeros_95d88) := goodIn_app (goodIn_of _ (by decide +kernel)) ggX4_nextBack_J13_numberOfLeadingZeros_95d88
set_option maxRecDepth 20000 in
theorem ggX4_nextBack_J13_numberOfTrailingZeros_95d88 : GoodIn wsX4_nextBack wsJ13_numberOfTrailingZeros_95d88 := goodIn_r _ [13, 14, 15, 8, 16, 10] (by decide +kernel) (by decide +kernel)
set_option maxRecDepth 20000 in
theorem gX4_nextBack_J13_numberOfTrailingZeros_95d88 : GoodIn wsX4_nextBack (va_wsS RX4 62 yJ13_numberOfTrailingZeros_95d88 wsJ13_numberOfTrailingZeros_95d88) := goodIn_app (goodIn_of _ (by decide +kernel)) ggX4_nextBack_J13_numberOfTrailingZeros_95d88
theorem dX4_nextBack_0 : decode cX4_nextBack 0 = .ok (.bipush 63, 2) := by decide +kernel
theorem dX4_nextBack_2 : decode cX4_nextBack 2 = .ok (.lload_n 1, 1) := by decide +kernel
theorem dX4_nextBack_3 : decode cX4_nextBack 3 = .ok (.invokestatic 68, 3) := by decide +kernel
theorem dX4_nextBack_6 : decode cX4_nextBack 6 = .ok (.isub, 1) := by decide +kernel
theorem dX4_nextBack_7 : decode cX4_nextBack 7 = .ok (.bipush 63, 2) := by decide +kernel
theorem dX4_nextBack_9 : decode cX4_nextBack 9 = .ok (.iand, 1) := by decide +kernel
theorem dX4_nextBack_10 : decode cX4_nextBack 10 = .ok (.istore_n 3, 1) := by decide +kernel
theorem dX4_nextBack_11 : decode cX4_nextBack 11 = .ok (.lload_n 1, 1) := by decide +kernel
theorem dX4_nextBack_12 : decode cX4_nextBack 12 = .ok (.aload_n 0, 1) := by decide +kernel
theorem dX4_nextBack_13 : decode cX4_nextBack 13 = .ok (.getfield 24, 3) := by decide +kernel
theorem dX4_nextBack_16 : decode cX4_nextBack 16 = .ok (.iload_n 3, 1) := by decide +kernel
theorem dX4_nextBack_17 : decode cX4_nextBack 17 = .ok (.laload, 1) := by decide +kernel
theorem dX4_nextBack_18 : decode cX4_nextBack 18 = .ok (.land, 1) := by decide +kernel
theorem dX4_nextBack_19 : decode cX4_nextBack 19 = .ok (.invokestatic 62, 3) := by decide +kernel
theorem dX4_nextBack_22 : decode cX4_nextBack 22 = .ok (.bipush 63, 2) := by decide +kernel
theorem dX4_nextBack_24 : decode cX4_nextBack 24 = .ok (.iand, 1) := by decide +kernel
theorem dX4_nextBack_25 : decode cX4_nextBack 25 = .ok (.ireturn, 1) := by decide +kernel
theorem dX4_worthOf_0 : decode cX4_worthOf 0 = .ok (.iconst 0, 1) := by decide +kernel
theorem dX4_worthOf_1 : decode cX4_worthOf 1 = .ok (.istore_n 3, 1) := by decide +kernel
theorem dX4_worthOf_2 : decode cX4_worthOf 2 = .ok (.iconst 0, 1) := by decide +kernel
theorem dX4_worthOf_3 : decode cX4_worthOf 3 = .ok (.istore 4, 2) := by decide +kernel
theorem dX4_worthOf_5 : decode cX4_worthOf 5 = .ok (.iload 4, 2) := by decide +kernel
theorem dX4_worthOf_7 : decode cX4_worthOf 7 = .ok (.aload_n 0, 1) := by decide +kernel
theorem dX4_worthOf_8 : decode cX4_worthOf 8 = .ok (.getfield 28, 3) := by decide +kernel
theorem dX4_worthOf_11 : decode cX4_worthOf 11 = .ok (.if_icmp .ge 30, 3) := by decide +kernel
theorem dX4_worthOf_14 : decode cX4_worthOf 14 = .ok (.lload_n 1, 1) := by decide +kernel
theorem dX4_worthOf_15 : decode cX4_worthOf 15 = .ok (.iload 4, 2) := by decide +kernel
theorem dX4_worthOf_17 : decode cX4_worthOf 17 = .ok (.lshr, 1) := by decide +kernel
theorem dX4_worthOf_18 : decode cX4_worthOf 18 = .ok (.lconst 1, 1) := by decide +kernel
theorem dX4_worthOf_19 : decode cX4_worthOf 19 = .ok (.land, 1) := by decide +kernel
theorem dX4_worthOf_20 : decode cX4_worthOf 20 = .ok (.lconst 0, 1) := by decide +kernel
theorem dX4_worthOf_21 : decode cX4_worthOf 21 = .ok (.lcmp, 1) := by decide +kernel
theorem dX4_worthOf_22 : decode cX4_worthOf 22 = .ok (.ifCond .eq 13, 3) := by decide +kernel
theorem dX4_worthOf_25 : decode cX4_worthOf 25 = .ok (.iload_n 3, 1) := by decide +kernel
theorem dX4_worthOf_26 : decode cX4_worthOf 26 = .ok (.aload_n 0, 1) := by decide +kernel
theorem dX4_worthOf_27 : decode cX4_worthOf 27 = .ok (.getfield 15, 3) := by decide +kernel
theorem dX4_worthOf_30 : decode cX4_worthOf 30 = .ok (.iload 4, 2) := by decide +kernel
theorem dX4_worthOf_32 : decode cX4_worthOf 32 = .ok (.iaload, 1) := by decide +kernel
theorem dX4_worthOf_33 : decode cX4_worthOf 33 = .ok (.iadd, 1) := by decide +kernel
theorem dX4_worthOf_34 : decode cX4_worthOf 34 = .ok (.istore_n 3, 1) := by decide +kernel
theorem dX4_worthOf_35 : decode cX4_worthOf 35 = .ok (.iinc 4 1, 3) := by decide +kernel
theorem dX4_worthOf_38 : decode cX4_worthOf 38 = .ok (.goto (-33), 3) := by decide +kernel
theorem dX4_worthOf_41 : decode cX4_worthOf 41 = .ok (.iload_n 3, 1) := by decide +kernel
theorem dX4_worthOf_42 : decode cX4_worthOf 42 = .ok (.ireturn, 1) := by decide +kernel
theorem dX4_numbersOf_0 : decode cX4_numbersOf 0 = .ok (.lconst 0, 1) := by decide +kernel
theorem dX4_numbersOf_1 : decode cX4_numbersOf 1 = .ok (.lstore_n 3, 1) := by decide +kernel
theorem dX4_numbersOf_2 : decode cX4_numbersOf 2 = .ok (.iconst 0, 1) := by decide +kernel
theorem dX4_numbersOf_3 : decode cX4_numbersOf 3 = .ok (.istore 5, 2) := by decide +kernel
theorem dX4_numbersOf_5 : decode cX4_numbersOf 5 = .ok (.iload 5, 2) := by decide +kernel
theorem dX4_numbersOf_7 : decode cX4_numbersOf 7 = .ok (.aload_n 0, 1) := by decide +kernel
theorem dX4_numbersOf_8 : decode cX4_numbersOf 8 = .ok (.getfield 28, 3) := by decide +kernel
theorem dX4_numbersOf_11 : decode cX4_numbersOf 11 = .ok (.if_icmp .ge 32, 3) := by decide +kernel
theorem dX4_numbersOf_14 : decode cX4_numbersOf 14 = .ok (.lload_n 1, 1) := by decide +kernel
theorem dX4_numbersOf_15 : decode cX4_numbersOf 15 = .ok (.iload 5, 2) := by decide +kernel
theorem dX4_numbersOf_17 : decode cX4_numbersOf 17 = .ok (.lshr, 1) := by decide +kernel
theorem dX4_numbersOf_18 : decode cX4_numbersOf 18 = .ok (.lconst 1, 1) := by decide +kernel
theorem dX4_numbersOf_19 : decode cX4_numbersOf 19 = .ok (.land, 1) := by decide +kernel
theorem dX4_numbersOf_20 : decode cX4_numbersOf 20 = .ok (.lconst 0, 1) := by decide +kernel
theorem dX4_numbersOf_21 : decode cX4_numbersOf 21 = .ok (.lcmp, 1) := by decide +kernel
theorem dX4_numbersOf_22 : decode cX4_numbersOf 22 = .ok (.ifCond .eq 15, 3) := by decide +kernel
theorem dX4_numbersOf_25 : decode cX4_numbersOf 25 = .ok (.lload_n 3, 1) := by decide +kernel
theorem dX4_numbersOf_26 : decode cX4_numbersOf 26 = .ok (.lconst 1, 1) := by decide +kernel
theorem dX4_numbersOf_27 : decode cX4_numbersOf 27 = .ok (.aload_n 0, 1) := by decide +kernel
theorem dX4_numbersOf_28 : decode cX4_numbersOf 28 = .ok (.getfield 9, 3) := by decide +kernel
theorem dX4_numbersOf_31 : decode cX4_numbersOf 31 = .ok (.iload 5, 2) := by decide +kernel
theorem dX4_numbersOf_33 : decode cX4_numbersOf 33 = .ok (.iaload, 1) := by decide +kernel
theorem dX4_numbersOf_34 : decode cX4_numbersOf 34 = .ok (.lshl, 1) := by decide +kernel
theorem dX4_numbersOf_35 : decode cX4_numbersOf 35 = .ok (.lor, 1) := by decide +kernel
theorem dX4_numbersOf_36 : decode cX4_numbersOf 36 = .ok (.lstore_n 3, 1) := by decide +kernel
theorem dX4_numbersOf_37 : decode cX4_numbersOf 37 = .ok (.iinc 5 1, 3) := by decide +kernel
theorem dX4_numbersOf_40 : decode cX4_numbersOf 40 = .ok (.goto (-35), 3) := by decide +kernel
theorem dX4_numbersOf_43 : decode cX4_numbersOf 43 = .ok (.lload_n 3, 1) := by decide +kernel
theorem dX4_numbersOf_44 : decode cX4_numbersOf 44 = .ok (.lreturn, 1) := by decide +kernel
theorem dX5_init_0 : decode cX5_init 0 = .ok (.aload_n 0, 1) := by decide +kernel
theorem dX5_init_1 : decode cX5_init 1 = .ok (.invokespecial 3, 3) := by decide +kernel
theorem dX5_init_4 : decode cX5_init 4 = .ok (.aload_n 0, 1) := by decide +kernel
theorem dX5_init_5 : decode cX5_init 5 = .ok (.iconst 4, 1) := by decide +kernel
theorem dX5_init_6 : decode cX5_init 6 = .ok (.newarray .int, 2) := by decide +kernel
theorem dX5_init_8 : decode cX5_init 8 = .ok (.putfield 9, 3) := by decide +kernel
theorem dX5_init_11 : decode cX5_init 11 = .ok (.aload_n 0, 1) := by decide +kernel
theorem dX5_init_12 : decode cX5_init 12 = .ok (.iconst 4, 1) := by decide +kernel
theorem dX5_init_13 : decode cX5_init 13 = .ok (.newarray .int, 2) := by decide +kernel
theorem dX5_init_15 : decode cX5_init 15 = .ok (.putfield 15, 3) := by decide +kernel
theorem dX5_init_18 : decode cX5_init 18 = .ok (.aload_n 0, 1) := by decide +kernel
theorem dX5_init_19 : decode cX5_init 19 = .ok (.bipush 96, 2) := by decide +kernel
theorem dX5_init_21 : decode cX5_init 21 = .ok (.newarray .long, 2) := by decide +kernel
theorem dX5_init_23 : decode cX5_init 23 = .ok (.putfield 18, 3) := by decide +kernel
theorem dX5_init_26 : decode cX5_init 26 = .ok (.iconst 0, 1) := by decide +kernel
theorem dX5_init_27 : decode cX5_init 27 = .ok (.istore_n 1, 1) := by decide +kernel
theorem dX5_init_28 : decode cX5_init 28 = .ok (.iload_n 1, 1) := by decide +kernel
theorem dX5_init_29 : decode cX5_init 29 = .ok (.iconst 4, 1) := by decide +kernel
theorem dX5_init_30 : decode cX5_init 30 = .ok (.if_icmp .ge 16, 3) := by decide +kernel
theorem dX5_init_33 : decode cX5_init 33 = .ok (.aload_n 0, 1) := by decide +kernel
theorem dX5_init_34 : decode cX5_init 34 = .ok (.getfield 9, 3) := by decide +kernel
theorem dX5_init_37 : decode cX5_init 37 = .ok (.iload_n 1, 1) := by decide +kernel
theorem dX5_init_38 : decode cX5_init 38 = .ok (.iconst (-1), 1) := by decide +kernel
theorem dX5_init_39 : decode cX5_init 39 = .ok (.iastore, 1) := by decide +kernel
theorem dX5_init_40 : decode cX5_init 40 = .ok (.iinc 1 1, 3) := by decide +kernel
theorem dX5_init_43 : decode cX5_init 43 = .ok (.goto (-15), 3) := by decide +kernel
theorem dX5_init_46 : decode cX5_init 46 = .ok (.return_, 1) := by decide +kernel
theorem dX5_lay_0 : decode cX5_lay 0 = .ok (.aload_n 0, 1) := by decide +kernel
theorem dX5_lay_1 : decode cX5_lay 1 = .ok (.getfield 9, 3) := by decide +kernel
theorem dX5_lay_4 : decode cX5_lay 4 = .ok (.iload_n 1, 1) := by decide +kernel
theorem dX5_lay_5 : decode cX5_lay 5 = .ok (.iload_n 2, 1) := by decide +kernel
theorem dX5_lay_6 : decode cX5_lay 6 = .ok (.iastore, 1) := by decide +kernel
theorem dX5_lay_7 : decode cX5_lay 7 = .ok (.aload_n 0, 1) := by decide +kernel
theorem dX5_lay_8 : decode cX5_lay 8 = .ok (.getfield 15, 3) := by decide +kernel
theorem dX5_lay_11 : decode cX5_lay 11 = .ok (.iload_n 1, 1) := by decide +kernel
theorem dX5_lay_12 : decode cX5_lay 12 = .ok (.iload_n 3, 1) := by decide +kernel
theorem dX5_lay_13 : decode cX5_lay 13 = .ok (.iastore, 1) := by decide +kernel
theorem dX5_lay_14 : decode cX5_lay 14 = .ok (.iconst 0, 1) := by decide +kernel
theorem dX5_lay_15 : decode cX5_lay 15 = .ok (.istore 4, 2) := by decide +kernel
theorem dX5_lay_17 : decode cX5_lay 17 = .ok (.iload 4, 2) := by decide +kernel
theorem dX5_lay_19 : decode cX5_lay 19 = .ok (.iload_n 3, 1) := by decide +kernel
theorem dX5_lay_20 : decode cX5_lay 20 = .ok (.if_icmp .ge 22, 3) := by decide +kernel
theorem dX5_lay_23 : decode cX5_lay 23 = .ok (.aload_n 0, 1) := by decide +kernel
theorem dX5_lay_24 : decode cX5_lay 24 = .ok (.getfield 18, 3) := by decide +kernel
theorem dX5_lay_27 : decode cX5_lay 27 = .ok (.iload_n 1, 1) := by decide +kernel
theorem dX5_lay_28 : decode cX5_lay 28 = .ok (.bipush 24, 2) := by decide +kernel
theorem dX5_lay_30 : decode cX5_lay 30 = .ok (.imul, 1) := by decide +kernel
theorem dX5_lay_31 : decode cX5_lay 31 = .ok (.iload 4, 2) := by decide +kernel
theorem dX5_lay_33 : decode cX5_lay 33 = .ok (.iadd, 1) := by decide +kernel
theorem dX5_lay_34 : decode cX5_lay 34 = .ok (.lconst 0, 1) := by decide +kernel
theorem dX5_lay_35 : decode cX5_lay 35 = .ok (.lastore, 1) := by decide +kernel
theorem dX5_lay_36 : decode cX5_lay 36 = .ok (.iinc 4 1, 3) := by decide +kernel
theorem dX5_lay_39 : decode cX5_lay 39 = .ok (.goto (-22), 3) := by decide +kernel
theorem dX5_lay_42 : decode cX5_lay 42 = .ok (.return_, 1) := by decide +kernel
theorem dX5_refusal_0 : decode cX5_refusal 0 = .ok (.aload_n 0, 1) := by decide +kernel
theorem dX5_refusal_1 : decode cX5_refusal 1 = .ok (.getfield 9, 3) := by decide +kernel
theorem dX5_refusal_4 : decode cX5_refusal 4 = .ok (.iload_n 1, 1) := by decide +kernel
theorem dX5_refusal_5 : decode cX5_refusal 5 = .ok (.iaload, 1) := by decide +kernel
theorem dX5_refusal_6 : decode cX5_refusal 6 = .ok (.iconst (-1), 1) := by decide +kernel
theorem dX5_refusal_7 : decode cX5_refusal 7 = .ok (.if_icmp .ne 6, 3) := by decide +kernel
theorem dX5_refusal_10 : decode cX5_refusal 10 = .ok (.bipush (-11), 2) := by decide +kernel
theorem dX5_refusal_12 : decode cX5_refusal 12 = .ok (.ireturn, 1) := by decide +kernel
theorem dX5_refusal_13 : decode cX5_refusal 13 = .ok (.aload_n 0, 1) := by decide +kernel
theorem dX5_refusal_14 : decode cX5_refusal 14 = .ok (.getfield 9, 3) := by decide +kernel
theorem dX5_refusal_17 : decode cX5_refusal 17 = .ok (.iload_n 1, 1) := by decide +kernel
theorem dX5_refusal_18 : decode cX5_refusal 18 = .ok (.iaload, 1) := by decide +kernel
theorem dX5_refusal_19 : decode cX5_refusal 19 = .ok (.iload_n 2, 1) := by decide +kernel
theorem dX5_refusal_20 : decode cX5_refusal 20 = .ok (.if_icmp .eq 6, 3) := by decide +kernel
theorem dX5_refusal_23 : decode cX5_refusal 23 = .ok (.bipush (-12), 2) := by decide +kernel
theorem dX5_refusal_25 : decode cX5_refusal 25 = .ok (.ireturn, 1) := by decide +kernel
theorem dX5_refusal_26 : decode cX5_refusal 26 = .ok (.iload_n 3, 1) := by decide +kernel
theorem dX5_refusal_27 : decode cX5_refusal 27 = .ok (.ifCond .lt 16, 3) := by decide +kernel
theorem dX5_refusal_30 : decode cX5_refusal 30 = .ok (.iload_n 3, 1) := by decide +kernel
theorem dX5_refusal_31 : decode cX5_refusal 31 = .ok (.aload_n 0, 1) := by decide +kernel
theorem dX5_refusal_32 : decode cX5_refusal 32 = .ok (.getfield 15, 3) := by decide +kernel
theorem dX5_refusal_35 : decode cX5_refusal 35 = .ok (.iload_n 1, 1) := by decide +kernel
theorem dX5_refusal_36 : decode cX5_refusal 36 = .ok (.iaload, 1) := by decide +kernel
theorem dX5_refusal_37 : decode cX5_refusal 37 = .ok (.iload 4, 2) := by decide +kernel
theorem dX5_refusal_39 : decode cX5_refusal 39 = .ok (.isub, 1) := by decide +kernel
theorem dX5_refusal_40 : decode cX5_refusal 40 = .ok (.if_icmp .le 8, 3) := by decide +kernel
theorem dX5_refusal_43 : decode cX5_refusal 43 = .ok (.bipush (-13), 2) := by decide +kernel
theorem dX5_refusal_45 : decode cX5_refusal 45 = .ok (.goto 4, 3) := by decide +kernel
theorem dX5_refusal_48 : decode cX5_refusal 48 = .ok (.iconst 0, 1) := by decide +kernel
theorem dX5_refusal_49 : decode cX5_refusal 49 = .ok (.ireturn, 1) := by decide +kernel
theorem dX5_read_0 : decode cX5_read 0 = .ok (.aload_n 0, 1) := by decide +kernel
theorem dX5_read_1 : decode cX5_read 1 = .ok (.getfield 18, 3) := by decide +kernel
