theorem dX5_read_4 : decode cX5_read 4 = .ok (.iload_n 1, 1) := by decide +kernel
theorem dX5_read_5 : decode cX5_read 5 = .ok (.bipush 24, 2) := by decide +kernel
theorem dX5_read_7 : decode cX5_read 7 = .ok (.imul, 1) := by decide +kernel
theorem dX5_read_8 : decode cX5_read 8 = .ok (.iload_n 2, 1) := by decide +kernel
theorem dX5_read_9 : decode cX5_read 9 = .ok (.iadd, 1) := by decide +kernel
theorem dX5_read_10 : decode cX5_read 10 = .ok (.laload, 1) := by decide +kernel
theorem dX5_read_11 : decode cX5_read 11 = .ok (.lreturn, 1) := by decide +kernel
theorem dX5_write_0 : decode cX5_write 0 = .ok (.lload_n 3, 1) := by decide +kernel
theorem dX5_write_1 : decode cX5_write 1 = .ok (.lstore 5, 2) := by decide +kernel
theorem dX5_write_3 : decode cX5_write 3 = .ok (.aload_n 0, 1) := by decide +kernel
theorem dX5_write_4 : decode cX5_write 4 = .ok (.getfield 9, 3) := by decide +kernel
theorem dX5_write_7 : decode cX5_write 7 = .ok (.iload_n 1, 1) := by decide +kernel
theorem dX5_write_8 : decode cX5_write 8 = .ok (.iaload, 1) := by decide +kernel
theorem dX5_write_9 : decode cX5_write 9 = .ok (.ifCond .ne 12, 3) := by decide +kernel
theorem dX5_write_12 : decode cX5_write 12 = .ok (.lload_n 3, 1) := by decide +kernel
theorem dX5_write_13 : decode cX5_write 13 = .ok (.l2i, 1) := by decide +kernel
theorem dX5_write_14 : decode cX5_write 14 = .ok (.i2b, 1) := by decide +kernel
theorem dX5_write_15 : decode cX5_write 15 = .ok (.i2l, 1) := by decide +kernel
theorem dX5_write_16 : decode cX5_write 16 = .ok (.lstore 5, 2) := by decide +kernel
theorem dX5_write_18 : decode cX5_write 18 = .ok (.goto 18, 3) := by decide +kernel
theorem dX5_write_21 : decode cX5_write 21 = .ok (.aload_n 0, 1) := by decide +kernel
theorem dX5_write_22 : decode cX5_write 22 = .ok (.getfield 9, 3) := by decide +kernel
theorem dX5_write_25 : decode cX5_write 25 = .ok (.iload_n 1, 1) := by decide +kernel
theorem dX5_write_26 : decode cX5_write 26 = .ok (.iaload, 1) := by decide +kernel
theorem dX5_write_27 : decode cX5_write 27 = .ok (.iconst 1, 1) := by decide +kernel
theorem dX5_write_28 : decode cX5_write 28 = .ok (.if_icmp .ne 8, 3) := by decide +kernel
theorem dX5_write_31 : decode cX5_write 31 = .ok (.lload_n 3, 1) := by decide +kernel
theorem dX5_write_32 : decode cX5_write 32 = .ok (.l2i, 1) := by decide +kernel
theorem dX5_write_33 : decode cX5_write 33 = .ok (.i2l, 1) := by decide +kernel
theorem dX5_write_34 : decode cX5_write 34 = .ok (.lstore 5, 2) := by decide +kernel
theorem dX5_write_36 : decode cX5_write 36 = .ok (.aload_n 0, 1) := by decide +kernel
theorem dX5_write_37 : decode cX5_write 37 = .ok (.getfield 18, 3) := by decide +kernel
theorem dX5_write_40 : decode cX5_write 40 = .ok (.iload_n 1, 1) := by decide +kernel
theorem dX5_write_41 : decode cX5_write 41 = .ok (.bipush 24, 2) := by decide +kernel
theorem dX5_write_43 : decode cX5_write 43 = .ok (.imul, 1) := by decide +kernel
theorem dX5_write_44 : decode cX5_write 44 = .ok (.iload_n 2, 1) := by decide +kernel
theorem dX5_write_45 : decode cX5_write 45 = .ok (.iadd, 1) := by decide +kernel
theorem dX5_write_46 : decode cX5_write 46 = .ok (.lload 5, 2) := by decide +kernel
theorem dX5_write_48 : decode cX5_write 48 = .ok (.lastore, 1) := by decide +kernel
theorem dX5_write_49 : decode cX5_write 49 = .ok (.return_, 1) := by decide +kernel
theorem dX6_init_0 : decode cX6_init 0 = .ok (.aload_n 0, 1) := by decide +kernel
theorem dX6_init_1 : decode cX6_init 1 = .ok (.invokespecial 3, 3) := by decide +kernel
theorem dX6_init_4 : decode cX6_init 4 = .ok (.aload_n 0, 1) := by decide +kernel
theorem dX6_init_5 : decode cX6_init 5 = .ok (.iconst (-1), 1) := by decide +kernel
theorem dX6_init_6 : decode cX6_init 6 = .ok (.putfield 11, 3) := by decide +kernel
theorem dX6_init_9 : decode cX6_init 9 = .ok (.aload_n 0, 1) := by decide +kernel
theorem dX6_init_10 : decode cX6_init 10 = .ok (.sipush 160, 3) := by decide +kernel
theorem dX6_init_13 : decode cX6_init 13 = .ok (.newarray .byte, 2) := by decide +kernel
theorem dX6_init_15 : decode cX6_init 15 = .ok (.putfield 15, 3) := by decide +kernel
theorem dX6_init_18 : decode cX6_init 18 = .ok (.return_, 1) := by decide +kernel
set_option maxRecDepth 20000 in
theorem ggX6_mayHold_X9_isWithin : GoodIn wsX6_mayHold wsX9_isWithin := goodIn_r _ [4] (by decide +kernel) (by decide +kernel)
set_option maxRecDepth 20000 in
theorem gX6_mayHold_X9_isWithin_n21 : GoodIn wsX6_mayHold (wsX9_isWithin) := ggX6_mayHold_X9_isWithin
theorem dX6_mayHold_0 : decode cX6_mayHold 0 = .ok (.iconst 0, 1) := by decide +kernel
theorem dX6_mayHold_1 : decode cX6_mayHold 1 = .ok (.istore_n 3, 1) := by decide +kernel
theorem dX6_mayHold_2 : decode cX6_mayHold 2 = .ok (.iload_n 3, 1) := by decide +kernel
theorem dX6_mayHold_3 : decode cX6_mayHold 3 = .ok (.iload_n 2, 1) := by decide +kernel
theorem dX6_mayHold_4 : decode cX6_mayHold 4 = .ok (.if_icmp .ge 32, 3) := by decide +kernel
theorem dX6_mayHold_7 : decode cX6_mayHold 7 = .ok (.lload_n 0, 1) := by decide +kernel
theorem dX6_mayHold_8 : decode cX6_mayHold 8 = .ok (.bipush 8, 2) := by decide +kernel
theorem dX6_mayHold_10 : decode cX6_mayHold 10 = .ok (.iload_n 3, 1) := by decide +kernel
theorem dX6_mayHold_11 : decode cX6_mayHold 11 = .ok (.imul, 1) := by decide +kernel
theorem dX6_mayHold_12 : decode cX6_mayHold 12 = .ok (.lshr, 1) := by decide +kernel
theorem dX6_mayHold_13 : decode cX6_mayHold 13 = .ok (.ldc2_w 19, 3) := by decide +kernel
theorem dX6_mayHold_16 : decode cX6_mayHold 16 = .ok (.land, 1) := by decide +kernel
theorem dX6_mayHold_17 : decode cX6_mayHold 17 = .ok (.l2i, 1) := by decide +kernel
theorem dX6_mayHold_18 : decode cX6_mayHold 18 = .ok (.bipush 32, 2) := by decide +kernel
theorem dX6_mayHold_20 : decode cX6_mayHold 20 = .ok (.bipush 126, 2) := by decide +kernel
theorem dX6_mayHold_22 : decode cX6_mayHold 22 = .ok (.invokestatic 21, 3) := by decide +kernel
theorem dX6_mayHold_25 : decode cX6_mayHold 25 = .ok (.ifCond .ne 5, 3) := by decide +kernel
theorem dX6_mayHold_28 : decode cX6_mayHold 28 = .ok (.iconst 0, 1) := by decide +kernel
theorem dX6_mayHold_29 : decode cX6_mayHold 29 = .ok (.ireturn, 1) := by decide +kernel
theorem dX6_mayHold_30 : decode cX6_mayHold 30 = .ok (.iinc 3 1, 3) := by decide +kernel
theorem dX6_mayHold_33 : decode cX6_mayHold 33 = .ok (.goto (-31), 3) := by decide +kernel
theorem dX6_mayHold_36 : decode cX6_mayHold 36 = .ok (.iconst 1, 1) := by decide +kernel
theorem dX6_mayHold_37 : decode cX6_mayHold 37 = .ok (.ireturn, 1) := by decide +kernel
theorem dX6_append_0 : decode cX6_append 0 = .ok (.iload_n 3, 1) := by decide +kernel
theorem dX6_append_1 : decode cX6_append 1 = .ok (.iconst 1, 1) := by decide +kernel
theorem dX6_append_2 : decode cX6_append 2 = .ok (.isub, 1) := by decide +kernel
theorem dX6_append_3 : decode cX6_append 3 = .ok (.istore 4, 2) := by decide +kernel
theorem dX6_append_5 : decode cX6_append 5 = .ok (.iload 4, 2) := by decide +kernel
theorem dX6_append_7 : decode cX6_append 7 = .ok (.ifCond .lt 47, 3) := by decide +kernel
theorem dX6_append_10 : decode cX6_append 10 = .ok (.aload_n 0, 1) := by decide +kernel
theorem dX6_append_11 : decode cX6_append 11 = .ok (.getfield 25, 3) := by decide +kernel
theorem dX6_append_14 : decode cX6_append 14 = .ok (.sipush 160, 3) := by decide +kernel
theorem dX6_append_17 : decode cX6_append 17 = .ok (.if_icmp .ge 37, 3) := by decide +kernel
theorem dX6_append_20 : decode cX6_append 20 = .ok (.aload_n 0, 1) := by decide +kernel
theorem dX6_append_21 : decode cX6_append 21 = .ok (.getfield 15, 3) := by decide +kernel
theorem dX6_append_24 : decode cX6_append 24 = .ok (.aload_n 0, 1) := by decide +kernel
theorem dX6_append_25 : decode cX6_append 25 = .ok (.getfield 25, 3) := by decide +kernel
theorem dX6_append_28 : decode cX6_append 28 = .ok (.lload_n 1, 1) := by decide +kernel
theorem dX6_append_29 : decode cX6_append 29 = .ok (.bipush 8, 2) := by decide +kernel
theorem dX6_append_31 : decode cX6_append 31 = .ok (.iload 4, 2) := by decide +kernel
theorem dX6_append_33 : decode cX6_append 33 = .ok (.imul, 1) := by decide +kernel
theorem dX6_append_34 : decode cX6_append 34 = .ok (.lshr, 1) := by decide +kernel
theorem dX6_append_35 : decode cX6_append 35 = .ok (.l2i, 1) := by decide +kernel
theorem dX6_append_36 : decode cX6_append 36 = .ok (.i2b, 1) := by decide +kernel
theorem dX6_append_37 : decode cX6_append 37 = .ok (.bastore, 1) := by decide +kernel
theorem dX6_append_38 : decode cX6_append 38 = .ok (.aload_n 0, 1) := by decide +kernel
theorem dX6_append_39 : decode cX6_append 39 = .ok (.dup, 1) := by decide +kernel
theorem dX6_append_40 : decode cX6_append 40 = .ok (.getfield 25, 3) := by decide +kernel
theorem dX6_append_43 : decode cX6_append 43 = .ok (.iconst 1, 1) := by decide +kernel
theorem dX6_append_44 : decode cX6_append 44 = .ok (.iadd, 1) := by decide +kernel
theorem dX6_append_45 : decode cX6_append 45 = .ok (.putfield 25, 3) := by decide +kernel
theorem dX6_append_48 : decode cX6_append 48 = .ok (.iinc 4 (-1), 3) := by decide +kernel
theorem dX6_append_51 : decode cX6_append 51 = .ok (.goto (-46), 3) := by decide +kernel
theorem dX6_append_54 : decode cX6_append 54 = .ok (.return_, 1) := by decide +kernel
theorem dX6_clear_0 : decode cX6_clear 0 = .ok (.aload_n 0, 1) := by decide +kernel
theorem dX6_clear_1 : decode cX6_clear 1 = .ok (.iconst 0, 1) := by decide +kernel
theorem dX6_clear_2 : decode cX6_clear 2 = .ok (.putfield 25, 3) := by decide +kernel
theorem dX6_clear_5 : decode cX6_clear 5 = .ok (.return_, 1) := by decide +kernel
set_option maxRecDepth 20000 in
theorem ggX6_readCoins_X6_readCoin : GoodIn wsX6_readCoins wsX6_readCoin := goodIn_r _ [8, 9, 10, 11, 7, 12, 2, 13, 14, 15, 16, 17, 18, 19, 20, 21, 22, 23, 24, 25, 26, 27, 28, 29, 30, 3, 31, 32, 33, 34, 35, 36, 37, 38, 39, 40, 41, 42, 43, 44, 45, 46, 47, 48, 49, 50, 51, 52, 53, 64, 65, 66, 67, 58, 59, 60, 61, 62, 63] (by decide +kernel) (by decide +kernel)
set_option maxRecDepth 20000 in
theorem gX6_readCoins_X6_readCoin : GoodIn wsX6_readCoins (wsV RX6 34 RX6 yX6_readCoin wsX6_readCoin) := goodIn_app (goodIn_of _ (by decide +kernel)) ggX6_readCoins_X6_readCoin
set_option maxRecDepth 20000 in
theorem ggX6_readCoins_X6_takes : GoodIn wsX6_readCoins wsX6_takes := goodIn_r _ [38, 3, 2, 20, 21, 22, 7, 23, 13, 14, 39, 40, 41, 42, 64, 65, 66, 67] (by decide +kernel) (by decide +kernel)
set_option maxRecDepth 20000 in
theorem gX6_readCoins_X6_takes : GoodIn wsX6_readCoins (wsV RX6 38 RX6 yX6_takes wsX6_takes) := goodIn_app (goodIn_of _ (by decide +kernel)) ggX6_readCoins_X6_takes
set_option maxRecDepth 20000 in
theorem ggX6_readCoins_X6_needsEnd : GoodIn wsX6_readCoins wsX6_needsEnd := goodIn_r _ [57, 2, 13, 20, 21, 22, 7, 23, 14, 27, 28, 29, 30, 3, 64, 65, 66, 67] (by decide +kernel) (by decide +kernel)
set_option maxRecDepth 20000 in
theorem gX6_readCoins_X6_needsEnd : GoodIn wsX6_readCoins (wsV RX6 42 RX6 yX6_needsEnd wsX6_needsEnd) := goodIn_app (goodIn_of _ (by decide +kernel)) ggX6_readCoins_X6_needsEnd
theorem dX6_readCoins_0 : decode cX6_readCoins 0 = .ok (.aload_n 1, 1) := by decide +kernel
theorem dX6_readCoins_1 : decode cX6_readCoins 1 = .ok (.iconst 0, 1) := by decide +kernel
theorem dX6_readCoins_2 : decode cX6_readCoins 2 = .ok (.putfield 28, 3) := by decide +kernel
theorem dX6_readCoins_5 : decode cX6_readCoins 5 = .ok (.aload_n 0, 1) := by decide +kernel
theorem dX6_readCoins_6 : decode cX6_readCoins 6 = .ok (.iconst 0, 1) := by decide +kernel
theorem dX6_readCoins_7 : decode cX6_readCoins 7 = .ok (.putfield 31, 3) := by decide +kernel
theorem dX6_readCoins_10 : decode cX6_readCoins 10 = .ok (.aload_n 0, 1) := by decide +kernel
theorem dX6_readCoins_11 : decode cX6_readCoins 11 = .ok (.iconst (-1), 1) := by decide +kernel
theorem dX6_readCoins_12 : decode cX6_readCoins 12 = .ok (.putfield 11, 3) := by decide +kernel
theorem dX6_readCoins_15 : decode cX6_readCoins 15 = .ok (.iconst 1, 1) := by decide +kernel
theorem dX6_readCoins_16 : decode cX6_readCoins 16 = .ok (.istore_n 3, 1) := by decide +kernel
theorem dX6_readCoins_17 : decode cX6_readCoins 17 = .ok (.iconst 1, 1) := by decide +kernel
theorem dX6_readCoins_18 : decode cX6_readCoins 18 = .ok (.istore 4, 2) := by decide +kernel
theorem dX6_readCoins_20 : decode cX6_readCoins 20 = .ok (.iload_n 3, 1) := by decide +kernel
theorem dX6_readCoins_21 : decode cX6_readCoins 21 = .ok (.ifCond .eq 44, 3) := by decide +kernel
theorem dX6_readCoins_24 : decode cX6_readCoins 24 = .ok (.iload 4, 2) := by decide +kernel
theorem dX6_readCoins_26 : decode cX6_readCoins 26 = .ok (.bipush 10, 2) := by decide +kernel
theorem dX6_readCoins_28 : decode cX6_readCoins 28 = .ok (.if_icmp .gt 37, 3) := by decide +kernel
theorem dX6_readCoins_31 : decode cX6_readCoins 31 = .ok (.aload_n 0, 1) := by decide +kernel
theorem dX6_readCoins_32 : decode cX6_readCoins 32 = .ok (.aload_n 1, 1) := by decide +kernel
theorem dX6_readCoins_33 : decode cX6_readCoins 33 = .ok (.iload_n 2, 1) := by decide +kernel
theorem dX6_readCoins_34 : decode cX6_readCoins 34 = .ok (.invokevirtual 34, 3) := by decide +kernel
theorem dX6_readCoins_37 : decode cX6_readCoins 37 = .ok (.iload 4, 2) := by decide +kernel
theorem dX6_readCoins_39 : decode cX6_readCoins 39 = .ok (.bipush 10, 2) := by decide +kernel
theorem dX6_readCoins_41 : decode cX6_readCoins 41 = .ok (.if_icmp .ge 16, 3) := by decide +kernel
theorem dX6_readCoins_44 : decode cX6_readCoins 44 = .ok (.aload_n 0, 1) := by decide +kernel
theorem dX6_readCoins_45 : decode cX6_readCoins 45 = .ok (.bipush 44, 2) := by decide +kernel
theorem dX6_readCoins_47 : decode cX6_readCoins 47 = .ok (.invokevirtual 38, 3) := by decide +kernel
theorem dX6_readCoins_50 : decode cX6_readCoins 50 = .ok (.ifCond .eq 7, 3) := by decide +kernel
theorem dX6_readCoins_53 : decode cX6_readCoins 53 = .ok (.iconst 1, 1) := by decide +kernel
theorem dX6_readCoins_54 : decode cX6_readCoins 54 = .ok (.goto 4, 3) := by decide +kernel
theorem dX6_readCoins_57 : decode cX6_readCoins 57 = .ok (.iconst 0, 1) := by decide +kernel
theorem dX6_readCoins_58 : decode cX6_readCoins 58 = .ok (.istore_n 3, 1) := by decide +kernel
theorem dX6_readCoins_59 : decode cX6_readCoins 59 = .ok (.iinc 4 1, 3) := by decide +kernel
theorem dX6_readCoins_62 : decode cX6_readCoins 62 = .ok (.goto (-42), 3) := by decide +kernel
theorem dX6_readCoins_65 : decode cX6_readCoins 65 = .ok (.aload_n 0, 1) := by decide +kernel
theorem dX6_readCoins_66 : decode cX6_readCoins 66 = .ok (.invokevirtual 42, 3) := by decide +kernel
theorem dX6_readCoins_69 : decode cX6_readCoins 69 = .ok (.return_, 1) := by decide +kernel
set_option maxRecDepth 20000 in
theorem ggX6_readCoin_X6_takeNumber : GoodIn wsX6_readCoin wsX6_takeNumber := goodIn_r _ [5, 6, 7, 8, 9, 10, 11, 12, 13, 14, 15, 16, 4, 17, 18, 19, 20, 21, 22, 23, 24, 25, 49, 50, 51, 52] (by decide +kernel) (by decide +kernel)
set_option maxRecDepth 20000 in
theorem gX6_readCoin_X6_takeNumber : GoodIn wsX6_readCoin (wsV RX6 45 RX6 yX6_takeNumber wsX6_takeNumber) := goodIn_app (goodIn_of _ (by decide +kernel)) ggX6_readCoin_X6_takeNumber
set_option maxRecDepth 20000 in
theorem ggX6_readCoin_X6_needs : GoodIn wsX6_readCoin wsX6_needs := goodIn_r _ [29, 6, 30, 31, 32, 4, 33, 25, 14, 15, 16, 17, 7, 8, 34, 35, 36, 37, 21, 22, 23, 24, 49, 50, 51, 52] (by decide +kernel) (by decide +kernel)
set_option maxRecDepth 20000 in
theorem gX6_readCoin_X6_needs : GoodIn wsX6_readCoin (wsV RX6 49 RX6 yX6_needs wsX6_needs) := goodIn_app (goodIn_of _ (by decide +kernel)) ggX6_readCoin_X6_needs
set_option maxRecDepth 20000 in
theorem ggX6_readCoin_X6_takes : GoodIn wsX6_readCoin wsX6_takes := goodIn_r _ [33, 25, 6, 14, 15, 16, 4, 17, 7, 8, 34, 35, 36, 37, 49, 50, 51, 52] (by decide +kernel) (by decide +kernel)
set_option maxRecDepth 20000 in
theorem gX6_readCoin_X6_takes : GoodIn wsX6_readCoin (wsV RX6 38 RX6 yX6_takes wsX6_takes) := goodIn_app (goodIn_of _ (by decide +kernel)) ggX6_readCoin_X6_takes
set_option maxRecDepth 20000 in
theorem ggX6_readCoin_X2_add : GoodIn wsX6_readCoin wsX2_add := goodIn_r _ [42, 43, 44, 45, 46, 47, 48, 53, 54, 55, 56, 57, 58] (by decide +kernel) (by decide +kernel)
set_option maxRecDepth 20000 in
theorem gX6_readCoin_X2_add : GoodIn wsX6_readCoin (wsV RX6 53 RX2 yX2_add wsX2_add) := goodIn_app (goodIn_of _ (by decide +kernel)) ggX6_readCoin_X2_add
theorem dX6_readCoin_0 : decode cX6_readCoin 0 = .ok (.aload_n 0, 1) := by decide +kernel
theorem dX6_readCoin_1 : decode cX6_readCoin 1 = .ok (.iconst 1, 1) := by decide +kernel
theorem dX6_readCoin_2 : decode cX6_readCoin 2 = .ok (.bipush 99, 2) := by decide +kernel
theorem dX6_readCoin_4 : decode cX6_readCoin 4 = .ok (.invokevirtual 45, 3) := by decide +kernel
theorem dX6_readCoin_7 : decode cX6_readCoin 7 = .ok (.istore_n 3, 1) := by decide +kernel
theorem dX6_readCoin_8 : decode cX6_readCoin 8 = .ok (.aload_n 0, 1) := by decide +kernel
theorem dX6_readCoin_9 : decode cX6_readCoin 9 = .ok (.bipush 121, 2) := by decide +kernel
theorem dX6_readCoin_11 : decode cX6_readCoin 11 = .ok (.invokevirtual 49, 3) := by decide +kernel
theorem dX6_readCoin_14 : decode cX6_readCoin 14 = .ok (.aload_n 0, 1) := by decide +kernel
theorem dX6_readCoin_15 : decode cX6_readCoin 15 = .ok (.iconst 0, 1) := by decide +kernel
theorem dX6_readCoin_16 : decode cX6_readCoin 16 = .ok (.bipush 99, 2) := by decide +kernel
theorem dX6_readCoin_18 : decode cX6_readCoin 18 = .ok (.invokevirtual 45, 3) := by decide +kernel
theorem dX6_readCoin_21 : decode cX6_readCoin 21 = .ok (.istore 4, 2) := by decide +kernel
theorem dX6_readCoin_23 : decode cX6_readCoin 23 = .ok (.iload 4, 2) := by decide +kernel
theorem dX6_readCoin_25 : decode cX6_readCoin 25 = .ok (.istore 5, 2) := by decide +kernel
theorem dX6_readCoin_27 : decode cX6_readCoin 27 = .ok (.iconst 0, 1) := by decide +kernel
theorem dX6_readCoin_28 : decode cX6_readCoin 28 = .ok (.istore 6, 2) := by decide +kernel
theorem dX6_readCoin_30 : decode cX6_readCoin 30 = .ok (.aload_n 0, 1) := by decide +kernel
theorem dX6_readCoin_31 : decode cX6_readCoin 31 = .ok (.bipush 102, 2) := by decide +kernel
theorem dX6_readCoin_33 : decode cX6_readCoin 33 = .ok (.invokevirtual 38, 3) := by decide +kernel
theorem dX6_readCoin_36 : decode cX6_readCoin 36 = .ok (.ifCond .eq 18, 3) := by decide +kernel
theorem dX6_readCoin_39 : decode cX6_readCoin 39 = .ok (.iconst 1, 1) := by decide +kernel
theorem dX6_readCoin_40 : decode cX6_readCoin 40 = .ok (.istore 6, 2) := by decide +kernel
theorem dX6_readCoin_42 : decode cX6_readCoin 42 = .ok (.aload_n 0, 1) := by decide +kernel
theorem dX6_readCoin_43 : decode cX6_readCoin 43 = .ok (.iconst 0, 1) := by decide +kernel
theorem dX6_readCoin_44 : decode cX6_readCoin 44 = .ok (.bipush 99, 2) := by decide +kernel
theorem dX6_readCoin_46 : decode cX6_readCoin 46 = .ok (.invokevirtual 45, 3) := by decide +kernel
theorem dX6_readCoin_49 : decode cX6_readCoin 49 = .ok (.istore 5, 2) := by decide +kernel
theorem dX6_readCoin_51 : decode cX6_readCoin 51 = .ok (.goto 30, 3) := by decide +kernel
theorem dX6_readCoin_54 : decode cX6_readCoin 54 = .ok (.aload_n 0, 1) := by decide +kernel
theorem dX6_readCoin_55 : decode cX6_readCoin 55 = .ok (.bipush 119, 2) := by decide +kernel
theorem dX6_readCoin_57 : decode cX6_readCoin 57 = .ok (.invokevirtual 38, 3) := by decide +kernel
theorem dX6_readCoin_60 : decode cX6_readCoin 60 = .ok (.ifCond .eq 9, 3) := by decide +kernel
theorem dX6_readCoin_63 : decode cX6_readCoin 63 = .ok (.iconst 2, 1) := by decide +kernel
theorem dX6_readCoin_64 : decode cX6_readCoin 64 = .ok (.istore 6, 2) := by decide +kernel
theorem dX6_readCoin_66 : decode cX6_readCoin 66 = .ok (.goto 15, 3) := by decide +kernel
theorem dX6_readCoin_69 : decode cX6_readCoin 69 = .ok (.aload_n 0, 1) := by decide +kernel
theorem dX6_readCoin_70 : decode cX6_readCoin 70 = .ok (.bipush 98, 2) := by decide +kernel
theorem dX6_readCoin_72 : decode cX6_readCoin 72 = .ok (.invokevirtual 38, 3) := by decide +kernel
theorem dX6_readCoin_75 : decode cX6_readCoin 75 = .ok (.ifCond .eq 6, 3) := by decide +kernel
theorem dX6_readCoin_78 : decode cX6_readCoin 78 = .ok (.iconst 3, 1) := by decide +kernel
theorem dX6_readCoin_79 : decode cX6_readCoin 79 = .ok (.istore 6, 2) := by decide +kernel
theorem dX6_readCoin_81 : decode cX6_readCoin 81 = .ok (.aload_n 1, 1) := by decide +kernel
theorem dX6_readCoin_82 : decode cX6_readCoin 82 = .ok (.iload_n 2, 1) := by decide +kernel
theorem dX6_readCoin_83 : decode cX6_readCoin 83 = .ok (.iload_n 3, 1) := by decide +kernel
theorem dX6_readCoin_84 : decode cX6_readCoin 84 = .ok (.iload 4, 2) := by decide +kernel
theorem dX6_readCoin_86 : decode cX6_readCoin 86 = .ok (.iload 5, 2) := by decide +kernel
theorem dX6_readCoin_88 : decode cX6_readCoin 88 = .ok (.iload 6, 2) := by decide +kernel
theorem dX6_readCoin_90 : decode cX6_readCoin 90 = .ok (.invokevirtual 53, 3) := by decide +kernel
theorem dX6_readCoin_93 : decode cX6_readCoin 93 = .ok (.return_, 1) := by decide +kernel
set_option maxRecDepth 20000 in
theorem ggX6_readBills_X6_readBill : GoodIn wsX6_readBills wsX6_readBill := goodIn_r _ [8, 9, 10, 11, 7, 12, 2, 13, 14, 15, 16, 17, 18, 19, 20, 21, 22, 23, 24, 25, 26, 27, 28, 29, 3, 30, 31, 32, 33, 34, 35, 36, 37, 38, 39, 40, 41, 42, 43, 44, 45, 46, 47, 48, 49, 50, 51, 52, 53, 54, 55, 64, 65, 66, 67, 60, 61, 62, 63] (by decide +kernel) (by decide +kernel)
set_option maxRecDepth 20000 in
theorem gX6_readBills_X6_readBill : GoodIn wsX6_readBills (wsV RX6 60 RX6 yX6_readBill wsX6_readBill) := goodIn_app (goodIn_of _ (by decide +kernel)) ggX6_readBills_X6_readBill
set_option maxRecDepth 20000 in
theorem ggX6_readBills_X6_takes : GoodIn wsX6_readBills wsX6_takes := goodIn_r _ [37, 3, 2, 13, 14, 15, 7, 16, 17, 18, 19, 20, 21, 22, 64, 65, 66, 67] (by decide +kernel) (by decide +kernel)
set_option maxRecDepth 20000 in
theorem gX6_readBills_X6_takes : GoodIn wsX6_readBills (wsV RX6 38 RX6 yX6_takes wsX6_takes) := goodIn_app (goodIn_of _ (by decide +kernel)) ggX6_readBills_X6_takes
set_option maxRecDepth 20000 in
theorem ggX6_readBills_X6_needsEnd : GoodIn wsX6_readBills wsX6_needsEnd := goodIn_r _ [59, 2, 17, 13, 14, 15, 7, 16, 18, 26, 27, 28, 29, 3, 64, 65, 66, 67] (by decide +kernel) (by decide +kernel)
set_option maxRecDepth 20000 in
theorem gX6_readBills_X6_needsEnd : GoodIn wsX6_readBills (wsV RX6 42 RX6 yX6_needsEnd wsX6_needsEnd) := goodIn_app (goodIn_of _ (by decide +kernel)) ggX6_readBills_X6_needsEnd
theorem dX6_readBills_0 : decode cX6_readBills 0 = .ok (.aload_n 1, 1) := by decide +kernel
theorem dX6_readBills_1 : decode cX6_readBills 1 = .ok (.iconst 0, 1) := by decide +kernel
theorem dX6_readBills_2 : decode cX6_readBills 2 = .ok (.putfield 57, 3) := by decide +kernel
theorem dX6_readBills_5 : decode cX6_readBills 5 = .ok (.aload_n 0, 1) := by decide +kernel
theorem dX6_readBills_6 : decode cX6_readBills 6 = .ok (.iconst 0, 1) := by decide +kernel
theorem dX6_readBills_7 : decode cX6_readBills 7 = .ok (.putfield 31, 3) := by decide +kernel
theorem dX6_readBills_10 : decode cX6_readBills 10 = .ok (.aload_n 0, 1) := by decide +kernel
theorem dX6_readBills_11 : decode cX6_readBills 11 = .ok (.iconst (-1), 1) := by decide +kernel
theorem dX6_readBills_12 : decode cX6_readBills 12 = .ok (.putfield 11, 3) := by decide +kernel
theorem dX6_readBills_15 : decode cX6_readBills 15 = .ok (.iconst 1, 1) := by decide +kernel
theorem dX6_readBills_16 : decode cX6_readBills 16 = .ok (.istore_n 2, 1) := by decide +kernel
theorem dX6_readBills_17 : decode cX6_readBills 17 = .ok (.iconst 1, 1) := by decide +kernel
theorem dX6_readBills_18 : decode cX6_readBills 18 = .ok (.istore_n 3, 1) := by decide +kernel
theorem dX6_readBills_19 : decode cX6_readBills 19 = .ok (.iload_n 2, 1) := by decide +kernel
theorem dX6_readBills_20 : decode cX6_readBills 20 = .ok (.ifCond .eq 41, 3) := by decide +kernel
theorem dX6_readBills_23 : decode cX6_readBills 23 = .ok (.iload_n 3, 1) := by decide +kernel
theorem dX6_readBills_24 : decode cX6_readBills 24 = .ok (.bipush 24, 2) := by decide +kernel
theorem dX6_readBills_26 : decode cX6_readBills 26 = .ok (.if_icmp .gt 35, 3) := by decide +kernel
theorem dX6_readBills_29 : decode cX6_readBills 29 = .ok (.aload_n 0, 1) := by decide +kernel
theorem dX6_readBills_30 : decode cX6_readBills 30 = .ok (.aload_n 1, 1) := by decide +kernel
theorem dX6_readBills_31 : decode cX6_readBills 31 = .ok (.invokevirtual 60, 3) := by decide +kernel
theorem dX6_readBills_34 : decode cX6_readBills 34 = .ok (.iload_n 3, 1) := by decide +kernel
theorem dX6_readBills_35 : decode cX6_readBills 35 = .ok (.bipush 24, 2) := by decide +kernel
theorem dX6_readBills_37 : decode cX6_readBills 37 = .ok (.if_icmp .ge 16, 3) := by decide +kernel
theorem dX6_readBills_40 : decode cX6_readBills 40 = .ok (.aload_n 0, 1) := by decide +kernel
theorem dX6_readBills_41 : decode cX6_readBills 41 = .ok (.bipush 44, 2) := by decide +kernel
theorem dX6_readBills_43 : decode cX6_readBills 43 = .ok (.invokevirtual 38, 3) := by decide +kernel
theorem dX6_readBills_46 : decode cX6_readBills 46 = .ok (.ifCond .eq 7, 3) := by decide +kernel
theorem dX6_readBills_49 : decode cX6_readBills 49 = .ok (.iconst 1, 1) := by decide +kernel
theorem dX6_readBills_50 : decode cX6_readBills 50 = .ok (.goto 4, 3) := by decide +kernel
theorem dX6_readBills_53 : decode cX6_readBills 53 = .ok (.iconst 0, 1) := by decide +kernel
theorem dX6_readBills_54 : decode cX6_readBills 54 = .ok (.istore_n 2, 1) := by decide +kernel
theorem dX6_readBills_55 : decode cX6_readBills 55 = .ok (.iinc 3 1, 3) := by decide +kernel
theorem dX6_readBills_58 : decode cX6_readBills 58 = .ok (.goto (-39), 3) := by decide +kernel
theorem dX6_readBills_61 : decode cX6_readBills 61 = .ok (.aload_n 0, 1) := by decide +kernel
theorem dX6_readBills_62 : decode cX6_readBills 62 = .ok (.invokevirtual 42, 3) := by decide +kernel
theorem dX6_readBills_65 : decode cX6_readBills 65 = .ok (.return_, 1) := by decide +kernel
set_option maxRecDepth 20000 in
theorem ggX6_readBill_X6_takeDigit : GoodIn wsX6_readBill wsX6_takeDigit := goodIn_r _ [5, 6, 7, 8, 9, 4, 10, 11, 12, 13, 14, 15, 16, 17, 18, 19, 20, 21, 22, 23, 24, 51, 52, 53, 54] (by decide +kernel) (by decide +kernel)
set_option maxRecDepth 20000 in
theorem gX6_readBill_X6_takeDigit : GoodIn wsX6_readBill (wsV RX6 64 RX6 yX6_takeDigit wsX6_takeDigit) := goodIn_app (goodIn_of _ (by decide +kernel)) ggX6_readBill_X6_takeDigit
set_option maxRecDepth 20000 in
theorem ggX6_readBill_X6_needs : GoodIn wsX6_readBill wsX6_needs := goodIn_r _ [28, 6, 29, 30, 31, 4, 32, 24, 7, 8, 9, 10, 11, 12, 13, 14, 15, 16, 20, 21, 22, 23, 51, 52, 53, 54] (by decide +kernel) (by decide +kernel)
set_option maxRecDepth 20000 in
theorem gX6_readBill_X6_needs : GoodIn wsX6_readBill (wsV RX6 49 RX6 yX6_needs wsX6_needs) := goodIn_app (goodIn_of _ (by decide +kernel)) ggX6_readBill_X6_needs
set_option maxRecDepth 20000 in
theorem ggX6_readBill_X6_takeNumber : GoodIn wsX6_readBill wsX6_takeNumber := goodIn_r _ [36, 6, 11, 12, 37, 38, 39, 40, 41, 7, 8, 9, 4, 10, 17, 18, 19, 20, 21, 22, 23, 24, 51, 52, 53, 54] (by decide +kernel) (by decide +kernel)
set_option maxRecDepth 20000 in
theorem gX6_readBill_X6_takeNumber : GoodIn wsX6_readBill (wsV RX6 45 RX6 yX6_takeNumber wsX6_takeNumber) := goodIn_app (goodIn_of _ (by decide +kernel)) ggX6_readBill_X6_takeNumber
set_option maxRecDepth 20000 in
theorem ggX6_readBill_X0_add : GoodIn wsX6_readBill wsX0_add := goodIn_r _ [46, 47, 48, 49, 50, 55, 56, 57, 58] (by decide +kernel) (by decide +kernel)
set_option maxRecDepth 20000 in
theorem gX6_readBill_X0_add : GoodIn wsX6_readBill (wsV RX6 67 RX0 yX0_add wsX0_add) := goodIn_app (goodIn_of _ (by decide +kernel)) ggX6_readBill_X0_add
theorem dX6_readBill_0 : decode cX6_readBill 0 = .ok (.aload_n 0, 1) := by decide +kernel
theorem dX6_readBill_1 : decode cX6_readBill 1 = .ok (.iconst 0, 1) := by decide +kernel
theorem dX6_readBill_2 : decode cX6_readBill 2 = .ok (.iconst 3, 1) := by decide +kernel
theorem dX6_readBill_3 : decode cX6_readBill 3 = .ok (.invokevirtual 64, 3) := by decide +kernel
theorem dX6_readBill_6 : decode cX6_readBill 6 = .ok (.istore_n 2, 1) := by decide +kernel
theorem dX6_readBill_7 : decode cX6_readBill 7 = .ok (.aload_n 0, 1) := by decide +kernel
theorem dX6_readBill_8 : decode cX6_readBill 8 = .ok (.bipush 62, 2) := by decide +kernel
theorem dX6_readBill_10 : decode cX6_readBill 10 = .ok (.invokevirtual 49, 3) := by decide +kernel
theorem dX6_readBill_13 : decode cX6_readBill 13 = .ok (.aload_n 0, 1) := by decide +kernel
theorem dX6_readBill_14 : decode cX6_readBill 14 = .ok (.iconst 4, 1) := by decide +kernel
theorem dX6_readBill_15 : decode cX6_readBill 15 = .ok (.bipush 7, 2) := by decide +kernel
theorem dX6_readBill_17 : decode cX6_readBill 17 = .ok (.invokevirtual 64, 3) := by decide +kernel
theorem dX6_readBill_20 : decode cX6_readBill 20 = .ok (.istore_n 3, 1) := by decide +kernel
theorem dX6_readBill_21 : decode cX6_readBill 21 = .ok (.aload_n 0, 1) := by decide +kernel
theorem dX6_readBill_22 : decode cX6_readBill 22 = .ok (.bipush 58, 2) := by decide +kernel
theorem dX6_readBill_24 : decode cX6_readBill 24 = .ok (.invokevirtual 49, 3) := by decide +kernel
theorem dX6_readBill_27 : decode cX6_readBill 27 = .ok (.aload_n 0, 1) := by decide +kernel
theorem dX6_readBill_28 : decode cX6_readBill 28 = .ok (.iconst 1, 1) := by decide +kernel
theorem dX6_readBill_29 : decode cX6_readBill 29 = .ok (.sipush 999, 3) := by decide +kernel
theorem dX6_readBill_32 : decode cX6_readBill 32 = .ok (.invokevirtual 45, 3) := by decide +kernel
theorem dX6_readBill_35 : decode cX6_readBill 35 = .ok (.istore 4, 2) := by decide +kernel
theorem dX6_readBill_37 : decode cX6_readBill 37 = .ok (.aload_n 1, 1) := by decide +kernel
theorem dX6_readBill_38 : decode cX6_readBill 38 = .ok (.iload_n 2, 1) := by decide +kernel
theorem dX6_readBill_39 : decode cX6_readBill 39 = .ok (.iload_n 3, 1) := by decide +kernel
theorem dX6_readBill_40 : decode cX6_readBill 40 = .ok (.iload 4, 2) := by decide +kernel
theorem dX6_readBill_42 : decode cX6_readBill 42 = .ok (.invokevirtual 67, 3) := by decide +kernel
theorem dX6_readBill_45 : decode cX6_readBill 45 = .ok (.return_, 1) := by decide +kernel
theorem dX6_fail_0 : decode cX6_fail 0 = .ok (.aload_n 0, 1) := by decide +kernel
theorem dX6_fail_1 : decode cX6_fail 1 = .ok (.getfield 11, 3) := by decide +kernel
theorem dX6_fail_4 : decode cX6_fail 4 = .ok (.iconst (-1), 1) := by decide +kernel
theorem dX6_fail_5 : decode cX6_fail 5 = .ok (.if_icmp .ne 8, 3) := by decide +kernel
theorem dX6_fail_8 : decode cX6_fail 8 = .ok (.aload_n 0, 1) := by decide +kernel
theorem dX6_fail_9 : decode cX6_fail 9 = .ok (.iload_n 1, 1) := by decide +kernel
theorem dX6_fail_10 : decode cX6_fail 10 = .ok (.putfield 11, 3) := by decide +kernel
theorem dX6_fail_13 : decode cX6_fail 13 = .ok (.return_, 1) := by decide +kernel
theorem dX6_signHere_0 : decode cX6_signHere 0 = .ok (.aload_n 0, 1) := by decide +kernel
theorem dX6_signHere_1 : decode cX6_signHere 1 = .ok (.getfield 31, 3) := by decide +kernel
theorem dX6_signHere_4 : decode cX6_signHere 4 = .ok (.aload_n 0, 1) := by decide +kernel
theorem dX6_signHere_5 : decode cX6_signHere 5 = .ok (.getfield 25, 3) := by decide +kernel
theorem dX6_signHere_8 : decode cX6_signHere 8 = .ok (.if_icmp .ge 15, 3) := by decide +kernel
theorem dX6_signHere_11 : decode cX6_signHere 11 = .ok (.aload_n 0, 1) := by decide +kernel
theorem dX6_signHere_12 : decode cX6_signHere 12 = .ok (.getfield 15, 3) := by decide +kernel
theorem dX6_signHere_15 : decode cX6_signHere 15 = .ok (.aload_n 0, 1) := by decide +kernel
theorem dX6_signHere_16 : decode cX6_signHere 16 = .ok (.getfield 31, 3) := by decide +kernel
theorem dX6_signHere_19 : decode cX6_signHere 19 = .ok (.baload, 1) := by decide +kernel
theorem dX6_signHere_20 : decode cX6_signHere 20 = .ok (.goto 4, 3) := by decide +kernel
theorem dX6_signHere_23 : decode cX6_signHere 23 = .ok (.iconst (-1), 1) := by decide +kernel
theorem dX6_signHere_24 : decode cX6_signHere 24 = .ok (.ireturn, 1) := by decide +kernel
theorem dX6_passBlanks_0 : decode cX6_passBlanks 0 = .ok (.aload_n 0, 1) := by decide +kernel
theorem dX6_passBlanks_1 : decode cX6_passBlanks 1 = .ok (.getfield 31, 3) := by decide +kernel
theorem dX6_passBlanks_4 : decode cX6_passBlanks 4 = .ok (.aload_n 0, 1) := by decide +kernel
theorem dX6_passBlanks_5 : decode cX6_passBlanks 5 = .ok (.getfield 25, 3) := by decide +kernel
theorem dX6_passBlanks_8 : decode cX6_passBlanks 8 = .ok (.if_icmp .ge 30, 3) := by decide +kernel
theorem dX6_passBlanks_11 : decode cX6_passBlanks 11 = .ok (.aload_n 0, 1) := by decide +kernel
theorem dX6_passBlanks_12 : decode cX6_passBlanks 12 = .ok (.getfield 15, 3) := by decide +kernel
theorem dX6_passBlanks_15 : decode cX6_passBlanks 15 = .ok (.aload_n 0, 1) := by decide +kernel
theorem dX6_passBlanks_16 : decode cX6_passBlanks 16 = .ok (.getfield 31, 3) := by decide +kernel
theorem dX6_passBlanks_19 : decode cX6_passBlanks 19 = .ok (.baload, 1) := by decide +kernel
theorem dX6_passBlanks_20 : decode cX6_passBlanks 20 = .ok (.bipush 32, 2) := by decide +kernel
theorem dX6_passBlanks_22 : decode cX6_passBlanks 22 = .ok (.if_icmp .ne 16, 3) := by decide +kernel
theorem dX6_passBlanks_25 : decode cX6_passBlanks 25 = .ok (.aload_n 0, 1) := by decide +kernel
theorem dX6_passBlanks_26 : decode cX6_passBlanks 26 = .ok (.dup, 1) := by decide +kernel
theorem dX6_passBlanks_27 : decode cX6_passBlanks 27 = .ok (.getfield 31, 3) := by decide +kernel
theorem dX6_passBlanks_30 : decode cX6_passBlanks 30 = .ok (.iconst 1, 1) := by decide +kernel
theorem dX6_passBlanks_31 : decode cX6_passBlanks 31 = .ok (.iadd, 1) := by decide +kernel
theorem dX6_passBlanks_32 : decode cX6_passBlanks 32 = .ok (.putfield 31, 3) := by decide +kernel
theorem dX6_passBlanks_35 : decode cX6_passBlanks 35 = .ok (.goto (-35), 3) := by decide +kernel
theorem dX6_passBlanks_38 : decode cX6_passBlanks 38 = .ok (.return_, 1) := by decide +kernel
set_option maxRecDepth 20000 in
theorem ggX6_takes_X6_passBlanks : GoodIn wsX6_takes wsX6_passBlanks := goodIn_r _ [7, 2, 8, 9, 14, 15, 16, 17] (by decide +kernel) (by decide +kernel)
set_option maxRecDepth 20000 in
theorem gX6_takes_X6_passBlanks : GoodIn wsX6_takes (wsV RX6 70 RX6 yX6_passBlanks wsX6_passBlanks) := goodIn_app (goodIn_of _ (by decide +kernel)) ggX6_takes_X6_passBlanks
set_option maxRecDepth 20000 in
theorem ggX6_takes_X6_signHere : GoodIn wsX6_takes wsX6_signHere := goodIn_r _ [13, 2, 8, 9, 14, 15, 16, 17] (by decide +kernel) (by decide +kernel)
set_option maxRecDepth 20000 in
theorem gX6_takes_X6_signHere : GoodIn wsX6_takes (wsV RX6 73 RX6 yX6_signHere wsX6_signHere) := goodIn_app (goodIn_of _ (by decide +kernel)) ggX6_takes_X6_signHere
theorem dX6_takes_0 : decode cX6_takes 0 = .ok (.aload_n 0, 1) := by decide +kernel
theorem dX6_takes_1 : decode cX6_takes 1 = .ok (.invokevirtual 70, 3) := by decide +kernel
theorem dX6_takes_4 : decode cX6_takes 4 = .ok (.aload_n 0, 1) := by decide +kernel
theorem dX6_takes_5 : decode cX6_takes 5 = .ok (.getfield 11, 3) := by decide +kernel
theorem dX6_takes_8 : decode cX6_takes 8 = .ok (.iconst (-1), 1) := by decide +kernel
theorem dX6_takes_9 : decode cX6_takes 9 = .ok (.if_icmp .ne 11, 3) := by decide +kernel
theorem dX6_takes_12 : decode cX6_takes 12 = .ok (.aload_n 0, 1) := by decide +kernel
theorem dX6_takes_13 : decode cX6_takes 13 = .ok (.invokevirtual 73, 3) := by decide +kernel
theorem dX6_takes_16 : decode cX6_takes 16 = .ok (.iload_n 1, 1) := by decide +kernel
theorem dX6_takes_17 : decode cX6_takes 17 = .ok (.if_icmp .eq 5, 3) := by decide +kernel
theorem dX6_takes_20 : decode cX6_takes 20 = .ok (.iconst 0, 1) := by decide +kernel
theorem dX6_takes_21 : decode cX6_takes 21 = .ok (.ireturn, 1) := by decide +kernel
theorem dX6_takes_22 : decode cX6_takes 22 = .ok (.aload_n 0, 1) := by decide +kernel
theorem dX6_takes_23 : decode cX6_takes 23 = .ok (.dup, 1) := by decide +kernel
theorem dX6_takes_24 : decode cX6_takes 24 = .ok (.getfield 31, 3) := by decide +kernel
theorem dX6_takes_27 : decode cX6_takes 27 = .ok (.iconst 1, 1) := by decide +kernel
theorem dX6_takes_28 : decode cX6_takes 28 = .ok (.iadd, 1) := by decide +kernel
theorem dX6_takes_29 : decode cX6_takes 29 = .ok (.putfield 31, 3) := by decide +kernel
theorem dX6_takes_32 : decode cX6_takes 32 = .ok (.iconst 1, 1) := by decide +kernel
theorem dX6_takes_33 : decode cX6_takes 33 = .ok (.ireturn, 1) := by decide +kernel
set_option maxRecDepth 20000 in
theorem ggX6_needs_X6_takes : GoodIn wsX6_needs wsX6_takes := goodIn_r _ [6, 7, 1, 8, 9, 10, 5, 11, 12, 13, 14, 15, 16, 17, 22, 23, 24, 25] (by decide +kernel) (by decide +kernel)
set_option maxRecDepth 20000 in
theorem gX6_needs_X6_takes : GoodIn wsX6_needs (wsV RX6 38 RX6 yX6_takes wsX6_takes) := goodIn_app (goodIn_of _ (by decide +kernel)) ggX6_needs_X6_takes
set_option maxRecDepth 20000 in
theorem ggX6_needs_X6_fail : GoodIn wsX6_needs wsX6_fail := goodIn_r _ [21, 7, 22, 23, 24, 25] (by decide +kernel) (by decide +kernel)
set_option maxRecDepth 20000 in
theorem gX6_needs_X6_fail : GoodIn wsX6_needs (wsV RX6 77 RX6 yX6_fail wsX6_fail) := goodIn_app (goodIn_of _ (by decide +kernel)) ggX6_needs_X6_fail
theorem dX6_needs_0 : decode cX6_needs 0 = .ok (.aload_n 0, 1) := by decide +kernel
theorem dX6_needs_1 : decode cX6_needs 1 = .ok (.iload_n 1, 1) := by decide +kernel
theorem dX6_needs_2 : decode cX6_needs 2 = .ok (.invokevirtual 38, 3) := by decide +kernel
theorem dX6_needs_5 : decode cX6_needs 5 = .ok (.ifCond .ne 11, 3) := by decide +kernel
theorem dX6_needs_8 : decode cX6_needs 8 = .ok (.aload_n 0, 1) := by decide +kernel
theorem dX6_needs_9 : decode cX6_needs 9 = .ok (.aload_n 0, 1) := by decide +kernel
theorem dX6_needs_10 : decode cX6_needs 10 = .ok (.getfield 31, 3) := by decide +kernel
theorem dX6_needs_13 : decode cX6_needs 13 = .ok (.invokevirtual 77, 3) := by decide +kernel
theorem dX6_needs_16 : decode cX6_needs 16 = .ok (.return_, 1) := by decide +kernel
set_option maxRecDepth 20000 in
theorem ggX6_needsEnd_X6_passBlanks : GoodIn wsX6_needsEnd wsX6_passBlanks := goodIn_r _ [7, 1, 2, 8, 14, 15, 16, 17] (by decide +kernel) (by decide +kernel)
set_option maxRecDepth 20000 in
theorem gX6_needsEnd_X6_passBlanks : GoodIn wsX6_needsEnd (wsV RX6 70 RX6 yX6_passBlanks wsX6_passBlanks) := goodIn_app (goodIn_of _ (by decide +kernel)) ggX6_needsEnd_X6_passBlanks
set_option maxRecDepth 20000 in
theorem ggX6_needsEnd_X6_fail : GoodIn wsX6_needsEnd wsX6_fail := goodIn_r _ [12, 13, 14, 15, 16, 17] (by decide +kernel) (by decide +kernel)
set_option maxRecDepth 20000 in
theorem gX6_needsEnd_X6_fail : GoodIn wsX6_needsEnd (wsV RX6 77 RX6 yX6_fail wsX6_fail) := goodIn_app (goodIn_of _ (by decide +kernel)) ggX6_needsEnd_X6_fail
theorem dX6_needsEnd_0 : decode cX6_needsEnd 0 = .ok (.aload_n 0, 1) := by decide +kernel
theorem dX6_needsEnd_1 : decode cX6_needsEnd 1 = .ok (.invokevirtual 70, 3) := by decide +kernel
theorem dX6_needsEnd_4 : decode cX6_needsEnd 4 = .ok (.aload_n 0, 1) := by decide +kernel
theorem dX6_needsEnd_5 : decode cX6_needsEnd 5 = .ok (.getfield 31, 3) := by decide +kernel
theorem dX6_needsEnd_8 : decode cX6_needsEnd 8 = .ok (.aload_n 0, 1) := by decide +kernel
theorem dX6_needsEnd_9 : decode cX6_needsEnd 9 = .ok (.getfield 25, 3) := by decide +kernel
theorem dX6_needsEnd_12 : decode cX6_needsEnd 12 = .ok (.if_icmp .ge 11, 3) := by decide +kernel
theorem dX6_needsEnd_15 : decode cX6_needsEnd 15 = .ok (.aload_n 0, 1) := by decide +kernel
theorem dX6_needsEnd_16 : decode cX6_needsEnd 16 = .ok (.aload_n 0, 1) := by decide +kernel
theorem dX6_needsEnd_17 : decode cX6_needsEnd 17 = .ok (.getfield 31, 3) := by decide +kernel
theorem dX6_needsEnd_20 : decode cX6_needsEnd 20 = .ok (.invokevirtual 77, 3) := by decide +kernel
theorem dX6_needsEnd_23 : decode cX6_needsEnd 23 = .ok (.return_, 1) := by decide +kernel
set_option maxRecDepth 20000 in
theorem ggX6_takeDigit_X6_passBlanks : GoodIn wsX6_takeDigit wsX6_passBlanks := goodIn_r _ [6, 1, 7, 8, 21, 22, 23, 24] (by decide +kernel) (by decide +kernel)
set_option maxRecDepth 20000 in
theorem gX6_takeDigit_X6_passBlanks : GoodIn wsX6_takeDigit (wsV RX6 70 RX6 yX6_passBlanks wsX6_passBlanks) := goodIn_app (goodIn_of _ (by decide +kernel)) ggX6_takeDigit_X6_passBlanks
set_option maxRecDepth 20000 in
theorem ggX6_takeDigit_X6_signHere : GoodIn wsX6_takeDigit wsX6_signHere := goodIn_r _ [12, 1, 7, 8, 21, 22, 23, 24] (by decide +kernel) (by decide +kernel)
set_option maxRecDepth 20000 in
theorem gX6_takeDigit_X6_signHere : GoodIn wsX6_takeDigit (wsV RX6 73 RX6 yX6_signHere wsX6_signHere) := goodIn_app (goodIn_of _ (by decide +kernel)) ggX6_takeDigit_X6_signHere
set_option maxRecDepth 20000 in
theorem ggX6_takeDigit_X9_isWithin : GoodIn wsX6_takeDigit wsX9_isWithin := goodIn_r _ [15] (by decide +kernel) (by decide +kernel)
set_option maxRecDepth 20000 in
theorem gX6_takeDigit_X9_isWithin_n21 : GoodIn wsX6_takeDigit (wsX9_isWithin) := ggX6_takeDigit_X9_isWithin
set_option maxRecDepth 20000 in
theorem ggX6_takeDigit_X6_fail : GoodIn wsX6_takeDigit wsX6_fail := goodIn_r _ [19, 20, 21, 22, 23, 24] (by decide +kernel) (by decide +kernel)
set_option maxRecDepth 20000 in
theorem gX6_takeDigit_X6_fail : GoodIn wsX6_takeDigit (wsV RX6 77 RX6 yX6_fail wsX6_fail) := goodIn_app (goodIn_of _ (by decide +kernel)) ggX6_takeDigit_X6_fail
theorem dX6_takeDigit_0 : decode cX6_takeDigit 0 = .ok (.aload_n 0, 1) := by decide +kernel
theorem dX6_takeDigit_1 : decode cX6_takeDigit 1 = .ok (.invokevirtual 70, 3) := by decide +kernel
theorem dX6_takeDigit_4 : decode cX6_takeDigit 4 = .ok (.aload_n 0, 1) := by decide +kernel
theorem dX6_takeDigit_5 : decode cX6_takeDigit 5 = .ok (.invokevirtual 73, 3) := by decide +kernel
theorem dX6_takeDigit_8 : decode cX6_takeDigit 8 = .ok (.bipush 48, 2) := by decide +kernel
theorem dX6_takeDigit_10 : decode cX6_takeDigit 10 = .ok (.isub, 1) := by decide +kernel
theorem dX6_takeDigit_11 : decode cX6_takeDigit 11 = .ok (.istore_n 3, 1) := by decide +kernel
theorem dX6_takeDigit_12 : decode cX6_takeDigit 12 = .ok (.iload_n 3, 1) := by decide +kernel
theorem dX6_takeDigit_13 : decode cX6_takeDigit 13 = .ok (.iload_n 1, 1) := by decide +kernel
theorem dX6_takeDigit_14 : decode cX6_takeDigit 14 = .ok (.iload_n 2, 1) := by decide +kernel
theorem dX6_takeDigit_15 : decode cX6_takeDigit 15 = .ok (.invokestatic 21, 3) := by decide +kernel
theorem dX6_takeDigit_18 : decode cX6_takeDigit 18 = .ok (.ifCond .ne 13, 3) := by decide +kernel
theorem dX6_takeDigit_21 : decode cX6_takeDigit 21 = .ok (.aload_n 0, 1) := by decide +kernel
theorem dX6_takeDigit_22 : decode cX6_takeDigit 22 = .ok (.aload_n 0, 1) := by decide +kernel
theorem dX6_takeDigit_23 : decode cX6_takeDigit 23 = .ok (.getfield 31, 3) := by decide +kernel
theorem dX6_takeDigit_26 : decode cX6_takeDigit 26 = .ok (.invokevirtual 77, 3) := by decide +kernel
theorem dX6_takeDigit_29 : decode cX6_takeDigit 29 = .ok (.iload_n 1, 1) := by decide +kernel
theorem dX6_takeDigit_30 : decode cX6_takeDigit 30 = .ok (.ireturn, 1) := by decide +kernel
theorem dX6_takeDigit_31 : decode cX6_takeDigit 31 = .ok (.aload_n 0, 1) := by decide +kernel
theorem dX6_takeDigit_32 : decode cX6_takeDigit 32 = .ok (.dup, 1) := by decide +kernel
theorem dX6_takeDigit_33 : decode cX6_takeDigit 33 = .ok (.getfield 31, 3) := by decide +kernel
theorem dX6_takeDigit_36 : decode cX6_takeDigit 36 = .ok (.iconst 1, 1) := by decide +kernel
theorem dX6_takeDigit_37 : decode cX6_takeDigit 37 = .ok (.iadd, 1) := by decide +kernel
theorem dX6_takeDigit_38 : decode cX6_takeDigit 38 = .ok (.putfield 31, 3) := by decide +kernel
theorem dX6_takeDigit_41 : decode cX6_takeDigit 41 = .ok (.iload_n 3, 1) := by decide +kernel
theorem dX6_takeDigit_42 : decode cX6_takeDigit 42 = .ok (.ireturn, 1) := by decide +kernel
set_option maxRecDepth 20000 in
theorem ggX6_takeNumber_X6_passBlanks : GoodIn wsX6_takeNumber wsX6_passBlanks := goodIn_r _ [13, 1, 2, 3, 22, 23, 24, 25] (by decide +kernel) (by decide +kernel)
set_option maxRecDepth 20000 in
theorem gX6_takeNumber_X6_passBlanks : GoodIn wsX6_takeNumber (wsV RX6 70 RX6 yX6_passBlanks wsX6_passBlanks) := goodIn_app (goodIn_of _ (by decide +kernel)) ggX6_takeNumber_X6_passBlanks
set_option maxRecDepth 20000 in
theorem ggX6_takeNumber_X9_isWithin : GoodIn wsX6_takeNumber wsX9_isWithin := goodIn_r _ [16] (by decide +kernel) (by decide +kernel)
set_option maxRecDepth 20000 in
theorem gX6_takeNumber_X9_isWithin_n21 : GoodIn wsX6_takeNumber (wsX9_isWithin) := ggX6_takeNumber_X9_isWithin
set_option maxRecDepth 20000 in
theorem ggX6_takeNumber_X6_fail : GoodIn wsX6_takeNumber wsX6_fail := goodIn_r _ [20, 21, 22, 23, 24, 25] (by decide +kernel) (by decide +kernel)
set_option maxRecDepth 20000 in
theorem gX6_takeNumber_X6_fail : GoodIn wsX6_takeNumber (wsV RX6 77 RX6 yX6_fail wsX6_fail) := goodIn_app (goodIn_of _ (by decide +kernel)) ggX6_takeNumber_X6_fail
theorem dX6_takeNumber_0 : decode cX6_takeNumber 0 = .ok (.aload_n 0, 1) := by decide +kernel
theorem dX6_takeNumber_1 : decode cX6_takeNumber 1 = .ok (.invokevirtual 70, 3) := by decide +kernel
theorem dX6_takeNumber_4 : decode cX6_takeNumber 4 = .ok (.aload_n 0, 1) := by decide +kernel
theorem dX6_takeNumber_5 : decode cX6_takeNumber 5 = .ok (.getfield 31, 3) := by decide +kernel
theorem dX6_takeNumber_8 : decode cX6_takeNumber 8 = .ok (.istore_n 3, 1) := by decide +kernel
theorem dX6_takeNumber_9 : decode cX6_takeNumber 9 = .ok (.iconst 0, 1) := by decide +kernel
theorem dX6_takeNumber_10 : decode cX6_takeNumber 10 = .ok (.istore 4, 2) := by decide +kernel
theorem dX6_takeNumber_12 : decode cX6_takeNumber 12 = .ok (.aload_n 0, 1) := by decide +kernel
theorem dX6_takeNumber_13 : decode cX6_takeNumber 13 = .ok (.getfield 31, 3) := by decide +kernel
theorem dX6_takeNumber_16 : decode cX6_takeNumber 16 = .ok (.aload_n 0, 1) := by decide +kernel
theorem dX6_takeNumber_17 : decode cX6_takeNumber 17 = .ok (.getfield 25, 3) := by decide +kernel
theorem dX6_takeNumber_20 : decode cX6_takeNumber 20 = .ok (.if_icmp .ge 60, 3) := by decide +kernel
theorem dX6_takeNumber_23 : decode cX6_takeNumber 23 = .ok (.aload_n 0, 1) := by decide +kernel
theorem dX6_takeNumber_24 : decode cX6_takeNumber 24 = .ok (.getfield 15, 3) := by decide +kernel
theorem dX6_takeNumber_27 : decode cX6_takeNumber 27 = .ok (.aload_n 0, 1) := by decide +kernel
theorem dX6_takeNumber_28 : decode cX6_takeNumber 28 = .ok (.getfield 31, 3) := by decide +kernel
theorem dX6_takeNumber_31 : decode cX6_takeNumber 31 = .ok (.baload, 1) := by decide +kernel
theorem dX6_takeNumber_32 : decode cX6_takeNumber 32 = .ok (.bipush 48, 2) := by decide +kernel
theorem dX6_takeNumber_34 : decode cX6_takeNumber 34 = .ok (.bipush 57, 2) := by decide +kernel
theorem dX6_takeNumber_36 : decode cX6_takeNumber 36 = .ok (.invokestatic 21, 3) := by decide +kernel
theorem dX6_takeNumber_39 : decode cX6_takeNumber 39 = .ok (.ifCond .eq 41, 3) := by decide +kernel
theorem dX6_takeNumber_42 : decode cX6_takeNumber 42 = .ok (.iload 4, 2) := by decide +kernel
theorem dX6_takeNumber_44 : decode cX6_takeNumber 44 = .ok (.bipush 10, 2) := by decide +kernel
theorem dX6_takeNumber_46 : decode cX6_takeNumber 46 = .ok (.imul, 1) := by decide +kernel
theorem dX6_takeNumber_47 : decode cX6_takeNumber 47 = .ok (.aload_n 0, 1) := by decide +kernel
theorem dX6_takeNumber_48 : decode cX6_takeNumber 48 = .ok (.getfield 15, 3) := by decide +kernel
theorem dX6_takeNumber_51 : decode cX6_takeNumber 51 = .ok (.aload_n 0, 1) := by decide +kernel
theorem dX6_takeNumber_52 : decode cX6_takeNumber 52 = .ok (.getfield 31, 3) := by decide +kernel
theorem dX6_takeNumber_55 : decode cX6_takeNumber 55 = .ok (.baload, 1) := by decide +kernel
theorem dX6_takeNumber_56 : decode cX6_takeNumber 56 = .ok (.iadd, 1) := by decide +kernel
theorem dX6_takeNumber_57 : decode cX6_takeNumber 57 = .ok (.bipush 48, 2) := by decide +kernel
theorem dX6_takeNumber_59 : decode cX6_takeNumber 59 = .ok (.isub, 1) := by decide +kernel
theorem dX6_takeNumber_60 : decode cX6_takeNumber 60 = .ok (.ldc 80, 2) := by decide +kernel
theorem dX6_takeNumber_62 : decode cX6_takeNumber 62 = .ok (.invokestatic 81, 3) := by decide +kernel
theorem dX6_takeNumber_65 : decode cX6_takeNumber 65 = .ok (.istore 4, 2) := by decide +kernel
theorem dX6_takeNumber_67 : decode cX6_takeNumber 67 = .ok (.aload_n 0, 1) := by decide +kernel
theorem dX6_takeNumber_68 : decode cX6_takeNumber 68 = .ok (.dup, 1) := by decide +kernel
theorem dX6_takeNumber_69 : decode cX6_takeNumber 69 = .ok (.getfield 31, 3) := by decide +kernel
theorem dX6_takeNumber_72 : decode cX6_takeNumber 72 = .ok (.iconst 1, 1) := by decide +kernel
theorem dX6_takeNumber_73 : decode cX6_takeNumber 73 = .ok (.iadd, 1) := by decide +kernel
theorem dX6_takeNumber_74 : decode cX6_takeNumber 74 = .ok (.putfield 31, 3) := by decide +kernel
theorem dX6_takeNumber_77 : decode cX6_takeNumber 77 = .ok (.goto (-65), 3) := by decide +kernel
theorem dX6_takeNumber_80 : decode cX6_takeNumber 80 = .ok (.aload_n 0, 1) := by decide +kernel
theorem dX6_takeNumber_81 : decode cX6_takeNumber 81 = .ok (.getfield 31, 3) := by decide +kernel
theorem dX6_takeNumber_84 : decode cX6_takeNumber 84 = .ok (.iload_n 3, 1) := by decide +kernel
theorem dX6_takeNumber_85 : decode cX6_takeNumber 85 = .ok (.if_icmp .eq 13, 3) := by decide +kernel
theorem dX6_takeNumber_88 : decode cX6_takeNumber 88 = .ok (.iload 4, 2) := by decide +kernel
theorem dX6_takeNumber_90 : decode cX6_takeNumber 90 = .ok (.iload_n 1, 1) := by decide +kernel
theorem dX6_takeNumber_91 : decode cX6_takeNumber 91 = .ok (.iload_n 2, 1) := by decide +kernel
theorem dX6_takeNumber_92 : decode cX6_takeNumber 92 = .ok (.invokestatic 21, 3) := by decide +kernel
theorem dX6_takeNumber_95 : decode cX6_takeNumber 95 = .ok (.ifCond .ne 10, 3) := by decide +kernel
theorem dX6_takeNumber_98 : decode cX6_takeNumber 98 = .ok (.aload_n 0, 1) := by decide +kernel
theorem dX6_takeNumber_99 : decode cX6_takeNumber 99 = .ok (.iload_n 3, 1) := by decide +kernel
theorem dX6_takeNumber_100 : decode cX6_takeNumber 100 = .ok (.invokevirtual 77, 3) := by decide +kernel
theorem dX6_takeNumber_103 : decode cX6_takeNumber 103 = .ok (.iload_n 1, 1) := by decide +kernel
theorem dX6_takeNumber_104 : decode cX6_takeNumber 104 = .ok (.ireturn, 1) := by decide +kernel
theorem dX6_takeNumber_105 : decode cX6_takeNumber 105 = .ok (.iload 4, 2) := by decide +kernel
theorem dX6_takeNumber_107 : decode cX6_takeNumber 107 = .ok (.ireturn, 1) := by decide +kernel
theorem dX7_init_0 : decode cX7_init 0 = .ok (.aload_n 0, 1) := by decide +kernel
theorem dX7_init_1 : decode cX7_init 1 = .ok (.invokespecial 3, 3) := by decide +kernel
theorem dX7_init_4 : decode cX7_init 4 = .ok (.aload_n 0, 1) := by decide +kernel
theorem dX7_init_5 : decode cX7_init 5 = .ok (.bipush 6, 2) := by decide +kernel
theorem dX7_init_7 : decode cX7_init 7 = .ok (.newarray .int, 2) := by decide +kernel
theorem dX7_init_9 : decode cX7_init 9 = .ok (.putfield 9, 3) := by decide +kernel
theorem dX7_init_12 : decode cX7_init 12 = .ok (.aload_n 0, 1) := by decide +kernel
theorem dX7_init_13 : decode cX7_init 13 = .ok (.bipush 6, 2) := by decide +kernel
theorem dX7_init_15 : decode cX7_init 15 = .ok (.newarray .int, 2) := by decide +kernel
theorem dX7_init_17 : decode cX7_init 17 = .ok (.putfield 15, 3) := by decide +kernel
theorem dX7_init_20 : decode cX7_init 20 = .ok (.return_, 1) := by decide +kernel
theorem dX7_begin_0 : decode cX7_begin 0 = .ok (.aload_n 0, 1) := by decide +kernel
theorem dX7_begin_1 : decode cX7_begin 1 = .ok (.iload_n 1, 1) := by decide +kernel
theorem dX7_begin_2 : decode cX7_begin 2 = .ok (.putfield 18, 3) := by decide +kernel
theorem dX7_begin_5 : decode cX7_begin 5 = .ok (.aload_n 0, 1) := by decide +kernel
theorem dX7_begin_6 : decode cX7_begin 6 = .ok (.lload_n 2, 1) := by decide +kernel
theorem dX7_begin_7 : decode cX7_begin 7 = .ok (.putfield 22, 3) := by decide +kernel
theorem dX7_begin_10 : decode cX7_begin 10 = .ok (.aload_n 0, 1) := by decide +kernel
theorem dX7_begin_11 : decode cX7_begin 11 = .ok (.iload 4, 2) := by decide +kernel
theorem dX7_begin_13 : decode cX7_begin 13 = .ok (.putfield 26, 3) := by decide +kernel
theorem dX7_begin_16 : decode cX7_begin 16 = .ok (.aload_n 0, 1) := by decide +kernel
theorem dX7_begin_17 : decode cX7_begin 17 = .ok (.iload 5, 2) := by decide +kernel
theorem dX7_begin_19 : decode cX7_begin 19 = .ok (.putfield 29, 3) := by decide +kernel
theorem dX7_begin_22 : decode cX7_begin 22 = .ok (.aload_n 0, 1) := by decide +kernel
theorem dX7_begin_23 : decode cX7_begin 23 = .ok (.iload 6, 2) := by decide +kernel
theorem dX7_begin_25 : decode cX7_begin 25 = .ok (.putfield 32, 3) := by decide +kernel
theorem dX7_begin_28 : decode cX7_begin 28 = .ok (.return_, 1) := by decide +kernel
theorem dX7_mayGetBetter_0 : decode cX7_mayGetBetter 0 = .ok (.aload_n 0, 1) := by decide +kernel
theorem dX7_mayGetBetter_1 : decode cX7_mayGetBetter 1 = .ok (.getfield 22, 3) := by decide +kernel
theorem dX7_mayGetBetter_4 : decode cX7_mayGetBetter 4 = .ok (.lconst 0, 1) := by decide +kernel
theorem dX7_mayGetBetter_5 : decode cX7_mayGetBetter 5 = .ok (.lcmp, 1) := by decide +kernel
theorem dX7_mayGetBetter_6 : decode cX7_mayGetBetter 6 = .ok (.ifCond .ne 11, 3) := by decide +kernel
theorem dX7_mayGetBetter_9 : decode cX7_mayGetBetter 9 = .ok (.iload_n 1, 1) := by decide +kernel
theorem dX7_mayGetBetter_10 : decode cX7_mayGetBetter 10 = .ok (.aload_n 0, 1) := by decide +kernel
theorem dX7_mayGetBetter_11 : decode cX7_mayGetBetter 11 = .ok (.getfield 29, 3) := by decide +kernel
theorem dX7_mayGetBetter_14 : decode cX7_mayGetBetter 14 = .ok (.if_icmp .le 7, 3) := by decide +kernel
theorem dX7_mayGetBetter_17 : decode cX7_mayGetBetter 17 = .ok (.iconst 1, 1) := by decide +kernel
theorem dX7_mayGetBetter_18 : decode cX7_mayGetBetter 18 = .ok (.goto 4, 3) := by decide +kernel
theorem dX7_mayGetBetter_21 : decode cX7_mayGetBetter 21 = .ok (.iconst 0, 1) := by decide +kernel
theorem dX7_mayGetBetter_22 : decode cX7_mayGetBetter 22 = .ok (.ireturn, 1) := by decide +kernel
theorem dX7_judge_0 : decode cX7_judge 0 = .ok (.iload_n 3, 1) := by decide +kernel
theorem dX7_judge_1 : decode cX7_judge 1 = .ok (.istore 4, 2) := by decide +kernel
theorem dX7_judge_3 : decode cX7_judge 3 = .ok (.aload_n 0, 1) := by decide +kernel
theorem dX7_judge_4 : decode cX7_judge 4 = .ok (.getfield 22, 3) := by decide +kernel
theorem dX7_judge_7 : decode cX7_judge 7 = .ok (.lconst 0, 1) := by decide +kernel
theorem dX7_judge_8 : decode cX7_judge 8 = .ok (.lcmp, 1) := by decide +kernel
theorem dX7_judge_9 : decode cX7_judge 9 = .ok (.ifCond .eq 29, 3) := by decide +kernel
theorem dX7_judge_12 : decode cX7_judge 12 = .ok (.aload_n 1, 1) := by decide +kernel
theorem dX7_judge_13 : decode cX7_judge 13 = .ok (.getfield 35, 3) := by decide +kernel
theorem dX7_judge_16 : decode cX7_judge 16 = .ok (.aload_n 0, 1) := by decide +kernel
theorem dX7_judge_17 : decode cX7_judge 17 = .ok (.getfield 26, 3) := by decide +kernel
theorem dX7_judge_20 : decode cX7_judge 20 = .ok (.laload, 1) := by decide +kernel
theorem dX7_judge_21 : decode cX7_judge 21 = .ok (.aload_n 0, 1) := by decide +kernel
theorem dX7_judge_22 : decode cX7_judge 22 = .ok (.getfield 22, 3) := by decide +kernel
theorem dX7_judge_25 : decode cX7_judge 25 = .ok (.land, 1) := by decide +kernel
theorem dX7_judge_26 : decode cX7_judge 26 = .ok (.lconst 0, 1) := by decide +kernel
theorem dX7_judge_27 : decode cX7_judge 27 = .ok (.lcmp, 1) := by decide +kernel
theorem dX7_judge_28 : decode cX7_judge 28 = .ok (.ifCond .eq 7, 3) := by decide +kernel
theorem dX7_judge_31 : decode cX7_judge 31 = .ok (.iconst 1, 1) := by decide +kernel
theorem dX7_judge_32 : decode cX7_judge 32 = .ok (.goto 4, 3) := by decide +kernel
theorem dX7_judge_35 : decode cX7_judge 35 = .ok (.iconst 0, 1) := by decide +kernel
theorem dX7_judge_36 : decode cX7_judge 36 = .ok (.istore 4, 2) := by decide +kernel
theorem dX7_judge_38 : decode cX7_judge 38 = .ok (.iload 4, 2) := by decide +kernel
theorem dX7_judge_40 : decode cX7_judge 40 = .ok (.aload_n 0, 1) := by decide +kernel
theorem dX7_judge_41 : decode cX7_judge 41 = .ok (.getfield 29, 3) := by decide +kernel
theorem dX7_judge_44 : decode cX7_judge 44 = .ok (.if_icmp .le 38, 3) := by decide +kernel
theorem dX7_judge_47 : decode cX7_judge 47 = .ok (.aload_n 0, 1) := by decide +kernel
theorem dX7_judge_48 : decode cX7_judge 48 = .ok (.iload 4, 2) := by decide +kernel
theorem dX7_judge_50 : decode cX7_judge 50 = .ok (.putfield 29, 3) := by decide +kernel
theorem dX7_judge_53 : decode cX7_judge 53 = .ok (.iconst 0, 1) := by decide +kernel
theorem dX7_judge_54 : decode cX7_judge 54 = .ok (.istore 5, 2) := by decide +kernel
theorem dX7_judge_56 : decode cX7_judge 56 = .ok (.iload 5, 2) := by decide +kernel
theorem dX7_judge_58 : decode cX7_judge 58 = .ok (.iload_n 2, 1) := by decide +kernel
theorem dX7_judge_59 : decode cX7_judge 59 = .ok (.if_icmp .ge 23, 3) := by decide +kernel
theorem dX7_judge_62 : decode cX7_judge 62 = .ok (.aload_n 0, 1) := by decide +kernel
theorem dX7_judge_63 : decode cX7_judge 63 = .ok (.getfield 15, 3) := by decide +kernel
theorem dX7_judge_66 : decode cX7_judge 66 = .ok (.iload 5, 2) := by decide +kernel
theorem dX7_judge_68 : decode cX7_judge 68 = .ok (.aload_n 0, 1) := by decide +kernel
theorem dX7_judge_69 : decode cX7_judge 69 = .ok (.getfield 9, 3) := by decide +kernel
theorem dX7_judge_72 : decode cX7_judge 72 = .ok (.iload 5, 2) := by decide +kernel
theorem dX7_judge_74 : decode cX7_judge 74 = .ok (.iaload, 1) := by decide +kernel
theorem dX7_judge_75 : decode cX7_judge 75 = .ok (.iastore, 1) := by decide +kernel
theorem dX7_judge_76 : decode cX7_judge 76 = .ok (.iinc 5 1, 3) := by decide +kernel
theorem dX7_judge_79 : decode cX7_judge 79 = .ok (.goto (-23), 3) := by decide +kernel
theorem dX7_judge_82 : decode cX7_judge 82 = .ok (.return_, 1) := by decide +kernel
set_option maxRecDepth 20000 in
theorem ggX8_init_X2_init : GoodIn wsX8_init wsX2_init := goodIn_r _ [15, 16, 2, 3, 17, 18, 19, 20, 21, 22, 30, 31, 32, 33, 34, 35] (by decide +kernel) (by decide +kernel)
set_option maxRecDepth 20000 in
theorem gX8_init_X2_init : GoodIn wsX8_init (wsX2_init) := ggX8_init_X2_init
set_option maxRecDepth 20000 in
theorem ggX8_init_X0_init : GoodIn wsX8_init wsX0_init := goodIn_r _ [25, 26, 2, 3, 17, 27, 28, 29, 40, 41, 42, 43] (by decide +kernel) (by decide +kernel)
set_option maxRecDepth 20000 in
theorem gX8_init_X0_init : GoodIn wsX8_init (wsX0_init) := ggX8_init_X0_init
theorem dX8_init_0 : decode cX8_init 0 = .ok (.aload_n 0, 1) := by decide +kernel
theorem dX8_init_1 : decode cX8_init 1 = .ok (.invokespecial 3, 3) := by decide +kernel
theorem dX8_init_4 : decode cX8_init 4 = .ok (.aload_n 0, 1) := by decide +kernel
theorem dX8_init_5 : decode cX8_init 5 = .ok (.new 9, 3) := by decide +kernel
theorem dX8_init_8 : decode cX8_init 8 = .ok (.dup, 1) := by decide +kernel
theorem dX8_init_9 : decode cX8_init 9 = .ok (.bipush 40, 2) := by decide +kernel
theorem dX8_init_11 : decode cX8_init 11 = .ok (.invokespecial 11, 3) := by decide +kernel
theorem dX8_init_14 : decode cX8_init 14 = .ok (.putfield 14, 3) := by decide +kernel
theorem dX8_init_17 : decode cX8_init 17 = .ok (.aload_n 0, 1) := by decide +kernel
theorem dX8_init_18 : decode cX8_init 18 = .ok (.new 20, 3) := by decide +kernel
theorem dX8_init_21 : decode cX8_init 21 = .ok (.dup, 1) := by decide +kernel
theorem dX8_init_22 : decode cX8_init 22 = .ok (.bipush 24, 2) := by decide +kernel
theorem dX8_init_24 : decode cX8_init 24 = .ok (.invokespecial 22, 3) := by decide +kernel
theorem dX8_init_27 : decode cX8_init 27 = .ok (.putfield 23, 3) := by decide +kernel
theorem dX8_init_30 : decode cX8_init 30 = .ok (.aload_n 0, 1) := by decide +kernel
theorem dX8_init_31 : decode cX8_init 31 = .ok (.new 20, 3) := by decide +kernel
theorem dX8_init_34 : decode cX8_init 34 = .ok (.dup, 1) := by decide +kernel
theorem dX8_init_35 : decode cX8_init 35 = .ok (.bipush 6, 2) := by decide +kernel
theorem dX8_init_37 : decode cX8_init 37 = .ok (.invokespecial 22, 3) := by decide +kernel
theorem dX8_init_40 : decode cX8_init 40 = .ok (.putfield 27, 3) := by decide +kernel
theorem dX8_init_43 : decode cX8_init 43 = .ok (.return_, 1) := by decide +kernel
set_option maxRecDepth 20000 in
theorem ggX8_copyFrom_X2_copyFrom : GoodIn wsX8_copyFrom wsX2_copyFrom := goodIn_r _ [9, 10, 11, 12, 13, 8, 14, 15, 16, 17, 18, 19, 20, 21, 22, 23, 41, 42, 43, 44, 45, 46] (by decide +kernel) (by decide +kernel)
set_option maxRecDepth 20000 in
theorem gX8_copyFrom_X2_copyFrom : GoodIn wsX8_copyFrom (wsV RX8 34 RX2 yX2_copyFrom wsX2_copyFrom) := goodIn_app (goodIn_of _ (by decide +kernel)) ggX8_copyFrom_X2_copyFrom
set_option maxRecDepth 20000 in
theorem ggX8_copyFrom_X0_copyFrom : GoodIn wsX8_copyFrom wsX0_copyFrom := goodIn_r _ [28, 29, 30, 31, 32, 33, 34, 35, 27, 36, 47, 48, 49, 50] (by decide +kernel) (by decide +kernel)
set_option maxRecDepth 20000 in
theorem gX8_copyFrom_X0_copyFrom : GoodIn wsX8_copyFrom (wsV RX8 38 RX0 yX0_copyFrom wsX0_copyFrom) := goodIn_app (goodIn_of _ (by decide +kernel)) ggX8_copyFrom_X0_copyFrom
theorem dX8_copyFrom_0 : decode cX8_copyFrom 0 = .ok (.aload_n 0, 1) := by decide +kernel
theorem dX8_copyFrom_1 : decode cX8_copyFrom 1 = .ok (.aload_n 1, 1) := by decide +kernel
theorem dX8_copyFrom_2 : decode cX8_copyFrom 2 = .ok (.getfield 30, 3) := by decide +kernel
theorem dX8_copyFrom_5 : decode cX8_copyFrom 5 = .ok (.putfield 30, 3) := by decide +kernel
theorem dX8_copyFrom_8 : decode cX8_copyFrom 8 = .ok (.aload_n 0, 1) := by decide +kernel
theorem dX8_copyFrom_9 : decode cX8_copyFrom 9 = .ok (.getfield 14, 3) := by decide +kernel
theorem dX8_copyFrom_12 : decode cX8_copyFrom 12 = .ok (.aload_n 1, 1) := by decide +kernel
theorem dX8_copyFrom_13 : decode cX8_copyFrom 13 = .ok (.getfield 14, 3) := by decide +kernel
theorem dX8_copyFrom_16 : decode cX8_copyFrom 16 = .ok (.invokevirtual 34, 3) := by decide +kernel
theorem dX8_copyFrom_19 : decode cX8_copyFrom 19 = .ok (.aload_n 0, 1) := by decide +kernel
theorem dX8_copyFrom_20 : decode cX8_copyFrom 20 = .ok (.getfield 23, 3) := by decide +kernel
theorem dX8_copyFrom_23 : decode cX8_copyFrom 23 = .ok (.aload_n 1, 1) := by decide +kernel
theorem dX8_copyFrom_24 : decode cX8_copyFrom 24 = .ok (.getfield 23, 3) := by decide +kernel
theorem dX8_copyFrom_27 : decode cX8_copyFrom 27 = .ok (.invokevirtual 38, 3) := by decide +kernel
theorem dX8_copyFrom_30 : decode cX8_copyFrom 30 = .ok (.aload_n 0, 1) := by decide +kernel
theorem dX8_copyFrom_31 : decode cX8_copyFrom 31 = .ok (.getfield 27, 3) := by decide +kernel
theorem dX8_copyFrom_34 : decode cX8_copyFrom 34 = .ok (.aload_n 1, 1) := by decide +kernel
theorem dX8_copyFrom_35 : decode cX8_copyFrom 35 = .ok (.getfield 27, 3) := by decide +kernel
theorem dX8_copyFrom_38 : decode cX8_copyFrom 38 = .ok (.invokevirtual 38, 3) := by decide +kernel
theorem dX8_copyFrom_41 : decode cX8_copyFrom 41 = .ok (.return_, 1) := by decide +kernel
set_option maxRecDepth 20000 in
theorem ggX9_init_X8_init : GoodIn wsX9_init wsX8_init := goodIn_r _ [45, 46, 2, 3, 47, 33, 34, 48, 49, 37, 38, 50, 51, 52, 53, 54, 55, 56, 57, 58, 59, 60, 61, 62, 63, 64, 65, 66, 67, 68, 156, 157, 158, 159, 160, 161, 108, 109, 110, 111, 162, 163, 164, 165] (by decide +kernel) (by decide +kernel)
set_option maxRecDepth 20000 in
theorem gX9_init_X8_init_n9 : GoodIn wsX9_init (wsX8_init) := ggX9_init_X8_init
set_option maxRecDepth 20000 in
theorem ggX9_init_X4_init : GoodIn wsX9_init wsX4_init := goodIn_r _ [70, 71, 2, 3, 56, 72, 73, 74, 75, 76, 77, 126, 127, 128, 129, 130, 131] (by decide +kernel) (by decide +kernel)
set_option maxRecDepth 20000 in
theorem gX9_init_X4_init_n21 : GoodIn wsX9_init (wsX4_init) := ggX9_init_X4_init
set_option maxRecDepth 20000 in
theorem ggX9_init_X1_init : GoodIn wsX9_init wsX1_init := goodIn_r _ [79, 80, 2, 3, 76, 81, 132, 133, 134, 135, 136] (by decide +kernel) (by decide +kernel)
set_option maxRecDepth 20000 in
theorem gX9_init_X1_init_n35 : GoodIn wsX9_init (wsX1_init) := ggX9_init_X1_init
set_option maxRecDepth 20000 in
theorem ggX9_init_X7_init : GoodIn wsX9_init wsX7_init := goodIn_r _ [83, 84, 2, 3, 56, 85, 86, 137, 138, 139, 140, 141, 142, 143] (by decide +kernel) (by decide +kernel)
set_option maxRecDepth 20000 in
theorem gX9_init_X7_init_n45 : GoodIn wsX9_init (wsX7_init) := ggX9_init_X7_init
set_option maxRecDepth 20000 in
theorem ggX9_init_X3_init : GoodIn wsX9_init wsX3_init := goodIn_r _ [88, 89, 2, 3, 56, 90, 91, 92, 144, 145, 146, 147, 148, 149, 150, 151] (by decide +kernel) (by decide +kernel)
set_option maxRecDepth 20000 in
theorem gX9_init_X3_init_n52 : GoodIn wsX9_init (wsX3_init) := ggX9_init_X3_init
set_option maxRecDepth 20000 in
theorem ggX9_init_X6_init : GoodIn wsX9_init wsX6_init := goodIn_r _ [94, 95, 2, 3, 96, 97, 98, 152, 153, 154, 155] (by decide +kernel) (by decide +kernel)
set_option maxRecDepth 20000 in
theorem gX9_init_X6_init_n59 : GoodIn wsX9_init (wsX6_init) := ggX9_init_X6_init
set_option maxRecDepth 20000 in
theorem ggX9_init_X2_init : GoodIn wsX9_init wsX2_init := goodIn_r _ [54, 55, 2, 3, 56, 57, 58, 59, 60, 61, 156, 157, 158, 159, 160, 161] (by decide +kernel) (by decide +kernel)
set_option maxRecDepth 20000 in
theorem gX9_init_X2_init : GoodIn wsX9_init (wsX2_init) := ggX9_init_X2_init
set_option maxRecDepth 20000 in
theorem ggX9_init_X0_init : GoodIn wsX9_init wsX0_init := goodIn_r _ [64, 65, 2, 3, 56, 66, 67, 68, 162, 163, 164, 165] (by decide +kernel) (by decide +kernel)
set_option maxRecDepth 20000 in
theorem gX9_init_X0_init : GoodIn wsX9_init (wsX0_init) := ggX9_init_X0_init
set_option maxRecDepth 20000 in
theorem ggX9_init_X5_init : GoodIn wsX9_init wsX5_init := goodIn_r _ [103, 104, 2, 3, 56, 105, 106, 76, 107, 166, 167, 168] (by decide +kernel) (by decide +kernel)
set_option maxRecDepth 20000 in
theorem gX9_init_X5_init : GoodIn wsX9_init (wsX5_init) := ggX9_init_X5_init
theorem dX9_init_0 : decode cX9_init 0 = .ok (.aload_n 0, 1) := by decide +kernel
theorem dX9_init_1 : decode cX9_init 1 = .ok (.invokespecial 1, 3) := by decide +kernel
theorem dX9_init_4 : decode cX9_init 4 = .ok (.aload_n 0, 1) := by decide +kernel
theorem dX9_init_5 : decode cX9_init 5 = .ok (.new 7, 3) := by decide +kernel
theorem dX9_init_8 : decode cX9_init 8 = .ok (.dup, 1) := by decide +kernel
theorem dX9_init_9 : decode cX9_init 9 = .ok (.invokespecial 9, 3) := by decide +kernel
theorem dX9_init_12 : decode cX9_init 12 = .ok (.putfield 10, 3) := by decide +kernel
theorem dX9_init_15 : decode cX9_init 15 = .ok (.aload_n 0, 1) := by decide +kernel
theorem dX9_init_16 : decode cX9_init 16 = .ok (.new 7, 3) := by decide +kernel
theorem dX9_init_19 : decode cX9_init 19 = .ok (.dup, 1) := by decide +kernel
theorem dX9_init_20 : decode cX9_init 20 = .ok (.invokespecial 9, 3) := by decide +kernel
theorem dX9_init_23 : decode cX9_init 23 = .ok (.putfield 16, 3) := by decide +kernel
theorem dX9_init_26 : decode cX9_init 26 = .ok (.aload_n 0, 1) := by decide +kernel
theorem dX9_init_27 : decode cX9_init 27 = .ok (.new 19, 3) := by decide +kernel
theorem dX9_init_30 : decode cX9_init 30 = .ok (.dup, 1) := by decide +kernel
theorem dX9_init_31 : decode cX9_init 31 = .ok (.invokespecial 21, 3) := by decide +kernel
theorem dX9_init_34 : decode cX9_init 34 = .ok (.putfield 22, 3) := by decide +kernel
theorem dX9_init_37 : decode cX9_init 37 = .ok (.aload_n 0, 1) := by decide +kernel
theorem dX9_init_38 : decode cX9_init 38 = .ok (.iconst 1, 1) := by decide +kernel
theorem dX9_init_39 : decode cX9_init 39 = .ok (.putfield 26, 3) := by decide +kernel
theorem dX9_init_42 : decode cX9_init 42 = .ok (.aload_n 0, 1) := by decide +kernel
theorem dX9_init_43 : decode cX9_init 43 = .ok (.new 19, 3) := by decide +kernel
theorem dX9_init_46 : decode cX9_init 46 = .ok (.dup, 1) := by decide +kernel
theorem dX9_init_47 : decode cX9_init 47 = .ok (.invokespecial 21, 3) := by decide +kernel
theorem dX9_init_50 : decode cX9_init 50 = .ok (.putfield 30, 3) := by decide +kernel
theorem dX9_init_53 : decode cX9_init 53 = .ok (.aload_n 0, 1) := by decide +kernel
theorem dX9_init_54 : decode cX9_init 54 = .ok (.new 33, 3) := by decide +kernel
theorem dX9_init_57 : decode cX9_init 57 = .ok (.dup, 1) := by decide +kernel
theorem dX9_init_58 : decode cX9_init 58 = .ok (.invokespecial 35, 3) := by decide +kernel
theorem dX9_init_61 : decode cX9_init 61 = .ok (.putfield 36, 3) := by decide +kernel
theorem dX9_init_64 : decode cX9_init 64 = .ok (.aload_n 0, 1) := by decide +kernel
theorem dX9_init_65 : decode cX9_init 65 = .ok (.new 33, 3) := by decide +kernel
theorem dX9_init_68 : decode cX9_init 68 = .ok (.dup, 1) := by decide +kernel
theorem dX9_init_69 : decode cX9_init 69 = .ok (.invokespecial 35, 3) := by decide +kernel
theorem dX9_init_72 : decode cX9_init 72 = .ok (.putfield 40, 3) := by decide +kernel
theorem dX9_init_75 : decode cX9_init 75 = .ok (.aload_n 0, 1) := by decide +kernel
theorem dX9_init_76 : decode cX9_init 76 = .ok (.new 43, 3) := by decide +kernel
theorem dX9_init_79 : decode cX9_init 79 = .ok (.dup, 1) := by decide +kernel
theorem dX9_init_80 : decode cX9_init 80 = .ok (.invokespecial 45, 3) := by decide +kernel
theorem dX9_init_83 : decode cX9_init 83 = .ok (.putfield 46, 3) := by decide +kernel
theorem dX9_init_86 : decode cX9_init 86 = .ok (.aload_n 0, 1) := by decide +kernel
theorem dX9_init_87 : decode cX9_init 87 = .ok (.new 50, 3) := by decide +kernel
theorem dX9_init_90 : decode cX9_init 90 = .ok (.dup, 1) := by decide +kernel
theorem dX9_init_91 : decode cX9_init 91 = .ok (.invokespecial 52, 3) := by decide +kernel
theorem dX9_init_94 : decode cX9_init 94 = .ok (.putfield 53, 3) := by decide +kernel
theorem dX9_init_97 : decode cX9_init 97 = .ok (.aload_n 0, 1) := by decide +kernel
theorem dX9_init_98 : decode cX9_init 98 = .ok (.new 57, 3) := by decide +kernel
theorem dX9_init_101 : decode cX9_init 101 = .ok (.dup, 1) := by decide +kernel
theorem dX9_init_102 : decode cX9_init 102 = .ok (.invokespecial 59, 3) := by decide +kernel
theorem dX9_init_105 : decode cX9_init 105 = .ok (.putfield 60, 3) := by decide +kernel
theorem dX9_init_108 : decode cX9_init 108 = .ok (.aload_n 0, 1) := by decide +kernel
theorem dX9_init_109 : decode cX9_init 109 = .ok (.new 64, 3) := by decide +kernel
theorem dX9_init_112 : decode cX9_init 112 = .ok (.dup, 1) := by decide +kernel
theorem dX9_init_113 : decode cX9_init 113 = .ok (.bipush 10, 2) := by decide +kernel
theorem dX9_init_115 : decode cX9_init 115 = .ok (.invokespecial 66, 3) := by decide +kernel
theorem dX9_init_118 : decode cX9_init 118 = .ok (.putfield 69, 3) := by decide +kernel
theorem dX9_init_121 : decode cX9_init 121 = .ok (.aload_n 0, 1) := by decide +kernel
theorem dX9_init_122 : decode cX9_init 122 = .ok (.new 73, 3) := by decide +kernel
theorem dX9_init_125 : decode cX9_init 125 = .ok (.dup, 1) := by decide +kernel
theorem dX9_init_126 : decode cX9_init 126 = .ok (.bipush 24, 2) := by decide +kernel
theorem dX9_init_128 : decode cX9_init 128 = .ok (.invokespecial 75, 3) := by decide +kernel
theorem dX9_init_131 : decode cX9_init 131 = .ok (.putfield 76, 3) := by decide +kernel
theorem dX9_init_134 : decode cX9_init 134 = .ok (.aload_n 0, 1) := by decide +kernel
theorem dX9_init_135 : decode cX9_init 135 = .ok (.new 80, 3) := by decide +kernel
theorem dX9_init_138 : decode cX9_init 138 = .ok (.dup, 1) := by decide +kernel
theorem dX9_init_139 : decode cX9_init 139 = .ok (.invokespecial 82, 3) := by decide +kernel
theorem dX9_init_142 : decode cX9_init 142 = .ok (.putfield 83, 3) := by decide +kernel
theorem dX9_init_145 : decode cX9_init 145 = .ok (.return_, 1) := by decide +kernel
set_option maxRecDepth 20000 in
theorem ggX9_coin_X9_isHolder : GoodIn wsX9_coin wsX9_isHolder := goodIn_r _ [8, 9, 10, 7, 11] (by decide +kernel) (by decide +kernel)
set_option maxRecDepth 20000 in
theorem gX9_coin_X9_isHolder : GoodIn wsX9_coin (va_wsS RX9 87 yX9_isHolder wsX9_isHolder) := goodIn_app (goodIn_of _ (by decide +kernel)) ggX9_coin_X9_isHolder
set_option maxRecDepth 20000 in
theorem ggX9_coin_X9_isWithin : GoodIn wsX9_coin wsX9_isWithin := goodIn_r _ [11] (by decide +kernel) (by decide +kernel)
set_option maxRecDepth 20000 in
theorem gX9_coin_X9_isWithin : GoodIn wsX9_coin (va_wsS RX9 91 yX9_isWithin wsX9_isWithin) := goodIn_app (goodIn_of _ (by decide +kernel)) ggX9_coin_X9_isWithin
set_option maxRecDepth 20000 in
theorem ggX9_coin_X9_isYear : GoodIn wsX9_coin wsX9_isYear := goodIn_r _ [14, 9, 10, 7, 11] (by decide +kernel) (by decide +kernel)
set_option maxRecDepth 20000 in
theorem gX9_coin_X9_isYear : GoodIn wsX9_coin (va_wsS RX9 95 yX9_isYear wsX9_isYear) := goodIn_app (goodIn_of _ (by decide +kernel)) ggX9_coin_X9_isYear
set_option maxRecDepth 20000 in
theorem ggX9_coin_X2_add : GoodIn wsX9_coin wsX2_add := goodIn_r _ [19, 20, 21, 22, 23, 24, 25, 44, 45, 46, 47, 48, 49] (by decide +kernel) (by decide +kernel)
set_option maxRecDepth 20000 in
theorem gX9_coin_X2_add : GoodIn wsX9_coin (wsV RX9 105 RX2 yX2_add wsX2_add) := goodIn_app (goodIn_of _ (by decide +kernel)) ggX9_coin_X2_add
theorem dX9_coin_0 : decode cX9_coin 0 = .ok (.iload_n 1, 1) := by decide +kernel
theorem dX9_coin_1 : decode cX9_coin 1 = .ok (.invokestatic 87, 3) := by decide +kernel
theorem dX9_coin_4 : decode cX9_coin 4 = .ok (.ifCond .eq 30, 3) := by decide +kernel
theorem dX9_coin_7 : decode cX9_coin 7 = .ok (.iload_n 2, 1) := by decide +kernel
theorem dX9_coin_8 : decode cX9_coin 8 = .ok (.iconst 1, 1) := by decide +kernel
theorem dX9_coin_9 : decode cX9_coin 9 = .ok (.bipush 99, 2) := by decide +kernel
theorem dX9_coin_11 : decode cX9_coin 11 = .ok (.invokestatic 91, 3) := by decide +kernel
theorem dX9_coin_14 : decode cX9_coin 14 = .ok (.ifCond .eq 20, 3) := by decide +kernel
theorem dX9_coin_17 : decode cX9_coin 17 = .ok (.iload_n 3, 1) := by decide +kernel
theorem dX9_coin_18 : decode cX9_coin 18 = .ok (.invokestatic 95, 3) := by decide +kernel
theorem dX9_coin_21 : decode cX9_coin 21 = .ok (.ifCond .eq 13, 3) := by decide +kernel
theorem dX9_coin_24 : decode cX9_coin 24 = .ok (.iload 4, 2) := by decide +kernel
theorem dX9_coin_26 : decode cX9_coin 26 = .ok (.iconst 0, 1) := by decide +kernel
theorem dX9_coin_27 : decode cX9_coin 27 = .ok (.iconst 3, 1) := by decide +kernel
theorem dX9_coin_28 : decode cX9_coin 28 = .ok (.invokestatic 91, 3) := by decide +kernel
theorem dX9_coin_31 : decode cX9_coin 31 = .ok (.ifCond .ne 5, 3) := by decide +kernel
theorem dX9_coin_34 : decode cX9_coin 34 = .ok (.iconst (-1), 1) := by decide +kernel
theorem dX9_coin_35 : decode cX9_coin 35 = .ok (.ireturn, 1) := by decide +kernel
theorem dX9_coin_36 : decode cX9_coin 36 = .ok (.aload_n 0, 1) := by decide +kernel
theorem dX9_coin_37 : decode cX9_coin 37 = .ok (.getfield 10, 3) := by decide +kernel
theorem dX9_coin_40 : decode cX9_coin 40 = .ok (.getfield 98, 3) := by decide +kernel
theorem dX9_coin_43 : decode cX9_coin 43 = .ok (.getfield 101, 3) := by decide +kernel
theorem dX9_coin_46 : decode cX9_coin 46 = .ok (.bipush 40, 2) := by decide +kernel
theorem dX9_coin_48 : decode cX9_coin 48 = .ok (.if_icmp .lt 6, 3) := by decide +kernel
theorem dX9_coin_51 : decode cX9_coin 51 = .ok (.bipush (-3), 2) := by decide +kernel
theorem dX9_coin_53 : decode cX9_coin 53 = .ok (.ireturn, 1) := by decide +kernel
theorem dX9_coin_54 : decode cX9_coin 54 = .ok (.aload_n 0, 1) := by decide +kernel
theorem dX9_coin_55 : decode cX9_coin 55 = .ok (.iconst 1, 1) := by decide +kernel
theorem dX9_coin_56 : decode cX9_coin 56 = .ok (.putfield 26, 3) := by decide +kernel
theorem dX9_coin_59 : decode cX9_coin 59 = .ok (.aload_n 0, 1) := by decide +kernel
theorem dX9_coin_60 : decode cX9_coin 60 = .ok (.getfield 10, 3) := by decide +kernel
theorem dX9_coin_63 : decode cX9_coin 63 = .ok (.getfield 98, 3) := by decide +kernel
theorem dX9_coin_66 : decode cX9_coin 66 = .ok (.iload_n 1, 1) := by decide +kernel
theorem dX9_coin_67 : decode cX9_coin 67 = .ok (.iload_n 2, 1) := by decide +kernel
theorem dX9_coin_68 : decode cX9_coin 68 = .ok (.iload_n 3, 1) := by decide +kernel
theorem dX9_coin_69 : decode cX9_coin 69 = .ok (.iload_n 3, 1) := by decide +kernel
theorem dX9_coin_70 : decode cX9_coin 70 = .ok (.iload 4, 2) := by decide +kernel
theorem dX9_coin_72 : decode cX9_coin 72 = .ok (.invokevirtual 105, 3) := by decide +kernel
theorem dX9_coin_75 : decode cX9_coin 75 = .ok (.aload_n 0, 1) := by decide +kernel
theorem dX9_coin_76 : decode cX9_coin 76 = .ok (.getfield 10, 3) := by decide +kernel
theorem dX9_coin_79 : decode cX9_coin 79 = .ok (.getfield 98, 3) := by decide +kernel
theorem dX9_coin_82 : decode cX9_coin 82 = .ok (.getfield 101, 3) := by decide +kernel
theorem dX9_coin_85 : decode cX9_coin 85 = .ok (.iconst 1, 1) := by decide +kernel
theorem dX9_coin_86 : decode cX9_coin 86 = .ok (.isub, 1) := by decide +kernel
theorem dX9_coin_87 : decode cX9_coin 87 = .ok (.ireturn, 1) := by decide +kernel
set_option maxRecDepth 20000 in
theorem ggX9_stamp_X9_isCoin : GoodIn wsX9_stamp wsX9_isCoin := goodIn_r _ [9, 1, 2, 10, 11, 12, 8, 13, 17, 18, 19, 20, 21, 22, 23, 24, 25, 26, 27, 28, 29, 30, 31, 32, 33, 34, 35, 36, 37, 38, 39, 40] (by decide +kernel) (by decide +kernel)
set_option maxRecDepth 20000 in
theorem gX9_stamp_X9_isCoin : GoodIn wsX9_stamp (wsV RX9 109 RX9 yX9_isCoin wsX9_isCoin) := goodIn_app (goodIn_of _ (by decide +kernel)) ggX9_stamp_X9_isCoin
set_option maxRecDepth 20000 in
theorem ggX9_stamp_X9_isYear : GoodIn wsX9_stamp wsX9_isYear := goodIn_r _ [16, 11, 12, 8, 13] (by decide +kernel) (by decide +kernel)
set_option maxRecDepth 20000 in
theorem gX9_stamp_X9_isYear : GoodIn wsX9_stamp (va_wsS RX9 95 yX9_isYear wsX9_isYear) := goodIn_app (goodIn_of _ (by decide +kernel)) ggX9_stamp_X9_isYear
theorem dX9_stamp_0 : decode cX9_stamp 0 = .ok (.aload_n 0, 1) := by decide +kernel
theorem dX9_stamp_1 : decode cX9_stamp 1 = .ok (.iload_n 1, 1) := by decide +kernel
theorem dX9_stamp_2 : decode cX9_stamp 2 = .ok (.invokevirtual 109, 3) := by decide +kernel
theorem dX9_stamp_5 : decode cX9_stamp 5 = .ok (.ifCond .eq 10, 3) := by decide +kernel
theorem dX9_stamp_8 : decode cX9_stamp 8 = .ok (.iload_n 2, 1) := by decide +kernel
theorem dX9_stamp_9 : decode cX9_stamp 9 = .ok (.invokestatic 95, 3) := by decide +kernel
theorem dX9_stamp_12 : decode cX9_stamp 12 = .ok (.ifCond .ne 5, 3) := by decide +kernel
theorem dX9_stamp_15 : decode cX9_stamp 15 = .ok (.iconst (-1), 1) := by decide +kernel
theorem dX9_stamp_16 : decode cX9_stamp 16 = .ok (.ireturn, 1) := by decide +kernel
theorem dX9_stamp_17 : decode cX9_stamp 17 = .ok (.aload_n 0, 1) := by decide +kernel
theorem dX9_stamp_18 : decode cX9_stamp 18 = .ok (.getfield 10, 3) := by decide +kernel
theorem dX9_stamp_21 : decode cX9_stamp 21 = .ok (.getfield 98, 3) := by decide +kernel
theorem dX9_stamp_24 : decode cX9_stamp 24 = .ok (.getfield 112, 3) := by decide +kernel
theorem dX9_stamp_27 : decode cX9_stamp 27 = .ok (.iload_n 1, 1) := by decide +kernel
theorem dX9_stamp_28 : decode cX9_stamp 28 = .ok (.iaload, 1) := by decide +kernel
theorem dX9_stamp_29 : decode cX9_stamp 29 = .ok (.istore_n 3, 1) := by decide +kernel
theorem dX9_stamp_30 : decode cX9_stamp 30 = .ok (.aload_n 0, 1) := by decide +kernel
theorem dX9_stamp_31 : decode cX9_stamp 31 = .ok (.getfield 10, 3) := by decide +kernel
theorem dX9_stamp_34 : decode cX9_stamp 34 = .ok (.getfield 98, 3) := by decide +kernel
theorem dX9_stamp_37 : decode cX9_stamp 37 = .ok (.getfield 112, 3) := by decide +kernel
theorem dX9_stamp_40 : decode cX9_stamp 40 = .ok (.iload_n 1, 1) := by decide +kernel
theorem dX9_stamp_41 : decode cX9_stamp 41 = .ok (.iload_n 2, 1) := by decide +kernel
theorem dX9_stamp_42 : decode cX9_stamp 42 = .ok (.iastore, 1) := by decide +kernel
theorem dX9_stamp_43 : decode cX9_stamp 43 = .ok (.aload_n 0, 1) := by decide +kernel
theorem dX9_stamp_44 : decode cX9_stamp 44 = .ok (.iconst 1, 1) := by decide +kernel
theorem dX9_stamp_45 : decode cX9_stamp 45 = .ok (.putfield 26, 3) := by decide +kernel
theorem dX9_stamp_48 : decode cX9_stamp 48 = .ok (.iload_n 3, 1) := by decide +kernel
theorem dX9_stamp_49 : decode cX9_stamp 49 = .ok (.ireturn, 1) := by decide +kernel
set_option maxRecDepth 20000 in
theorem ggX9_told_X9_isCoin : GoodIn wsX9_told wsX9_isCoin := goodIn_r _ [12, 1, 2, 13, 14, 15, 11, 16, 17, 18, 19, 20, 21, 22, 23, 24, 25, 26, 27, 28, 29, 30, 31, 32, 33, 34, 35, 36, 37, 38, 39, 40] (by decide +kernel) (by decide +kernel)
set_option maxRecDepth 20000 in
theorem gX9_told_X9_isCoin : GoodIn wsX9_told (wsV RX9 109 RX9 yX9_isCoin wsX9_isCoin) := goodIn_app (goodIn_of _ (by decide +kernel)) ggX9_told_X9_isCoin
theorem dX9_told_0 : decode cX9_told 0 = .ok (.aload_n 0, 1) := by decide +kernel
theorem dX9_told_1 : decode cX9_told 1 = .ok (.iload_n 1, 1) := by decide +kernel
theorem dX9_told_2 : decode cX9_told 2 = .ok (.invokevirtual 109, 3) := by decide +kernel
theorem dX9_told_5 : decode cX9_told 5 = .ok (.ifCond .ne 5, 3) := by decide +kernel
theorem dX9_told_8 : decode cX9_told 8 = .ok (.iconst (-1), 1) := by decide +kernel
theorem dX9_told_9 : decode cX9_told 9 = .ok (.ireturn, 1) := by decide +kernel
theorem dX9_told_10 : decode cX9_told 10 = .ok (.iload_n 2, 1) := by decide +kernel
theorem dX9_told_11 : decode cX9_told 11 = .ok (.tableswitch 98 0 4 #[33, 46, 59, 72, 85], 33) := by decide +kernel
theorem dX9_told_44 : decode cX9_told 44 = .ok (.aload_n 0, 1) := by decide +kernel
theorem dX9_told_45 : decode cX9_told 45 = .ok (.getfield 10, 3) := by decide +kernel
theorem dX9_told_48 : decode cX9_told 48 = .ok (.getfield 98, 3) := by decide +kernel
theorem dX9_told_51 : decode cX9_told 51 = .ok (.getfield 116, 3) := by decide +kernel
theorem dX9_told_54 : decode cX9_told 54 = .ok (.iload_n 1, 1) := by decide +kernel
theorem dX9_told_55 : decode cX9_told 55 = .ok (.iaload, 1) := by decide +kernel
theorem dX9_told_56 : decode cX9_told 56 = .ok (.ireturn, 1) := by decide +kernel
theorem dX9_told_57 : decode cX9_told 57 = .ok (.aload_n 0, 1) := by decide +kernel
theorem dX9_told_58 : decode cX9_told 58 = .ok (.getfield 10, 3) := by decide +kernel
theorem dX9_told_61 : decode cX9_told 61 = .ok (.getfield 98, 3) := by decide +kernel
theorem dX9_told_64 : decode cX9_told 64 = .ok (.getfield 119, 3) := by decide +kernel
theorem dX9_told_67 : decode cX9_told 67 = .ok (.iload_n 1, 1) := by decide +kernel
theorem dX9_told_68 : decode cX9_told 68 = .ok (.iaload, 1) := by decide +kernel
theorem dX9_told_69 : decode cX9_told 69 = .ok (.ireturn, 1) := by decide +kernel
theorem dX9_told_70 : decode cX9_told 70 = .ok (.aload_n 0, 1) := by decide +kernel
theorem dX9_told_71 : decode cX9_told 71 = .ok (.getfield 10, 3) := by decide +kernel
theorem dX9_told_74 : decode cX9_told 74 = .ok (.getfield 98, 3) := by decide +kernel
theorem dX9_told_77 : decode cX9_told 77 = .ok (.getfield 112, 3) := by decide +kernel
theorem dX9_told_80 : decode cX9_told 80 = .ok (.iload_n 1, 1) := by decide +kernel
theorem dX9_told_81 : decode cX9_told 81 = .ok (.iaload, 1) := by decide +kernel
theorem dX9_told_82 : decode cX9_told 82 = .ok (.ireturn, 1) := by decide +kernel
theorem dX9_told_83 : decode cX9_told 83 = .ok (.aload_n 0, 1) := by decide +kernel
theorem dX9_told_84 : decode cX9_told 84 = .ok (.getfield 10, 3) := by decide +kernel
theorem dX9_told_87 : decode cX9_told 87 = .ok (.getfield 98, 3) := by decide +kernel
theorem dX9_told_90 : decode cX9_told 90 = .ok (.getfield 122, 3) := by decide +kernel
theorem dX9_told_93 : decode cX9_told 93 = .ok (.iload_n 1, 1) := by decide +kernel
theorem dX9_told_94 : decode cX9_told 94 = .ok (.iaload, 1) := by decide +kernel
theorem dX9_told_95 : decode cX9_told 95 = .ok (.ireturn, 1) := by decide +kernel
theorem dX9_told_96 : decode cX9_told 96 = .ok (.aload_n 0, 1) := by decide +kernel
theorem dX9_told_97 : decode cX9_told 97 = .ok (.getfield 10, 3) := by decide +kernel
theorem dX9_told_100 : decode cX9_told 100 = .ok (.getfield 98, 3) := by decide +kernel
theorem dX9_told_103 : decode cX9_told 103 = .ok (.getfield 125, 3) := by decide +kernel
theorem dX9_told_106 : decode cX9_told 106 = .ok (.iload_n 1, 1) := by decide +kernel
theorem dX9_told_107 : decode cX9_told 107 = .ok (.iaload, 1) := by decide +kernel
theorem dX9_told_108 : decode cX9_told 108 = .ok (.ireturn, 1) := by decide +kernel
theorem dX9_told_109 : decode cX9_told 109 = .ok (.iconst (-1), 1) := by decide +kernel
theorem dX9_told_110 : decode cX9_told 110 = .ok (.ireturn, 1) := by decide +kernel
set_option maxRecDepth 20000 in
theorem ggX9_give_X9_isCoin : GoodIn wsX9_give wsX9_isCoin := goodIn_r _ [8, 1, 2, 9, 10, 11, 7, 12, 16, 17, 18, 19, 20, 21, 22, 23, 24, 25, 26, 27, 28, 29, 30, 31, 32, 33, 34, 35, 36, 37, 38, 39] (by decide +kernel) (by decide +kernel)
set_option maxRecDepth 20000 in
theorem gX9_give_X9_isCoin : GoodIn wsX9_give (wsV RX9 109 RX9 yX9_isCoin wsX9_isCoin) := goodIn_app (goodIn_of _ (by decide +kernel)) ggX9_give_X9_isCoin
set_option maxRecDepth 20000 in
theorem ggX9_give_X9_isHolder : GoodIn wsX9_give wsX9_isHolder := goodIn_r _ [15, 10, 11, 7, 12] (by decide +kernel) (by decide +kernel)
set_option maxRecDepth 20000 in
theorem gX9_give_X9_isHolder : GoodIn wsX9_give (va_wsS RX9 87 yX9_isHolder wsX9_isHolder) := goodIn_app (goodIn_of _ (by decide +kernel)) ggX9_give_X9_isHolder
theorem dX9_give_0 : decode cX9_give 0 = .ok (.aload_n 0, 1) := by decide +kernel
theorem dX9_give_1 : decode cX9_give 1 = .ok (.iload_n 1, 1) := by decide +kernel
theorem dX9_give_2 : decode cX9_give 2 = .ok (.invokevirtual 109, 3) := by decide +kernel
theorem dX9_give_5 : decode cX9_give 5 = .ok (.ifCond .eq 10, 3) := by decide +kernel
theorem dX9_give_8 : decode cX9_give 8 = .ok (.iload_n 2, 1) := by decide +kernel
theorem dX9_give_9 : decode cX9_give 9 = .ok (.invokestatic 87, 3) := by decide +kernel
theorem dX9_give_12 : decode cX9_give 12 = .ok (.ifCond .ne 5, 3) := by decide +kernel
theorem dX9_give_15 : decode cX9_give 15 = .ok (.iconst (-1), 1) := by decide +kernel
theorem dX9_give_16 : decode cX9_give 16 = .ok (.ireturn, 1) := by decide +kernel
theorem dX9_give_17 : decode cX9_give 17 = .ok (.aload_n 0, 1) := by decide +kernel
theorem dX9_give_18 : decode cX9_give 18 = .ok (.getfield 10, 3) := by decide +kernel
theorem dX9_give_21 : decode cX9_give 21 = .ok (.getfield 98, 3) := by decide +kernel
theorem dX9_give_24 : decode cX9_give 24 = .ok (.getfield 125, 3) := by decide +kernel
theorem dX9_give_27 : decode cX9_give 27 = .ok (.iload_n 1, 1) := by decide +kernel
theorem dX9_give_28 : decode cX9_give 28 = .ok (.iaload, 1) := by decide +kernel
theorem dX9_give_29 : decode cX9_give 29 = .ok (.istore_n 3, 1) := by decide +kernel
theorem dX9_give_30 : decode cX9_give 30 = .ok (.aload_n 0, 1) := by decide +kernel
theorem dX9_give_31 : decode cX9_give 31 = .ok (.getfield 10, 3) := by decide +kernel
theorem dX9_give_34 : decode cX9_give 34 = .ok (.getfield 98, 3) := by decide +kernel
theorem dX9_give_37 : decode cX9_give 37 = .ok (.getfield 125, 3) := by decide +kernel
theorem dX9_give_40 : decode cX9_give 40 = .ok (.iload_n 1, 1) := by decide +kernel
theorem dX9_give_41 : decode cX9_give 41 = .ok (.iload_n 2, 1) := by decide +kernel
theorem dX9_give_42 : decode cX9_give 42 = .ok (.iastore, 1) := by decide +kernel
theorem dX9_give_43 : decode cX9_give 43 = .ok (.iload_n 3, 1) := by decide +kernel
theorem dX9_give_44 : decode cX9_give 44 = .ok (.ireturn, 1) := by decide +kernel
set_option maxRecDepth 20000 in
theorem ggX9_older_X9_isCoin : GoodIn wsX9_older wsX9_isCoin := goodIn_r _ [7, 1, 2, 8, 9, 10, 6, 11, 27, 28, 29, 30, 31, 32, 33, 34, 35, 36, 37, 38, 39, 40, 41, 42, 43, 44, 45, 46, 47, 48, 49, 50] (by decide +kernel) (by decide +kernel)
set_option maxRecDepth 20000 in
theorem gX9_older_X9_isCoin : GoodIn wsX9_older (wsV RX9 109 RX9 yX9_isCoin wsX9_isCoin) := goodIn_app (goodIn_of _ (by decide +kernel)) ggX9_older_X9_isCoin
set_option maxRecDepth 20000 in
theorem ggX9_older_X2_oldness : GoodIn wsX9_older wsX2_oldness := goodIn_r _ [16, 17, 18, 19, 20, 21, 15, 22, 23, 24, 25, 26, 45, 46, 47, 48, 49, 50] (by decide +kernel) (by decide +kernel)
set_option maxRecDepth 20000 in
theorem gX9_older_X2_oldness : GoodIn wsX9_older (wsV RX9 128 RX2 yX2_oldness wsX2_oldness) := goodIn_app (goodIn_of _ (by decide +kernel)) ggX9_older_X2_oldness
theorem dX9_older_0 : decode cX9_older 0 = .ok (.aload_n 0, 1) := by decide +kernel
theorem dX9_older_1 : decode cX9_older 1 = .ok (.iload_n 1, 1) := by decide +kernel
theorem dX9_older_2 : decode cX9_older 2 = .ok (.invokevirtual 109, 3) := by decide +kernel
theorem dX9_older_5 : decode cX9_older 5 = .ok (.ifCond .eq 16, 3) := by decide +kernel
theorem dX9_older_8 : decode cX9_older 8 = .ok (.aload_n 0, 1) := by decide +kernel
theorem dX9_older_9 : decode cX9_older 9 = .ok (.iload_n 2, 1) := by decide +kernel
theorem dX9_older_10 : decode cX9_older 10 = .ok (.invokevirtual 109, 3) := by decide +kernel
theorem dX9_older_13 : decode cX9_older 13 = .ok (.ifCond .eq 8, 3) := by decide +kernel
theorem dX9_older_16 : decode cX9_older 16 = .ok (.iload_n 1, 1) := by decide +kernel
theorem dX9_older_17 : decode cX9_older 17 = .ok (.iload_n 2, 1) := by decide +kernel
theorem dX9_older_18 : decode cX9_older 18 = .ok (.if_icmp .ne 5, 3) := by decide +kernel
theorem dX9_older_21 : decode cX9_older 21 = .ok (.iconst (-1), 1) := by decide +kernel
theorem dX9_older_22 : decode cX9_older 22 = .ok (.ireturn, 1) := by decide +kernel
theorem dX9_older_23 : decode cX9_older 23 = .ok (.aload_n 0, 1) := by decide +kernel
theorem dX9_older_24 : decode cX9_older 24 = .ok (.getfield 10, 3) := by decide +kernel
theorem dX9_older_27 : decode cX9_older 27 = .ok (.getfield 98, 3) := by decide +kernel
theorem dX9_older_30 : decode cX9_older 30 = .ok (.iload_n 1, 1) := by decide +kernel
theorem dX9_older_31 : decode cX9_older 31 = .ok (.invokevirtual 128, 3) := by decide +kernel
theorem dX9_older_34 : decode cX9_older 34 = .ok (.aload_n 0, 1) := by decide +kernel
theorem dX9_older_35 : decode cX9_older 35 = .ok (.getfield 10, 3) := by decide +kernel
theorem dX9_older_38 : decode cX9_older 38 = .ok (.getfield 98, 3) := by decide +kernel
theorem dX9_older_41 : decode cX9_older 41 = .ok (.iload_n 2, 1) := by decide +kernel
theorem dX9_older_42 : decode cX9_older 42 = .ok (.invokevirtual 128, 3) := by decide +kernel
theorem dX9_older_45 : decode cX9_older 45 = .ok (.if_icmp .ge 7, 3) := by decide +kernel
theorem dX9_older_48 : decode cX9_older 48 = .ok (.iload_n 1, 1) := by decide +kernel
theorem dX9_older_49 : decode cX9_older 49 = .ok (.goto 4, 3) := by decide +kernel
theorem dX9_older_52 : decode cX9_older 52 = .ok (.iload_n 2, 1) := by decide +kernel
theorem dX9_older_53 : decode cX9_older 53 = .ok (.ireturn, 1) := by decide +kernel
set_option maxRecDepth 20000 in
theorem ggX9_rule_X9_isWithin : GoodIn wsX9_rule wsX9_isWithin := goodIn_r _ [7] (by decide +kernel) (by decide +kernel)
set_option maxRecDepth 20000 in
theorem gX9_rule_X9_isWithin : GoodIn wsX9_rule (va_wsS RX9 91 yX9_isWithin wsX9_isWithin) := goodIn_app (goodIn_of _ (by decide +kernel)) ggX9_rule_X9_isWithin
theorem dX9_rule_0 : decode cX9_rule 0 = .ok (.iload_n 1, 1) := by decide +kernel
theorem dX9_rule_1 : decode cX9_rule 1 = .ok (.iconst 0, 1) := by decide +kernel
theorem dX9_rule_2 : decode cX9_rule 2 = .ok (.iconst 3, 1) := by decide +kernel
theorem dX9_rule_3 : decode cX9_rule 3 = .ok (.invokestatic 91, 3) := by decide +kernel
theorem dX9_rule_6 : decode cX9_rule 6 = .ok (.ifCond .ne 5, 3) := by decide +kernel
theorem dX9_rule_9 : decode cX9_rule 9 = .ok (.iconst (-1), 1) := by decide +kernel
theorem dX9_rule_10 : decode cX9_rule 10 = .ok (.ireturn, 1) := by decide +kernel
theorem dX9_rule_11 : decode cX9_rule 11 = .ok (.aload_n 0, 1) := by decide +kernel
theorem dX9_rule_12 : decode cX9_rule 12 = .ok (.getfield 10, 3) := by decide +kernel
theorem dX9_rule_15 : decode cX9_rule 15 = .ok (.getfield 132, 3) := by decide +kernel
theorem dX9_rule_18 : decode cX9_rule 18 = .ok (.istore_n 2, 1) := by decide +kernel
theorem dX9_rule_19 : decode cX9_rule 19 = .ok (.aload_n 0, 1) := by decide +kernel
theorem dX9_rule_20 : decode cX9_rule 20 = .ok (.getfield 10, 3) := by decide +kernel
theorem dX9_rule_23 : decode cX9_rule 23 = .ok (.iload_n 1, 1) := by decide +kernel
theorem dX9_rule_24 : decode cX9_rule 24 = .ok (.putfield 132, 3) := by decide +kernel
theorem dX9_rule_27 : decode cX9_rule 27 = .ok (.aload_n 0, 1) := by decide +kernel
theorem dX9_rule_28 : decode cX9_rule 28 = .ok (.iconst 1, 1) := by decide +kernel
theorem dX9_rule_29 : decode cX9_rule 29 = .ok (.putfield 26, 3) := by decide +kernel
theorem dX9_rule_32 : decode cX9_rule 32 = .ok (.iload_n 2, 1) := by decide +kernel
theorem dX9_rule_33 : decode cX9_rule 33 = .ok (.ireturn, 1) := by decide +kernel
set_option maxRecDepth 20000 in
theorem ggX9_of_X9_isHolder : GoodIn wsX9_of wsX9_isHolder := goodIn_r _ [8, 9, 10, 7, 11] (by decide +kernel) (by decide +kernel)
set_option maxRecDepth 20000 in
theorem gX9_of_X9_isHolder : GoodIn wsX9_of (va_wsS RX9 87 yX9_isHolder wsX9_isHolder) := goodIn_app (goodIn_of _ (by decide +kernel)) ggX9_of_X9_isHolder
set_option maxRecDepth 20000 in
theorem ggX9_of_X9_isWithin : GoodIn wsX9_of wsX9_isWithin := goodIn_r _ [11] (by decide +kernel) (by decide +kernel)
set_option maxRecDepth 20000 in
theorem gX9_of_X9_isWithin : GoodIn wsX9_of (va_wsS RX9 91 yX9_isWithin wsX9_isWithin) := goodIn_app (goodIn_of _ (by decide +kernel)) ggX9_of_X9_isWithin
set_option maxRecDepth 20000 in
theorem ggX9_of_X9_layOut : GoodIn wsX9_of wsX9_layOut := goodIn_r _ [15, 16, 3, 17, 1, 18, 19, 20, 21, 22, 23, 24, 25, 26, 27, 28, 29, 30, 31, 32, 33, 34, 35, 36, 37, 38, 39, 40, 41, 42, 43, 44, 45, 46, 47, 48, 49, 50, 51, 52, 53, 54, 55, 56, 57, 58, 59, 60, 61, 62, 63, 64, 65, 99, 100, 101, 102, 103, 104, 105, 106, 107, 108, 109, 110, 111, 112, 124, 125, 126, 127, 118, 119, 120, 121, 122, 123, 128, 129, 130, 131, 132, 133, 113, 114, 115, 116, 117] (by decide +kernel) (by decide +kernel)
set_option maxRecDepth 20000 in
theorem gX9_of_X9_layOut : GoodIn wsX9_of (wsV RX9 135 RX9 yX9_layOut wsX9_layOut) := goodIn_app (goodIn_of _ (by decide +kernel)) ggX9_of_X9_layOut
set_option maxRecDepth 20000 in
theorem ggX9_of_J13_bitCount_95d88 : GoodIn wsX9_of wsJ13_bitCount_95d88 := goodIn_r _ [69, 70, 71, 72] (by decide +kernel) (by decide +kernel)
set_option maxRecDepth 20000 in
theorem gX9_of_J13_bitCount_95d88 : GoodIn wsX9_of (va_wsS RX9 142 yJ13_bitCount_95d88 wsJ13_bitCount_95d88) := goodIn_app (goodIn_of _ (by decide +kernel)) ggX9_of_J13_bitCount_95d88
set_option maxRecDepth 20000 in
theorem ggX9_of_X4_worthOf : GoodIn wsX9_of wsX4_worthOf := goodIn_r _ [76, 24, 31, 118, 119, 120, 121, 122, 123] (by decide +kernel) (by decide +kernel)
set_option maxRecDepth 20000 in
theorem gX9_of_X4_worthOf : GoodIn wsX9_of (wsV RX9 148 RX4 yX4_worthOf wsX4_worthOf) := goodIn_app (goodIn_of _ (by decide +kernel)) ggX9_of_X4_worthOf
set_option maxRecDepth 20000 in
theorem ggX9_of_X4_nextPaid : GoodIn wsX9_of wsX4_nextPaid := goodIn_r _ [80, 81, 82, 68, 83, 84, 85, 86, 87, 88] (by decide +kernel) (by decide +kernel)
set_option maxRecDepth 20000 in
theorem gX9_of_X4_nextPaid : GoodIn wsX9_of (wsV RX9 154 RX4 yX4_nextPaid wsX4_nextPaid) := goodIn_app (goodIn_of _ (by decide +kernel)) ggX9_of_X4_nextPaid
set_option maxRecDepth 20000 in
theorem ggX9_of_X4_nextBack : GoodIn wsX9_of wsX4_nextBack := goodIn_r _ [92, 32, 93, 94, 68, 95, 96, 97, 86, 98, 88, 81, 82, 83, 84, 85, 87, 118, 119, 120, 121, 122, 123] (by decide +kernel) (by decide +kernel)
set_option maxRecDepth 20000 in
theorem gX9_of_X4_nextBack : GoodIn wsX9_of (wsV RX9 157 RX4 yX4_nextBack wsX4_nextBack) := goodIn_app (goodIn_of _ (by decide +kernel)) ggX9_of_X4_nextBack
theorem dX9_of_0 : decode cX9_of 0 = .ok (.iload_n 1, 1) := by decide +kernel
theorem dX9_of_1 : decode cX9_of 1 = .ok (.invokestatic 87, 3) := by decide +kernel
theorem dX9_of_4 : decode cX9_of 4 = .ok (.ifCond .eq 12, 3) := by decide +kernel
theorem dX9_of_7 : decode cX9_of 7 = .ok (.iload_n 2, 1) := by decide +kernel
theorem dX9_of_8 : decode cX9_of 8 = .ok (.iconst 0, 1) := by decide +kernel
theorem dX9_of_9 : decode cX9_of 9 = .ok (.iconst 3, 1) := by decide +kernel
theorem dX9_of_10 : decode cX9_of 10 = .ok (.invokestatic 91, 3) := by decide +kernel
theorem dX9_of_13 : decode cX9_of 13 = .ok (.ifCond .ne 5, 3) := by decide +kernel
theorem dX9_of_16 : decode cX9_of 16 = .ok (.iconst (-1), 1) := by decide +kernel
theorem dX9_of_17 : decode cX9_of 17 = .ok (.ireturn, 1) := by decide +kernel
theorem dX9_of_18 : decode cX9_of 18 = .ok (.aload_n 0, 1) := by decide +kernel
theorem dX9_of_19 : decode cX9_of 19 = .ok (.invokevirtual 135, 3) := by decide +kernel
theorem dX9_of_22 : decode cX9_of 22 = .ok (.aload_n 0, 1) := by decide +kernel
theorem dX9_of_23 : decode cX9_of 23 = .ok (.getfield 36, 3) := by decide +kernel
theorem dX9_of_26 : decode cX9_of 26 = .ok (.getfield 138, 3) := by decide +kernel
theorem dX9_of_29 : decode cX9_of 29 = .ok (.iload_n 1, 1) := by decide +kernel
theorem dX9_of_30 : decode cX9_of 30 = .ok (.laload, 1) := by decide +kernel
theorem dX9_of_31 : decode cX9_of 31 = .ok (.lstore_n 3, 1) := by decide +kernel
theorem dX9_of_32 : decode cX9_of 32 = .ok (.iload_n 2, 1) := by decide +kernel
theorem dX9_of_33 : decode cX9_of 33 = .ok (.ifCond .ne 8, 3) := by decide +kernel
theorem dX9_of_36 : decode cX9_of 36 = .ok (.lload_n 3, 1) := by decide +kernel
theorem dX9_of_37 : decode cX9_of 37 = .ok (.invokestatic 142, 3) := by decide +kernel
theorem dX9_of_40 : decode cX9_of 40 = .ok (.ireturn, 1) := by decide +kernel
theorem dX9_of_41 : decode cX9_of 41 = .ok (.iload_n 2, 1) := by decide +kernel
theorem dX9_of_42 : decode cX9_of 42 = .ok (.iconst 1, 1) := by decide +kernel
theorem dX9_of_43 : decode cX9_of 43 = .ok (.if_icmp .ne 12, 3) := by decide +kernel
theorem dX9_of_46 : decode cX9_of 46 = .ok (.aload_n 0, 1) := by decide +kernel
theorem dX9_of_47 : decode cX9_of 47 = .ok (.getfield 22, 3) := by decide +kernel
theorem dX9_of_50 : decode cX9_of 50 = .ok (.lload_n 3, 1) := by decide +kernel
theorem dX9_of_51 : decode cX9_of 51 = .ok (.invokevirtual 148, 3) := by decide +kernel
theorem dX9_of_54 : decode cX9_of 54 = .ok (.ireturn, 1) := by decide +kernel
theorem dX9_of_55 : decode cX9_of 55 = .ok (.lload_n 3, 1) := by decide +kernel
theorem dX9_of_56 : decode cX9_of 56 = .ok (.lconst 0, 1) := by decide +kernel
theorem dX9_of_57 : decode cX9_of 57 = .ok (.lcmp, 1) := by decide +kernel
theorem dX9_of_58 : decode cX9_of 58 = .ok (.ifCond .ne 6, 3) := by decide +kernel
theorem dX9_of_61 : decode cX9_of 61 = .ok (.bipush (-4), 2) := by decide +kernel
theorem dX9_of_63 : decode cX9_of 63 = .ok (.ireturn, 1) := by decide +kernel
theorem dX9_of_64 : decode cX9_of 64 = .ok (.aload_n 0, 1) := by decide +kernel
theorem dX9_of_65 : decode cX9_of 65 = .ok (.getfield 22, 3) := by decide +kernel
theorem dX9_of_68 : decode cX9_of 68 = .ok (.getfield 151, 3) := by decide +kernel
theorem dX9_of_71 : decode cX9_of 71 = .ok (.iload_n 2, 1) := by decide +kernel
theorem dX9_of_72 : decode cX9_of 72 = .ok (.iconst 2, 1) := by decide +kernel
theorem dX9_of_73 : decode cX9_of 73 = .ok (.if_icmp .ne 14, 3) := by decide +kernel
theorem dX9_of_76 : decode cX9_of 76 = .ok (.aload_n 0, 1) := by decide +kernel
theorem dX9_of_77 : decode cX9_of 77 = .ok (.getfield 22, 3) := by decide +kernel
theorem dX9_of_80 : decode cX9_of 80 = .ok (.lload_n 3, 1) := by decide +kernel
theorem dX9_of_81 : decode cX9_of 81 = .ok (.invokevirtual 154, 3) := by decide +kernel
theorem dX9_of_84 : decode cX9_of 84 = .ok (.goto 11, 3) := by decide +kernel
theorem dX9_of_87 : decode cX9_of 87 = .ok (.aload_n 0, 1) := by decide +kernel
