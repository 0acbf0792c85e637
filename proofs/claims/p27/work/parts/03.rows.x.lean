theorem dX0_init_0 : decode cX0_init 0 = .ok (.aload_n 0, 1) := by decide +kernel
theorem dX0_init_1 : decode cX0_init 1 = .ok (.invokespecial 3, 3) := by decide +kernel
theorem dX0_init_4 : decode cX0_init 4 = .ok (.aload_n 0, 1) := by decide +kernel
theorem dX0_init_5 : decode cX0_init 5 = .ok (.iload_n 1, 1) := by decide +kernel
theorem dX0_init_6 : decode cX0_init 6 = .ok (.iconst 0, 1) := by decide +kernel
theorem dX0_init_7 : decode cX0_init 7 = .ok (.invokestatic 9, 3) := by decide +kernel
theorem dX0_init_10 : decode cX0_init 10 = .ok (.bipush 64, 2) := by decide +kernel
theorem dX0_init_12 : decode cX0_init 12 = .ok (.idiv, 1) := by decide +kernel
theorem dX0_init_13 : decode cX0_init 13 = .ok (.newarray .long, 2) := by decide +kernel
theorem dX0_init_15 : decode cX0_init 15 = .ok (.putfield 15, 3) := by decide +kernel
theorem dX0_init_18 : decode cX0_init 18 = .ok (.return_, 1) := by decide +kernel
theorem dX0_word_0 : decode cX0_word 0 = .ok (.iload_n 1, 1) := by decide +kernel
theorem dX0_word_1 : decode cX0_word 1 = .ok (.ifCond .lt 12, 3) := by decide +kernel
theorem dX0_word_4 : decode cX0_word 4 = .ok (.iload_n 1, 1) := by decide +kernel
theorem dX0_word_5 : decode cX0_word 5 = .ok (.aload_n 0, 1) := by decide +kernel
theorem dX0_word_6 : decode cX0_word 6 = .ok (.getfield 15, 3) := by decide +kernel
theorem dX0_word_9 : decode cX0_word 9 = .ok (.arraylength, 1) := by decide +kernel
theorem dX0_word_10 : decode cX0_word 10 = .ok (.if_icmp .lt 7, 3) := by decide +kernel
theorem dX0_word_13 : decode cX0_word 13 = .ok (.lconst 0, 1) := by decide +kernel
theorem dX0_word_14 : decode cX0_word 14 = .ok (.goto 9, 3) := by decide +kernel
theorem dX0_word_17 : decode cX0_word 17 = .ok (.aload_n 0, 1) := by decide +kernel
theorem dX0_word_18 : decode cX0_word 18 = .ok (.getfield 15, 3) := by decide +kernel
theorem dX0_word_21 : decode cX0_word 21 = .ok (.iload_n 1, 1) := by decide +kernel
theorem dX0_word_22 : decode cX0_word 22 = .ok (.laload, 1) := by decide +kernel
theorem dX0_word_23 : decode cX0_word 23 = .ok (.lreturn, 1) := by decide +kernel
set_option maxRecDepth 20000 in
theorem ggX0_has_X0_word : GoodIn wsX0_has wsX0_word := goodIn_r _ [5, 6, 11] (by decide +kernel) (by decide +kernel)
set_option maxRecDepth 20000 in
theorem gX0_has_X0_word : GoodIn wsX0_has (wsV RX0 21 RX0 yX0_word wsX0_word) := goodIn_app (goodIn_of _ (by decide +kernel)) ggX0_has_X0_word
set_option maxRecDepth 20000 in
theorem ggX0_has_X6_bit : GoodIn wsX0_has wsX6_bit := goodIn_r _ [10] (by decide +kernel) (by decide +kernel)
set_option maxRecDepth 20000 in
theorem gX0_has_X6_bit : GoodIn wsX0_has (va_wsS RX0 25 yX6_bit wsX6_bit) := goodIn_app (goodIn_of _ (by decide +kernel)) ggX0_has_X6_bit
theorem dX0_has_0 : decode cX0_has 0 = .ok (.aload_n 0, 1) := by decide +kernel
theorem dX0_has_1 : decode cX0_has 1 = .ok (.iload_n 1, 1) := by decide +kernel
theorem dX0_has_2 : decode cX0_has 2 = .ok (.bipush 6, 2) := by decide +kernel
theorem dX0_has_4 : decode cX0_has 4 = .ok (.ishr, 1) := by decide +kernel
theorem dX0_has_5 : decode cX0_has 5 = .ok (.invokevirtual 21, 3) := by decide +kernel
theorem dX0_has_8 : decode cX0_has 8 = .ok (.iload_n 1, 1) := by decide +kernel
theorem dX0_has_9 : decode cX0_has 9 = .ok (.invokestatic 25, 3) := by decide +kernel
theorem dX0_has_12 : decode cX0_has 12 = .ok (.land, 1) := by decide +kernel
theorem dX0_has_13 : decode cX0_has 13 = .ok (.lconst 0, 1) := by decide +kernel
theorem dX0_has_14 : decode cX0_has 14 = .ok (.lcmp, 1) := by decide +kernel
theorem dX0_has_15 : decode cX0_has 15 = .ok (.ifCond .eq 7, 3) := by decide +kernel
theorem dX0_has_18 : decode cX0_has 18 = .ok (.iconst 1, 1) := by decide +kernel
theorem dX0_has_19 : decode cX0_has 19 = .ok (.goto 4, 3) := by decide +kernel
theorem dX0_has_22 : decode cX0_has 22 = .ok (.iconst 0, 1) := by decide +kernel
theorem dX0_has_23 : decode cX0_has 23 = .ok (.ireturn, 1) := by decide +kernel
set_option maxRecDepth 20000 in
theorem ggX0_put_X6_bit : GoodIn wsX0_put wsX6_bit := goodIn_r _ [5] (by decide +kernel) (by decide +kernel)
set_option maxRecDepth 20000 in
theorem gX0_put_X6_bit : GoodIn wsX0_put (va_wsS RX0 25 yX6_bit wsX6_bit) := goodIn_app (goodIn_of _ (by decide +kernel)) ggX0_put_X6_bit
theorem dX0_put_0 : decode cX0_put 0 = .ok (.iload_n 1, 1) := by decide +kernel
theorem dX0_put_1 : decode cX0_put 1 = .ok (.bipush 6, 2) := by decide +kernel
theorem dX0_put_3 : decode cX0_put 3 = .ok (.ishr, 1) := by decide +kernel
theorem dX0_put_4 : decode cX0_put 4 = .ok (.istore_n 2, 1) := by decide +kernel
theorem dX0_put_5 : decode cX0_put 5 = .ok (.iload_n 2, 1) := by decide +kernel
theorem dX0_put_6 : decode cX0_put 6 = .ok (.ifCond .lt 25, 3) := by decide +kernel
theorem dX0_put_9 : decode cX0_put 9 = .ok (.iload_n 2, 1) := by decide +kernel
theorem dX0_put_10 : decode cX0_put 10 = .ok (.aload_n 0, 1) := by decide +kernel
theorem dX0_put_11 : decode cX0_put 11 = .ok (.getfield 15, 3) := by decide +kernel
theorem dX0_put_14 : decode cX0_put 14 = .ok (.arraylength, 1) := by decide +kernel
theorem dX0_put_15 : decode cX0_put 15 = .ok (.if_icmp .ge 16, 3) := by decide +kernel
theorem dX0_put_18 : decode cX0_put 18 = .ok (.aload_n 0, 1) := by decide +kernel
theorem dX0_put_19 : decode cX0_put 19 = .ok (.getfield 15, 3) := by decide +kernel
theorem dX0_put_22 : decode cX0_put 22 = .ok (.iload_n 2, 1) := by decide +kernel
theorem dX0_put_23 : decode cX0_put 23 = .ok (.dup2, 1) := by decide +kernel
theorem dX0_put_24 : decode cX0_put 24 = .ok (.laload, 1) := by decide +kernel
theorem dX0_put_25 : decode cX0_put 25 = .ok (.iload_n 1, 1) := by decide +kernel
theorem dX0_put_26 : decode cX0_put 26 = .ok (.invokestatic 25, 3) := by decide +kernel
theorem dX0_put_29 : decode cX0_put 29 = .ok (.lor, 1) := by decide +kernel
theorem dX0_put_30 : decode cX0_put 30 = .ok (.lastore, 1) := by decide +kernel
theorem dX0_put_31 : decode cX0_put 31 = .ok (.return_, 1) := by decide +kernel
set_option maxRecDepth 20000 in
theorem ggX0_take_X6_bit : GoodIn wsX0_take wsX6_bit := goodIn_r _ [6] (by decide +kernel) (by decide +kernel)
set_option maxRecDepth 20000 in
theorem gX0_take_X6_bit : GoodIn wsX0_take (va_wsS RX0 25 yX6_bit wsX6_bit) := goodIn_app (goodIn_of _ (by decide +kernel)) ggX0_take_X6_bit
theorem dX0_take_0 : decode cX0_take 0 = .ok (.iload_n 1, 1) := by decide +kernel
theorem dX0_take_1 : decode cX0_take 1 = .ok (.bipush 6, 2) := by decide +kernel
theorem dX0_take_3 : decode cX0_take 3 = .ok (.ishr, 1) := by decide +kernel
theorem dX0_take_4 : decode cX0_take 4 = .ok (.istore_n 2, 1) := by decide +kernel
theorem dX0_take_5 : decode cX0_take 5 = .ok (.iload_n 2, 1) := by decide +kernel
theorem dX0_take_6 : decode cX0_take 6 = .ok (.ifCond .lt 29, 3) := by decide +kernel
theorem dX0_take_9 : decode cX0_take 9 = .ok (.iload_n 2, 1) := by decide +kernel
theorem dX0_take_10 : decode cX0_take 10 = .ok (.aload_n 0, 1) := by decide +kernel
theorem dX0_take_11 : decode cX0_take 11 = .ok (.getfield 15, 3) := by decide +kernel
theorem dX0_take_14 : decode cX0_take 14 = .ok (.arraylength, 1) := by decide +kernel
theorem dX0_take_15 : decode cX0_take 15 = .ok (.if_icmp .ge 20, 3) := by decide +kernel
theorem dX0_take_18 : decode cX0_take 18 = .ok (.aload_n 0, 1) := by decide +kernel
theorem dX0_take_19 : decode cX0_take 19 = .ok (.getfield 15, 3) := by decide +kernel
theorem dX0_take_22 : decode cX0_take 22 = .ok (.iload_n 2, 1) := by decide +kernel
theorem dX0_take_23 : decode cX0_take 23 = .ok (.dup2, 1) := by decide +kernel
theorem dX0_take_24 : decode cX0_take 24 = .ok (.laload, 1) := by decide +kernel
theorem dX0_take_25 : decode cX0_take 25 = .ok (.iload_n 1, 1) := by decide +kernel
theorem dX0_take_26 : decode cX0_take 26 = .ok (.invokestatic 25, 3) := by decide +kernel
theorem dX0_take_29 : decode cX0_take 29 = .ok (.ldc2_w 30, 3) := by decide +kernel
theorem dX0_take_32 : decode cX0_take 32 = .ok (.lxor, 1) := by decide +kernel
theorem dX0_take_33 : decode cX0_take 33 = .ok (.land, 1) := by decide +kernel
theorem dX0_take_34 : decode cX0_take 34 = .ok (.lastore, 1) := by decide +kernel
theorem dX0_take_35 : decode cX0_take 35 = .ok (.return_, 1) := by decide +kernel
set_option maxRecDepth 20000 in
theorem ggX0_countBelow_X0_word : GoodIn wsX0_countBelow wsX0_word := goodIn_r _ [10, 1, 22] (by decide +kernel) (by decide +kernel)
set_option maxRecDepth 20000 in
theorem gX0_countBelow_X0_word : GoodIn wsX0_countBelow (wsV RX0 21 RX0 yX0_word wsX0_word) := goodIn_app (goodIn_of _ (by decide +kernel)) ggX0_countBelow_X0_word
set_option maxRecDepth 20000 in
theorem ggX0_countBelow_X6_bit : GoodIn wsX0_countBelow wsX6_bit := goodIn_r _ [14] (by decide +kernel) (by decide +kernel)
set_option maxRecDepth 20000 in
theorem gX0_countBelow_X6_bit : GoodIn wsX0_countBelow (va_wsS RX0 25 yX6_bit wsX6_bit) := goodIn_app (goodIn_of _ (by decide +kernel)) ggX0_countBelow_X6_bit
set_option maxRecDepth 20000 in
theorem ggX0_countBelow_J13_bitCount_95d88 : GoodIn wsX0_countBelow wsJ13_bitCount_95d88 := goodIn_r _ [18, 19, 20, 21] (by decide +kernel) (by decide +kernel)
set_option maxRecDepth 20000 in
theorem gX0_countBelow_J13_bitCount_95d88 : GoodIn wsX0_countBelow (va_wsS RX0 41 yJ13_bitCount_95d88 wsJ13_bitCount_95d88) := goodIn_app (goodIn_of _ (by decide +kernel)) ggX0_countBelow_J13_bitCount_95d88
theorem dX0_countBelow_0 : decode cX0_countBelow 0 = .ok (.iload_n 1, 1) := by decide +kernel
theorem dX0_countBelow_1 : decode cX0_countBelow 1 = .ok (.bipush 6, 2) := by decide +kernel
theorem dX0_countBelow_3 : decode cX0_countBelow 3 = .ok (.ishr, 1) := by decide +kernel
theorem dX0_countBelow_4 : decode cX0_countBelow 4 = .ok (.aload_n 0, 1) := by decide +kernel
theorem dX0_countBelow_5 : decode cX0_countBelow 5 = .ok (.getfield 15, 3) := by decide +kernel
theorem dX0_countBelow_8 : decode cX0_countBelow 8 = .ok (.arraylength, 1) := by decide +kernel
theorem dX0_countBelow_9 : decode cX0_countBelow 9 = .ok (.invokestatic 38, 3) := by decide +kernel
theorem dX0_countBelow_12 : decode cX0_countBelow 12 = .ok (.istore_n 2, 1) := by decide +kernel
theorem dX0_countBelow_13 : decode cX0_countBelow 13 = .ok (.aload_n 0, 1) := by decide +kernel
theorem dX0_countBelow_14 : decode cX0_countBelow 14 = .ok (.iload_n 2, 1) := by decide +kernel
theorem dX0_countBelow_15 : decode cX0_countBelow 15 = .ok (.invokevirtual 21, 3) := by decide +kernel
theorem dX0_countBelow_18 : decode cX0_countBelow 18 = .ok (.iload_n 1, 1) := by decide +kernel
theorem dX0_countBelow_19 : decode cX0_countBelow 19 = .ok (.invokestatic 25, 3) := by decide +kernel
theorem dX0_countBelow_22 : decode cX0_countBelow 22 = .ok (.lconst 1, 1) := by decide +kernel
theorem dX0_countBelow_23 : decode cX0_countBelow 23 = .ok (.lsub, 1) := by decide +kernel
theorem dX0_countBelow_24 : decode cX0_countBelow 24 = .ok (.land, 1) := by decide +kernel
theorem dX0_countBelow_25 : decode cX0_countBelow 25 = .ok (.invokestatic 41, 3) := by decide +kernel
theorem dX0_countBelow_28 : decode cX0_countBelow 28 = .ok (.istore_n 3, 1) := by decide +kernel
theorem dX0_countBelow_29 : decode cX0_countBelow 29 = .ok (.iconst 0, 1) := by decide +kernel
theorem dX0_countBelow_30 : decode cX0_countBelow 30 = .ok (.istore 4, 2) := by decide +kernel
theorem dX0_countBelow_32 : decode cX0_countBelow 32 = .ok (.iload 4, 2) := by decide +kernel
theorem dX0_countBelow_34 : decode cX0_countBelow 34 = .ok (.iload_n 2, 1) := by decide +kernel
theorem dX0_countBelow_35 : decode cX0_countBelow 35 = .ok (.if_icmp .ge 21, 3) := by decide +kernel
theorem dX0_countBelow_38 : decode cX0_countBelow 38 = .ok (.iload_n 3, 1) := by decide +kernel
theorem dX0_countBelow_39 : decode cX0_countBelow 39 = .ok (.aload_n 0, 1) := by decide +kernel
theorem dX0_countBelow_40 : decode cX0_countBelow 40 = .ok (.iload 4, 2) := by decide +kernel
theorem dX0_countBelow_42 : decode cX0_countBelow 42 = .ok (.invokevirtual 21, 3) := by decide +kernel
theorem dX0_countBelow_45 : decode cX0_countBelow 45 = .ok (.invokestatic 41, 3) := by decide +kernel
theorem dX0_countBelow_48 : decode cX0_countBelow 48 = .ok (.iadd, 1) := by decide +kernel
theorem dX0_countBelow_49 : decode cX0_countBelow 49 = .ok (.istore_n 3, 1) := by decide +kernel
theorem dX0_countBelow_50 : decode cX0_countBelow 50 = .ok (.iinc 4 1, 3) := by decide +kernel
theorem dX0_countBelow_53 : decode cX0_countBelow 53 = .ok (.goto (-21), 3) := by decide +kernel
theorem dX0_countBelow_56 : decode cX0_countBelow 56 = .ok (.iload_n 3, 1) := by decide +kernel
theorem dX0_countBelow_57 : decode cX0_countBelow 57 = .ok (.ireturn, 1) := by decide +kernel
set_option maxRecDepth 20000 in
theorem ggX0_numberAt_X0_word : GoodIn wsX0_numberAt wsX0_word := goodIn_r _ [6, 1, 19] (by decide +kernel) (by decide +kernel)
set_option maxRecDepth 20000 in
theorem gX0_numberAt_X0_word : GoodIn wsX0_numberAt (wsV RX0 21 RX0 yX0_word wsX0_word) := goodIn_app (goodIn_of _ (by decide +kernel)) ggX0_numberAt_X0_word
set_option maxRecDepth 20000 in
theorem ggX0_numberAt_J13_bitCount_95d88 : GoodIn wsX0_numberAt wsJ13_bitCount_95d88 := goodIn_r _ [10, 11, 12, 13] (by decide +kernel) (by decide +kernel)
set_option maxRecDepth 20000 in
theorem gX0_numberAt_J13_bitCount_95d88 : GoodIn wsX0_numberAt (va_wsS RX0 41 yJ13_bitCount_95d88 wsJ13_bitCount_95d88) := goodIn_app (goodIn_of _ (by decide +kernel)) ggX0_numberAt_J13_bitCount_95d88
set_option maxRecDepth 20000 in
theorem ggX0_numberAt_X6_least : GoodIn wsX0_numberAt wsX6_least := goodIn_r _ [17, 18, 8, 9, 10, 11, 12, 13] (by decide +kernel) (by decide +kernel)
set_option maxRecDepth 20000 in
theorem gX0_numberAt_X6_least : GoodIn wsX0_numberAt (va_wsS RX0 47 yX6_least wsX6_least) := goodIn_app (goodIn_of _ (by decide +kernel)) ggX0_numberAt_X6_least
theorem dX0_numberAt_0 : decode cX0_numberAt 0 = .ok (.iload_n 1, 1) := by decide +kernel
theorem dX0_numberAt_1 : decode cX0_numberAt 1 = .ok (.ifCond .ge 5, 3) := by decide +kernel
theorem dX0_numberAt_4 : decode cX0_numberAt 4 = .ok (.iconst (-1), 1) := by decide +kernel
theorem dX0_numberAt_5 : decode cX0_numberAt 5 = .ok (.ireturn, 1) := by decide +kernel
theorem dX0_numberAt_6 : decode cX0_numberAt 6 = .ok (.iload_n 1, 1) := by decide +kernel
theorem dX0_numberAt_7 : decode cX0_numberAt 7 = .ok (.istore_n 2, 1) := by decide +kernel
theorem dX0_numberAt_8 : decode cX0_numberAt 8 = .ok (.iconst 0, 1) := by decide +kernel
theorem dX0_numberAt_9 : decode cX0_numberAt 9 = .ok (.istore_n 3, 1) := by decide +kernel
theorem dX0_numberAt_10 : decode cX0_numberAt 10 = .ok (.iload_n 3, 1) := by decide +kernel
theorem dX0_numberAt_11 : decode cX0_numberAt 11 = .ok (.aload_n 0, 1) := by decide +kernel
theorem dX0_numberAt_12 : decode cX0_numberAt 12 = .ok (.getfield 15, 3) := by decide +kernel
theorem dX0_numberAt_15 : decode cX0_numberAt 15 = .ok (.arraylength, 1) := by decide +kernel
theorem dX0_numberAt_16 : decode cX0_numberAt 16 = .ok (.if_icmp .ge 69, 3) := by decide +kernel
theorem dX0_numberAt_19 : decode cX0_numberAt 19 = .ok (.aload_n 0, 1) := by decide +kernel
theorem dX0_numberAt_20 : decode cX0_numberAt 20 = .ok (.iload_n 3, 1) := by decide +kernel
theorem dX0_numberAt_21 : decode cX0_numberAt 21 = .ok (.invokevirtual 21, 3) := by decide +kernel
theorem dX0_numberAt_24 : decode cX0_numberAt 24 = .ok (.lstore 4, 2) := by decide +kernel
theorem dX0_numberAt_26 : decode cX0_numberAt 26 = .ok (.lload 4, 2) := by decide +kernel
theorem dX0_numberAt_28 : decode cX0_numberAt 28 = .ok (.invokestatic 41, 3) := by decide +kernel
theorem dX0_numberAt_31 : decode cX0_numberAt 31 = .ok (.istore 6, 2) := by decide +kernel
theorem dX0_numberAt_33 : decode cX0_numberAt 33 = .ok (.iload_n 2, 1) := by decide +kernel
theorem dX0_numberAt_34 : decode cX0_numberAt 34 = .ok (.iload 6, 2) := by decide +kernel
theorem dX0_numberAt_36 : decode cX0_numberAt 36 = .ok (.if_icmp .ge 38, 3) := by decide +kernel
theorem dX0_numberAt_39 : decode cX0_numberAt 39 = .ok (.iconst 0, 1) := by decide +kernel
theorem dX0_numberAt_40 : decode cX0_numberAt 40 = .ok (.istore 7, 2) := by decide +kernel
theorem dX0_numberAt_42 : decode cX0_numberAt 42 = .ok (.iload 7, 2) := by decide +kernel
theorem dX0_numberAt_44 : decode cX0_numberAt 44 = .ok (.iload_n 2, 1) := by decide +kernel
theorem dX0_numberAt_45 : decode cX0_numberAt 45 = .ok (.if_icmp .ge 18, 3) := by decide +kernel
theorem dX0_numberAt_48 : decode cX0_numberAt 48 = .ok (.lload 4, 2) := by decide +kernel
theorem dX0_numberAt_50 : decode cX0_numberAt 50 = .ok (.lload 4, 2) := by decide +kernel
theorem dX0_numberAt_52 : decode cX0_numberAt 52 = .ok (.lconst 1, 1) := by decide +kernel
theorem dX0_numberAt_53 : decode cX0_numberAt 53 = .ok (.lsub, 1) := by decide +kernel
theorem dX0_numberAt_54 : decode cX0_numberAt 54 = .ok (.land, 1) := by decide +kernel
theorem dX0_numberAt_55 : decode cX0_numberAt 55 = .ok (.lstore 4, 2) := by decide +kernel
theorem dX0_numberAt_57 : decode cX0_numberAt 57 = .ok (.iinc 7 1, 3) := by decide +kernel
theorem dX0_numberAt_60 : decode cX0_numberAt 60 = .ok (.goto (-18), 3) := by decide +kernel
theorem dX0_numberAt_63 : decode cX0_numberAt 63 = .ok (.iload_n 3, 1) := by decide +kernel
theorem dX0_numberAt_64 : decode cX0_numberAt 64 = .ok (.bipush 64, 2) := by decide +kernel
theorem dX0_numberAt_66 : decode cX0_numberAt 66 = .ok (.imul, 1) := by decide +kernel
theorem dX0_numberAt_67 : decode cX0_numberAt 67 = .ok (.lload 4, 2) := by decide +kernel
theorem dX0_numberAt_69 : decode cX0_numberAt 69 = .ok (.invokestatic 47, 3) := by decide +kernel
theorem dX0_numberAt_72 : decode cX0_numberAt 72 = .ok (.iadd, 1) := by decide +kernel
theorem dX0_numberAt_73 : decode cX0_numberAt 73 = .ok (.ireturn, 1) := by decide +kernel
theorem dX0_numberAt_74 : decode cX0_numberAt 74 = .ok (.iload_n 2, 1) := by decide +kernel
theorem dX0_numberAt_75 : decode cX0_numberAt 75 = .ok (.iload 6, 2) := by decide +kernel
theorem dX0_numberAt_77 : decode cX0_numberAt 77 = .ok (.isub, 1) := by decide +kernel
theorem dX0_numberAt_78 : decode cX0_numberAt 78 = .ok (.istore_n 2, 1) := by decide +kernel
theorem dX0_numberAt_79 : decode cX0_numberAt 79 = .ok (.iinc 3 1, 3) := by decide +kernel
theorem dX0_numberAt_82 : decode cX0_numberAt 82 = .ok (.goto (-72), 3) := by decide +kernel
theorem dX0_numberAt_85 : decode cX0_numberAt 85 = .ok (.iconst (-1), 1) := by decide +kernel
theorem dX0_numberAt_86 : decode cX0_numberAt 86 = .ok (.ireturn, 1) := by decide +kernel
set_option maxRecDepth 20000 in
theorem ggX1_init_X0_init : GoodIn wsX1_init wsX0_init := goodIn_r _ [11, 12, 2, 3, 13, 14, 15, 16, 17, 18, 27] (by decide +kernel) (by decide +kernel)
set_option maxRecDepth 20000 in
theorem gX1_init_X0_init : GoodIn wsX1_init (wsX0_init) := ggX1_init_X0_init
set_option maxRecDepth 20000 in
theorem ggX1_init_X0_put : GoodIn wsX1_init wsX0_put := goodIn_r _ [22, 18, 23, 24, 25, 26, 27] (by decide +kernel) (by decide +kernel)
set_option maxRecDepth 20000 in
theorem gX1_init_X0_put : GoodIn wsX1_init (wsV RX1 23 RX0 yX0_put wsX0_put) := goodIn_app (goodIn_of _ (by decide +kernel)) ggX1_init_X0_put
theorem dX1_init_0 : decode cX1_init 0 = .ok (.aload_n 0, 1) := by decide +kernel
theorem dX1_init_1 : decode cX1_init 1 = .ok (.invokespecial 3, 3) := by decide +kernel
theorem dX1_init_4 : decode cX1_init 4 = .ok (.aload_n 0, 1) := by decide +kernel
theorem dX1_init_5 : decode cX1_init 5 = .ok (.new 9, 3) := by decide +kernel
theorem dX1_init_8 : decode cX1_init 8 = .ok (.dup, 1) := by decide +kernel
theorem dX1_init_9 : decode cX1_init 9 = .ok (.sipush 4096, 3) := by decide +kernel
theorem dX1_init_12 : decode cX1_init 12 = .ok (.invokespecial 11, 3) := by decide +kernel
theorem dX1_init_15 : decode cX1_init 15 = .ok (.putfield 14, 3) := by decide +kernel
theorem dX1_init_18 : decode cX1_init 18 = .ok (.aload_n 0, 1) := by decide +kernel
theorem dX1_init_19 : decode cX1_init 19 = .ok (.new 9, 3) := by decide +kernel
theorem dX1_init_22 : decode cX1_init 22 = .ok (.dup, 1) := by decide +kernel
theorem dX1_init_23 : decode cX1_init 23 = .ok (.sipush 4096, 3) := by decide +kernel
theorem dX1_init_26 : decode cX1_init 26 = .ok (.invokespecial 11, 3) := by decide +kernel
theorem dX1_init_29 : decode cX1_init 29 = .ok (.putfield 20, 3) := by decide +kernel
theorem dX1_init_32 : decode cX1_init 32 = .ok (.aload_n 0, 1) := by decide +kernel
theorem dX1_init_33 : decode cX1_init 33 = .ok (.getfield 20, 3) := by decide +kernel
theorem dX1_init_36 : decode cX1_init 36 = .ok (.iconst 0, 1) := by decide +kernel
theorem dX1_init_37 : decode cX1_init 37 = .ok (.invokevirtual 23, 3) := by decide +kernel
theorem dX1_init_40 : decode cX1_init 40 = .ok (.return_, 1) := by decide +kernel
set_option maxRecDepth 20000 in
theorem ggX1_has_X0_has : GoodIn wsX1_has wsX0_has := goodIn_r _ [6, 7, 8, 9, 5, 10, 11, 12, 13, 14, 15, 18] (by decide +kernel) (by decide +kernel)
set_option maxRecDepth 20000 in
theorem gX1_has_X0_has : GoodIn wsX1_has (wsV RX1 26 RX0 yX0_has wsX0_has) := goodIn_app (goodIn_of _ (by decide +kernel)) ggX1_has_X0_has
theorem dX1_has_0 : decode cX1_has 0 = .ok (.aload_n 0, 1) := by decide +kernel
theorem dX1_has_1 : decode cX1_has 1 = .ok (.getfield 14, 3) := by decide +kernel
theorem dX1_has_4 : decode cX1_has 4 = .ok (.iload_n 1, 1) := by decide +kernel
theorem dX1_has_5 : decode cX1_has 5 = .ok (.invokevirtual 26, 3) := by decide +kernel
theorem dX1_has_8 : decode cX1_has 8 = .ok (.ireturn, 1) := by decide +kernel
set_option maxRecDepth 20000 in
theorem ggX1_memberCount_X0_countBelow : GoodIn wsX1_memberCount wsX0_countBelow := goodIn_r _ [6, 7, 8, 9, 10, 11, 12, 13, 14, 5, 15, 16, 17, 18, 19, 20, 21, 22, 23, 24, 25, 26, 29] (by decide +kernel) (by decide +kernel)
set_option maxRecDepth 20000 in
theorem gX1_memberCount_X0_countBelow : GoodIn wsX1_memberCount (wsV RX1 30 RX0 yX0_countBelow wsX0_countBelow) := goodIn_app (goodIn_of _ (by decide +kernel)) ggX1_memberCount_X0_countBelow
theorem dX1_memberCount_0 : decode cX1_memberCount 0 = .ok (.aload_n 0, 1) := by decide +kernel
theorem dX1_memberCount_1 : decode cX1_memberCount 1 = .ok (.getfield 14, 3) := by decide +kernel
theorem dX1_memberCount_4 : decode cX1_memberCount 4 = .ok (.sipush 4096, 3) := by decide +kernel
theorem dX1_memberCount_7 : decode cX1_memberCount 7 = .ok (.invokevirtual 30, 3) := by decide +kernel
theorem dX1_memberCount_10 : decode cX1_memberCount 10 = .ok (.ireturn, 1) := by decide +kernel
set_option maxRecDepth 20000 in
theorem ggX1_membersBelow_X0_countBelow : GoodIn wsX1_membersBelow wsX0_countBelow := goodIn_r _ [6, 7, 8, 9, 10, 11, 12, 13, 14, 5, 15, 16, 17, 18, 19, 20, 21, 22, 23, 24, 25, 26, 29] (by decide +kernel) (by decide +kernel)
set_option maxRecDepth 20000 in
theorem gX1_membersBelow_X0_countBelow : GoodIn wsX1_membersBelow (wsV RX1 30 RX0 yX0_countBelow wsX0_countBelow) := goodIn_app (goodIn_of _ (by decide +kernel)) ggX1_membersBelow_X0_countBelow
theorem dX1_membersBelow_0 : decode cX1_membersBelow 0 = .ok (.aload_n 0, 1) := by decide +kernel
theorem dX1_membersBelow_1 : decode cX1_membersBelow 1 = .ok (.getfield 14, 3) := by decide +kernel
theorem dX1_membersBelow_4 : decode cX1_membersBelow 4 = .ok (.iload_n 1, 1) := by decide +kernel
theorem dX1_membersBelow_5 : decode cX1_membersBelow 5 = .ok (.invokevirtual 30, 3) := by decide +kernel
theorem dX1_membersBelow_8 : decode cX1_membersBelow 8 = .ok (.ireturn, 1) := by decide +kernel
set_option maxRecDepth 20000 in
theorem ggX1_memberAt_X0_numberAt : GoodIn wsX1_memberAt wsX0_numberAt := goodIn_r _ [6, 7, 8, 9, 10, 5, 11, 12, 13, 14, 15, 16, 17, 18, 19, 20, 21, 22, 23, 26] (by decide +kernel) (by decide +kernel)
set_option maxRecDepth 20000 in
theorem gX1_memberAt_X0_numberAt : GoodIn wsX1_memberAt (wsV RX1 34 RX0 yX0_numberAt wsX0_numberAt) := goodIn_app (goodIn_of _ (by decide +kernel)) ggX1_memberAt_X0_numberAt
theorem dX1_memberAt_0 : decode cX1_memberAt 0 = .ok (.aload_n 0, 1) := by decide +kernel
theorem dX1_memberAt_1 : decode cX1_memberAt 1 = .ok (.getfield 14, 3) := by decide +kernel
theorem dX1_memberAt_4 : decode cX1_memberAt 4 = .ok (.iload_n 1, 1) := by decide +kernel
theorem dX1_memberAt_5 : decode cX1_memberAt 5 = .ok (.invokevirtual 34, 3) := by decide +kernel
theorem dX1_memberAt_8 : decode cX1_memberAt 8 = .ok (.ireturn, 1) := by decide +kernel
set_option maxRecDepth 20000 in
theorem ggX1_bucketCount_X0_countBelow : GoodIn wsX1_bucketCount wsX0_countBelow := goodIn_r _ [6, 7, 8, 9, 10, 11, 12, 13, 14, 5, 15, 16, 17, 18, 19, 20, 21, 22, 23, 24, 25, 26, 29] (by decide +kernel) (by decide +kernel)
set_option maxRecDepth 20000 in
theorem gX1_bucketCount_X0_countBelow : GoodIn wsX1_bucketCount (wsV RX1 30 RX0 yX0_countBelow wsX0_countBelow) := goodIn_app (goodIn_of _ (by decide +kernel)) ggX1_bucketCount_X0_countBelow
theorem dX1_bucketCount_0 : decode cX1_bucketCount 0 = .ok (.aload_n 0, 1) := by decide +kernel
theorem dX1_bucketCount_1 : decode cX1_bucketCount 1 = .ok (.getfield 20, 3) := by decide +kernel
theorem dX1_bucketCount_4 : decode cX1_bucketCount 4 = .ok (.sipush 4096, 3) := by decide +kernel
theorem dX1_bucketCount_7 : decode cX1_bucketCount 7 = .ok (.invokevirtual 30, 3) := by decide +kernel
theorem dX1_bucketCount_10 : decode cX1_bucketCount 10 = .ok (.ireturn, 1) := by decide +kernel
set_option maxRecDepth 20000 in
theorem ggX1_separatorAt_X0_numberAt : GoodIn wsX1_separatorAt wsX0_numberAt := goodIn_r _ [6, 7, 8, 9, 10, 5, 11, 12, 13, 14, 15, 16, 17, 18, 19, 20, 21, 22, 23, 26] (by decide +kernel) (by decide +kernel)
set_option maxRecDepth 20000 in
theorem gX1_separatorAt_X0_numberAt : GoodIn wsX1_separatorAt (wsV RX1 34 RX0 yX0_numberAt wsX0_numberAt) := goodIn_app (goodIn_of _ (by decide +kernel)) ggX1_separatorAt_X0_numberAt
theorem dX1_separatorAt_0 : decode cX1_separatorAt 0 = .ok (.aload_n 0, 1) := by decide +kernel
theorem dX1_separatorAt_1 : decode cX1_separatorAt 1 = .ok (.getfield 20, 3) := by decide +kernel
theorem dX1_separatorAt_4 : decode cX1_separatorAt 4 = .ok (.iload_n 1, 1) := by decide +kernel
theorem dX1_separatorAt_5 : decode cX1_separatorAt 5 = .ok (.invokevirtual 34, 3) := by decide +kernel
theorem dX1_separatorAt_8 : decode cX1_separatorAt 8 = .ok (.ireturn, 1) := by decide +kernel
set_option maxRecDepth 20000 in
theorem ggX1_bucketHolding_X0_countBelow : GoodIn wsX1_bucketHolding wsX0_countBelow := goodIn_r _ [6, 7, 8, 9, 10, 11, 12, 13, 14, 5, 15, 16, 17, 18, 19, 20, 21, 22, 23, 24, 25, 26, 29] (by decide +kernel) (by decide +kernel)
set_option maxRecDepth 20000 in
theorem gX1_bucketHolding_X0_countBelow : GoodIn wsX1_bucketHolding (wsV RX1 30 RX0 yX0_countBelow wsX0_countBelow) := goodIn_app (goodIn_of _ (by decide +kernel)) ggX1_bucketHolding_X0_countBelow
theorem dX1_bucketHolding_0 : decode cX1_bucketHolding 0 = .ok (.aload_n 0, 1) := by decide +kernel
theorem dX1_bucketHolding_1 : decode cX1_bucketHolding 1 = .ok (.getfield 20, 3) := by decide +kernel
theorem dX1_bucketHolding_4 : decode cX1_bucketHolding 4 = .ok (.iload_n 1, 1) := by decide +kernel
theorem dX1_bucketHolding_5 : decode cX1_bucketHolding 5 = .ok (.iconst 1, 1) := by decide +kernel
theorem dX1_bucketHolding_6 : decode cX1_bucketHolding 6 = .ok (.iadd, 1) := by decide +kernel
theorem dX1_bucketHolding_7 : decode cX1_bucketHolding 7 = .ok (.invokevirtual 30, 3) := by decide +kernel
theorem dX1_bucketHolding_10 : decode cX1_bucketHolding 10 = .ok (.iconst 1, 1) := by decide +kernel
theorem dX1_bucketHolding_11 : decode cX1_bucketHolding 11 = .ok (.isub, 1) := by decide +kernel
theorem dX1_bucketHolding_12 : decode cX1_bucketHolding 12 = .ok (.ireturn, 1) := by decide +kernel
set_option maxRecDepth 20000 in
theorem ggX1_membersFrom_X0_countBelow : GoodIn wsX1_membersFrom wsX0_countBelow := goodIn_r _ [7, 8, 9, 10, 11, 12, 13, 14, 15, 6, 16, 17, 18, 19, 20, 21, 22, 23, 24, 25, 26, 27, 38] (by decide +kernel) (by decide +kernel)
set_option maxRecDepth 20000 in
theorem gX1_membersFrom_X0_countBelow : GoodIn wsX1_membersFrom (wsV RX1 30 RX0 yX0_countBelow wsX0_countBelow) := goodIn_app (goodIn_of _ (by decide +kernel)) ggX1_membersFrom_X0_countBelow
set_option maxRecDepth 20000 in
theorem ggX1_membersFrom_X0_numberAt : GoodIn wsX1_membersFrom wsX0_numberAt := goodIn_r _ [31, 8, 13, 14, 15, 6, 16, 21, 22, 23, 24, 25, 26, 27, 32, 33, 19, 34, 35, 38] (by decide +kernel) (by decide +kernel)
set_option maxRecDepth 20000 in
theorem gX1_membersFrom_X0_numberAt : GoodIn wsX1_membersFrom (wsV RX1 34 RX0 yX0_numberAt wsX0_numberAt) := goodIn_app (goodIn_of _ (by decide +kernel)) ggX1_membersFrom_X0_numberAt
theorem dX1_membersFrom_0 : decode cX1_membersFrom 0 = .ok (.aload_n 0, 1) := by decide +kernel
theorem dX1_membersFrom_1 : decode cX1_membersFrom 1 = .ok (.getfield 20, 3) := by decide +kernel
theorem dX1_membersFrom_4 : decode cX1_membersFrom 4 = .ok (.aload_n 0, 1) := by decide +kernel
theorem dX1_membersFrom_5 : decode cX1_membersFrom 5 = .ok (.getfield 20, 3) := by decide +kernel
theorem dX1_membersFrom_8 : decode cX1_membersFrom 8 = .ok (.iload_n 1, 1) := by decide +kernel
theorem dX1_membersFrom_9 : decode cX1_membersFrom 9 = .ok (.iconst 1, 1) := by decide +kernel
theorem dX1_membersFrom_10 : decode cX1_membersFrom 10 = .ok (.iadd, 1) := by decide +kernel
theorem dX1_membersFrom_11 : decode cX1_membersFrom 11 = .ok (.invokevirtual 30, 3) := by decide +kernel
theorem dX1_membersFrom_14 : decode cX1_membersFrom 14 = .ok (.invokevirtual 34, 3) := by decide +kernel
theorem dX1_membersFrom_17 : decode cX1_membersFrom 17 = .ok (.istore_n 2, 1) := by decide +kernel
theorem dX1_membersFrom_18 : decode cX1_membersFrom 18 = .ok (.iload_n 2, 1) := by decide +kernel
theorem dX1_membersFrom_19 : decode cX1_membersFrom 19 = .ok (.iconst (-1), 1) := by decide +kernel
theorem dX1_membersFrom_20 : decode cX1_membersFrom 20 = .ok (.if_icmp .ne 9, 3) := by decide +kernel
theorem dX1_membersFrom_23 : decode cX1_membersFrom 23 = .ok (.sipush 4096, 3) := by decide +kernel
theorem dX1_membersFrom_26 : decode cX1_membersFrom 26 = .ok (.goto 4, 3) := by decide +kernel
theorem dX1_membersFrom_29 : decode cX1_membersFrom 29 = .ok (.iload_n 2, 1) := by decide +kernel
theorem dX1_membersFrom_30 : decode cX1_membersFrom 30 = .ok (.istore_n 3, 1) := by decide +kernel
theorem dX1_membersFrom_31 : decode cX1_membersFrom 31 = .ok (.aload_n 0, 1) := by decide +kernel
theorem dX1_membersFrom_32 : decode cX1_membersFrom 32 = .ok (.getfield 14, 3) := by decide +kernel
theorem dX1_membersFrom_35 : decode cX1_membersFrom 35 = .ok (.iload_n 3, 1) := by decide +kernel
theorem dX1_membersFrom_36 : decode cX1_membersFrom 36 = .ok (.invokevirtual 30, 3) := by decide +kernel
theorem dX1_membersFrom_39 : decode cX1_membersFrom 39 = .ok (.aload_n 0, 1) := by decide +kernel
theorem dX1_membersFrom_40 : decode cX1_membersFrom 40 = .ok (.getfield 14, 3) := by decide +kernel
theorem dX1_membersFrom_43 : decode cX1_membersFrom 43 = .ok (.iload_n 1, 1) := by decide +kernel
theorem dX1_membersFrom_44 : decode cX1_membersFrom 44 = .ok (.invokevirtual 30, 3) := by decide +kernel
theorem dX1_membersFrom_47 : decode cX1_membersFrom 47 = .ok (.isub, 1) := by decide +kernel
theorem dX1_membersFrom_48 : decode cX1_membersFrom 48 = .ok (.ireturn, 1) := by decide +kernel
set_option maxRecDepth 20000 in
theorem ggX1_put_X0_put : GoodIn wsX1_put wsX0_put := goodIn_r _ [6, 7, 8, 9, 10, 11, 67] (by decide +kernel) (by decide +kernel)
set_option maxRecDepth 20000 in
theorem gX1_put_X0_put : GoodIn wsX1_put (wsV RX1 23 RX0 yX0_put wsX0_put) := goodIn_app (goodIn_of _ (by decide +kernel)) ggX1_put_X0_put
set_option maxRecDepth 20000 in
theorem ggX1_put_X1_bucketHolding : GoodIn wsX1_put wsX1_bucketHolding := goodIn_r _ [16, 17, 18, 19, 20, 5, 21, 7, 22, 23, 24, 25, 26, 27, 28, 29, 8, 9, 10, 11, 30, 31, 32, 33, 34, 35, 36, 65, 66, 67] (by decide +kernel) (by decide +kernel)
set_option maxRecDepth 20000 in
theorem gX1_put_X1_bucketHolding : GoodIn wsX1_put (wsV RX1 37 RX1 yX1_bucketHolding wsX1_bucketHolding) := goodIn_app (goodIn_of _ (by decide +kernel)) ggX1_put_X1_bucketHolding
set_option maxRecDepth 20000 in
theorem ggX1_put_X1_separatorAt : GoodIn wsX1_put wsX1_separatorAt := goodIn_r _ [40, 17, 41, 42, 43, 5, 44, 7, 26, 27, 28, 29, 30, 31, 32, 33, 34, 35, 36, 45, 46, 10, 47, 48, 65, 66, 67] (by decide +kernel) (by decide +kernel)
set_option maxRecDepth 20000 in
theorem gX1_put_X1_separatorAt : GoodIn wsX1_put (wsV RX1 40 RX1 yX1_separatorAt wsX1_separatorAt) := goodIn_app (goodIn_of _ (by decide +kernel)) ggX1_put_X1_separatorAt
set_option maxRecDepth 20000 in
theorem ggX1_put_X1_splitIfLarge : GoodIn wsX1_put wsX1_splitIfLarge := goodIn_r _ [52, 17, 53, 54, 55, 15, 56, 1, 18, 19, 20, 5, 21, 7, 22, 23, 24, 25, 26, 27, 28, 29, 8, 9, 10, 11, 30, 31, 32, 33, 34, 35, 36, 41, 42, 43, 44, 45, 46, 47, 48, 57, 58, 59, 60, 61, 62, 63, 64, 2, 3, 4, 6, 65, 66, 67] (by decide +kernel) (by decide +kernel)
set_option maxRecDepth 20000 in
theorem gX1_put_X1_splitIfLarge : GoodIn wsX1_put (wsV RX1 43 RX1 yX1_splitIfLarge wsX1_splitIfLarge) := goodIn_app (goodIn_of _ (by decide +kernel)) ggX1_put_X1_splitIfLarge
theorem dX1_put_0 : decode cX1_put 0 = .ok (.aload_n 0, 1) := by decide +kernel
theorem dX1_put_1 : decode cX1_put 1 = .ok (.getfield 14, 3) := by decide +kernel
theorem dX1_put_4 : decode cX1_put 4 = .ok (.iload_n 1, 1) := by decide +kernel
theorem dX1_put_5 : decode cX1_put 5 = .ok (.invokevirtual 23, 3) := by decide +kernel
theorem dX1_put_8 : decode cX1_put 8 = .ok (.aload_n 0, 1) := by decide +kernel
theorem dX1_put_9 : decode cX1_put 9 = .ok (.aload_n 0, 1) := by decide +kernel
theorem dX1_put_10 : decode cX1_put 10 = .ok (.aload_n 0, 1) := by decide +kernel
theorem dX1_put_11 : decode cX1_put 11 = .ok (.iload_n 1, 1) := by decide +kernel
theorem dX1_put_12 : decode cX1_put 12 = .ok (.invokevirtual 37, 3) := by decide +kernel
theorem dX1_put_15 : decode cX1_put 15 = .ok (.invokevirtual 40, 3) := by decide +kernel
theorem dX1_put_18 : decode cX1_put 18 = .ok (.invokevirtual 43, 3) := by decide +kernel
theorem dX1_put_21 : decode cX1_put 21 = .ok (.return_, 1) := by decide +kernel
set_option maxRecDepth 20000 in
theorem ggX1_take_X0_take : GoodIn wsX1_take wsX0_take := goodIn_r _ [7, 8, 9, 10, 11, 12, 13, 76] (by decide +kernel) (by decide +kernel)
set_option maxRecDepth 20000 in
theorem gX1_take_X0_take : GoodIn wsX1_take (wsV RX1 46 RX0 yX0_take wsX0_take) := goodIn_app (goodIn_of _ (by decide +kernel)) ggX1_take_X0_take
set_option maxRecDepth 20000 in
theorem ggX1_take_X1_bucketHolding : GoodIn wsX1_take wsX1_bucketHolding := goodIn_r _ [18, 2, 19, 20, 21, 6, 22, 8, 23, 24, 25, 26, 27, 28, 29, 30, 10, 11, 12, 13, 31, 32, 33, 34, 35, 36, 37, 74, 75, 76] (by decide +kernel) (by decide +kernel)
set_option maxRecDepth 20000 in
theorem gX1_take_X1_bucketHolding : GoodIn wsX1_take (wsV RX1 37 RX1 yX1_bucketHolding wsX1_bucketHolding) := goodIn_app (goodIn_of _ (by decide +kernel)) ggX1_take_X1_bucketHolding
set_option maxRecDepth 20000 in
theorem ggX1_take_X1_separatorAt : GoodIn wsX1_take wsX1_separatorAt := goodIn_r _ [41, 2, 42, 43, 44, 6, 45, 8, 27, 28, 29, 30, 31, 32, 33, 34, 35, 36, 37, 46, 47, 12, 48, 49, 74, 75, 76] (by decide +kernel) (by decide +kernel)
set_option maxRecDepth 20000 in
theorem gX1_take_X1_separatorAt : GoodIn wsX1_take (wsV RX1 40 RX1 yX1_separatorAt wsX1_separatorAt) := goodIn_app (goodIn_of _ (by decide +kernel)) ggX1_take_X1_separatorAt
set_option maxRecDepth 20000 in
theorem ggX1_take_X1_membersFrom : GoodIn wsX1_take wsX1_membersFrom := goodIn_r _ [53, 2, 1, 19, 20, 21, 6, 22, 8, 23, 24, 25, 26, 27, 28, 29, 30, 10, 11, 12, 13, 31, 32, 33, 34, 35, 36, 37, 42, 43, 44, 45, 46, 47, 48, 49, 74, 75, 76] (by decide +kernel) (by decide +kernel)
set_option maxRecDepth 20000 in
theorem gX1_take_X1_membersFrom : GoodIn wsX1_take (wsV RX1 49 RX1 yX1_membersFrom wsX1_membersFrom) := goodIn_app (goodIn_of _ (by decide +kernel)) ggX1_take_X1_membersFrom
set_option maxRecDepth 20000 in
theorem ggX1_take_X1_bucketCount : GoodIn wsX1_take wsX1_bucketCount := goodIn_r _ [57, 2, 19, 20, 21, 6, 22, 8, 23, 24, 25, 26, 27, 28, 29, 30, 10, 11, 12, 13, 31, 32, 33, 34, 35, 36, 37, 74, 75, 76] (by decide +kernel) (by decide +kernel)
set_option maxRecDepth 20000 in
theorem gX1_take_X1_bucketCount : GoodIn wsX1_take (wsV RX1 52 RX1 yX1_bucketCount wsX1_bucketCount) := goodIn_app (goodIn_of _ (by decide +kernel)) ggX1_take_X1_bucketCount
set_option maxRecDepth 20000 in
theorem ggX1_take_X1_splitIfLarge : GoodIn wsX1_take wsX1_splitIfLarge := goodIn_r _ [61, 2, 50, 51, 52, 17, 53, 1, 19, 20, 21, 6, 22, 8, 23, 24, 25, 26, 27, 28, 29, 30, 10, 11, 12, 13, 31, 32, 33, 34, 35, 36, 37, 42, 43, 44, 45, 46, 47, 48, 49, 62, 63, 64, 65, 66, 67, 68, 69, 70, 71, 72, 73, 74, 75, 76] (by decide +kernel) (by decide +kernel)
set_option maxRecDepth 20000 in
theorem gX1_take_X1_splitIfLarge : GoodIn wsX1_take (wsV RX1 43 RX1 yX1_splitIfLarge wsX1_splitIfLarge) := goodIn_app (goodIn_of _ (by decide +kernel)) ggX1_take_X1_splitIfLarge
theorem dX1_take_0 : decode cX1_take 0 = .ok (.aload_n 0, 1) := by decide +kernel
theorem dX1_take_1 : decode cX1_take 1 = .ok (.getfield 14, 3) := by decide +kernel
theorem dX1_take_4 : decode cX1_take 4 = .ok (.iload_n 1, 1) := by decide +kernel
theorem dX1_take_5 : decode cX1_take 5 = .ok (.invokevirtual 46, 3) := by decide +kernel
theorem dX1_take_8 : decode cX1_take 8 = .ok (.aload_n 0, 1) := by decide +kernel
theorem dX1_take_9 : decode cX1_take 9 = .ok (.iload_n 1, 1) := by decide +kernel
theorem dX1_take_10 : decode cX1_take 10 = .ok (.invokevirtual 37, 3) := by decide +kernel
theorem dX1_take_13 : decode cX1_take 13 = .ok (.istore_n 2, 1) := by decide +kernel
theorem dX1_take_14 : decode cX1_take 14 = .ok (.aload_n 0, 1) := by decide +kernel
theorem dX1_take_15 : decode cX1_take 15 = .ok (.aload_n 0, 1) := by decide +kernel
theorem dX1_take_16 : decode cX1_take 16 = .ok (.iload_n 2, 1) := by decide +kernel
theorem dX1_take_17 : decode cX1_take 17 = .ok (.invokevirtual 40, 3) := by decide +kernel
theorem dX1_take_20 : decode cX1_take 20 = .ok (.invokevirtual 49, 3) := by decide +kernel
theorem dX1_take_23 : decode cX1_take 23 = .ok (.iconst 2, 1) := by decide +kernel
theorem dX1_take_24 : decode cX1_take 24 = .ok (.if_icmp .ge 11, 3) := by decide +kernel
theorem dX1_take_27 : decode cX1_take 27 = .ok (.aload_n 0, 1) := by decide +kernel
theorem dX1_take_28 : decode cX1_take 28 = .ok (.invokevirtual 52, 3) := by decide +kernel
theorem dX1_take_31 : decode cX1_take 31 = .ok (.iconst 1, 1) := by decide +kernel
theorem dX1_take_32 : decode cX1_take 32 = .ok (.if_icmp .ne 4, 3) := by decide +kernel
theorem dX1_take_35 : decode cX1_take 35 = .ok (.return_, 1) := by decide +kernel
theorem dX1_take_36 : decode cX1_take 36 = .ok (.iload_n 2, 1) := by decide +kernel
theorem dX1_take_37 : decode cX1_take 37 = .ok (.aload_n 0, 1) := by decide +kernel
theorem dX1_take_38 : decode cX1_take 38 = .ok (.invokevirtual 52, 3) := by decide +kernel
theorem dX1_take_41 : decode cX1_take 41 = .ok (.iconst 1, 1) := by decide +kernel
theorem dX1_take_42 : decode cX1_take 42 = .ok (.isub, 1) := by decide +kernel
theorem dX1_take_43 : decode cX1_take 43 = .ok (.if_icmp .ne 7, 3) := by decide +kernel
theorem dX1_take_46 : decode cX1_take 46 = .ok (.iconst 1, 1) := by decide +kernel
theorem dX1_take_47 : decode cX1_take 47 = .ok (.goto 4, 3) := by decide +kernel
theorem dX1_take_50 : decode cX1_take 50 = .ok (.iconst 0, 1) := by decide +kernel
theorem dX1_take_51 : decode cX1_take 51 = .ok (.istore_n 3, 1) := by decide +kernel
theorem dX1_take_52 : decode cX1_take 52 = .ok (.iload_n 3, 1) := by decide +kernel
theorem dX1_take_53 : decode cX1_take 53 = .ok (.ifCond .eq 9, 3) := by decide +kernel
theorem dX1_take_56 : decode cX1_take 56 = .ok (.iload_n 2, 1) := by decide +kernel
theorem dX1_take_57 : decode cX1_take 57 = .ok (.iconst 1, 1) := by decide +kernel
theorem dX1_take_58 : decode cX1_take 58 = .ok (.isub, 1) := by decide +kernel
theorem dX1_take_59 : decode cX1_take 59 = .ok (.goto 4, 3) := by decide +kernel
theorem dX1_take_62 : decode cX1_take 62 = .ok (.iload_n 2, 1) := by decide +kernel
theorem dX1_take_63 : decode cX1_take 63 = .ok (.istore 4, 2) := by decide +kernel
theorem dX1_take_65 : decode cX1_take 65 = .ok (.aload_n 0, 1) := by decide +kernel
theorem dX1_take_66 : decode cX1_take 66 = .ok (.getfield 20, 3) := by decide +kernel
theorem dX1_take_69 : decode cX1_take 69 = .ok (.aload_n 0, 1) := by decide +kernel
theorem dX1_take_70 : decode cX1_take 70 = .ok (.iload 4, 2) := by decide +kernel
theorem dX1_take_72 : decode cX1_take 72 = .ok (.iconst 1, 1) := by decide +kernel
theorem dX1_take_73 : decode cX1_take 73 = .ok (.iadd, 1) := by decide +kernel
theorem dX1_take_74 : decode cX1_take 74 = .ok (.invokevirtual 40, 3) := by decide +kernel
theorem dX1_take_77 : decode cX1_take 77 = .ok (.invokevirtual 46, 3) := by decide +kernel
theorem dX1_take_80 : decode cX1_take 80 = .ok (.aload_n 0, 1) := by decide +kernel
theorem dX1_take_81 : decode cX1_take 81 = .ok (.aload_n 0, 1) := by decide +kernel
theorem dX1_take_82 : decode cX1_take 82 = .ok (.iload 4, 2) := by decide +kernel
theorem dX1_take_84 : decode cX1_take 84 = .ok (.invokevirtual 40, 3) := by decide +kernel
theorem dX1_take_87 : decode cX1_take 87 = .ok (.invokevirtual 43, 3) := by decide +kernel
theorem dX1_take_90 : decode cX1_take 90 = .ok (.return_, 1) := by decide +kernel
set_option maxRecDepth 20000 in
theorem ggX1_splitIfLarge_X1_membersFrom : GoodIn wsX1_splitIfLarge wsX1_membersFrom := goodIn_r _ [6, 1, 7, 8, 9, 10, 11, 12, 13, 14, 15, 16, 17, 18, 19, 20, 21, 22, 23, 24, 25, 26, 27, 28, 29, 30, 31, 32, 33, 34, 35, 36, 37, 38, 39, 40, 53, 54, 55] (by decide +kernel) (by decide +kernel)
set_option maxRecDepth 20000 in
theorem gX1_splitIfLarge_X1_membersFrom : GoodIn wsX1_splitIfLarge (wsV RX1 49 RX1 yX1_membersFrom wsX1_membersFrom) := goodIn_app (goodIn_of _ (by decide +kernel)) ggX1_splitIfLarge_X1_membersFrom
set_option maxRecDepth 20000 in
theorem ggX1_splitIfLarge_X1_membersBelow : GoodIn wsX1_splitIfLarge wsX1_membersBelow := goodIn_r _ [44, 7, 8, 9, 10, 11, 12, 13, 14, 15, 16, 17, 18, 19, 20, 21, 22, 23, 24, 25, 26, 27, 28, 29, 30, 31, 32, 53, 54, 55] (by decide +kernel) (by decide +kernel)
set_option maxRecDepth 20000 in
theorem gX1_splitIfLarge_X1_membersBelow : GoodIn wsX1_splitIfLarge (wsV RX1 56 RX1 yX1_membersBelow wsX1_membersBelow) := goodIn_app (goodIn_of _ (by decide +kernel)) ggX1_splitIfLarge_X1_membersBelow
set_option maxRecDepth 20000 in
theorem ggX1_splitIfLarge_X1_memberAt : GoodIn wsX1_splitIfLarge wsX1_memberAt := goodIn_r _ [48, 7, 33, 34, 35, 11, 36, 13, 18, 19, 20, 21, 26, 27, 28, 29, 30, 31, 32, 37, 38, 24, 39, 40, 53, 54, 55] (by decide +kernel) (by decide +kernel)
set_option maxRecDepth 20000 in
theorem gX1_splitIfLarge_X1_memberAt : GoodIn wsX1_splitIfLarge (wsV RX1 59 RX1 yX1_memberAt wsX1_memberAt) := goodIn_app (goodIn_of _ (by decide +kernel)) ggX1_splitIfLarge_X1_memberAt
set_option maxRecDepth 20000 in
theorem ggX1_splitIfLarge_X0_put : GoodIn wsX1_splitIfLarge wsX0_put := goodIn_r _ [52, 13, 22, 23, 24, 25, 55] (by decide +kernel) (by decide +kernel)
set_option maxRecDepth 20000 in
theorem gX1_splitIfLarge_X0_put : GoodIn wsX1_splitIfLarge (wsV RX1 23 RX0 yX0_put wsX0_put) := goodIn_app (goodIn_of _ (by decide +kernel)) ggX1_splitIfLarge_X0_put
theorem dX1_splitIfLarge_0 : decode cX1_splitIfLarge 0 = .ok (.aload_n 0, 1) := by decide +kernel
theorem dX1_splitIfLarge_1 : decode cX1_splitIfLarge 1 = .ok (.iload_n 1, 1) := by decide +kernel
theorem dX1_splitIfLarge_2 : decode cX1_splitIfLarge 2 = .ok (.invokevirtual 49, 3) := by decide +kernel
theorem dX1_splitIfLarge_5 : decode cX1_splitIfLarge 5 = .ok (.istore_n 2, 1) := by decide +kernel
theorem dX1_splitIfLarge_6 : decode cX1_splitIfLarge 6 = .ok (.iload_n 2, 1) := by decide +kernel
theorem dX1_splitIfLarge_7 : decode cX1_splitIfLarge 7 = .ok (.bipush 8, 2) := by decide +kernel
theorem dX1_splitIfLarge_9 : decode cX1_splitIfLarge 9 = .ok (.if_icmp .le 23, 3) := by decide +kernel
theorem dX1_splitIfLarge_12 : decode cX1_splitIfLarge 12 = .ok (.aload_n 0, 1) := by decide +kernel
theorem dX1_splitIfLarge_13 : decode cX1_splitIfLarge 13 = .ok (.getfield 20, 3) := by decide +kernel
theorem dX1_splitIfLarge_16 : decode cX1_splitIfLarge 16 = .ok (.aload_n 0, 1) := by decide +kernel
theorem dX1_splitIfLarge_17 : decode cX1_splitIfLarge 17 = .ok (.aload_n 0, 1) := by decide +kernel
theorem dX1_splitIfLarge_18 : decode cX1_splitIfLarge 18 = .ok (.iload_n 1, 1) := by decide +kernel
theorem dX1_splitIfLarge_19 : decode cX1_splitIfLarge 19 = .ok (.invokevirtual 56, 3) := by decide +kernel
theorem dX1_splitIfLarge_22 : decode cX1_splitIfLarge 22 = .ok (.iload_n 2, 1) := by decide +kernel
theorem dX1_splitIfLarge_23 : decode cX1_splitIfLarge 23 = .ok (.iconst 2, 1) := by decide +kernel
theorem dX1_splitIfLarge_24 : decode cX1_splitIfLarge 24 = .ok (.idiv, 1) := by decide +kernel
theorem dX1_splitIfLarge_25 : decode cX1_splitIfLarge 25 = .ok (.iadd, 1) := by decide +kernel
theorem dX1_splitIfLarge_26 : decode cX1_splitIfLarge 26 = .ok (.invokevirtual 59, 3) := by decide +kernel
theorem dX1_splitIfLarge_29 : decode cX1_splitIfLarge 29 = .ok (.invokevirtual 23, 3) := by decide +kernel
theorem dX1_splitIfLarge_32 : decode cX1_splitIfLarge 32 = .ok (.return_, 1) := by decide +kernel
theorem dX2_init_0 : decode cX2_init 0 = .ok (.aload_n 0, 1) := by decide +kernel
theorem dX2_init_1 : decode cX2_init 1 = .ok (.invokespecial 1, 3) := by decide +kernel
theorem dX2_init_4 : decode cX2_init 4 = .ok (.aload_n 0, 1) := by decide +kernel
theorem dX2_init_5 : decode cX2_init 5 = .ok (.iload_n 1, 1) := by decide +kernel
theorem dX2_init_6 : decode cX2_init 6 = .ok (.putfield 7, 3) := by decide +kernel
theorem dX2_init_9 : decode cX2_init 9 = .ok (.aload_n 0, 1) := by decide +kernel
theorem dX2_init_10 : decode cX2_init 10 = .ok (.iload_n 2, 1) := by decide +kernel
theorem dX2_init_11 : decode cX2_init 11 = .ok (.putfield 13, 3) := by decide +kernel
theorem dX2_init_14 : decode cX2_init 14 = .ok (.return_, 1) := by decide +kernel
set_option maxRecDepth 20000 in
theorem ggX3_init_X4_init : GoodIn wsX3_init wsX4_init := goodIn_r _ [17, 18, 2, 3, 19, 20, 21, 22, 55, 56, 57] (by decide +kernel) (by decide +kernel)
set_option maxRecDepth 20000 in
theorem gX3_init_X4_init_n9 : GoodIn wsX3_init (wsX4_init) := ggX3_init_X4_init
set_option maxRecDepth 20000 in
theorem ggX3_init_X5_init : GoodIn wsX3_init wsX5_init := goodIn_r _ [24, 25, 2, 3, 26, 27, 28, 29, 30, 31, 32, 33, 34, 35, 36, 37, 19, 38, 64, 61] (by decide +kernel) (by decide +kernel)
set_option maxRecDepth 20000 in
theorem gX3_init_X5_init_n18 : GoodIn wsX3_init (wsX5_init) := ggX3_init_X5_init
set_option maxRecDepth 20000 in
theorem ggX3_init_X1_init : GoodIn wsX3_init wsX1_init := goodIn_r _ [41, 42, 2, 3, 43, 27, 28, 44, 45, 46, 31, 32, 33, 34, 35, 36, 37, 19, 38, 47, 48, 49, 50, 51, 52, 53, 54, 64, 62, 63] (by decide +kernel) (by decide +kernel)
set_option maxRecDepth 20000 in
theorem gX3_init_X1_init : GoodIn wsX3_init (wsX1_init) := ggX3_init_X1_init
theorem dX3_init_0 : decode cX3_init 0 = .ok (.aload_n 0, 1) := by decide +kernel
theorem dX3_init_1 : decode cX3_init 1 = .ok (.invokespecial 1, 3) := by decide +kernel
theorem dX3_init_4 : decode cX3_init 4 = .ok (.aload_n 0, 1) := by decide +kernel
theorem dX3_init_5 : decode cX3_init 5 = .ok (.new 7, 3) := by decide +kernel
theorem dX3_init_8 : decode cX3_init 8 = .ok (.dup, 1) := by decide +kernel
theorem dX3_init_9 : decode cX3_init 9 = .ok (.invokespecial 9, 3) := by decide +kernel
theorem dX3_init_12 : decode cX3_init 12 = .ok (.putfield 10, 3) := by decide +kernel
theorem dX3_init_15 : decode cX3_init 15 = .ok (.aload_n 0, 1) := by decide +kernel
theorem dX3_init_16 : decode cX3_init 16 = .ok (.new 16, 3) := by decide +kernel
theorem dX3_init_19 : decode cX3_init 19 = .ok (.dup, 1) := by decide +kernel
theorem dX3_init_20 : decode cX3_init 20 = .ok (.invokespecial 18, 3) := by decide +kernel
theorem dX3_init_23 : decode cX3_init 23 = .ok (.putfield 19, 3) := by decide +kernel
theorem dX3_init_26 : decode cX3_init 26 = .ok (.aload_n 0, 1) := by decide +kernel
theorem dX3_init_27 : decode cX3_init 27 = .ok (.new 23, 3) := by decide +kernel
theorem dX3_init_30 : decode cX3_init 30 = .ok (.dup, 1) := by decide +kernel
theorem dX3_init_31 : decode cX3_init 31 = .ok (.invokespecial 25, 3) := by decide +kernel
theorem dX3_init_34 : decode cX3_init 34 = .ok (.putfield 26, 3) := by decide +kernel
theorem dX3_init_37 : decode cX3_init 37 = .ok (.return_, 1) := by decide +kernel
set_option maxRecDepth 20000 in
theorem ggX3_put_X1_has : GoodIn wsX3_put wsX1_has := goodIn_r _ [8, 9, 10, 11, 12, 13, 14, 15, 16, 17, 18, 19, 20, 21, 22, 23, 115, 116, 117] (by decide +kernel) (by decide +kernel)
set_option maxRecDepth 20000 in
theorem gX3_put_X1_has : GoodIn wsX3_put (wsV RX3 30 RX1 yX1_has wsX1_has) := goodIn_app (goodIn_of _ (by decide +kernel)) ggX3_put_X1_has
set_option maxRecDepth 20000 in
theorem ggX3_put_X4_put : GoodIn wsX3_put wsX4_put := goodIn_r _ [28, 29, 30, 31, 32, 33, 34, 35, 36, 37, 38, 39, 27, 40, 41, 42, 21, 22, 23, 43, 44, 45, 46, 47, 48, 118, 119, 120] (by decide +kernel) (by decide +kernel)
set_option maxRecDepth 20000 in
theorem gX3_put_X4_put : GoodIn wsX3_put (wsV RX3 34 RX4 yX4_put wsX4_put) := goodIn_app (goodIn_of _ (by decide +kernel)) ggX3_put_X4_put
set_option maxRecDepth 20000 in
theorem ggX3_put_X5_put : GoodIn wsX3_put wsX5_put := goodIn_r _ [53, 54, 55, 56, 52, 57, 58, 59, 60, 13, 61, 19, 20, 21, 22, 23, 121, 117] (by decide +kernel) (by decide +kernel)
set_option maxRecDepth 20000 in
theorem gX3_put_X5_put : GoodIn wsX3_put (wsV RX3 38 RX5 yX5_put wsX5_put) := goodIn_app (goodIn_of _ (by decide +kernel)) ggX3_put_X5_put
set_option maxRecDepth 20000 in
theorem ggX3_put_X1_put : GoodIn wsX3_put wsX1_put := goodIn_r _ [65, 9, 66, 59, 60, 13, 61, 19, 20, 21, 22, 23, 67, 68, 69, 7, 70, 71, 72, 73, 74, 75, 76, 35, 32, 36, 15, 16, 17, 18, 77, 78, 79, 80, 81, 82, 83, 84, 85, 86, 87, 88, 89, 90, 91, 92, 93, 94, 95, 96, 97, 98, 99, 100, 101, 102, 103, 104, 105, 106, 107, 108, 109, 110, 111, 115, 116, 117] (by decide +kernel) (by decide +kernel)
set_option maxRecDepth 20000 in
theorem gX3_put_X1_put : GoodIn wsX3_put (wsV RX3 39 RX1 yX1_put wsX1_put) := goodIn_app (goodIn_of _ (by decide +kernel)) ggX3_put_X1_put
theorem dX3_put_0 : decode cX3_put 0 = .ok (.aload_n 0, 1) := by decide +kernel
theorem dX3_put_1 : decode cX3_put 1 = .ok (.getfield 26, 3) := by decide +kernel
theorem dX3_put_4 : decode cX3_put 4 = .ok (.iload_n 1, 1) := by decide +kernel
theorem dX3_put_5 : decode cX3_put 5 = .ok (.invokevirtual 30, 3) := by decide +kernel
theorem dX3_put_8 : decode cX3_put 8 = .ok (.ifCond .eq 5, 3) := by decide +kernel
theorem dX3_put_11 : decode cX3_put 11 = .ok (.iconst 0, 1) := by decide +kernel
theorem dX3_put_12 : decode cX3_put 12 = .ok (.ireturn, 1) := by decide +kernel
theorem dX3_put_13 : decode cX3_put 13 = .ok (.aload_n 0, 1) := by decide +kernel
theorem dX3_put_14 : decode cX3_put 14 = .ok (.getfield 10, 3) := by decide +kernel
theorem dX3_put_17 : decode cX3_put 17 = .ok (.iload_n 1, 1) := by decide +kernel
theorem dX3_put_18 : decode cX3_put 18 = .ok (.invokevirtual 34, 3) := by decide +kernel
theorem dX3_put_21 : decode cX3_put 21 = .ok (.aload_n 0, 1) := by decide +kernel
theorem dX3_put_22 : decode cX3_put 22 = .ok (.getfield 19, 3) := by decide +kernel
theorem dX3_put_25 : decode cX3_put 25 = .ok (.iload_n 1, 1) := by decide +kernel
theorem dX3_put_26 : decode cX3_put 26 = .ok (.invokevirtual 38, 3) := by decide +kernel
theorem dX3_put_29 : decode cX3_put 29 = .ok (.aload_n 0, 1) := by decide +kernel
theorem dX3_put_30 : decode cX3_put 30 = .ok (.getfield 26, 3) := by decide +kernel
theorem dX3_put_33 : decode cX3_put 33 = .ok (.iload_n 1, 1) := by decide +kernel
theorem dX3_put_34 : decode cX3_put 34 = .ok (.invokevirtual 39, 3) := by decide +kernel
theorem dX3_put_37 : decode cX3_put 37 = .ok (.iconst 1, 1) := by decide +kernel
theorem dX3_put_38 : decode cX3_put 38 = .ok (.ireturn, 1) := by decide +kernel
set_option maxRecDepth 20000 in
theorem ggX3_take_X1_has : GoodIn wsX3_take wsX1_has := goodIn_r _ [8, 9, 10, 11, 12, 13, 14, 15, 16, 17, 18, 19, 20, 21, 22, 23, 130, 131, 132] (by decide +kernel) (by decide +kernel)
set_option maxRecDepth 20000 in
theorem gX3_take_X1_has : GoodIn wsX3_take (wsV RX3 30 RX1 yX1_has wsX1_has) := goodIn_app (goodIn_of _ (by decide +kernel)) ggX3_take_X1_has
set_option maxRecDepth 20000 in
theorem ggX3_take_X4_take : GoodIn wsX3_take wsX4_take := goodIn_r _ [28, 29, 30, 31, 32, 33, 27, 34, 35, 36, 37, 22, 38, 39, 40, 41, 42, 43, 44, 45, 46, 47, 48, 49, 50, 51, 52, 53, 54, 55, 21, 23, 56, 57, 58, 59, 133, 134, 135] (by decide +kernel) (by decide +kernel)
set_option maxRecDepth 20000 in
theorem gX3_take_X4_take : GoodIn wsX3_take (wsV RX3 40 RX4 yX4_take wsX4_take) := goodIn_app (goodIn_of _ (by decide +kernel)) ggX3_take_X4_take
set_option maxRecDepth 20000 in
theorem ggX3_take_X5_take : GoodIn wsX3_take wsX5_take := goodIn_r _ [64, 65, 66, 67, 63, 68, 69, 70, 71, 13, 72, 19, 73, 20, 21, 22, 23, 74, 11, 12, 14, 15, 16, 17, 18, 136, 132] (by decide +kernel) (by decide +kernel)
set_option maxRecDepth 20000 in
theorem gX3_take_X5_take : GoodIn wsX3_take (wsV RX3 43 RX5 yX5_take wsX5_take) := goodIn_app (goodIn_of _ (by decide +kernel)) ggX3_take_X5_take
set_option maxRecDepth 20000 in
theorem ggX3_take_X1_take : GoodIn wsX3_take wsX1_take := goodIn_r _ [78, 9, 79, 80, 70, 71, 13, 72, 19, 73, 20, 21, 22, 23, 81, 82, 83, 7, 84, 85, 86, 87, 88, 89, 90, 91, 92, 15, 16, 17, 18, 93, 40, 41, 42, 43, 44, 45, 94, 95, 96, 97, 98, 99, 100, 101, 102, 37, 38, 39, 103, 104, 105, 106, 107, 108, 109, 110, 111, 112, 113, 114, 115, 116, 117, 118, 119, 120, 121, 122, 123, 124, 125, 126, 130, 131, 132] (by decide +kernel) (by decide +kernel)
set_option maxRecDepth 20000 in
theorem gX3_take_X1_take : GoodIn wsX3_take (wsV RX3 44 RX1 yX1_take wsX1_take) := goodIn_app (goodIn_of _ (by decide +kernel)) ggX3_take_X1_take
theorem dX3_take_0 : decode cX3_take 0 = .ok (.aload_n 0, 1) := by decide +kernel
theorem dX3_take_1 : decode cX3_take 1 = .ok (.getfield 26, 3) := by decide +kernel
theorem dX3_take_4 : decode cX3_take 4 = .ok (.iload_n 1, 1) := by decide +kernel
theorem dX3_take_5 : decode cX3_take 5 = .ok (.invokevirtual 30, 3) := by decide +kernel
theorem dX3_take_8 : decode cX3_take 8 = .ok (.ifCond .ne 5, 3) := by decide +kernel
theorem dX3_take_11 : decode cX3_take 11 = .ok (.iconst 0, 1) := by decide +kernel
theorem dX3_take_12 : decode cX3_take 12 = .ok (.ireturn, 1) := by decide +kernel
theorem dX3_take_13 : decode cX3_take 13 = .ok (.aload_n 0, 1) := by decide +kernel
theorem dX3_take_14 : decode cX3_take 14 = .ok (.getfield 10, 3) := by decide +kernel
theorem dX3_take_17 : decode cX3_take 17 = .ok (.iload_n 1, 1) := by decide +kernel
theorem dX3_take_18 : decode cX3_take 18 = .ok (.invokevirtual 40, 3) := by decide +kernel
theorem dX3_take_21 : decode cX3_take 21 = .ok (.aload_n 0, 1) := by decide +kernel
theorem dX3_take_22 : decode cX3_take 22 = .ok (.getfield 19, 3) := by decide +kernel
theorem dX3_take_25 : decode cX3_take 25 = .ok (.iload_n 1, 1) := by decide +kernel
theorem dX3_take_26 : decode cX3_take 26 = .ok (.invokevirtual 43, 3) := by decide +kernel
theorem dX3_take_29 : decode cX3_take 29 = .ok (.aload_n 0, 1) := by decide +kernel
theorem dX3_take_30 : decode cX3_take 30 = .ok (.getfield 26, 3) := by decide +kernel
theorem dX3_take_33 : decode cX3_take 33 = .ok (.iload_n 1, 1) := by decide +kernel
theorem dX3_take_34 : decode cX3_take 34 = .ok (.invokevirtual 44, 3) := by decide +kernel
theorem dX3_take_37 : decode cX3_take 37 = .ok (.iconst 1, 1) := by decide +kernel
theorem dX3_take_38 : decode cX3_take 38 = .ok (.ireturn, 1) := by decide +kernel
theorem dX4_init_0 : decode cX4_init 0 = .ok (.aload_n 0, 1) := by decide +kernel
theorem dX4_init_1 : decode cX4_init 1 = .ok (.invokespecial 3, 3) := by decide +kernel
theorem dX4_init_4 : decode cX4_init 4 = .ok (.aload_n 0, 1) := by decide +kernel
theorem dX4_init_5 : decode cX4_init 5 = .ok (.bipush 64, 2) := by decide +kernel
theorem dX4_init_7 : decode cX4_init 7 = .ok (.newarray .long, 2) := by decide +kernel
theorem dX4_init_9 : decode cX4_init 9 = .ok (.putfield 9, 3) := by decide +kernel
theorem dX4_init_12 : decode cX4_init 12 = .ok (.aload_n 0, 1) := by decide +kernel
theorem dX4_init_13 : decode cX4_init 13 = .ok (.lconst 0, 1) := by decide +kernel
theorem dX4_init_14 : decode cX4_init 14 = .ok (.putfield 15, 3) := by decide +kernel
theorem dX4_init_17 : decode cX4_init 17 = .ok (.aload_n 0, 1) := by decide +kernel
theorem dX4_init_18 : decode cX4_init 18 = .ok (.iconst (-1), 1) := by decide +kernel
theorem dX4_init_19 : decode cX4_init 19 = .ok (.putfield 19, 3) := by decide +kernel
theorem dX4_init_22 : decode cX4_init 22 = .ok (.return_, 1) := by decide +kernel
theorem dX4_cluster_0 : decode cX4_cluster 0 = .ok (.iload_n 1, 1) := by decide +kernel
theorem dX4_cluster_1 : decode cX4_cluster 1 = .ok (.ifCond .lt 12, 3) := by decide +kernel
theorem dX4_cluster_4 : decode cX4_cluster 4 = .ok (.iload_n 1, 1) := by decide +kernel
theorem dX4_cluster_5 : decode cX4_cluster 5 = .ok (.aload_n 0, 1) := by decide +kernel
theorem dX4_cluster_6 : decode cX4_cluster 6 = .ok (.getfield 9, 3) := by decide +kernel
theorem dX4_cluster_9 : decode cX4_cluster 9 = .ok (.arraylength, 1) := by decide +kernel
theorem dX4_cluster_10 : decode cX4_cluster 10 = .ok (.if_icmp .lt 7, 3) := by decide +kernel
theorem dX4_cluster_13 : decode cX4_cluster 13 = .ok (.lconst 0, 1) := by decide +kernel
theorem dX4_cluster_14 : decode cX4_cluster 14 = .ok (.goto 9, 3) := by decide +kernel
theorem dX4_cluster_17 : decode cX4_cluster 17 = .ok (.aload_n 0, 1) := by decide +kernel
theorem dX4_cluster_18 : decode cX4_cluster 18 = .ok (.getfield 9, 3) := by decide +kernel
theorem dX4_cluster_21 : decode cX4_cluster 21 = .ok (.iload_n 1, 1) := by decide +kernel
theorem dX4_cluster_22 : decode cX4_cluster 22 = .ok (.laload, 1) := by decide +kernel
theorem dX4_cluster_23 : decode cX4_cluster 23 = .ok (.lreturn, 1) := by decide +kernel
set_option maxRecDepth 20000 in
theorem ggX4_setCluster_X6_bit : GoodIn wsX4_setCluster wsX6_bit := goodIn_r _ [7] (by decide +kernel) (by decide +kernel)
set_option maxRecDepth 20000 in
theorem gX4_setCluster_X6_bit : GoodIn wsX4_setCluster (va_wsS RX4 23 yX6_bit wsX6_bit) := goodIn_app (goodIn_of _ (by decide +kernel)) ggX4_setCluster_X6_bit
theorem dX4_setCluster_0 : decode cX4_setCluster 0 = .ok (.iload_n 1, 1) := by decide +kernel
theorem dX4_setCluster_1 : decode cX4_setCluster 1 = .ok (.ifCond .lt 12, 3) := by decide +kernel
theorem dX4_setCluster_4 : decode cX4_setCluster 4 = .ok (.iload_n 1, 1) := by decide +kernel
theorem dX4_setCluster_5 : decode cX4_setCluster 5 = .ok (.aload_n 0, 1) := by decide +kernel
theorem dX4_setCluster_6 : decode cX4_setCluster 6 = .ok (.getfield 9, 3) := by decide +kernel
theorem dX4_setCluster_9 : decode cX4_setCluster 9 = .ok (.arraylength, 1) := by decide +kernel
theorem dX4_setCluster_10 : decode cX4_setCluster 10 = .ok (.if_icmp .lt 4, 3) := by decide +kernel
theorem dX4_setCluster_13 : decode cX4_setCluster 13 = .ok (.return_, 1) := by decide +kernel
theorem dX4_setCluster_14 : decode cX4_setCluster 14 = .ok (.aload_n 0, 1) := by decide +kernel
theorem dX4_setCluster_15 : decode cX4_setCluster 15 = .ok (.getfield 9, 3) := by decide +kernel
theorem dX4_setCluster_18 : decode cX4_setCluster 18 = .ok (.iload_n 1, 1) := by decide +kernel
theorem dX4_setCluster_19 : decode cX4_setCluster 19 = .ok (.lload_n 2, 1) := by decide +kernel
theorem dX4_setCluster_20 : decode cX4_setCluster 20 = .ok (.lastore, 1) := by decide +kernel
theorem dX4_setCluster_21 : decode cX4_setCluster 21 = .ok (.lload_n 2, 1) := by decide +kernel
theorem dX4_setCluster_22 : decode cX4_setCluster 22 = .ok (.lconst 0, 1) := by decide +kernel
theorem dX4_setCluster_23 : decode cX4_setCluster 23 = .ok (.lcmp, 1) := by decide +kernel
theorem dX4_setCluster_24 : decode cX4_setCluster 24 = .ok (.ifCond .ne 23, 3) := by decide +kernel
theorem dX4_setCluster_27 : decode cX4_setCluster 27 = .ok (.aload_n 0, 1) := by decide +kernel
theorem dX4_setCluster_28 : decode cX4_setCluster 28 = .ok (.dup, 1) := by decide +kernel
theorem dX4_setCluster_29 : decode cX4_setCluster 29 = .ok (.getfield 15, 3) := by decide +kernel
theorem dX4_setCluster_32 : decode cX4_setCluster 32 = .ok (.iload_n 1, 1) := by decide +kernel
theorem dX4_setCluster_33 : decode cX4_setCluster 33 = .ok (.invokestatic 23, 3) := by decide +kernel
theorem dX4_setCluster_36 : decode cX4_setCluster 36 = .ok (.ldc2_w 29, 3) := by decide +kernel
theorem dX4_setCluster_39 : decode cX4_setCluster 39 = .ok (.lxor, 1) := by decide +kernel
theorem dX4_setCluster_40 : decode cX4_setCluster 40 = .ok (.land, 1) := by decide +kernel
theorem dX4_setCluster_41 : decode cX4_setCluster 41 = .ok (.putfield 15, 3) := by decide +kernel
theorem dX4_setCluster_44 : decode cX4_setCluster 44 = .ok (.goto 16, 3) := by decide +kernel
theorem dX4_setCluster_47 : decode cX4_setCluster 47 = .ok (.aload_n 0, 1) := by decide +kernel
theorem dX4_setCluster_48 : decode cX4_setCluster 48 = .ok (.dup, 1) := by decide +kernel
theorem dX4_setCluster_49 : decode cX4_setCluster 49 = .ok (.getfield 15, 3) := by decide +kernel
theorem dX4_setCluster_52 : decode cX4_setCluster 52 = .ok (.iload_n 1, 1) := by decide +kernel
theorem dX4_setCluster_53 : decode cX4_setCluster 53 = .ok (.invokestatic 23, 3) := by decide +kernel
theorem dX4_setCluster_56 : decode cX4_setCluster 56 = .ok (.lor, 1) := by decide +kernel
theorem dX4_setCluster_57 : decode cX4_setCluster 57 = .ok (.putfield 15, 3) := by decide +kernel
theorem dX4_setCluster_60 : decode cX4_setCluster 60 = .ok (.return_, 1) := by decide +kernel
set_option maxRecDepth 20000 in
theorem ggX4_put_X4_cluster : GoodIn wsX4_put wsX4_cluster := goodIn_r _ [13, 14, 25, 26, 27] (by decide +kernel) (by decide +kernel)
set_option maxRecDepth 20000 in
theorem gX4_put_X4_cluster : GoodIn wsX4_put (wsV RX4 40 RX4 yX4_cluster wsX4_cluster) := goodIn_app (goodIn_of _ (by decide +kernel)) ggX4_put_X4_cluster
set_option maxRecDepth 20000 in
theorem ggX4_put_X6_bit : GoodIn wsX4_put wsX6_bit := goodIn_r _ [18] (by decide +kernel) (by decide +kernel)
set_option maxRecDepth 20000 in
theorem gX4_put_X6_bit : GoodIn wsX4_put (va_wsS RX4 23 yX6_bit wsX6_bit) := goodIn_app (goodIn_of _ (by decide +kernel)) ggX4_put_X6_bit
set_option maxRecDepth 20000 in
theorem ggX4_put_X4_setCluster : GoodIn wsX4_put wsX4_setCluster := goodIn_r _ [22, 14, 23, 24, 15, 16, 17, 18, 25, 26, 27] (by decide +kernel) (by decide +kernel)
set_option maxRecDepth 20000 in
theorem gX4_put_X4_setCluster : GoodIn wsX4_put (wsV RX4 43 RX4 yX4_setCluster wsX4_setCluster) := goodIn_app (goodIn_of _ (by decide +kernel)) ggX4_put_X4_setCluster
theorem dX4_put_0 : decode cX4_put 0 = .ok (.aload_n 0, 1) := by decide +kernel
theorem dX4_put_1 : decode cX4_put 1 = .ok (.getfield 19, 3) := by decide +kernel
theorem dX4_put_4 : decode cX4_put 4 = .ok (.iconst (-1), 1) := by decide +kernel
theorem dX4_put_5 : decode cX4_put 5 = .ok (.if_icmp .ne 9, 3) := by decide +kernel
theorem dX4_put_8 : decode cX4_put 8 = .ok (.aload_n 0, 1) := by decide +kernel
theorem dX4_put_9 : decode cX4_put 9 = .ok (.iload_n 1, 1) := by decide +kernel
theorem dX4_put_10 : decode cX4_put 10 = .ok (.putfield 19, 3) := by decide +kernel
theorem dX4_put_13 : decode cX4_put 13 = .ok (.return_, 1) := by decide +kernel
theorem dX4_put_14 : decode cX4_put 14 = .ok (.aload_n 0, 1) := by decide +kernel
theorem dX4_put_15 : decode cX4_put 15 = .ok (.getfield 19, 3) := by decide +kernel
theorem dX4_put_18 : decode cX4_put 18 = .ok (.iload_n 1, 1) := by decide +kernel
theorem dX4_put_19 : decode cX4_put 19 = .ok (.invokestatic 31, 3) := by decide +kernel
theorem dX4_put_22 : decode cX4_put 22 = .ok (.istore_n 2, 1) := by decide +kernel
theorem dX4_put_23 : decode cX4_put 23 = .ok (.aload_n 0, 1) := by decide +kernel
theorem dX4_put_24 : decode cX4_put 24 = .ok (.aload_n 0, 1) := by decide +kernel
theorem dX4_put_25 : decode cX4_put 25 = .ok (.getfield 19, 3) := by decide +kernel
theorem dX4_put_28 : decode cX4_put 28 = .ok (.iload_n 1, 1) := by decide +kernel
theorem dX4_put_29 : decode cX4_put 29 = .ok (.invokestatic 37, 3) := by decide +kernel
theorem dX4_put_32 : decode cX4_put 32 = .ok (.putfield 19, 3) := by decide +kernel
theorem dX4_put_35 : decode cX4_put 35 = .ok (.iload_n 2, 1) := by decide +kernel
theorem dX4_put_36 : decode cX4_put 36 = .ok (.bipush 64, 2) := by decide +kernel
theorem dX4_put_38 : decode cX4_put 38 = .ok (.idiv, 1) := by decide +kernel
theorem dX4_put_39 : decode cX4_put 39 = .ok (.istore_n 3, 1) := by decide +kernel
theorem dX4_put_40 : decode cX4_put 40 = .ok (.aload_n 0, 1) := by decide +kernel
theorem dX4_put_41 : decode cX4_put 41 = .ok (.iload_n 3, 1) := by decide +kernel
theorem dX4_put_42 : decode cX4_put 42 = .ok (.aload_n 0, 1) := by decide +kernel
theorem dX4_put_43 : decode cX4_put 43 = .ok (.iload_n 3, 1) := by decide +kernel
theorem dX4_put_44 : decode cX4_put 44 = .ok (.invokevirtual 40, 3) := by decide +kernel
theorem dX4_put_47 : decode cX4_put 47 = .ok (.iload_n 2, 1) := by decide +kernel
theorem dX4_put_48 : decode cX4_put 48 = .ok (.bipush 64, 2) := by decide +kernel
theorem dX4_put_50 : decode cX4_put 50 = .ok (.irem, 1) := by decide +kernel
theorem dX4_put_51 : decode cX4_put 51 = .ok (.invokestatic 23, 3) := by decide +kernel
theorem dX4_put_54 : decode cX4_put 54 = .ok (.lor, 1) := by decide +kernel
theorem dX4_put_55 : decode cX4_put 55 = .ok (.invokevirtual 43, 3) := by decide +kernel
theorem dX4_put_58 : decode cX4_put 58 = .ok (.return_, 1) := by decide +kernel
set_option maxRecDepth 20000 in
theorem ggX4_take_X4_leastInClusters : GoodIn wsX4_take wsX4_leastInClusters := goodIn_r _ [7, 8, 9, 10, 11, 12, 13, 14, 15, 16, 17, 18, 19, 20, 21, 22, 6, 23, 24, 25, 26, 27, 28, 36, 37, 38] (by decide +kernel) (by decide +kernel)
set_option maxRecDepth 20000 in
theorem gX4_take_X4_leastInClusters : GoodIn wsX4_take (wsV RX4 47 RX4 yX4_leastInClusters wsX4_leastInClusters) := goodIn_app (goodIn_of _ (by decide +kernel)) ggX4_take_X4_leastInClusters
set_option maxRecDepth 20000 in
theorem ggX4_take_X4_cluster : GoodIn wsX4_take wsX4_cluster := goodIn_r _ [27, 28, 36, 37, 38] (by decide +kernel) (by decide +kernel)
set_option maxRecDepth 20000 in
theorem gX4_take_X4_cluster : GoodIn wsX4_take (wsV RX4 40 RX4 yX4_cluster wsX4_cluster) := goodIn_app (goodIn_of _ (by decide +kernel)) ggX4_take_X4_cluster
set_option maxRecDepth 20000 in
theorem ggX4_take_X6_bit : GoodIn wsX4_take wsX6_bit := goodIn_r _ [31] (by decide +kernel) (by decide +kernel)
set_option maxRecDepth 20000 in
theorem gX4_take_X6_bit : GoodIn wsX4_take (va_wsS RX4 23 yX6_bit wsX6_bit) := goodIn_app (goodIn_of _ (by decide +kernel)) ggX4_take_X6_bit
set_option maxRecDepth 20000 in
theorem ggX4_take_X4_setCluster : GoodIn wsX4_take wsX4_setCluster := goodIn_r _ [35, 28, 8, 2, 29, 30, 11, 31, 36, 37, 38] (by decide +kernel) (by decide +kernel)
set_option maxRecDepth 20000 in
theorem gX4_take_X4_setCluster : GoodIn wsX4_take (wsV RX4 43 RX4 yX4_setCluster wsX4_setCluster) := goodIn_app (goodIn_of _ (by decide +kernel)) ggX4_take_X4_setCluster
theorem dX4_take_0 : decode cX4_take 0 = .ok (.iload_n 1, 1) := by decide +kernel
theorem dX4_take_1 : decode cX4_take 1 = .ok (.istore_n 2, 1) := by decide +kernel
theorem dX4_take_2 : decode cX4_take 2 = .ok (.iload_n 1, 1) := by decide +kernel
theorem dX4_take_3 : decode cX4_take 3 = .ok (.aload_n 0, 1) := by decide +kernel
theorem dX4_take_4 : decode cX4_take 4 = .ok (.getfield 19, 3) := by decide +kernel
theorem dX4_take_7 : decode cX4_take 7 = .ok (.if_icmp .ne 13, 3) := by decide +kernel
theorem dX4_take_10 : decode cX4_take 10 = .ok (.aload_n 0, 1) := by decide +kernel
theorem dX4_take_11 : decode cX4_take 11 = .ok (.invokevirtual 47, 3) := by decide +kernel
theorem dX4_take_14 : decode cX4_take 14 = .ok (.istore_n 2, 1) := by decide +kernel
theorem dX4_take_15 : decode cX4_take 15 = .ok (.aload_n 0, 1) := by decide +kernel
theorem dX4_take_16 : decode cX4_take 16 = .ok (.iload_n 2, 1) := by decide +kernel
theorem dX4_take_17 : decode cX4_take 17 = .ok (.putfield 19, 3) := by decide +kernel
theorem dX4_take_20 : decode cX4_take 20 = .ok (.iload_n 2, 1) := by decide +kernel
theorem dX4_take_21 : decode cX4_take 21 = .ok (.iconst (-1), 1) := by decide +kernel
theorem dX4_take_22 : decode cX4_take 22 = .ok (.if_icmp .ne 4, 3) := by decide +kernel
theorem dX4_take_25 : decode cX4_take 25 = .ok (.return_, 1) := by decide +kernel
theorem dX4_take_26 : decode cX4_take 26 = .ok (.iload_n 2, 1) := by decide +kernel
theorem dX4_take_27 : decode cX4_take 27 = .ok (.bipush 64, 2) := by decide +kernel
theorem dX4_take_29 : decode cX4_take 29 = .ok (.idiv, 1) := by decide +kernel
theorem dX4_take_30 : decode cX4_take 30 = .ok (.istore_n 3, 1) := by decide +kernel
theorem dX4_take_31 : decode cX4_take 31 = .ok (.aload_n 0, 1) := by decide +kernel
theorem dX4_take_32 : decode cX4_take 32 = .ok (.iload_n 3, 1) := by decide +kernel
theorem dX4_take_33 : decode cX4_take 33 = .ok (.aload_n 0, 1) := by decide +kernel
theorem dX4_take_34 : decode cX4_take 34 = .ok (.iload_n 3, 1) := by decide +kernel
theorem dX4_take_35 : decode cX4_take 35 = .ok (.invokevirtual 40, 3) := by decide +kernel
theorem dX4_take_38 : decode cX4_take 38 = .ok (.iload_n 2, 1) := by decide +kernel
theorem dX4_take_39 : decode cX4_take 39 = .ok (.bipush 64, 2) := by decide +kernel
theorem dX4_take_41 : decode cX4_take 41 = .ok (.irem, 1) := by decide +kernel
theorem dX4_take_42 : decode cX4_take 42 = .ok (.invokestatic 23, 3) := by decide +kernel
theorem dX4_take_45 : decode cX4_take 45 = .ok (.ldc2_w 29, 3) := by decide +kernel
theorem dX4_take_48 : decode cX4_take 48 = .ok (.lxor, 1) := by decide +kernel
theorem dX4_take_49 : decode cX4_take 49 = .ok (.land, 1) := by decide +kernel
theorem dX4_take_50 : decode cX4_take 50 = .ok (.invokevirtual 43, 3) := by decide +kernel
theorem dX4_take_53 : decode cX4_take 53 = .ok (.return_, 1) := by decide +kernel
theorem dX4_least_0 : decode cX4_least 0 = .ok (.aload_n 0, 1) := by decide +kernel
theorem dX4_least_1 : decode cX4_least 1 = .ok (.getfield 19, 3) := by decide +kernel
theorem dX4_least_4 : decode cX4_least 4 = .ok (.ireturn, 1) := by decide +kernel
set_option maxRecDepth 20000 in
theorem ggX4_greatest_X6_greatest : GoodIn wsX4_greatest wsX6_greatest := goodIn_r _ [6, 7, 8, 9, 10, 11, 12, 13] (by decide +kernel) (by decide +kernel)
set_option maxRecDepth 20000 in
theorem gX4_greatest_X6_greatest : GoodIn wsX4_greatest (va_wsS RX4 57 yX6_greatest wsX6_greatest) := goodIn_app (goodIn_of _ (by decide +kernel)) ggX4_greatest_X6_greatest
set_option maxRecDepth 20000 in
theorem ggX4_greatest_X4_greatestOf : GoodIn wsX4_greatest wsX4_greatestOf := goodIn_r _ [18, 19, 20, 21, 17, 22, 23, 3, 4, 5, 6, 7, 8, 9, 10, 11, 12, 13, 24, 25, 26] (by decide +kernel) (by decide +kernel)
set_option maxRecDepth 20000 in
theorem gX4_greatest_X4_greatestOf : GoodIn wsX4_greatest (wsV RX4 61 RX4 yX4_greatestOf wsX4_greatestOf) := goodIn_app (goodIn_of _ (by decide +kernel)) ggX4_greatest_X4_greatestOf
theorem dX4_greatest_0 : decode cX4_greatest 0 = .ok (.aload_n 0, 1) := by decide +kernel
theorem dX4_greatest_1 : decode cX4_greatest 1 = .ok (.getfield 15, 3) := by decide +kernel
theorem dX4_greatest_4 : decode cX4_greatest 4 = .ok (.lconst 0, 1) := by decide +kernel
theorem dX4_greatest_5 : decode cX4_greatest 5 = .ok (.lcmp, 1) := by decide +kernel
theorem dX4_greatest_6 : decode cX4_greatest 6 = .ok (.ifCond .ne 10, 3) := by decide +kernel
theorem dX4_greatest_9 : decode cX4_greatest 9 = .ok (.aload_n 0, 1) := by decide +kernel
theorem dX4_greatest_10 : decode cX4_greatest 10 = .ok (.getfield 19, 3) := by decide +kernel
theorem dX4_greatest_13 : decode cX4_greatest 13 = .ok (.goto 14, 3) := by decide +kernel
theorem dX4_greatest_16 : decode cX4_greatest 16 = .ok (.aload_n 0, 1) := by decide +kernel
theorem dX4_greatest_17 : decode cX4_greatest 17 = .ok (.aload_n 0, 1) := by decide +kernel
theorem dX4_greatest_18 : decode cX4_greatest 18 = .ok (.getfield 15, 3) := by decide +kernel
theorem dX4_greatest_21 : decode cX4_greatest 21 = .ok (.invokestatic 57, 3) := by decide +kernel
theorem dX4_greatest_24 : decode cX4_greatest 24 = .ok (.invokevirtual 61, 3) := by decide +kernel
theorem dX4_greatest_27 : decode cX4_greatest 27 = .ok (.ireturn, 1) := by decide +kernel
set_option maxRecDepth 20000 in
theorem ggX4_leastInClusters_X6_least : GoodIn wsX4_leastInClusters wsX6_least := goodIn_r _ [5, 6, 7, 8, 9, 10, 11, 12] (by decide +kernel) (by decide +kernel)
set_option maxRecDepth 20000 in
theorem gX4_leastInClusters_X6_least : GoodIn wsX4_leastInClusters (va_wsS RX4 65 yX6_least wsX6_least) := goodIn_app (goodIn_of _ (by decide +kernel)) ggX4_leastInClusters_X6_least
set_option maxRecDepth 20000 in
theorem ggX4_leastInClusters_X4_leastOf : GoodIn wsX4_leastInClusters wsX4_leastOf := goodIn_r _ [17, 18, 19, 20, 16, 21, 22, 2, 3, 4, 5, 6, 7, 8, 9, 10, 11, 12, 23, 24, 25] (by decide +kernel) (by decide +kernel)
set_option maxRecDepth 20000 in
theorem gX4_leastInClusters_X4_leastOf : GoodIn wsX4_leastInClusters (wsV RX4 67 RX4 yX4_leastOf wsX4_leastOf) := goodIn_app (goodIn_of _ (by decide +kernel)) ggX4_leastInClusters_X4_leastOf
theorem dX4_leastInClusters_0 : decode cX4_leastInClusters 0 = .ok (.aload_n 0, 1) := by decide +kernel
theorem dX4_leastInClusters_1 : decode cX4_leastInClusters 1 = .ok (.getfield 15, 3) := by decide +kernel
theorem dX4_leastInClusters_4 : decode cX4_leastInClusters 4 = .ok (.lconst 0, 1) := by decide +kernel
theorem dX4_leastInClusters_5 : decode cX4_leastInClusters 5 = .ok (.lcmp, 1) := by decide +kernel
theorem dX4_leastInClusters_6 : decode cX4_leastInClusters 6 = .ok (.ifCond .ne 7, 3) := by decide +kernel
theorem dX4_leastInClusters_9 : decode cX4_leastInClusters 9 = .ok (.iconst (-1), 1) := by decide +kernel
theorem dX4_leastInClusters_10 : decode cX4_leastInClusters 10 = .ok (.goto 14, 3) := by decide +kernel
theorem dX4_leastInClusters_13 : decode cX4_leastInClusters 13 = .ok (.aload_n 0, 1) := by decide +kernel
theorem dX4_leastInClusters_14 : decode cX4_leastInClusters 14 = .ok (.aload_n 0, 1) := by decide +kernel
theorem dX4_leastInClusters_15 : decode cX4_leastInClusters 15 = .ok (.getfield 15, 3) := by decide +kernel
theorem dX4_leastInClusters_18 : decode cX4_leastInClusters 18 = .ok (.invokestatic 65, 3) := by decide +kernel
theorem dX4_leastInClusters_21 : decode cX4_leastInClusters 21 = .ok (.invokevirtual 67, 3) := by decide +kernel
theorem dX4_leastInClusters_24 : decode cX4_leastInClusters 24 = .ok (.ireturn, 1) := by decide +kernel
set_option maxRecDepth 20000 in
theorem ggX4_leastOf_X4_cluster : GoodIn wsX4_leastOf wsX4_cluster := goodIn_r _ [5, 6, 18, 19, 20] (by decide +kernel) (by decide +kernel)
set_option maxRecDepth 20000 in
theorem gX4_leastOf_X4_cluster : GoodIn wsX4_leastOf (wsV RX4 40 RX4 yX4_cluster wsX4_cluster) := goodIn_app (goodIn_of _ (by decide +kernel)) ggX4_leastOf_X4_cluster
set_option maxRecDepth 20000 in
theorem ggX4_leastOf_X6_least : GoodIn wsX4_leastOf wsX6_least := goodIn_r _ [10, 11, 12, 13, 14, 15, 16, 17] (by decide +kernel) (by decide +kernel)
set_option maxRecDepth 20000 in
theorem gX4_leastOf_X6_least : GoodIn wsX4_leastOf (va_wsS RX4 65 yX6_least wsX6_least) := goodIn_app (goodIn_of _ (by decide +kernel)) ggX4_leastOf_X6_least
theorem dX4_leastOf_0 : decode cX4_leastOf 0 = .ok (.iload_n 1, 1) := by decide +kernel
theorem dX4_leastOf_1 : decode cX4_leastOf 1 = .ok (.bipush 64, 2) := by decide +kernel
theorem dX4_leastOf_3 : decode cX4_leastOf 3 = .ok (.imul, 1) := by decide +kernel
theorem dX4_leastOf_4 : decode cX4_leastOf 4 = .ok (.aload_n 0, 1) := by decide +kernel
theorem dX4_leastOf_5 : decode cX4_leastOf 5 = .ok (.iload_n 1, 1) := by decide +kernel
theorem dX4_leastOf_6 : decode cX4_leastOf 6 = .ok (.invokevirtual 40, 3) := by decide +kernel
theorem dX4_leastOf_9 : decode cX4_leastOf 9 = .ok (.invokestatic 65, 3) := by decide +kernel
theorem dX4_leastOf_12 : decode cX4_leastOf 12 = .ok (.iadd, 1) := by decide +kernel
theorem dX4_leastOf_13 : decode cX4_leastOf 13 = .ok (.ireturn, 1) := by decide +kernel
set_option maxRecDepth 20000 in
theorem ggX4_greatestOf_X4_cluster : GoodIn wsX4_greatestOf wsX4_cluster := goodIn_r _ [5, 6, 18, 19, 20] (by decide +kernel) (by decide +kernel)
set_option maxRecDepth 20000 in
theorem gX4_greatestOf_X4_cluster : GoodIn wsX4_greatestOf (wsV RX4 40 RX4 yX4_cluster wsX4_cluster) := goodIn_app (goodIn_of _ (by decide +kernel)) ggX4_greatestOf_X4_cluster
set_option maxRecDepth 20000 in
theorem ggX4_greatestOf_X6_greatest : GoodIn wsX4_greatestOf wsX6_greatest := goodIn_r _ [10, 11, 12, 13, 14, 15, 16, 17] (by decide +kernel) (by decide +kernel)
set_option maxRecDepth 20000 in
theorem gX4_greatestOf_X6_greatest : GoodIn wsX4_greatestOf (va_wsS RX4 57 yX6_greatest wsX6_greatest) := goodIn_app (goodIn_of _ (by decide +kernel)) ggX4_greatestOf_X6_greatest
theorem dX4_greatestOf_0 : decode cX4_greatestOf 0 = .ok (.iload_n 1, 1) := by decide +kernel
theorem dX4_greatestOf_1 : decode cX4_greatestOf 1 = .ok (.bipush 64, 2) := by decide +kernel
theorem dX4_greatestOf_3 : decode cX4_greatestOf 3 = .ok (.imul, 1) := by decide +kernel
theorem dX4_greatestOf_4 : decode cX4_greatestOf 4 = .ok (.aload_n 0, 1) := by decide +kernel
theorem dX4_greatestOf_5 : decode cX4_greatestOf 5 = .ok (.iload_n 1, 1) := by decide +kernel
theorem dX4_greatestOf_6 : decode cX4_greatestOf 6 = .ok (.invokevirtual 40, 3) := by decide +kernel
theorem dX4_greatestOf_9 : decode cX4_greatestOf 9 = .ok (.invokestatic 57, 3) := by decide +kernel
theorem dX4_greatestOf_12 : decode cX4_greatestOf 12 = .ok (.iadd, 1) := by decide +kernel
theorem dX4_greatestOf_13 : decode cX4_greatestOf 13 = .ok (.ireturn, 1) := by decide +kernel
set_option maxRecDepth 20000 in
theorem ggX4_after_X4_greatest : GoodIn wsX4_after wsX4_greatest := goodIn_r _ [7, 2, 1, 8, 9, 10, 11, 12, 13, 14, 15, 16, 17, 18, 19, 20, 21, 6, 22, 23, 24, 25, 26, 27, 44, 45, 46] (by decide +kernel) (by decide +kernel)
set_option maxRecDepth 20000 in
theorem gX4_after_X4_greatest : GoodIn wsX4_after (wsV RX4 70 RX4 yX4_greatest wsX4_greatest) := goodIn_app (goodIn_of _ (by decide +kernel)) ggX4_after_X4_greatest
set_option maxRecDepth 20000 in
theorem ggX4_after_X4_goesOnInCluster : GoodIn wsX4_after wsX4_goesOnInCluster := goodIn_r _ [31, 23, 24, 25, 6, 26, 27, 8, 9, 10, 11, 12, 13, 14, 15, 16, 17, 18, 44, 45, 46] (by decide +kernel) (by decide +kernel)
set_option maxRecDepth 20000 in
theorem gX4_after_X4_goesOnInCluster : GoodIn wsX4_after (wsV RX4 72 RX4 yX4_goesOnInCluster wsX4_goesOnInCluster) := goodIn_app (goodIn_of _ (by decide +kernel)) ggX4_after_X4_goesOnInCluster
set_option maxRecDepth 20000 in
theorem ggX4_after_X4_cluster : GoodIn wsX4_after wsX4_cluster := goodIn_r _ [26, 27, 44, 45, 46] (by decide +kernel) (by decide +kernel)
set_option maxRecDepth 20000 in
theorem gX4_after_X4_cluster : GoodIn wsX4_after (wsV RX4 40 RX4 yX4_cluster wsX4_cluster) := goodIn_app (goodIn_of _ (by decide +kernel)) ggX4_after_X4_cluster
set_option maxRecDepth 20000 in
theorem ggX4_after_X6_after : GoodIn wsX4_after wsX6_after := goodIn_r _ [34, 35, 36, 37, 10, 38, 12, 13, 14, 15, 16, 17, 18] (by decide +kernel) (by decide +kernel)
set_option maxRecDepth 20000 in
theorem gX4_after_X6_after : GoodIn wsX4_after (va_wsS RX4 76 yX6_after wsX6_after) := goodIn_app (goodIn_of _ (by decide +kernel)) ggX4_after_X6_after
set_option maxRecDepth 20000 in
theorem ggX4_after_X4_leastOf : GoodIn wsX4_after wsX4_leastOf := goodIn_r _ [42, 23, 24, 25, 6, 26, 27, 43, 37, 10, 38, 12, 13, 14, 15, 16, 17, 18, 44, 45, 46] (by decide +kernel) (by decide +kernel)
set_option maxRecDepth 20000 in
theorem gX4_after_X4_leastOf : GoodIn wsX4_after (wsV RX4 67 RX4 yX4_leastOf wsX4_leastOf) := goodIn_app (goodIn_of _ (by decide +kernel)) ggX4_after_X4_leastOf
theorem dX4_after_0 : decode cX4_after 0 = .ok (.iload_n 1, 1) := by decide +kernel
theorem dX4_after_1 : decode cX4_after 1 = .ok (.aload_n 0, 1) := by decide +kernel
theorem dX4_after_2 : decode cX4_after 2 = .ok (.invokevirtual 70, 3) := by decide +kernel
theorem dX4_after_5 : decode cX4_after 5 = .ok (.if_icmp .lt 5, 3) := by decide +kernel
theorem dX4_after_8 : decode cX4_after 8 = .ok (.iconst (-1), 1) := by decide +kernel
theorem dX4_after_9 : decode cX4_after 9 = .ok (.ireturn, 1) := by decide +kernel
theorem dX4_after_10 : decode cX4_after 10 = .ok (.iload_n 1, 1) := by decide +kernel
theorem dX4_after_11 : decode cX4_after 11 = .ok (.aload_n 0, 1) := by decide +kernel
theorem dX4_after_12 : decode cX4_after 12 = .ok (.getfield 19, 3) := by decide +kernel
theorem dX4_after_15 : decode cX4_after 15 = .ok (.if_icmp .ge 8, 3) := by decide +kernel
theorem dX4_after_18 : decode cX4_after 18 = .ok (.aload_n 0, 1) := by decide +kernel
theorem dX4_after_19 : decode cX4_after 19 = .ok (.getfield 19, 3) := by decide +kernel
theorem dX4_after_22 : decode cX4_after 22 = .ok (.ireturn, 1) := by decide +kernel
theorem dX4_after_23 : decode cX4_after 23 = .ok (.iload_n 1, 1) := by decide +kernel
theorem dX4_after_24 : decode cX4_after 24 = .ok (.bipush 64, 2) := by decide +kernel
theorem dX4_after_26 : decode cX4_after 26 = .ok (.idiv, 1) := by decide +kernel
theorem dX4_after_27 : decode cX4_after 27 = .ok (.istore_n 2, 1) := by decide +kernel
theorem dX4_after_28 : decode cX4_after 28 = .ok (.aload_n 0, 1) := by decide +kernel
theorem dX4_after_29 : decode cX4_after 29 = .ok (.iload_n 1, 1) := by decide +kernel
theorem dX4_after_30 : decode cX4_after 30 = .ok (.invokevirtual 72, 3) := by decide +kernel
theorem dX4_after_33 : decode cX4_after 33 = .ok (.ifCond .eq 21, 3) := by decide +kernel
theorem dX4_after_36 : decode cX4_after 36 = .ok (.iload_n 2, 1) := by decide +kernel
theorem dX4_after_37 : decode cX4_after 37 = .ok (.bipush 64, 2) := by decide +kernel
theorem dX4_after_39 : decode cX4_after 39 = .ok (.imul, 1) := by decide +kernel
theorem dX4_after_40 : decode cX4_after 40 = .ok (.aload_n 0, 1) := by decide +kernel
theorem dX4_after_41 : decode cX4_after 41 = .ok (.iload_n 2, 1) := by decide +kernel
theorem dX4_after_42 : decode cX4_after 42 = .ok (.invokevirtual 40, 3) := by decide +kernel
theorem dX4_after_45 : decode cX4_after 45 = .ok (.iload_n 1, 1) := by decide +kernel
theorem dX4_after_46 : decode cX4_after 46 = .ok (.bipush 64, 2) := by decide +kernel
theorem dX4_after_48 : decode cX4_after 48 = .ok (.irem, 1) := by decide +kernel
theorem dX4_after_49 : decode cX4_after 49 = .ok (.invokestatic 76, 3) := by decide +kernel
theorem dX4_after_52 : decode cX4_after 52 = .ok (.iadd, 1) := by decide +kernel
theorem dX4_after_53 : decode cX4_after 53 = .ok (.ireturn, 1) := by decide +kernel
theorem dX4_after_54 : decode cX4_after 54 = .ok (.aload_n 0, 1) := by decide +kernel
theorem dX4_after_55 : decode cX4_after 55 = .ok (.aload_n 0, 1) := by decide +kernel
theorem dX4_after_56 : decode cX4_after 56 = .ok (.getfield 15, 3) := by decide +kernel
theorem dX4_after_59 : decode cX4_after 59 = .ok (.iload_n 2, 1) := by decide +kernel
theorem dX4_after_60 : decode cX4_after 60 = .ok (.invokestatic 76, 3) := by decide +kernel
theorem dX4_after_63 : decode cX4_after 63 = .ok (.invokevirtual 67, 3) := by decide +kernel
theorem dX4_after_66 : decode cX4_after 66 = .ok (.ireturn, 1) := by decide +kernel
set_option maxRecDepth 20000 in
theorem ggX4_before_X4_cluster : GoodIn wsX4_before wsX4_cluster := goodIn_r _ [7, 8, 31, 32, 33] (by decide +kernel) (by decide +kernel)
set_option maxRecDepth 20000 in
theorem gX4_before_X4_cluster : GoodIn wsX4_before (wsV RX4 40 RX4 yX4_cluster wsX4_cluster) := goodIn_app (goodIn_of _ (by decide +kernel)) ggX4_before_X4_cluster
set_option maxRecDepth 20000 in
theorem ggX4_before_X6_before : GoodIn wsX4_before wsX6_before := goodIn_r _ [12, 13, 14, 11, 15, 16, 17, 18, 19, 20, 21, 22, 23, 24, 25] (by decide +kernel) (by decide +kernel)
set_option maxRecDepth 20000 in
theorem gX4_before_X6_before : GoodIn wsX4_before (va_wsS RX4 80 yX6_before wsX6_before) := goodIn_app (goodIn_of _ (by decide +kernel)) ggX4_before_X6_before
set_option maxRecDepth 20000 in
theorem ggX4_before_X4_greatestOf : GoodIn wsX4_before wsX4_greatestOf := goodIn_r _ [29, 3, 4, 5, 6, 7, 8, 30, 17, 11, 18, 19, 20, 21, 22, 23, 24, 25, 31, 32, 33] (by decide +kernel) (by decide +kernel)
set_option maxRecDepth 20000 in
theorem gX4_before_X4_greatestOf : GoodIn wsX4_before (wsV RX4 61 RX4 yX4_greatestOf wsX4_greatestOf) := goodIn_app (goodIn_of _ (by decide +kernel)) ggX4_before_X4_greatestOf
theorem dX4_before_0 : decode cX4_before 0 = .ok (.aload_n 0, 1) := by decide +kernel
theorem dX4_before_1 : decode cX4_before 1 = .ok (.getfield 19, 3) := by decide +kernel
theorem dX4_before_4 : decode cX4_before 4 = .ok (.iconst (-1), 1) := by decide +kernel
theorem dX4_before_5 : decode cX4_before 5 = .ok (.if_icmp .eq 11, 3) := by decide +kernel
theorem dX4_before_8 : decode cX4_before 8 = .ok (.iload_n 1, 1) := by decide +kernel
theorem dX4_before_9 : decode cX4_before 9 = .ok (.aload_n 0, 1) := by decide +kernel
theorem dX4_before_10 : decode cX4_before 10 = .ok (.getfield 19, 3) := by decide +kernel
theorem dX4_before_13 : decode cX4_before 13 = .ok (.if_icmp .gt 5, 3) := by decide +kernel
theorem dX4_before_16 : decode cX4_before 16 = .ok (.iconst (-1), 1) := by decide +kernel
theorem dX4_before_17 : decode cX4_before 17 = .ok (.ireturn, 1) := by decide +kernel
theorem dX4_before_18 : decode cX4_before 18 = .ok (.iload_n 1, 1) := by decide +kernel
theorem dX4_before_19 : decode cX4_before 19 = .ok (.bipush 64, 2) := by decide +kernel
theorem dX4_before_21 : decode cX4_before 21 = .ok (.idiv, 1) := by decide +kernel
theorem dX4_before_22 : decode cX4_before 22 = .ok (.istore_n 2, 1) := by decide +kernel
theorem dX4_before_23 : decode cX4_before 23 = .ok (.aload_n 0, 1) := by decide +kernel
theorem dX4_before_24 : decode cX4_before 24 = .ok (.iload_n 2, 1) := by decide +kernel
theorem dX4_before_25 : decode cX4_before 25 = .ok (.invokevirtual 40, 3) := by decide +kernel
theorem dX4_before_28 : decode cX4_before 28 = .ok (.iload_n 1, 1) := by decide +kernel
theorem dX4_before_29 : decode cX4_before 29 = .ok (.bipush 64, 2) := by decide +kernel
theorem dX4_before_31 : decode cX4_before 31 = .ok (.irem, 1) := by decide +kernel
theorem dX4_before_32 : decode cX4_before 32 = .ok (.invokestatic 80, 3) := by decide +kernel
theorem dX4_before_35 : decode cX4_before 35 = .ok (.istore_n 3, 1) := by decide +kernel
theorem dX4_before_36 : decode cX4_before 36 = .ok (.iload_n 3, 1) := by decide +kernel
theorem dX4_before_37 : decode cX4_before 37 = .ok (.iconst (-1), 1) := by decide +kernel
theorem dX4_before_38 : decode cX4_before 38 = .ok (.if_icmp .eq 10, 3) := by decide +kernel
theorem dX4_before_41 : decode cX4_before 41 = .ok (.iload_n 2, 1) := by decide +kernel
theorem dX4_before_42 : decode cX4_before 42 = .ok (.bipush 64, 2) := by decide +kernel
theorem dX4_before_44 : decode cX4_before 44 = .ok (.imul, 1) := by decide +kernel
theorem dX4_before_45 : decode cX4_before 45 = .ok (.iload_n 3, 1) := by decide +kernel
theorem dX4_before_46 : decode cX4_before 46 = .ok (.iadd, 1) := by decide +kernel
theorem dX4_before_47 : decode cX4_before 47 = .ok (.ireturn, 1) := by decide +kernel
theorem dX4_before_48 : decode cX4_before 48 = .ok (.aload_n 0, 1) := by decide +kernel
theorem dX4_before_49 : decode cX4_before 49 = .ok (.getfield 15, 3) := by decide +kernel
theorem dX4_before_52 : decode cX4_before 52 = .ok (.iload_n 2, 1) := by decide +kernel
theorem dX4_before_53 : decode cX4_before 53 = .ok (.invokestatic 80, 3) := by decide +kernel
theorem dX4_before_56 : decode cX4_before 56 = .ok (.istore 4, 2) := by decide +kernel
theorem dX4_before_58 : decode cX4_before 58 = .ok (.iload 4, 2) := by decide +kernel
theorem dX4_before_60 : decode cX4_before 60 = .ok (.iconst (-1), 1) := by decide +kernel
theorem dX4_before_61 : decode cX4_before 61 = .ok (.if_icmp .ne 10, 3) := by decide +kernel
theorem dX4_before_64 : decode cX4_before 64 = .ok (.aload_n 0, 1) := by decide +kernel
theorem dX4_before_65 : decode cX4_before 65 = .ok (.getfield 19, 3) := by decide +kernel
theorem dX4_before_68 : decode cX4_before 68 = .ok (.goto 9, 3) := by decide +kernel
theorem dX4_before_71 : decode cX4_before 71 = .ok (.aload_n 0, 1) := by decide +kernel
theorem dX4_before_72 : decode cX4_before 72 = .ok (.iload 4, 2) := by decide +kernel
theorem dX4_before_74 : decode cX4_before 74 = .ok (.invokevirtual 61, 3) := by decide +kernel
theorem dX4_before_77 : decode cX4_before 77 = .ok (.ireturn, 1) := by decide +kernel
set_option maxRecDepth 20000 in
theorem ggX4_searchLength_X4_greatest : GoodIn wsX4_searchLength wsX4_greatest := goodIn_r _ [7, 2, 1, 8, 9, 10, 11, 12, 13, 14, 15, 16, 17, 18, 19, 20, 21, 6, 22, 23, 24, 25, 26, 27, 39, 40, 41] (by decide +kernel) (by decide +kernel)
set_option maxRecDepth 20000 in
theorem gX4_searchLength_X4_greatest : GoodIn wsX4_searchLength (wsV RX4 70 RX4 yX4_greatest wsX4_greatest) := goodIn_app (goodIn_of _ (by decide +kernel)) ggX4_searchLength_X4_greatest
set_option maxRecDepth 20000 in
theorem ggX4_searchLength_X4_goesOnInCluster : GoodIn wsX4_searchLength wsX4_goesOnInCluster := goodIn_r _ [31, 23, 24, 25, 6, 26, 27, 8, 9, 10, 11, 12, 13, 14, 15, 16, 17, 18, 39, 40, 41] (by decide +kernel) (by decide +kernel)
set_option maxRecDepth 20000 in
theorem gX4_searchLength_X4_goesOnInCluster : GoodIn wsX4_searchLength (wsV RX4 72 RX4 yX4_goesOnInCluster wsX4_goesOnInCluster) := goodIn_app (goodIn_of _ (by decide +kernel)) ggX4_searchLength_X4_goesOnInCluster
set_option maxRecDepth 20000 in
theorem ggX4_searchLength_X4_cluster : GoodIn wsX4_searchLength wsX4_cluster := goodIn_r _ [26, 27, 39, 40, 41] (by decide +kernel) (by decide +kernel)
set_option maxRecDepth 20000 in
theorem gX4_searchLength_X4_cluster : GoodIn wsX4_searchLength (wsV RX4 40 RX4 yX4_cluster wsX4_cluster) := goodIn_app (goodIn_of _ (by decide +kernel)) ggX4_searchLength_X4_cluster
set_option maxRecDepth 20000 in
theorem ggX4_searchLength_X6_searchLength : GoodIn wsX4_searchLength wsX6_searchLength := goodIn_r _ [34, 35, 36, 10, 37, 12, 13, 14, 15, 16, 17, 18, 38, 9, 11] (by decide +kernel) (by decide +kernel)
set_option maxRecDepth 20000 in
theorem gX4_searchLength_X6_searchLength : GoodIn wsX4_searchLength (va_wsS RX4 83 yX6_searchLength wsX6_searchLength) := goodIn_app (goodIn_of _ (by decide +kernel)) ggX4_searchLength_X6_searchLength
theorem dX4_searchLength_0 : decode cX4_searchLength 0 = .ok (.iload_n 1, 1) := by decide +kernel
theorem dX4_searchLength_1 : decode cX4_searchLength 1 = .ok (.aload_n 0, 1) := by decide +kernel
theorem dX4_searchLength_2 : decode cX4_searchLength 2 = .ok (.invokevirtual 70, 3) := by decide +kernel
theorem dX4_searchLength_5 : decode cX4_searchLength 5 = .ok (.if_icmp .ge 11, 3) := by decide +kernel
theorem dX4_searchLength_8 : decode cX4_searchLength 8 = .ok (.iload_n 1, 1) := by decide +kernel
theorem dX4_searchLength_9 : decode cX4_searchLength 9 = .ok (.aload_n 0, 1) := by decide +kernel
theorem dX4_searchLength_10 : decode cX4_searchLength 10 = .ok (.getfield 19, 3) := by decide +kernel
theorem dX4_searchLength_13 : decode cX4_searchLength 13 = .ok (.if_icmp .ge 5, 3) := by decide +kernel
theorem dX4_searchLength_16 : decode cX4_searchLength 16 = .ok (.iconst 1, 1) := by decide +kernel
theorem dX4_searchLength_17 : decode cX4_searchLength 17 = .ok (.ireturn, 1) := by decide +kernel
theorem dX4_searchLength_18 : decode cX4_searchLength 18 = .ok (.iload_n 1, 1) := by decide +kernel
theorem dX4_searchLength_19 : decode cX4_searchLength 19 = .ok (.bipush 64, 2) := by decide +kernel
theorem dX4_searchLength_21 : decode cX4_searchLength 21 = .ok (.idiv, 1) := by decide +kernel
theorem dX4_searchLength_22 : decode cX4_searchLength 22 = .ok (.istore_n 2, 1) := by decide +kernel
theorem dX4_searchLength_23 : decode cX4_searchLength 23 = .ok (.aload_n 0, 1) := by decide +kernel
theorem dX4_searchLength_24 : decode cX4_searchLength 24 = .ok (.iload_n 1, 1) := by decide +kernel
theorem dX4_searchLength_25 : decode cX4_searchLength 25 = .ok (.invokevirtual 72, 3) := by decide +kernel
theorem dX4_searchLength_28 : decode cX4_searchLength 28 = .ok (.ifCond .eq 18, 3) := by decide +kernel
theorem dX4_searchLength_31 : decode cX4_searchLength 31 = .ok (.iconst 1, 1) := by decide +kernel
theorem dX4_searchLength_32 : decode cX4_searchLength 32 = .ok (.aload_n 0, 1) := by decide +kernel
theorem dX4_searchLength_33 : decode cX4_searchLength 33 = .ok (.iload_n 2, 1) := by decide +kernel
theorem dX4_searchLength_34 : decode cX4_searchLength 34 = .ok (.invokevirtual 40, 3) := by decide +kernel
theorem dX4_searchLength_37 : decode cX4_searchLength 37 = .ok (.iload_n 1, 1) := by decide +kernel
theorem dX4_searchLength_38 : decode cX4_searchLength 38 = .ok (.bipush 64, 2) := by decide +kernel
theorem dX4_searchLength_40 : decode cX4_searchLength 40 = .ok (.irem, 1) := by decide +kernel
theorem dX4_searchLength_41 : decode cX4_searchLength 41 = .ok (.invokestatic 83, 3) := by decide +kernel
theorem dX4_searchLength_44 : decode cX4_searchLength 44 = .ok (.iadd, 1) := by decide +kernel
theorem dX4_searchLength_45 : decode cX4_searchLength 45 = .ok (.ireturn, 1) := by decide +kernel
theorem dX4_searchLength_46 : decode cX4_searchLength 46 = .ok (.iconst 1, 1) := by decide +kernel
theorem dX4_searchLength_47 : decode cX4_searchLength 47 = .ok (.aload_n 0, 1) := by decide +kernel
theorem dX4_searchLength_48 : decode cX4_searchLength 48 = .ok (.getfield 15, 3) := by decide +kernel
theorem dX4_searchLength_51 : decode cX4_searchLength 51 = .ok (.iload_n 2, 1) := by decide +kernel
theorem dX4_searchLength_52 : decode cX4_searchLength 52 = .ok (.invokestatic 83, 3) := by decide +kernel
theorem dX4_searchLength_55 : decode cX4_searchLength 55 = .ok (.iadd, 1) := by decide +kernel
theorem dX4_searchLength_56 : decode cX4_searchLength 56 = .ok (.ireturn, 1) := by decide +kernel
set_option maxRecDepth 20000 in
theorem ggX4_goesOnInCluster_X4_cluster : GoodIn wsX4_goesOnInCluster wsX4_cluster := goodIn_r _ [5, 6, 18, 19, 20] (by decide +kernel) (by decide +kernel)
set_option maxRecDepth 20000 in
theorem gX4_goesOnInCluster_X4_cluster : GoodIn wsX4_goesOnInCluster (wsV RX4 40 RX4 yX4_cluster wsX4_cluster) := goodIn_app (goodIn_of _ (by decide +kernel)) ggX4_goesOnInCluster_X4_cluster
set_option maxRecDepth 20000 in
theorem ggX4_goesOnInCluster_X6_greatest : GoodIn wsX4_goesOnInCluster wsX6_greatest := goodIn_r _ [10, 11, 12, 13, 14, 15, 16, 17] (by decide +kernel) (by decide +kernel)
set_option maxRecDepth 20000 in
theorem gX4_goesOnInCluster_X6_greatest : GoodIn wsX4_goesOnInCluster (va_wsS RX4 57 yX6_greatest wsX6_greatest) := goodIn_app (goodIn_of _ (by decide +kernel)) ggX4_goesOnInCluster_X6_greatest
theorem dX4_goesOnInCluster_0 : decode cX4_goesOnInCluster 0 = .ok (.iload_n 1, 1) := by decide +kernel
theorem dX4_goesOnInCluster_1 : decode cX4_goesOnInCluster 1 = .ok (.bipush 64, 2) := by decide +kernel
theorem dX4_goesOnInCluster_3 : decode cX4_goesOnInCluster 3 = .ok (.irem, 1) := by decide +kernel
theorem dX4_goesOnInCluster_4 : decode cX4_goesOnInCluster 4 = .ok (.aload_n 0, 1) := by decide +kernel
theorem dX4_goesOnInCluster_5 : decode cX4_goesOnInCluster 5 = .ok (.iload_n 1, 1) := by decide +kernel
theorem dX4_goesOnInCluster_6 : decode cX4_goesOnInCluster 6 = .ok (.bipush 64, 2) := by decide +kernel
theorem dX4_goesOnInCluster_8 : decode cX4_goesOnInCluster 8 = .ok (.idiv, 1) := by decide +kernel
theorem dX4_goesOnInCluster_9 : decode cX4_goesOnInCluster 9 = .ok (.invokevirtual 40, 3) := by decide +kernel
theorem dX4_goesOnInCluster_12 : decode cX4_goesOnInCluster 12 = .ok (.invokestatic 57, 3) := by decide +kernel
theorem dX4_goesOnInCluster_15 : decode cX4_goesOnInCluster 15 = .ok (.if_icmp .ge 7, 3) := by decide +kernel
theorem dX4_goesOnInCluster_18 : decode cX4_goesOnInCluster 18 = .ok (.iconst 1, 1) := by decide +kernel
theorem dX4_goesOnInCluster_19 : decode cX4_goesOnInCluster 19 = .ok (.goto 4, 3) := by decide +kernel
theorem dX4_goesOnInCluster_22 : decode cX4_goesOnInCluster 22 = .ok (.iconst 0, 1) := by decide +kernel
theorem dX4_goesOnInCluster_23 : decode cX4_goesOnInCluster 23 = .ok (.ireturn, 1) := by decide +kernel
set_option maxRecDepth 20000 in
theorem ggX4_treeCount_X6_treeCount : GoodIn wsX4_treeCount wsX6_treeCount := goodIn_r _ [6, 7] (by decide +kernel) (by decide +kernel)
set_option maxRecDepth 20000 in
theorem gX4_treeCount_X6_treeCount : GoodIn wsX4_treeCount (va_wsS RX4 86 yX6_treeCount wsX6_treeCount) := goodIn_app (goodIn_of _ (by decide +kernel)) ggX4_treeCount_X6_treeCount
set_option maxRecDepth 20000 in
theorem ggX4_treeCount_X4_cluster : GoodIn wsX4_treeCount wsX4_cluster := goodIn_r _ [12, 13, 14, 15, 16] (by decide +kernel) (by decide +kernel)
set_option maxRecDepth 20000 in
theorem gX4_treeCount_X4_cluster : GoodIn wsX4_treeCount (wsV RX4 40 RX4 yX4_cluster wsX4_cluster) := goodIn_app (goodIn_of _ (by decide +kernel)) ggX4_treeCount_X4_cluster
theorem dX4_treeCount_0 : decode cX4_treeCount 0 = .ok (.aload_n 0, 1) := by decide +kernel
theorem dX4_treeCount_1 : decode cX4_treeCount 1 = .ok (.getfield 19, 3) := by decide +kernel
theorem dX4_treeCount_4 : decode cX4_treeCount 4 = .ok (.iconst (-1), 1) := by decide +kernel
theorem dX4_treeCount_5 : decode cX4_treeCount 5 = .ok (.if_icmp .ne 5, 3) := by decide +kernel
theorem dX4_treeCount_8 : decode cX4_treeCount 8 = .ok (.iconst 0, 1) := by decide +kernel
theorem dX4_treeCount_9 : decode cX4_treeCount 9 = .ok (.ireturn, 1) := by decide +kernel
theorem dX4_treeCount_10 : decode cX4_treeCount 10 = .ok (.iconst 1, 1) := by decide +kernel
theorem dX4_treeCount_11 : decode cX4_treeCount 11 = .ok (.aload_n 0, 1) := by decide +kernel
theorem dX4_treeCount_12 : decode cX4_treeCount 12 = .ok (.getfield 15, 3) := by decide +kernel
theorem dX4_treeCount_15 : decode cX4_treeCount 15 = .ok (.invokestatic 86, 3) := by decide +kernel
theorem dX4_treeCount_18 : decode cX4_treeCount 18 = .ok (.iadd, 1) := by decide +kernel
theorem dX4_treeCount_19 : decode cX4_treeCount 19 = .ok (.istore_n 1, 1) := by decide +kernel
theorem dX4_treeCount_20 : decode cX4_treeCount 20 = .ok (.iconst 0, 1) := by decide +kernel
theorem dX4_treeCount_21 : decode cX4_treeCount 21 = .ok (.istore_n 2, 1) := by decide +kernel
theorem dX4_treeCount_22 : decode cX4_treeCount 22 = .ok (.iload_n 2, 1) := by decide +kernel
theorem dX4_treeCount_23 : decode cX4_treeCount 23 = .ok (.bipush 64, 2) := by decide +kernel
theorem dX4_treeCount_25 : decode cX4_treeCount 25 = .ok (.if_icmp .ge 20, 3) := by decide +kernel
theorem dX4_treeCount_28 : decode cX4_treeCount 28 = .ok (.iload_n 1, 1) := by decide +kernel
theorem dX4_treeCount_29 : decode cX4_treeCount 29 = .ok (.aload_n 0, 1) := by decide +kernel
theorem dX4_treeCount_30 : decode cX4_treeCount 30 = .ok (.iload_n 2, 1) := by decide +kernel
theorem dX4_treeCount_31 : decode cX4_treeCount 31 = .ok (.invokevirtual 40, 3) := by decide +kernel
theorem dX4_treeCount_34 : decode cX4_treeCount 34 = .ok (.invokestatic 86, 3) := by decide +kernel
theorem dX4_treeCount_37 : decode cX4_treeCount 37 = .ok (.iadd, 1) := by decide +kernel
theorem dX4_treeCount_38 : decode cX4_treeCount 38 = .ok (.istore_n 1, 1) := by decide +kernel
theorem dX4_treeCount_39 : decode cX4_treeCount 39 = .ok (.iinc 2 1, 3) := by decide +kernel
theorem dX4_treeCount_42 : decode cX4_treeCount 42 = .ok (.goto (-20), 3) := by decide +kernel
theorem dX4_treeCount_45 : decode cX4_treeCount 45 = .ok (.iload_n 1, 1) := by decide +kernel
theorem dX4_treeCount_46 : decode cX4_treeCount 46 = .ok (.ireturn, 1) := by decide +kernel
set_option maxRecDepth 20000 in
theorem ggX5_init_X0_init : GoodIn wsX5_init wsX0_init := goodIn_r _ [10, 11, 2, 3, 12, 13, 14, 15, 16, 17, 18] (by decide +kernel) (by decide +kernel)
set_option maxRecDepth 20000 in
theorem gX5_init_X0_init : GoodIn wsX5_init (wsX0_init) := ggX5_init_X0_init
theorem dX5_init_0 : decode cX5_init 0 = .ok (.aload_n 0, 1) := by decide +kernel
theorem dX5_init_1 : decode cX5_init 1 = .ok (.invokespecial 3, 3) := by decide +kernel
theorem dX5_init_4 : decode cX5_init 4 = .ok (.aload_n 0, 1) := by decide +kernel
theorem dX5_init_5 : decode cX5_init 5 = .ok (.new 9, 3) := by decide +kernel
theorem dX5_init_8 : decode cX5_init 8 = .ok (.dup, 1) := by decide +kernel
theorem dX5_init_9 : decode cX5_init 9 = .ok (.sipush 8192, 3) := by decide +kernel
theorem dX5_init_12 : decode cX5_init 12 = .ok (.invokespecial 11, 3) := by decide +kernel
theorem dX5_init_15 : decode cX5_init 15 = .ok (.putfield 14, 3) := by decide +kernel
theorem dX5_init_18 : decode cX5_init 18 = .ok (.return_, 1) := by decide +kernel
theorem dX5_node_0 : decode cX5_node 0 = .ok (.sipush 4096, 3) := by decide +kernel
theorem dX5_node_3 : decode cX5_node 3 = .ok (.iload_n 0, 1) := by decide +kernel
theorem dX5_node_4 : decode cX5_node 4 = .ok (.iadd, 1) := by decide +kernel
theorem dX5_node_5 : decode cX5_node 5 = .ok (.bipush 12, 2) := by decide +kernel
theorem dX5_node_7 : decode cX5_node 7 = .ok (.iload_n 1, 1) := by decide +kernel
theorem dX5_node_8 : decode cX5_node 8 = .ok (.isub, 1) := by decide +kernel
theorem dX5_node_9 : decode cX5_node 9 = .ok (.ishr, 1) := by decide +kernel
theorem dX5_node_10 : decode cX5_node 10 = .ok (.ireturn, 1) := by decide +kernel
set_option maxRecDepth 20000 in
theorem ggX5_put_X5_node : GoodIn wsX5_put wsX5_node := goodIn_r _ [5] (by decide +kernel) (by decide +kernel)
set_option maxRecDepth 20000 in
theorem gX5_put_X5_node : GoodIn wsX5_put (va_wsS RX5 20 yX5_node wsX5_node) := goodIn_app (goodIn_of _ (by decide +kernel)) ggX5_put_X5_node
set_option maxRecDepth 20000 in
theorem ggX5_put_X0_put : GoodIn wsX5_put wsX0_put := goodIn_r _ [10, 11, 12, 13, 14, 15, 17] (by decide +kernel) (by decide +kernel)
set_option maxRecDepth 20000 in
theorem gX5_put_X0_put : GoodIn wsX5_put (wsV RX5 24 RX0 yX0_put wsX0_put) := goodIn_app (goodIn_of _ (by decide +kernel)) ggX5_put_X0_put
theorem dX5_put_0 : decode cX5_put 0 = .ok (.bipush 12, 2) := by decide +kernel
theorem dX5_put_2 : decode cX5_put 2 = .ok (.istore_n 2, 1) := by decide +kernel
theorem dX5_put_3 : decode cX5_put 3 = .ok (.iload_n 2, 1) := by decide +kernel
theorem dX5_put_4 : decode cX5_put 4 = .ok (.ifCond .lt 21, 3) := by decide +kernel
theorem dX5_put_7 : decode cX5_put 7 = .ok (.aload_n 0, 1) := by decide +kernel
theorem dX5_put_8 : decode cX5_put 8 = .ok (.getfield 14, 3) := by decide +kernel
theorem dX5_put_11 : decode cX5_put 11 = .ok (.iload_n 1, 1) := by decide +kernel
theorem dX5_put_12 : decode cX5_put 12 = .ok (.iload_n 2, 1) := by decide +kernel
theorem dX5_put_13 : decode cX5_put 13 = .ok (.invokestatic 20, 3) := by decide +kernel
theorem dX5_put_16 : decode cX5_put 16 = .ok (.invokevirtual 24, 3) := by decide +kernel
theorem dX5_put_19 : decode cX5_put 19 = .ok (.iinc 2 (-1), 3) := by decide +kernel
theorem dX5_put_22 : decode cX5_put 22 = .ok (.goto (-19), 3) := by decide +kernel
theorem dX5_put_25 : decode cX5_put 25 = .ok (.return_, 1) := by decide +kernel
set_option maxRecDepth 20000 in
theorem ggX5_take_X5_node : GoodIn wsX5_take wsX5_node := goodIn_r _ [5] (by decide +kernel) (by decide +kernel)
set_option maxRecDepth 20000 in
theorem gX5_take_X5_node : GoodIn wsX5_take (va_wsS RX5 20 yX5_node wsX5_node) := goodIn_app (goodIn_of _ (by decide +kernel)) ggX5_take_X5_node
set_option maxRecDepth 20000 in
theorem ggX5_take_X0_take : GoodIn wsX5_take wsX0_take := goodIn_r _ [10, 11, 12, 13, 14, 15, 16, 26] (by decide +kernel) (by decide +kernel)
set_option maxRecDepth 20000 in
theorem gX5_take_X0_take : GoodIn wsX5_take (wsV RX5 27 RX0 yX0_take wsX0_take) := goodIn_app (goodIn_of _ (by decide +kernel)) ggX5_take_X0_take
set_option maxRecDepth 20000 in
theorem ggX5_take_X0_has : GoodIn wsX5_take wsX0_has := goodIn_r _ [20, 21, 22, 23, 9, 24, 11, 13, 14, 15, 16, 26] (by decide +kernel) (by decide +kernel)
set_option maxRecDepth 20000 in
theorem gX5_take_X0_has : GoodIn wsX5_take (wsV RX5 30 RX0 yX0_has wsX0_has) := goodIn_app (goodIn_of _ (by decide +kernel)) ggX5_take_X0_has
theorem dX5_take_0 : decode cX5_take 0 = .ok (.aload_n 0, 1) := by decide +kernel
theorem dX5_take_1 : decode cX5_take 1 = .ok (.getfield 14, 3) := by decide +kernel
theorem dX5_take_4 : decode cX5_take 4 = .ok (.iload_n 1, 1) := by decide +kernel
theorem dX5_take_5 : decode cX5_take 5 = .ok (.bipush 12, 2) := by decide +kernel
theorem dX5_take_7 : decode cX5_take 7 = .ok (.invokestatic 20, 3) := by decide +kernel
theorem dX5_take_10 : decode cX5_take 10 = .ok (.invokevirtual 27, 3) := by decide +kernel
theorem dX5_take_13 : decode cX5_take 13 = .ok (.bipush 11, 2) := by decide +kernel
theorem dX5_take_15 : decode cX5_take 15 = .ok (.istore_n 2, 1) := by decide +kernel
theorem dX5_take_16 : decode cX5_take 16 = .ok (.iload_n 2, 1) := by decide +kernel
theorem dX5_take_17 : decode cX5_take 17 = .ok (.ifCond .lt 52, 3) := by decide +kernel
theorem dX5_take_20 : decode cX5_take 20 = .ok (.iload_n 1, 1) := by decide +kernel
theorem dX5_take_21 : decode cX5_take 21 = .ok (.iload_n 2, 1) := by decide +kernel
theorem dX5_take_22 : decode cX5_take 22 = .ok (.invokestatic 20, 3) := by decide +kernel
theorem dX5_take_25 : decode cX5_take 25 = .ok (.istore_n 3, 1) := by decide +kernel
theorem dX5_take_26 : decode cX5_take 26 = .ok (.aload_n 0, 1) := by decide +kernel
theorem dX5_take_27 : decode cX5_take 27 = .ok (.getfield 14, 3) := by decide +kernel
theorem dX5_take_30 : decode cX5_take 30 = .ok (.iconst 2, 1) := by decide +kernel
theorem dX5_take_31 : decode cX5_take 31 = .ok (.iload_n 3, 1) := by decide +kernel
theorem dX5_take_32 : decode cX5_take 32 = .ok (.imul, 1) := by decide +kernel
theorem dX5_take_33 : decode cX5_take 33 = .ok (.invokevirtual 30, 3) := by decide +kernel
theorem dX5_take_36 : decode cX5_take 36 = .ok (.ifCond .ne 18, 3) := by decide +kernel
theorem dX5_take_39 : decode cX5_take 39 = .ok (.aload_n 0, 1) := by decide +kernel
theorem dX5_take_40 : decode cX5_take 40 = .ok (.getfield 14, 3) := by decide +kernel
theorem dX5_take_43 : decode cX5_take 43 = .ok (.iconst 2, 1) := by decide +kernel
theorem dX5_take_44 : decode cX5_take 44 = .ok (.iload_n 3, 1) := by decide +kernel
theorem dX5_take_45 : decode cX5_take 45 = .ok (.imul, 1) := by decide +kernel
theorem dX5_take_46 : decode cX5_take 46 = .ok (.iconst 1, 1) := by decide +kernel
theorem dX5_take_47 : decode cX5_take 47 = .ok (.iadd, 1) := by decide +kernel
theorem dX5_take_48 : decode cX5_take 48 = .ok (.invokevirtual 30, 3) := by decide +kernel
theorem dX5_take_51 : decode cX5_take 51 = .ok (.ifCond .eq 4, 3) := by decide +kernel
theorem dX5_take_54 : decode cX5_take 54 = .ok (.return_, 1) := by decide +kernel
theorem dX5_take_55 : decode cX5_take 55 = .ok (.aload_n 0, 1) := by decide +kernel
theorem dX5_take_56 : decode cX5_take 56 = .ok (.getfield 14, 3) := by decide +kernel
theorem dX5_take_59 : decode cX5_take 59 = .ok (.iload_n 3, 1) := by decide +kernel
theorem dX5_take_60 : decode cX5_take 60 = .ok (.invokevirtual 27, 3) := by decide +kernel
theorem dX5_take_63 : decode cX5_take 63 = .ok (.iinc 2 (-1), 3) := by decide +kernel
theorem dX5_take_66 : decode cX5_take 66 = .ok (.goto (-50), 3) := by decide +kernel
theorem dX5_take_69 : decode cX5_take 69 = .ok (.return_, 1) := by decide +kernel
set_option maxRecDepth 20000 in
theorem ggX5_prefixCount_X5_node : GoodIn wsX5_prefixCount wsX5_node := goodIn_r _ [5] (by decide +kernel) (by decide +kernel)
set_option maxRecDepth 20000 in
theorem gX5_prefixCount_X5_node : GoodIn wsX5_prefixCount (va_wsS RX5 20 yX5_node wsX5_node) := goodIn_app (goodIn_of _ (by decide +kernel)) ggX5_prefixCount_X5_node
set_option maxRecDepth 20000 in
theorem ggX5_prefixCount_X0_countBelow : GoodIn wsX5_prefixCount wsX0_countBelow := goodIn_r _ [10, 11, 12, 13, 14, 15, 16, 17, 18, 9, 19, 20, 21, 22, 23, 24, 25, 26, 27, 28, 29, 30, 32] (by decide +kernel) (by decide +kernel)
set_option maxRecDepth 20000 in
theorem gX5_prefixCount_X0_countBelow : GoodIn wsX5_prefixCount (wsV RX5 37 RX0 yX0_countBelow wsX0_countBelow) := goodIn_app (goodIn_of _ (by decide +kernel)) ggX5_prefixCount_X0_countBelow
theorem dX5_prefixCount_0 : decode cX5_prefixCount 0 = .ok (.iconst 0, 1) := by decide +kernel
theorem dX5_prefixCount_1 : decode cX5_prefixCount 1 = .ok (.iload_n 1, 1) := by decide +kernel
theorem dX5_prefixCount_2 : decode cX5_prefixCount 2 = .ok (.invokestatic 20, 3) := by decide +kernel
theorem dX5_prefixCount_5 : decode cX5_prefixCount 5 = .ok (.istore_n 2, 1) := by decide +kernel
theorem dX5_prefixCount_6 : decode cX5_prefixCount 6 = .ok (.aload_n 0, 1) := by decide +kernel
theorem dX5_prefixCount_7 : decode cX5_prefixCount 7 = .ok (.getfield 14, 3) := by decide +kernel
theorem dX5_prefixCount_10 : decode cX5_prefixCount 10 = .ok (.iconst 2, 1) := by decide +kernel
theorem dX5_prefixCount_11 : decode cX5_prefixCount 11 = .ok (.iload_n 2, 1) := by decide +kernel
theorem dX5_prefixCount_12 : decode cX5_prefixCount 12 = .ok (.imul, 1) := by decide +kernel
theorem dX5_prefixCount_13 : decode cX5_prefixCount 13 = .ok (.invokevirtual 37, 3) := by decide +kernel
theorem dX5_prefixCount_16 : decode cX5_prefixCount 16 = .ok (.aload_n 0, 1) := by decide +kernel
theorem dX5_prefixCount_17 : decode cX5_prefixCount 17 = .ok (.getfield 14, 3) := by decide +kernel
theorem dX5_prefixCount_20 : decode cX5_prefixCount 20 = .ok (.iload_n 2, 1) := by decide +kernel
theorem dX5_prefixCount_21 : decode cX5_prefixCount 21 = .ok (.invokevirtual 37, 3) := by decide +kernel
theorem dX5_prefixCount_24 : decode cX5_prefixCount 24 = .ok (.isub, 1) := by decide +kernel
theorem dX5_prefixCount_25 : decode cX5_prefixCount 25 = .ok (.ireturn, 1) := by decide +kernel
set_option maxRecDepth 20000 in
theorem ggX5_search_X5_node : GoodIn wsX5_search wsX5_node := goodIn_r _ [8] (by decide +kernel) (by decide +kernel)
set_option maxRecDepth 20000 in
theorem gX5_search_X5_node : GoodIn wsX5_search (va_wsS RX5 20 yX5_node wsX5_node) := goodIn_app (goodIn_of _ (by decide +kernel)) ggX5_search_X5_node
set_option maxRecDepth 20000 in
theorem ggX5_search_X0_has : GoodIn wsX5_search wsX0_has := goodIn_r _ [13, 14, 15, 16, 12, 17, 18, 19, 20, 21, 22, 34] (by decide +kernel) (by decide +kernel)
set_option maxRecDepth 20000 in
theorem gX5_search_X0_has : GoodIn wsX5_search (wsV RX5 30 RX0 yX0_has wsX0_has) := goodIn_app (goodIn_of _ (by decide +kernel)) ggX5_search_X0_has
set_option maxRecDepth 20000 in
theorem ggX5_search_X2_init : GoodIn wsX5_search wsX2_init := goodIn_r _ [25, 26, 27, 28, 29, 30, 32, 33] (by decide +kernel) (by decide +kernel)
set_option maxRecDepth 20000 in
theorem gX5_search_X2_init : GoodIn wsX5_search (wsX2_init) := ggX5_search_X2_init
theorem dX5_search_0 : decode cX5_search 0 = .ok (.aload_n 0, 1) := by decide +kernel
theorem dX5_search_1 : decode cX5_search 1 = .ok (.getfield 14, 3) := by decide +kernel
theorem dX5_search_4 : decode cX5_search 4 = .ok (.iload_n 1, 1) := by decide +kernel
theorem dX5_search_5 : decode cX5_search 5 = .ok (.iconst 0, 1) := by decide +kernel
theorem dX5_search_6 : decode cX5_search 6 = .ok (.invokestatic 20, 3) := by decide +kernel
theorem dX5_search_9 : decode cX5_search 9 = .ok (.invokevirtual 30, 3) := by decide +kernel
theorem dX5_search_12 : decode cX5_search 12 = .ok (.ifCond .ne 13, 3) := by decide +kernel
theorem dX5_search_15 : decode cX5_search 15 = .ok (.new 41, 3) := by decide +kernel
theorem dX5_search_18 : decode cX5_search 18 = .ok (.dup, 1) := by decide +kernel
theorem dX5_search_19 : decode cX5_search 19 = .ok (.iconst (-1), 1) := by decide +kernel
theorem dX5_search_20 : decode cX5_search 20 = .ok (.iconst 0, 1) := by decide +kernel
theorem dX5_search_21 : decode cX5_search 21 = .ok (.invokespecial 43, 3) := by decide +kernel
theorem dX5_search_24 : decode cX5_search 24 = .ok (.areturn, 1) := by decide +kernel
theorem dX5_search_25 : decode cX5_search 25 = .ok (.iconst 0, 1) := by decide +kernel
theorem dX5_search_26 : decode cX5_search 26 = .ok (.istore_n 2, 1) := by decide +kernel
theorem dX5_search_27 : decode cX5_search 27 = .ok (.bipush 13, 2) := by decide +kernel
theorem dX5_search_29 : decode cX5_search 29 = .ok (.istore_n 3, 1) := by decide +kernel
theorem dX5_search_30 : decode cX5_search 30 = .ok (.iconst 0, 1) := by decide +kernel
theorem dX5_search_31 : decode cX5_search 31 = .ok (.istore 4, 2) := by decide +kernel
theorem dX5_search_33 : decode cX5_search 33 = .ok (.iconst 0, 1) := by decide +kernel
theorem dX5_search_34 : decode cX5_search 34 = .ok (.istore 5, 2) := by decide +kernel
theorem dX5_search_36 : decode cX5_search 36 = .ok (.iload 5, 2) := by decide +kernel
theorem dX5_search_38 : decode cX5_search 38 = .ok (.bipush 12, 2) := by decide +kernel
theorem dX5_search_40 : decode cX5_search 40 = .ok (.if_icmp .gt 51, 3) := by decide +kernel
theorem dX5_search_43 : decode cX5_search 43 = .ok (.iload_n 3, 1) := by decide +kernel
theorem dX5_search_44 : decode cX5_search 44 = .ok (.iload_n 2, 1) := by decide +kernel
theorem dX5_search_45 : decode cX5_search 45 = .ok (.iconst 1, 1) := by decide +kernel
theorem dX5_search_46 : decode cX5_search 46 = .ok (.iadd, 1) := by decide +kernel
theorem dX5_search_47 : decode cX5_search 47 = .ok (.if_icmp .le 44, 3) := by decide +kernel
theorem dX5_search_50 : decode cX5_search 50 = .ok (.iload_n 2, 1) := by decide +kernel
theorem dX5_search_51 : decode cX5_search 51 = .ok (.iload_n 3, 1) := by decide +kernel
theorem dX5_search_52 : decode cX5_search 52 = .ok (.iadd, 1) := by decide +kernel
theorem dX5_search_53 : decode cX5_search 53 = .ok (.iconst 2, 1) := by decide +kernel
theorem dX5_search_54 : decode cX5_search 54 = .ok (.idiv, 1) := by decide +kernel
theorem dX5_search_55 : decode cX5_search 55 = .ok (.istore 6, 2) := by decide +kernel
theorem dX5_search_57 : decode cX5_search 57 = .ok (.iinc 4 1, 3) := by decide +kernel
theorem dX5_search_60 : decode cX5_search 60 = .ok (.aload_n 0, 1) := by decide +kernel
theorem dX5_search_61 : decode cX5_search 61 = .ok (.getfield 14, 3) := by decide +kernel
theorem dX5_search_64 : decode cX5_search 64 = .ok (.iload_n 1, 1) := by decide +kernel
theorem dX5_search_65 : decode cX5_search 65 = .ok (.iload 6, 2) := by decide +kernel
theorem dX5_search_67 : decode cX5_search 67 = .ok (.invokestatic 20, 3) := by decide +kernel
theorem dX5_search_70 : decode cX5_search 70 = .ok (.invokevirtual 30, 3) := by decide +kernel
theorem dX5_search_73 : decode cX5_search 73 = .ok (.ifCond .eq 9, 3) := by decide +kernel
theorem dX5_search_76 : decode cX5_search 76 = .ok (.iload 6, 2) := by decide +kernel
theorem dX5_search_78 : decode cX5_search 78 = .ok (.istore_n 2, 1) := by decide +kernel
theorem dX5_search_79 : decode cX5_search 79 = .ok (.goto 6, 3) := by decide +kernel
theorem dX5_search_82 : decode cX5_search 82 = .ok (.iload 6, 2) := by decide +kernel
theorem dX5_search_84 : decode cX5_search 84 = .ok (.istore_n 3, 1) := by decide +kernel
theorem dX5_search_85 : decode cX5_search 85 = .ok (.iinc 5 1, 3) := by decide +kernel
theorem dX5_search_88 : decode cX5_search 88 = .ok (.goto (-52), 3) := by decide +kernel
theorem dX5_search_91 : decode cX5_search 91 = .ok (.new 41, 3) := by decide +kernel
theorem dX5_search_94 : decode cX5_search 94 = .ok (.dup, 1) := by decide +kernel
theorem dX5_search_95 : decode cX5_search 95 = .ok (.iload_n 2, 1) := by decide +kernel
theorem dX5_search_96 : decode cX5_search 96 = .ok (.iload 4, 2) := by decide +kernel
theorem dX5_search_98 : decode cX5_search 98 = .ok (.invokespecial 43, 3) := by decide +kernel
theorem dX5_search_101 : decode cX5_search 101 = .ok (.areturn, 1) := by decide +kernel
theorem dX6_bit_0 : decode cX6_bit 0 = .ok (.lconst 1, 1) := by decide +kernel
theorem dX6_bit_1 : decode cX6_bit 1 = .ok (.iload_n 0, 1) := by decide +kernel
theorem dX6_bit_2 : decode cX6_bit 2 = .ok (.bipush 63, 2) := by decide +kernel
theorem dX6_bit_4 : decode cX6_bit 4 = .ok (.iand, 1) := by decide +kernel
theorem dX6_bit_5 : decode cX6_bit 5 = .ok (.lshl, 1) := by decide +kernel
theorem dX6_bit_6 : decode cX6_bit 6 = .ok (.lreturn, 1) := by decide +kernel
set_option maxRecDepth 20000 in
theorem ggX6_least_J13_bitCount_95d88 : GoodIn wsX6_least wsJ13_bitCount_95d88 := goodIn_r _ [4, 5, 6, 7] (by decide +kernel) (by decide +kernel)
set_option maxRecDepth 20000 in
theorem gX6_least_J13_bitCount_95d88 : GoodIn wsX6_least (va_wsS RX6 9 yJ13_bitCount_95d88 wsJ13_bitCount_95d88) := goodIn_app (goodIn_of _ (by decide +kernel)) ggX6_least_J13_bitCount_95d88
theorem dX6_least_0 : decode cX6_least 0 = .ok (.lload_n 0, 1) := by decide +kernel
theorem dX6_least_1 : decode cX6_least 1 = .ok (.lconst 0, 1) := by decide +kernel
theorem dX6_least_2 : decode cX6_least 2 = .ok (.lcmp, 1) := by decide +kernel
theorem dX6_least_3 : decode cX6_least 3 = .ok (.ifCond .ne 7, 3) := by decide +kernel
theorem dX6_least_6 : decode cX6_least 6 = .ok (.iconst (-1), 1) := by decide +kernel
theorem dX6_least_7 : decode cX6_least 7 = .ok (.goto 12, 3) := by decide +kernel
theorem dX6_least_10 : decode cX6_least 10 = .ok (.lload_n 0, 1) := by decide +kernel
theorem dX6_least_11 : decode cX6_least 11 = .ok (.lload_n 0, 1) := by decide +kernel
theorem dX6_least_12 : decode cX6_least 12 = .ok (.lneg, 1) := by decide +kernel
theorem dX6_least_13 : decode cX6_least 13 = .ok (.land, 1) := by decide +kernel
theorem dX6_least_14 : decode cX6_least 14 = .ok (.lconst 1, 1) := by decide +kernel
theorem dX6_least_15 : decode cX6_least 15 = .ok (.lsub, 1) := by decide +kernel
theorem dX6_least_16 : decode cX6_least 16 = .ok (.invokestatic 9, 3) := by decide +kernel
theorem dX6_least_19 : decode cX6_least 19 = .ok (.ireturn, 1) := by decide +kernel
set_option maxRecDepth 20000 in
theorem ggX6_greatest_J13_bitCount_95d88 : GoodIn wsX6_greatest wsJ13_bitCount_95d88 := goodIn_r _ [4, 5, 6, 7] (by decide +kernel) (by decide +kernel)
set_option maxRecDepth 20000 in
theorem gX6_greatest_J13_bitCount_95d88 : GoodIn wsX6_greatest (va_wsS RX6 9 yJ13_bitCount_95d88 wsJ13_bitCount_95d88) := goodIn_app (goodIn_of _ (by decide +kernel)) ggX6_greatest_J13_bitCount_95d88
theorem dX6_greatest_0 : decode cX6_greatest 0 = .ok (.lload_n 0, 1) := by decide +kernel
theorem dX6_greatest_1 : decode cX6_greatest 1 = .ok (.lload_n 0, 1) := by decide +kernel
theorem dX6_greatest_2 : decode cX6_greatest 2 = .ok (.iconst 1, 1) := by decide +kernel
theorem dX6_greatest_3 : decode cX6_greatest 3 = .ok (.lushr, 1) := by decide +kernel
theorem dX6_greatest_4 : decode cX6_greatest 4 = .ok (.lor, 1) := by decide +kernel
theorem dX6_greatest_5 : decode cX6_greatest 5 = .ok (.lstore_n 2, 1) := by decide +kernel
theorem dX6_greatest_6 : decode cX6_greatest 6 = .ok (.lload_n 2, 1) := by decide +kernel
theorem dX6_greatest_7 : decode cX6_greatest 7 = .ok (.lload_n 2, 1) := by decide +kernel
theorem dX6_greatest_8 : decode cX6_greatest 8 = .ok (.iconst 2, 1) := by decide +kernel
theorem dX6_greatest_9 : decode cX6_greatest 9 = .ok (.lushr, 1) := by decide +kernel
theorem dX6_greatest_10 : decode cX6_greatest 10 = .ok (.lor, 1) := by decide +kernel
theorem dX6_greatest_11 : decode cX6_greatest 11 = .ok (.lstore_n 2, 1) := by decide +kernel
theorem dX6_greatest_12 : decode cX6_greatest 12 = .ok (.lload_n 2, 1) := by decide +kernel
theorem dX6_greatest_13 : decode cX6_greatest 13 = .ok (.lload_n 2, 1) := by decide +kernel
theorem dX6_greatest_14 : decode cX6_greatest 14 = .ok (.iconst 4, 1) := by decide +kernel
theorem dX6_greatest_15 : decode cX6_greatest 15 = .ok (.lushr, 1) := by decide +kernel
theorem dX6_greatest_16 : decode cX6_greatest 16 = .ok (.lor, 1) := by decide +kernel
theorem dX6_greatest_17 : decode cX6_greatest 17 = .ok (.lstore_n 2, 1) := by decide +kernel
theorem dX6_greatest_18 : decode cX6_greatest 18 = .ok (.lload_n 2, 1) := by decide +kernel
theorem dX6_greatest_19 : decode cX6_greatest 19 = .ok (.lload_n 2, 1) := by decide +kernel
theorem dX6_greatest_20 : decode cX6_greatest 20 = .ok (.bipush 8, 2) := by decide +kernel
theorem dX6_greatest_22 : decode cX6_greatest 22 = .ok (.lushr, 1) := by decide +kernel
theorem dX6_greatest_23 : decode cX6_greatest 23 = .ok (.lor, 1) := by decide +kernel
theorem dX6_greatest_24 : decode cX6_greatest 24 = .ok (.lstore_n 2, 1) := by decide +kernel
theorem dX6_greatest_25 : decode cX6_greatest 25 = .ok (.lload_n 2, 1) := by decide +kernel
theorem dX6_greatest_26 : decode cX6_greatest 26 = .ok (.lload_n 2, 1) := by decide +kernel
theorem dX6_greatest_27 : decode cX6_greatest 27 = .ok (.bipush 16, 2) := by decide +kernel
theorem dX6_greatest_29 : decode cX6_greatest 29 = .ok (.lushr, 1) := by decide +kernel
theorem dX6_greatest_30 : decode cX6_greatest 30 = .ok (.lor, 1) := by decide +kernel
theorem dX6_greatest_31 : decode cX6_greatest 31 = .ok (.lstore_n 2, 1) := by decide +kernel
theorem dX6_greatest_32 : decode cX6_greatest 32 = .ok (.lload_n 2, 1) := by decide +kernel
theorem dX6_greatest_33 : decode cX6_greatest 33 = .ok (.lload_n 2, 1) := by decide +kernel
theorem dX6_greatest_34 : decode cX6_greatest 34 = .ok (.bipush 32, 2) := by decide +kernel
theorem dX6_greatest_36 : decode cX6_greatest 36 = .ok (.lushr, 1) := by decide +kernel
theorem dX6_greatest_37 : decode cX6_greatest 37 = .ok (.lor, 1) := by decide +kernel
theorem dX6_greatest_38 : decode cX6_greatest 38 = .ok (.lstore_n 2, 1) := by decide +kernel
theorem dX6_greatest_39 : decode cX6_greatest 39 = .ok (.lload_n 2, 1) := by decide +kernel
theorem dX6_greatest_40 : decode cX6_greatest 40 = .ok (.invokestatic 9, 3) := by decide +kernel
theorem dX6_greatest_43 : decode cX6_greatest 43 = .ok (.iconst 1, 1) := by decide +kernel
theorem dX6_greatest_44 : decode cX6_greatest 44 = .ok (.isub, 1) := by decide +kernel
theorem dX6_greatest_45 : decode cX6_greatest 45 = .ok (.ireturn, 1) := by decide +kernel
set_option maxRecDepth 20000 in
theorem ggX6_after_X6_least : GoodIn wsX6_after wsX6_least := goodIn_r _ [5, 6, 7, 8, 9, 10, 11, 12] (by decide +kernel) (by decide +kernel)
set_option maxRecDepth 20000 in
theorem gX6_after_X6_least : GoodIn wsX6_after (va_wsS RX6 17 yX6_least wsX6_least) := goodIn_app (goodIn_of _ (by decide +kernel)) ggX6_after_X6_least
theorem dX6_after_0 : decode cX6_after 0 = .ok (.lload_n 0, 1) := by decide +kernel
theorem dX6_after_1 : decode cX6_after 1 = .ok (.ldc2_w 15, 3) := by decide +kernel
theorem dX6_after_4 : decode cX6_after 4 = .ok (.iload_n 2, 1) := by decide +kernel
theorem dX6_after_5 : decode cX6_after 5 = .ok (.bipush 63, 2) := by decide +kernel
theorem dX6_after_7 : decode cX6_after 7 = .ok (.iand, 1) := by decide +kernel
theorem dX6_after_8 : decode cX6_after 8 = .ok (.lshl, 1) := by decide +kernel
theorem dX6_after_9 : decode cX6_after 9 = .ok (.iconst 1, 1) := by decide +kernel
theorem dX6_after_10 : decode cX6_after 10 = .ok (.lshl, 1) := by decide +kernel
theorem dX6_after_11 : decode cX6_after 11 = .ok (.land, 1) := by decide +kernel
theorem dX6_after_12 : decode cX6_after 12 = .ok (.invokestatic 17, 3) := by decide +kernel
theorem dX6_after_15 : decode cX6_after 15 = .ok (.ireturn, 1) := by decide +kernel
set_option maxRecDepth 20000 in
theorem ggX6_before_X6_bit : GoodIn wsX6_before wsX6_bit := goodIn_r _ [4] (by decide +kernel) (by decide +kernel)
set_option maxRecDepth 20000 in
theorem gX6_before_X6_bit : GoodIn wsX6_before (va_wsS RX6 22 yX6_bit wsX6_bit) := goodIn_app (goodIn_of _ (by decide +kernel)) ggX6_before_X6_bit
set_option maxRecDepth 20000 in
theorem ggX6_before_X6_greatest : GoodIn wsX6_before wsX6_greatest := goodIn_r _ [7, 8, 9, 10, 11, 12, 13, 14] (by decide +kernel) (by decide +kernel)
set_option maxRecDepth 20000 in
theorem gX6_before_X6_greatest : GoodIn wsX6_before (va_wsS RX6 26 yX6_greatest wsX6_greatest) := goodIn_app (goodIn_of _ (by decide +kernel)) ggX6_before_X6_greatest
theorem dX6_before_0 : decode cX6_before 0 = .ok (.lload_n 0, 1) := by decide +kernel
theorem dX6_before_1 : decode cX6_before 1 = .ok (.iload_n 2, 1) := by decide +kernel
theorem dX6_before_2 : decode cX6_before 2 = .ok (.invokestatic 22, 3) := by decide +kernel
theorem dX6_before_5 : decode cX6_before 5 = .ok (.lconst 1, 1) := by decide +kernel
theorem dX6_before_6 : decode cX6_before 6 = .ok (.lsub, 1) := by decide +kernel
theorem dX6_before_7 : decode cX6_before 7 = .ok (.land, 1) := by decide +kernel
theorem dX6_before_8 : decode cX6_before 8 = .ok (.invokestatic 26, 3) := by decide +kernel
theorem dX6_before_11 : decode cX6_before 11 = .ok (.ireturn, 1) := by decide +kernel
set_option maxRecDepth 20000 in
theorem ggX6_searchLength_X6_least : GoodIn wsX6_searchLength wsX6_least := goodIn_r _ [4, 5, 6, 7, 8, 9, 10, 11] (by decide +kernel) (by decide +kernel)
set_option maxRecDepth 20000 in
theorem gX6_searchLength_X6_least : GoodIn wsX6_searchLength (va_wsS RX6 17 yX6_least wsX6_least) := goodIn_app (goodIn_of _ (by decide +kernel)) ggX6_searchLength_X6_least
set_option maxRecDepth 20000 in
theorem ggX6_searchLength_X6_greatest : GoodIn wsX6_searchLength wsX6_greatest := goodIn_r _ [14, 5, 6, 7, 8, 9, 10, 11] (by decide +kernel) (by decide +kernel)
set_option maxRecDepth 20000 in
theorem gX6_searchLength_X6_greatest : GoodIn wsX6_searchLength (va_wsS RX6 26 yX6_greatest wsX6_greatest) := goodIn_app (goodIn_of _ (by decide +kernel)) ggX6_searchLength_X6_greatest
theorem dX6_searchLength_0 : decode cX6_searchLength 0 = .ok (.iload_n 2, 1) := by decide +kernel
theorem dX6_searchLength_1 : decode cX6_searchLength 1 = .ok (.lload_n 0, 1) := by decide +kernel
theorem dX6_searchLength_2 : decode cX6_searchLength 2 = .ok (.invokestatic 17, 3) := by decide +kernel
theorem dX6_searchLength_5 : decode cX6_searchLength 5 = .ok (.if_icmp .lt 11, 3) := by decide +kernel
theorem dX6_searchLength_8 : decode cX6_searchLength 8 = .ok (.iload_n 2, 1) := by decide +kernel
theorem dX6_searchLength_9 : decode cX6_searchLength 9 = .ok (.lload_n 0, 1) := by decide +kernel
theorem dX6_searchLength_10 : decode cX6_searchLength 10 = .ok (.invokestatic 26, 3) := by decide +kernel
theorem dX6_searchLength_13 : decode cX6_searchLength 13 = .ok (.if_icmp .lt 7, 3) := by decide +kernel
theorem dX6_searchLength_16 : decode cX6_searchLength 16 = .ok (.iconst 1, 1) := by decide +kernel
theorem dX6_searchLength_17 : decode cX6_searchLength 17 = .ok (.goto 4, 3) := by decide +kernel
theorem dX6_searchLength_20 : decode cX6_searchLength 20 = .ok (.iconst 0, 1) := by decide +kernel
theorem dX6_searchLength_21 : decode cX6_searchLength 21 = .ok (.istore_n 3, 1) := by decide +kernel
theorem dX6_searchLength_22 : decode cX6_searchLength 22 = .ok (.iload_n 3, 1) := by decide +kernel
theorem dX6_searchLength_23 : decode cX6_searchLength 23 = .ok (.ifCond .eq 7, 3) := by decide +kernel
theorem dX6_searchLength_26 : decode cX6_searchLength 26 = .ok (.iconst 1, 1) := by decide +kernel
theorem dX6_searchLength_27 : decode cX6_searchLength 27 = .ok (.goto 4, 3) := by decide +kernel
theorem dX6_searchLength_30 : decode cX6_searchLength 30 = .ok (.iconst 2, 1) := by decide +kernel
theorem dX6_searchLength_31 : decode cX6_searchLength 31 = .ok (.ireturn, 1) := by decide +kernel
theorem dX6_treeCount_0 : decode cX6_treeCount 0 = .ok (.lload_n 0, 1) := by decide +kernel
theorem dX6_treeCount_1 : decode cX6_treeCount 1 = .ok (.lconst 0, 1) := by decide +kernel
theorem dX6_treeCount_2 : decode cX6_treeCount 2 = .ok (.lcmp, 1) := by decide +kernel
theorem dX6_treeCount_3 : decode cX6_treeCount 3 = .ok (.ifCond .ne 5, 3) := by decide +kernel
theorem dX6_treeCount_6 : decode cX6_treeCount 6 = .ok (.iconst 0, 1) := by decide +kernel
theorem dX6_treeCount_7 : decode cX6_treeCount 7 = .ok (.ireturn, 1) := by decide +kernel
theorem dX6_treeCount_8 : decode cX6_treeCount 8 = .ok (.lload_n 0, 1) := by decide +kernel
theorem dX6_treeCount_9 : decode cX6_treeCount 9 = .ok (.lload_n 0, 1) := by decide +kernel
theorem dX6_treeCount_10 : decode cX6_treeCount 10 = .ok (.lconst 1, 1) := by decide +kernel
theorem dX6_treeCount_11 : decode cX6_treeCount 11 = .ok (.lsub, 1) := by decide +kernel
theorem dX6_treeCount_12 : decode cX6_treeCount 12 = .ok (.land, 1) := by decide +kernel
theorem dX6_treeCount_13 : decode cX6_treeCount 13 = .ok (.lstore_n 2, 1) := by decide +kernel
theorem dX6_treeCount_14 : decode cX6_treeCount 14 = .ok (.iconst 0, 1) := by decide +kernel
theorem dX6_treeCount_15 : decode cX6_treeCount 15 = .ok (.istore 4, 2) := by decide +kernel
theorem dX6_treeCount_17 : decode cX6_treeCount 17 = .ok (.iconst 0, 1) := by decide +kernel
theorem dX6_treeCount_18 : decode cX6_treeCount 18 = .ok (.istore 5, 2) := by decide +kernel
theorem dX6_treeCount_20 : decode cX6_treeCount 20 = .ok (.iload 5, 2) := by decide +kernel
theorem dX6_treeCount_22 : decode cX6_treeCount 22 = .ok (.bipush 8, 2) := by decide +kernel
theorem dX6_treeCount_24 : decode cX6_treeCount 24 = .ok (.if_icmp .ge 28, 3) := by decide +kernel
theorem dX6_treeCount_27 : decode cX6_treeCount 27 = .ok (.lload_n 2, 1) := by decide +kernel
theorem dX6_treeCount_28 : decode cX6_treeCount 28 = .ok (.iload 5, 2) := by decide +kernel
theorem dX6_treeCount_30 : decode cX6_treeCount 30 = .ok (.bipush 8, 2) := by decide +kernel
theorem dX6_treeCount_32 : decode cX6_treeCount 32 = .ok (.imul, 1) := by decide +kernel
theorem dX6_treeCount_33 : decode cX6_treeCount 33 = .ok (.lushr, 1) := by decide +kernel
theorem dX6_treeCount_34 : decode cX6_treeCount 34 = .ok (.ldc2_w 29, 3) := by decide +kernel
theorem dX6_treeCount_37 : decode cX6_treeCount 37 = .ok (.land, 1) := by decide +kernel
theorem dX6_treeCount_38 : decode cX6_treeCount 38 = .ok (.lconst 0, 1) := by decide +kernel
theorem dX6_treeCount_39 : decode cX6_treeCount 39 = .ok (.lcmp, 1) := by decide +kernel
theorem dX6_treeCount_40 : decode cX6_treeCount 40 = .ok (.ifCond .eq 6, 3) := by decide +kernel
theorem dX6_treeCount_43 : decode cX6_treeCount 43 = .ok (.iinc 4 1, 3) := by decide +kernel
theorem dX6_treeCount_46 : decode cX6_treeCount 46 = .ok (.iinc 5 1, 3) := by decide +kernel
theorem dX6_treeCount_49 : decode cX6_treeCount 49 = .ok (.goto (-29), 3) := by decide +kernel
theorem dX6_treeCount_52 : decode cX6_treeCount 52 = .ok (.iload 4, 2) := by decide +kernel
theorem dX6_treeCount_54 : decode cX6_treeCount 54 = .ok (.ifCond .ne 7, 3) := by decide +kernel
theorem dX6_treeCount_57 : decode cX6_treeCount 57 = .ok (.iconst 0, 1) := by decide +kernel
theorem dX6_treeCount_58 : decode cX6_treeCount 58 = .ok (.goto 4, 3) := by decide +kernel
theorem dX6_treeCount_61 : decode cX6_treeCount 61 = .ok (.iconst 1, 1) := by decide +kernel
theorem dX6_treeCount_62 : decode cX6_treeCount 62 = .ok (.istore 5, 2) := by decide +kernel
theorem dX6_treeCount_64 : decode cX6_treeCount 64 = .ok (.iconst 1, 1) := by decide +kernel
theorem dX6_treeCount_65 : decode cX6_treeCount 65 = .ok (.iload 4, 2) := by decide +kernel
theorem dX6_treeCount_67 : decode cX6_treeCount 67 = .ok (.iadd, 1) := by decide +kernel
theorem dX6_treeCount_68 : decode cX6_treeCount 68 = .ok (.iload 5, 2) := by decide +kernel
theorem dX6_treeCount_70 : decode cX6_treeCount 70 = .ok (.iadd, 1) := by decide +kernel
theorem dX6_treeCount_71 : decode cX6_treeCount 71 = .ok (.ireturn, 1) := by decide +kernel
set_option maxRecDepth 20000 in
theorem ggX7_init_X3_init : GoodIn wsX7_init wsX3_init := goodIn_r _ [11, 12, 2, 3, 13, 14, 15, 16, 17, 18, 19, 20, 21, 22, 23, 24, 25, 26, 27, 28, 29, 30, 31, 32, 33, 34, 35, 36, 37, 38, 39, 40, 41, 42, 43, 44, 45, 46, 47, 48, 49, 50, 51, 52, 53, 54, 55, 56, 57, 58, 59, 60, 61, 62, 63, 70, 71, 72, 64, 65, 66, 73, 74, 75, 76] (by decide +kernel) (by decide +kernel)
set_option maxRecDepth 20000 in
theorem gX7_init_X3_init_n9 : GoodIn wsX7_init (wsX3_init) := ggX7_init_X3_init
theorem dX7_init_0 : decode cX7_init 0 = .ok (.aload_n 0, 1) := by decide +kernel
theorem dX7_init_1 : decode cX7_init 1 = .ok (.invokespecial 1, 3) := by decide +kernel
theorem dX7_init_4 : decode cX7_init 4 = .ok (.aload_n 0, 1) := by decide +kernel
theorem dX7_init_5 : decode cX7_init 5 = .ok (.new 7, 3) := by decide +kernel
theorem dX7_init_8 : decode cX7_init 8 = .ok (.dup, 1) := by decide +kernel
theorem dX7_init_9 : decode cX7_init 9 = .ok (.invokespecial 9, 3) := by decide +kernel
theorem dX7_init_12 : decode cX7_init 12 = .ok (.putfield 10, 3) := by decide +kernel
theorem dX7_init_15 : decode cX7_init 15 = .ok (.aload_n 0, 1) := by decide +kernel
theorem dX7_init_16 : decode cX7_init 16 = .ok (.new 7, 3) := by decide +kernel
theorem dX7_init_19 : decode cX7_init 19 = .ok (.dup, 1) := by decide +kernel
theorem dX7_init_20 : decode cX7_init 20 = .ok (.invokespecial 9, 3) := by decide +kernel
theorem dX7_init_23 : decode cX7_init 23 = .ok (.putfield 16, 3) := by decide +kernel
theorem dX7_init_26 : decode cX7_init 26 = .ok (.aload_n 0, 1) := by decide +kernel
theorem dX7_init_27 : decode cX7_init 27 = .ok (.new 7, 3) := by decide +kernel
theorem dX7_init_30 : decode cX7_init 30 = .ok (.dup, 1) := by decide +kernel
theorem dX7_init_31 : decode cX7_init 31 = .ok (.invokespecial 9, 3) := by decide +kernel
theorem dX7_init_34 : decode cX7_init 34 = .ok (.putfield 19, 3) := by decide +kernel
theorem dX7_init_37 : decode cX7_init 37 = .ok (.return_, 1) := by decide +kernel
set_option maxRecDepth 20000 in
theorem ggX7_insert_X7_chosenSet : GoodIn wsX7_insert wsX7_chosenSet := goodIn_ca (goodIn_r _ [5, 6, 7, 8, 9, 10, 132, 133, 134] (by decide +kernel) (by decide +kernel)) (goodIn_sub (fun _ h => List.mem_cons_of_mem _ (List.mem_append_left _ (List.mem_append_right _ h))) (by decide +kernel))
set_option maxRecDepth 20000 in
theorem gX7_insert_X7_chosenSet : GoodIn wsX7_insert (wsV RX7 22 RX7 yX7_chosenSet wsX7_chosenSet) := goodIn_app (goodIn_of _ (by decide +kernel)) ggX7_insert_X7_chosenSet
set_option maxRecDepth 20000 in
theorem ggX7_insert_X7_needNumber : GoodIn wsX7_insert wsX7_needNumber := goodIn_ca (goodIn_r _ [13, 14, 15] (by decide +kernel) (by decide +kernel)) (goodIn_sub (fun _ h => List.mem_cons_of_mem _ (List.mem_append_right _ h)) (by decide +kernel))
set_option maxRecDepth 20000 in
theorem gX7_insert_X7_needNumber : GoodIn wsX7_insert (va_wsS RX7 26 yX7_needNumber wsX7_needNumber) := goodIn_app (goodIn_of _ (by decide +kernel)) ggX7_insert_X7_needNumber
set_option maxRecDepth 20000 in
theorem ggX7_insert_X3_put : GoodIn wsX7_insert wsX3_put := goodIn_r _ [20, 21, 22, 23, 24, 25, 26, 27, 28, 29, 30, 31, 32, 33, 34, 35, 36, 37, 38, 39, 40, 41, 42, 43, 44, 45, 46, 47, 48, 49, 50, 51, 52, 53, 54, 55, 56, 57, 58, 59, 60, 61, 62, 63, 64, 65, 66, 67, 68, 69, 70, 71, 72, 73, 74, 75, 76, 77, 78, 79, 80, 81, 82, 83, 84, 85, 86, 87, 88, 89, 90, 91, 92, 93, 94, 95, 96, 97, 98, 99, 100, 101, 102, 103, 104, 105, 106, 107, 108, 109, 110, 111, 112, 113, 114, 115, 116, 117, 118, 119, 120, 121, 122, 123, 124, 125, 126, 127, 128, 129, 130, 131, 135, 136, 137, 138, 139, 140, 141, 142, 143, 144] (by decide +kernel) (by decide +kernel)
set_option maxRecDepth 20000 in
theorem gX7_insert_X3_put : GoodIn wsX7_insert (wsV RX7 30 RX3 yX3_put wsX3_put) := goodIn_app (goodIn_of _ (by decide +kernel)) ggX7_insert_X3_put
theorem dX7_insert_0 : decode cX7_insert 0 = .ok (.aload_n 0, 1) := by decide +kernel
theorem dX7_insert_1 : decode cX7_insert 1 = .ok (.iload_n 1, 1) := by decide +kernel
theorem dX7_insert_2 : decode cX7_insert 2 = .ok (.invokevirtual 22, 3) := by decide +kernel
theorem dX7_insert_5 : decode cX7_insert 5 = .ok (.astore_n 3, 1) := by decide +kernel
theorem dX7_insert_6 : decode cX7_insert 6 = .ok (.iload_n 2, 1) := by decide +kernel
theorem dX7_insert_7 : decode cX7_insert 7 = .ok (.invokestatic 26, 3) := by decide +kernel
theorem dX7_insert_10 : decode cX7_insert 10 = .ok (.aload_n 3, 1) := by decide +kernel
theorem dX7_insert_11 : decode cX7_insert 11 = .ok (.iload_n 2, 1) := by decide +kernel
theorem dX7_insert_12 : decode cX7_insert 12 = .ok (.invokevirtual 30, 3) := by decide +kernel
theorem dX7_insert_15 : decode cX7_insert 15 = .ok (.ireturn, 1) := by decide +kernel
set_option maxRecDepth 20000 in
theorem ggX7_delete_X7_chosenSet : GoodIn wsX7_delete wsX7_chosenSet := goodIn_ca (goodIn_r _ [5, 6, 7, 8, 9, 10, 147, 148, 149] (by decide +kernel) (by decide +kernel)) (goodIn_sub (fun _ h => List.mem_cons_of_mem _ (List.mem_append_left _ (List.mem_append_right _ h))) (by decide +kernel))
set_option maxRecDepth 20000 in
theorem gX7_delete_X7_chosenSet : GoodIn wsX7_delete (wsV RX7 22 RX7 yX7_chosenSet wsX7_chosenSet) := goodIn_app (goodIn_of _ (by decide +kernel)) ggX7_delete_X7_chosenSet
set_option maxRecDepth 20000 in
theorem ggX7_delete_X7_needNumber : GoodIn wsX7_delete wsX7_needNumber := goodIn_ca (goodIn_r _ [13, 14, 15] (by decide +kernel) (by decide +kernel)) (goodIn_sub (fun _ h => List.mem_cons_of_mem _ (List.mem_append_right _ h)) (by decide +kernel))
set_option maxRecDepth 20000 in
theorem gX7_delete_X7_needNumber : GoodIn wsX7_delete (va_wsS RX7 26 yX7_needNumber wsX7_needNumber) := goodIn_app (goodIn_of _ (by decide +kernel)) ggX7_delete_X7_needNumber
set_option maxRecDepth 20000 in
theorem ggX7_delete_X3_take : GoodIn wsX7_delete wsX3_take := goodIn_r _ [20, 21, 22, 23, 24, 25, 26, 27, 28, 29, 30, 31, 32, 33, 34, 35, 36, 37, 38, 39, 40, 41, 42, 43, 44, 45, 46, 47, 48, 49, 50, 51, 52, 53, 54, 55, 56, 57, 58, 59, 60, 61, 62, 63, 64, 65, 66, 67, 68, 69, 70, 71, 72, 73, 74, 75, 76, 77, 78, 79, 80, 81, 82, 83, 84, 85, 86, 87, 88, 89, 90, 91, 92, 93, 94, 95, 96, 97, 98, 99, 100, 101, 102, 103, 104, 105, 106, 107, 108, 109, 110, 111, 112, 113, 114, 115, 116, 117, 118, 119, 120, 121, 122, 123, 124, 125, 126, 127, 128, 129, 130, 131, 132, 133, 134, 135, 136, 137, 138, 139, 140, 141, 142, 143, 144, 145, 146, 150, 151, 152, 153, 154, 155, 156, 157, 158, 159] (by decide +kernel) (by decide +kernel)
set_option maxRecDepth 20000 in
theorem gX7_delete_X3_take : GoodIn wsX7_delete (wsV RX7 59 RX3 yX3_take wsX3_take) := goodIn_app (goodIn_of _ (by decide +kernel)) ggX7_delete_X3_take
theorem dX7_delete_0 : decode cX7_delete 0 = .ok (.aload_n 0, 1) := by decide +kernel
theorem dX7_delete_1 : decode cX7_delete 1 = .ok (.iload_n 1, 1) := by decide +kernel
theorem dX7_delete_2 : decode cX7_delete 2 = .ok (.invokevirtual 22, 3) := by decide +kernel
theorem dX7_delete_5 : decode cX7_delete 5 = .ok (.astore_n 3, 1) := by decide +kernel
theorem dX7_delete_6 : decode cX7_delete 6 = .ok (.iload_n 2, 1) := by decide +kernel
theorem dX7_delete_7 : decode cX7_delete 7 = .ok (.invokestatic 26, 3) := by decide +kernel
theorem dX7_delete_10 : decode cX7_delete 10 = .ok (.aload_n 3, 1) := by decide +kernel
theorem dX7_delete_11 : decode cX7_delete 11 = .ok (.iload_n 2, 1) := by decide +kernel
theorem dX7_delete_12 : decode cX7_delete 12 = .ok (.invokevirtual 59, 3) := by decide +kernel
theorem dX7_delete_15 : decode cX7_delete 15 = .ok (.ireturn, 1) := by decide +kernel
set_option maxRecDepth 20000 in
theorem ggX7_pollFirst_X7_chosenSet : GoodIn wsX7_pollFirst wsX7_chosenSet := goodIn_ca (goodIn_r _ [5, 6, 7, 8, 9, 10, 154, 155, 156] (by decide +kernel) (by decide +kernel)) (goodIn_sub (fun _ h => List.mem_cons_of_mem _ (List.mem_append_left _ (List.mem_append_right _ h))) (by decide +kernel))
set_option maxRecDepth 20000 in
theorem gX7_pollFirst_X7_chosenSet : GoodIn wsX7_pollFirst (wsV RX7 22 RX7 yX7_chosenSet wsX7_chosenSet) := goodIn_app (goodIn_of _ (by decide +kernel)) ggX7_pollFirst_X7_chosenSet
set_option maxRecDepth 20000 in
theorem ggX7_pollFirst_X4_least : GoodIn wsX7_pollFirst wsX4_least := goodIn_r _ [15, 16, 157, 158, 159] (by decide +kernel) (by decide +kernel)
set_option maxRecDepth 20000 in
theorem gX7_pollFirst_X4_least : GoodIn wsX7_pollFirst (wsV RX7 66 RX4 yX4_least wsX4_least) := goodIn_app (goodIn_of _ (by decide +kernel)) ggX7_pollFirst_X4_least
set_option maxRecDepth 20000 in
theorem ggX7_pollFirst_X7_needMember : GoodIn wsX7_pollFirst wsX7_needMember := goodIn_ca (goodIn_r _ [19, 20, 21] (by decide +kernel) (by decide +kernel)) (goodIn_sub (fun _ h => List.mem_cons_of_mem _ (List.mem_append_right _ h)) (by decide +kernel))
set_option maxRecDepth 20000 in
theorem gX7_pollFirst_X7_needMember : GoodIn wsX7_pollFirst (va_wsS RX7 71 yX7_needMember wsX7_needMember) := goodIn_app (goodIn_of _ (by decide +kernel)) ggX7_pollFirst_X7_needMember
set_option maxRecDepth 20000 in
theorem ggX7_pollFirst_X3_take : GoodIn wsX7_pollFirst wsX3_take := goodIn_r _ [26, 27, 28, 29, 30, 31, 32, 33, 34, 35, 36, 37, 38, 39, 40, 41, 42, 43, 44, 45, 46, 47, 48, 49, 50, 51, 52, 14, 53, 16, 54, 55, 56, 57, 58, 59, 60, 61, 62, 63, 64, 65, 66, 67, 68, 69, 70, 71, 72, 73, 74, 75, 76, 77, 78, 79, 80, 81, 82, 83, 84, 85, 86, 87, 88, 89, 90, 91, 92, 93, 94, 95, 96, 97, 98, 99, 100, 101, 102, 103, 104, 105, 106, 107, 108, 109, 110, 111, 112, 113, 114, 115, 116, 117, 118, 119, 120, 121, 122, 123, 124, 125, 126, 127, 128, 129, 130, 131, 132, 133, 134, 135, 136, 137, 138, 139, 140, 141, 142, 143, 144, 145, 146, 147, 148, 149, 150, 151, 152, 153, 160, 161, 162, 157, 158, 159, 163] (by decide +kernel) (by decide +kernel)
set_option maxRecDepth 20000 in
theorem gX7_pollFirst_X3_take : GoodIn wsX7_pollFirst (wsV RX7 59 RX3 yX3_take wsX3_take) := goodIn_app (goodIn_of _ (by decide +kernel)) ggX7_pollFirst_X3_take
theorem dX7_pollFirst_0 : decode cX7_pollFirst 0 = .ok (.aload_n 0, 1) := by decide +kernel
theorem dX7_pollFirst_1 : decode cX7_pollFirst 1 = .ok (.iload_n 1, 1) := by decide +kernel
theorem dX7_pollFirst_2 : decode cX7_pollFirst 2 = .ok (.invokevirtual 22, 3) := by decide +kernel
theorem dX7_pollFirst_5 : decode cX7_pollFirst 5 = .ok (.astore_n 2, 1) := by decide +kernel
theorem dX7_pollFirst_6 : decode cX7_pollFirst 6 = .ok (.aload_n 2, 1) := by decide +kernel
theorem dX7_pollFirst_7 : decode cX7_pollFirst 7 = .ok (.getfield 62, 3) := by decide +kernel
theorem dX7_pollFirst_10 : decode cX7_pollFirst 10 = .ok (.invokevirtual 66, 3) := by decide +kernel
theorem dX7_pollFirst_13 : decode cX7_pollFirst 13 = .ok (.istore_n 3, 1) := by decide +kernel
theorem dX7_pollFirst_14 : decode cX7_pollFirst 14 = .ok (.iload_n 3, 1) := by decide +kernel
theorem dX7_pollFirst_15 : decode cX7_pollFirst 15 = .ok (.invokestatic 71, 3) := by decide +kernel
theorem dX7_pollFirst_18 : decode cX7_pollFirst 18 = .ok (.aload_n 2, 1) := by decide +kernel
theorem dX7_pollFirst_19 : decode cX7_pollFirst 19 = .ok (.iload_n 3, 1) := by decide +kernel
theorem dX7_pollFirst_20 : decode cX7_pollFirst 20 = .ok (.invokevirtual 59, 3) := by decide +kernel
theorem dX7_pollFirst_23 : decode cX7_pollFirst 23 = .ok (.pop, 1) := by decide +kernel
theorem dX7_pollFirst_24 : decode cX7_pollFirst 24 = .ok (.iload_n 3, 1) := by decide +kernel
theorem dX7_pollFirst_25 : decode cX7_pollFirst 25 = .ok (.ireturn, 1) := by decide +kernel
set_option maxRecDepth 20000 in
theorem ggX7_pollLast_X7_chosenSet : GoodIn wsX7_pollLast wsX7_chosenSet := goodIn_ca (goodIn_r _ [5, 6, 7, 8, 9, 10, 161, 162, 163] (by decide +kernel) (by decide +kernel)) (goodIn_sub (fun _ h => List.mem_cons_of_mem _ (List.mem_append_left _ (List.mem_append_right _ h))) (by decide +kernel))
set_option maxRecDepth 20000 in
theorem gX7_pollLast_X7_chosenSet : GoodIn wsX7_pollLast (wsV RX7 22 RX7 yX7_chosenSet wsX7_chosenSet) := goodIn_app (goodIn_of _ (by decide +kernel)) ggX7_pollLast_X7_chosenSet
set_option maxRecDepth 20000 in
theorem ggX7_pollLast_X4_greatest : GoodIn wsX7_pollLast wsX4_greatest := goodIn_r _ [15, 16, 17, 18, 19, 20, 21, 22, 23, 24, 25, 26, 27, 28, 29, 30, 31, 14, 32, 33, 34, 35, 36, 37, 164, 165, 166] (by decide +kernel) (by decide +kernel)
set_option maxRecDepth 20000 in
theorem gX7_pollLast_X4_greatest : GoodIn wsX7_pollLast (wsV RX7 74 RX4 yX4_greatest wsX4_greatest) := goodIn_app (goodIn_of _ (by decide +kernel)) ggX7_pollLast_X4_greatest
set_option maxRecDepth 20000 in
theorem ggX7_pollLast_X7_needMember : GoodIn wsX7_pollLast wsX7_needMember := goodIn_ca (goodIn_r _ [40, 41, 42] (by decide +kernel) (by decide +kernel)) (goodIn_sub (fun _ h => List.mem_cons_of_mem _ (List.mem_append_right _ h)) (by decide +kernel))
set_option maxRecDepth 20000 in
theorem gX7_pollLast_X7_needMember : GoodIn wsX7_pollLast (va_wsS RX7 71 yX7_needMember wsX7_needMember) := goodIn_app (goodIn_of _ (by decide +kernel)) ggX7_pollLast_X7_needMember
set_option maxRecDepth 20000 in
theorem ggX7_pollLast_X3_take : GoodIn wsX7_pollLast wsX3_take := goodIn_r _ [47, 48, 49, 50, 51, 52, 53, 54, 55, 56, 57, 58, 59, 60, 61, 62, 63, 64, 65, 66, 67, 68, 20, 69, 70, 71, 72, 14, 73, 17, 74, 75, 76, 77, 78, 16, 79, 80, 81, 22, 23, 24, 25, 26, 27, 28, 82, 83, 84, 85, 33, 34, 35, 36, 37, 86, 87, 88, 89, 90, 91, 92, 93, 94, 95, 96, 97, 98, 99, 100, 101, 102, 103, 104, 105, 106, 107, 108, 109, 110, 111, 112, 113, 114, 115, 116, 117, 118, 119, 120, 121, 122, 123, 124, 125, 126, 127, 128, 129, 130, 131, 132, 133, 134, 135, 136, 137, 138, 139, 140, 141, 142, 143, 144, 145, 146, 147, 148, 149, 150, 151, 152, 153, 154, 155, 156, 157, 158, 159, 160, 167, 168, 169, 164, 165, 166, 170] (by decide +kernel) (by decide +kernel)
set_option maxRecDepth 20000 in
theorem gX7_pollLast_X3_take : GoodIn wsX7_pollLast (wsV RX7 59 RX3 yX3_take wsX3_take) := goodIn_app (goodIn_of _ (by decide +kernel)) ggX7_pollLast_X3_take
theorem dX7_pollLast_0 : decode cX7_pollLast 0 = .ok (.aload_n 0, 1) := by decide +kernel
theorem dX7_pollLast_1 : decode cX7_pollLast 1 = .ok (.iload_n 1, 1) := by decide +kernel
theorem dX7_pollLast_2 : decode cX7_pollLast 2 = .ok (.invokevirtual 22, 3) := by decide +kernel
theorem dX7_pollLast_5 : decode cX7_pollLast 5 = .ok (.astore_n 2, 1) := by decide +kernel
theorem dX7_pollLast_6 : decode cX7_pollLast 6 = .ok (.aload_n 2, 1) := by decide +kernel
theorem dX7_pollLast_7 : decode cX7_pollLast 7 = .ok (.getfield 62, 3) := by decide +kernel
theorem dX7_pollLast_10 : decode cX7_pollLast 10 = .ok (.invokevirtual 74, 3) := by decide +kernel
theorem dX7_pollLast_13 : decode cX7_pollLast 13 = .ok (.istore_n 3, 1) := by decide +kernel
theorem dX7_pollLast_14 : decode cX7_pollLast 14 = .ok (.iload_n 3, 1) := by decide +kernel
theorem dX7_pollLast_15 : decode cX7_pollLast 15 = .ok (.invokestatic 71, 3) := by decide +kernel
theorem dX7_pollLast_18 : decode cX7_pollLast 18 = .ok (.aload_n 2, 1) := by decide +kernel
theorem dX7_pollLast_19 : decode cX7_pollLast 19 = .ok (.iload_n 3, 1) := by decide +kernel
theorem dX7_pollLast_20 : decode cX7_pollLast 20 = .ok (.invokevirtual 59, 3) := by decide +kernel
theorem dX7_pollLast_23 : decode cX7_pollLast 23 = .ok (.pop, 1) := by decide +kernel
theorem dX7_pollLast_24 : decode cX7_pollLast 24 = .ok (.iload_n 3, 1) := by decide +kernel
theorem dX7_pollLast_25 : decode cX7_pollLast 25 = .ok (.ireturn, 1) := by decide +kernel
set_option maxRecDepth 20000 in
theorem ggX7_size_X7_chosenSet : GoodIn wsX7_size wsX7_chosenSet := goodIn_ca (goodIn_r _ [5, 6, 7, 8, 9, 10, 45, 46, 47] (by decide +kernel) (by decide +kernel)) (goodIn_sub (fun _ h => List.mem_cons_of_mem _ (List.mem_append_right _ h)) (by decide +kernel))
set_option maxRecDepth 20000 in
theorem gX7_size_X7_chosenSet : GoodIn wsX7_size (wsV RX7 22 RX7 yX7_chosenSet wsX7_chosenSet) := goodIn_app (goodIn_of _ (by decide +kernel)) ggX7_size_X7_chosenSet
set_option maxRecDepth 20000 in
theorem ggX7_size_X1_memberCount : GoodIn wsX7_size wsX1_memberCount := goodIn_r _ [15, 16, 17, 18, 19, 20, 21, 22, 23, 24, 25, 26, 27, 28, 29, 30, 31, 32, 33, 34, 35, 36, 37, 38, 39, 40, 41, 48, 49, 50] (by decide +kernel) (by decide +kernel)
set_option maxRecDepth 20000 in
theorem gX7_size_X1_memberCount : GoodIn wsX7_size (wsV RX7 42 RX1 yX1_memberCount wsX1_memberCount) := goodIn_app (goodIn_of _ (by decide +kernel)) ggX7_size_X1_memberCount
theorem dX7_size_0 : decode cX7_size 0 = .ok (.aload_n 0, 1) := by decide +kernel
theorem dX7_size_1 : decode cX7_size 1 = .ok (.iload_n 1, 1) := by decide +kernel
theorem dX7_size_2 : decode cX7_size 2 = .ok (.invokevirtual 22, 3) := by decide +kernel
theorem dX7_size_5 : decode cX7_size 5 = .ok (.getfield 38, 3) := by decide +kernel
theorem dX7_size_8 : decode cX7_size 8 = .ok (.invokevirtual 42, 3) := by decide +kernel
theorem dX7_size_11 : decode cX7_size 11 = .ok (.ireturn, 1) := by decide +kernel
set_option maxRecDepth 20000 in
theorem ggX7_contains_X7_chosenSet : GoodIn wsX7_contains wsX7_chosenSet := goodIn_ca (goodIn_r _ [5, 6, 7, 8, 9, 10, 39, 40, 41] (by decide +kernel) (by decide +kernel)) (goodIn_sub (fun _ h => List.mem_cons_of_mem _ (List.mem_append_left _ (List.mem_append_right _ h))) (by decide +kernel))
set_option maxRecDepth 20000 in
theorem gX7_contains_X7_chosenSet : GoodIn wsX7_contains (wsV RX7 22 RX7 yX7_chosenSet wsX7_chosenSet) := goodIn_app (goodIn_of _ (by decide +kernel)) ggX7_contains_X7_chosenSet
set_option maxRecDepth 20000 in
theorem ggX7_contains_X7_needNumber : GoodIn wsX7_contains wsX7_needNumber := goodIn_ca (goodIn_r _ [13, 14, 15] (by decide +kernel) (by decide +kernel)) (goodIn_sub (fun _ h => List.mem_cons_of_mem _ (List.mem_append_right _ h)) (by decide +kernel))
set_option maxRecDepth 20000 in
theorem gX7_contains_X7_needNumber : GoodIn wsX7_contains (va_wsS RX7 26 yX7_needNumber wsX7_needNumber) := goodIn_app (goodIn_of _ (by decide +kernel)) ggX7_contains_X7_needNumber
set_option maxRecDepth 20000 in
theorem ggX7_contains_X1_has : GoodIn wsX7_contains wsX1_has := goodIn_r _ [20, 21, 22, 23, 24, 25, 26, 27, 28, 29, 30, 31, 32, 33, 34, 35, 42, 43, 44] (by decide +kernel) (by decide +kernel)
set_option maxRecDepth 20000 in
theorem gX7_contains_X1_has : GoodIn wsX7_contains (wsV RX7 80 RX1 yX1_has wsX1_has) := goodIn_app (goodIn_of _ (by decide +kernel)) ggX7_contains_X1_has
theorem dX7_contains_0 : decode cX7_contains 0 = .ok (.aload_n 0, 1) := by decide +kernel
theorem dX7_contains_1 : decode cX7_contains 1 = .ok (.iload_n 1, 1) := by decide +kernel
theorem dX7_contains_2 : decode cX7_contains 2 = .ok (.invokevirtual 22, 3) := by decide +kernel
theorem dX7_contains_5 : decode cX7_contains 5 = .ok (.astore_n 3, 1) := by decide +kernel
theorem dX7_contains_6 : decode cX7_contains 6 = .ok (.iload_n 2, 1) := by decide +kernel
theorem dX7_contains_7 : decode cX7_contains 7 = .ok (.invokestatic 26, 3) := by decide +kernel
theorem dX7_contains_10 : decode cX7_contains 10 = .ok (.aload_n 3, 1) := by decide +kernel
theorem dX7_contains_11 : decode cX7_contains 11 = .ok (.getfield 38, 3) := by decide +kernel
theorem dX7_contains_14 : decode cX7_contains 14 = .ok (.iload_n 2, 1) := by decide +kernel
theorem dX7_contains_15 : decode cX7_contains 15 = .ok (.invokevirtual 80, 3) := by decide +kernel
theorem dX7_contains_18 : decode cX7_contains 18 = .ok (.ireturn, 1) := by decide +kernel
set_option maxRecDepth 20000 in
theorem ggX7_successor_X7_chosenSet : GoodIn wsX7_successor wsX7_chosenSet := goodIn_ca (goodIn_r _ [5, 6, 7, 8, 9, 10, 66, 67, 68] (by decide +kernel) (by decide +kernel)) (goodIn_sub (fun _ h => List.mem_cons_of_mem _ (List.mem_append_left _ (List.mem_append_right _ h))) (by decide +kernel))
set_option maxRecDepth 20000 in
theorem gX7_successor_X7_chosenSet : GoodIn wsX7_successor (wsV RX7 22 RX7 yX7_chosenSet wsX7_chosenSet) := goodIn_app (goodIn_of _ (by decide +kernel)) ggX7_successor_X7_chosenSet
set_option maxRecDepth 20000 in
theorem ggX7_successor_X7_needNumber : GoodIn wsX7_successor wsX7_needNumber := goodIn_ca (goodIn_r _ [13, 14, 15] (by decide +kernel) (by decide +kernel)) (goodIn_sub (fun _ h => List.mem_cons_of_mem _ (List.mem_append_right _ h)) (by decide +kernel))
set_option maxRecDepth 20000 in
theorem gX7_successor_X7_needNumber : GoodIn wsX7_successor (va_wsS RX7 26 yX7_needNumber wsX7_needNumber) := goodIn_app (goodIn_of _ (by decide +kernel)) ggX7_successor_X7_needNumber
set_option maxRecDepth 20000 in
theorem ggX7_successor_X4_after : GoodIn wsX7_successor wsX4_after := goodIn_r _ [20, 21, 22, 23, 24, 25, 19, 26, 27, 28, 29, 30, 31, 32, 33, 34, 35, 36, 37, 38, 39, 40, 41, 42, 43, 44, 45, 46, 47, 48, 49, 50, 51, 52, 53, 54, 55, 56, 57, 58, 59, 60, 61, 62, 69, 70, 71] (by decide +kernel) (by decide +kernel)
set_option maxRecDepth 20000 in
theorem gX7_successor_X4_after : GoodIn wsX7_successor (wsV RX7 83 RX4 yX4_after wsX4_after) := goodIn_app (goodIn_of _ (by decide +kernel)) ggX7_successor_X4_after
theorem dX7_successor_0 : decode cX7_successor 0 = .ok (.aload_n 0, 1) := by decide +kernel
theorem dX7_successor_1 : decode cX7_successor 1 = .ok (.iload_n 1, 1) := by decide +kernel
theorem dX7_successor_2 : decode cX7_successor 2 = .ok (.invokevirtual 22, 3) := by decide +kernel
theorem dX7_successor_5 : decode cX7_successor 5 = .ok (.astore_n 3, 1) := by decide +kernel
theorem dX7_successor_6 : decode cX7_successor 6 = .ok (.iload_n 2, 1) := by decide +kernel
theorem dX7_successor_7 : decode cX7_successor 7 = .ok (.invokestatic 26, 3) := by decide +kernel
theorem dX7_successor_10 : decode cX7_successor 10 = .ok (.aload_n 3, 1) := by decide +kernel
theorem dX7_successor_11 : decode cX7_successor 11 = .ok (.getfield 62, 3) := by decide +kernel
theorem dX7_successor_14 : decode cX7_successor 14 = .ok (.iload_n 2, 1) := by decide +kernel
theorem dX7_successor_15 : decode cX7_successor 15 = .ok (.invokevirtual 83, 3) := by decide +kernel
theorem dX7_successor_18 : decode cX7_successor 18 = .ok (.ireturn, 1) := by decide +kernel
set_option maxRecDepth 20000 in
theorem ggX7_predecessor_X7_chosenSet : GoodIn wsX7_predecessor wsX7_chosenSet := goodIn_ca (goodIn_r _ [5, 6, 7, 8, 9, 10, 53, 54, 55] (by decide +kernel) (by decide +kernel)) (goodIn_sub (fun _ h => List.mem_cons_of_mem _ (List.mem_append_left _ (List.mem_append_right _ h))) (by decide +kernel))
set_option maxRecDepth 20000 in
theorem gX7_predecessor_X7_chosenSet : GoodIn wsX7_predecessor (wsV RX7 22 RX7 yX7_chosenSet wsX7_chosenSet) := goodIn_app (goodIn_of _ (by decide +kernel)) ggX7_predecessor_X7_chosenSet
set_option maxRecDepth 20000 in
theorem ggX7_predecessor_X7_needNumber : GoodIn wsX7_predecessor wsX7_needNumber := goodIn_ca (goodIn_r _ [13, 14, 15] (by decide +kernel) (by decide +kernel)) (goodIn_sub (fun _ h => List.mem_cons_of_mem _ (List.mem_append_right _ h)) (by decide +kernel))
set_option maxRecDepth 20000 in
theorem gX7_predecessor_X7_needNumber : GoodIn wsX7_predecessor (va_wsS RX7 26 yX7_needNumber wsX7_needNumber) := goodIn_app (goodIn_of _ (by decide +kernel)) ggX7_predecessor_X7_needNumber
set_option maxRecDepth 20000 in
theorem ggX7_predecessor_X4_before : GoodIn wsX7_predecessor wsX4_before := goodIn_r _ [20, 21, 22, 23, 24, 25, 19, 26, 27, 28, 29, 30, 31, 32, 33, 34, 35, 36, 37, 38, 39, 40, 41, 42, 43, 44, 45, 46, 47, 48, 49, 56, 57, 58] (by decide +kernel) (by decide +kernel)
set_option maxRecDepth 20000 in
theorem gX7_predecessor_X4_before : GoodIn wsX7_predecessor (wsV RX7 86 RX4 yX4_before wsX4_before) := goodIn_app (goodIn_of _ (by decide +kernel)) ggX7_predecessor_X4_before
theorem dX7_predecessor_0 : decode cX7_predecessor 0 = .ok (.aload_n 0, 1) := by decide +kernel
theorem dX7_predecessor_1 : decode cX7_predecessor 1 = .ok (.iload_n 1, 1) := by decide +kernel
theorem dX7_predecessor_2 : decode cX7_predecessor 2 = .ok (.invokevirtual 22, 3) := by decide +kernel
theorem dX7_predecessor_5 : decode cX7_predecessor 5 = .ok (.astore_n 3, 1) := by decide +kernel
theorem dX7_predecessor_6 : decode cX7_predecessor 6 = .ok (.iload_n 2, 1) := by decide +kernel
theorem dX7_predecessor_7 : decode cX7_predecessor 7 = .ok (.invokestatic 26, 3) := by decide +kernel
theorem dX7_predecessor_10 : decode cX7_predecessor 10 = .ok (.aload_n 3, 1) := by decide +kernel
theorem dX7_predecessor_11 : decode cX7_predecessor 11 = .ok (.getfield 62, 3) := by decide +kernel
theorem dX7_predecessor_14 : decode cX7_predecessor 14 = .ok (.iload_n 2, 1) := by decide +kernel
theorem dX7_predecessor_15 : decode cX7_predecessor 15 = .ok (.invokevirtual 86, 3) := by decide +kernel
theorem dX7_predecessor_18 : decode cX7_predecessor 18 = .ok (.ireturn, 1) := by decide +kernel
set_option maxRecDepth 20000 in
theorem ggX7_rank_X7_chosenSet : GoodIn wsX7_rank wsX7_chosenSet := goodIn_ca (goodIn_r _ [5, 6, 7, 8, 9, 10, 50, 51, 52] (by decide +kernel) (by decide +kernel)) (goodIn_sub (fun _ h => List.mem_cons_of_mem _ (List.mem_append_left _ (List.mem_append_right _ h))) (by decide +kernel))
set_option maxRecDepth 20000 in
theorem gX7_rank_X7_chosenSet : GoodIn wsX7_rank (wsV RX7 22 RX7 yX7_chosenSet wsX7_chosenSet) := goodIn_app (goodIn_of _ (by decide +kernel)) ggX7_rank_X7_chosenSet
set_option maxRecDepth 20000 in
theorem ggX7_rank_X7_needNumber : GoodIn wsX7_rank wsX7_needNumber := goodIn_ca (goodIn_r _ [13, 14, 15] (by decide +kernel) (by decide +kernel)) (goodIn_sub (fun _ h => List.mem_cons_of_mem _ (List.mem_append_right _ h)) (by decide +kernel))
set_option maxRecDepth 20000 in
theorem gX7_rank_X7_needNumber : GoodIn wsX7_rank (va_wsS RX7 26 yX7_needNumber wsX7_needNumber) := goodIn_app (goodIn_of _ (by decide +kernel)) ggX7_rank_X7_needNumber
set_option maxRecDepth 20000 in
theorem ggX7_rank_X1_membersBelow : GoodIn wsX7_rank wsX1_membersBelow := goodIn_r _ [20, 21, 22, 23, 24, 25, 26, 27, 28, 29, 30, 31, 32, 33, 34, 35, 36, 37, 38, 39, 40, 41, 42, 43, 44, 45, 46, 53, 54, 55] (by decide +kernel) (by decide +kernel)
set_option maxRecDepth 20000 in
theorem gX7_rank_X1_membersBelow : GoodIn wsX7_rank (wsV RX7 89 RX1 yX1_membersBelow wsX1_membersBelow) := goodIn_app (goodIn_of _ (by decide +kernel)) ggX7_rank_X1_membersBelow
theorem dX7_rank_0 : decode cX7_rank 0 = .ok (.aload_n 0, 1) := by decide +kernel
theorem dX7_rank_1 : decode cX7_rank 1 = .ok (.iload_n 1, 1) := by decide +kernel
theorem dX7_rank_2 : decode cX7_rank 2 = .ok (.invokevirtual 22, 3) := by decide +kernel
theorem dX7_rank_5 : decode cX7_rank 5 = .ok (.astore_n 3, 1) := by decide +kernel
theorem dX7_rank_6 : decode cX7_rank 6 = .ok (.iload_n 2, 1) := by decide +kernel
theorem dX7_rank_7 : decode cX7_rank 7 = .ok (.invokestatic 26, 3) := by decide +kernel
theorem dX7_rank_10 : decode cX7_rank 10 = .ok (.aload_n 3, 1) := by decide +kernel
theorem dX7_rank_11 : decode cX7_rank 11 = .ok (.getfield 38, 3) := by decide +kernel
theorem dX7_rank_14 : decode cX7_rank 14 = .ok (.iload_n 2, 1) := by decide +kernel
theorem dX7_rank_15 : decode cX7_rank 15 = .ok (.invokevirtual 89, 3) := by decide +kernel
theorem dX7_rank_18 : decode cX7_rank 18 = .ok (.ireturn, 1) := by decide +kernel
set_option maxRecDepth 20000 in
theorem ggX7_select_X7_chosenSet : GoodIn wsX7_select wsX7_chosenSet := goodIn_ca (goodIn_r _ [5, 6, 7, 8, 9, 10, 60, 61, 62] (by decide +kernel) (by decide +kernel)) (goodIn_sub (fun _ h => List.mem_cons_of_mem _ (List.mem_append_right _ h)) (by decide +kernel))
set_option maxRecDepth 20000 in
theorem gX7_select_X7_chosenSet : GoodIn wsX7_select (wsV RX7 22 RX7 yX7_chosenSet wsX7_chosenSet) := goodIn_app (goodIn_of _ (by decide +kernel)) ggX7_select_X7_chosenSet
set_option maxRecDepth 20000 in
theorem ggX7_select_X1_memberCount : GoodIn wsX7_select wsX1_memberCount := goodIn_r _ [15, 16, 17, 18, 19, 20, 21, 22, 23, 24, 25, 26, 27, 28, 29, 30, 31, 32, 33, 34, 35, 36, 37, 38, 39, 40, 41, 63, 64, 65] (by decide +kernel) (by decide +kernel)
set_option maxRecDepth 20000 in
theorem gX7_select_X1_memberCount : GoodIn wsX7_select (wsV RX7 42 RX1 yX1_memberCount wsX1_memberCount) := goodIn_app (goodIn_of _ (by decide +kernel)) ggX7_select_X1_memberCount
set_option maxRecDepth 20000 in
theorem ggX7_select_X7_needPlace : GoodIn wsX7_select wsX7_needPlace := goodIn_ca (goodIn_r _ [44, 6, 7] (by decide +kernel) (by decide +kernel)) (goodIn_sub (fun _ h => List.mem_cons_of_mem _ (List.mem_append_right _ h)) (by decide +kernel))
set_option maxRecDepth 20000 in
theorem gX7_select_X7_needPlace : GoodIn wsX7_select (va_wsS RX7 92 yX7_needPlace wsX7_needPlace) := goodIn_app (goodIn_of _ (by decide +kernel)) ggX7_select_X7_needPlace
set_option maxRecDepth 20000 in
theorem ggX7_select_X1_memberAt : GoodIn wsX7_select wsX1_memberAt := goodIn_r _ [48, 16, 49, 50, 51, 20, 52, 22, 27, 28, 29, 30, 35, 36, 37, 38, 39, 40, 41, 53, 54, 33, 55, 56, 63, 64, 65] (by decide +kernel) (by decide +kernel)
set_option maxRecDepth 20000 in
theorem gX7_select_X1_memberAt : GoodIn wsX7_select (wsV RX7 55 RX1 yX1_memberAt wsX1_memberAt) := goodIn_app (goodIn_of _ (by decide +kernel)) ggX7_select_X1_memberAt
theorem dX7_select_0 : decode cX7_select 0 = .ok (.aload_n 0, 1) := by decide +kernel
theorem dX7_select_1 : decode cX7_select 1 = .ok (.iload_n 1, 1) := by decide +kernel
theorem dX7_select_2 : decode cX7_select 2 = .ok (.invokevirtual 22, 3) := by decide +kernel
theorem dX7_select_5 : decode cX7_select 5 = .ok (.astore_n 3, 1) := by decide +kernel
theorem dX7_select_6 : decode cX7_select 6 = .ok (.iload_n 2, 1) := by decide +kernel
theorem dX7_select_7 : decode cX7_select 7 = .ok (.aload_n 3, 1) := by decide +kernel
theorem dX7_select_8 : decode cX7_select 8 = .ok (.getfield 38, 3) := by decide +kernel
theorem dX7_select_11 : decode cX7_select 11 = .ok (.invokevirtual 42, 3) := by decide +kernel
theorem dX7_select_14 : decode cX7_select 14 = .ok (.invokestatic 92, 3) := by decide +kernel
theorem dX7_select_17 : decode cX7_select 17 = .ok (.aload_n 3, 1) := by decide +kernel
theorem dX7_select_18 : decode cX7_select 18 = .ok (.getfield 38, 3) := by decide +kernel
theorem dX7_select_21 : decode cX7_select 21 = .ok (.iload_n 2, 1) := by decide +kernel
theorem dX7_select_22 : decode cX7_select 22 = .ok (.invokevirtual 55, 3) := by decide +kernel
theorem dX7_select_25 : decode cX7_select 25 = .ok (.ireturn, 1) := by decide +kernel
set_option maxRecDepth 20000 in
theorem ggX7_steps_X7_chosenSet : GoodIn wsX7_steps wsX7_chosenSet := goodIn_ca (goodIn_r _ [5, 6, 7, 8, 9, 10, 61, 62, 63] (by decide +kernel) (by decide +kernel)) (goodIn_sub (fun _ h => List.mem_cons_of_mem _ (List.mem_append_left _ (List.mem_append_right _ h))) (by decide +kernel))
set_option maxRecDepth 20000 in
theorem gX7_steps_X7_chosenSet : GoodIn wsX7_steps (wsV RX7 22 RX7 yX7_chosenSet wsX7_chosenSet) := goodIn_app (goodIn_of _ (by decide +kernel)) ggX7_steps_X7_chosenSet
set_option maxRecDepth 20000 in
theorem ggX7_steps_X7_needNumber : GoodIn wsX7_steps wsX7_needNumber := goodIn_ca (goodIn_r _ [13, 14, 15] (by decide +kernel) (by decide +kernel)) (goodIn_sub (fun _ h => List.mem_cons_of_mem _ (List.mem_append_right _ h)) (by decide +kernel))
set_option maxRecDepth 20000 in
theorem gX7_steps_X7_needNumber : GoodIn wsX7_steps (va_wsS RX7 26 yX7_needNumber wsX7_needNumber) := goodIn_app (goodIn_of _ (by decide +kernel)) ggX7_steps_X7_needNumber
set_option maxRecDepth 20000 in
theorem ggX7_steps_X4_searchLength : GoodIn wsX7_steps wsX4_searchLength := goodIn_r _ [20, 21, 22, 23, 24, 25, 19, 26, 27, 28, 29, 30, 31, 32, 33, 34, 35, 36, 37, 38, 39, 40, 41, 42, 43, 44, 45, 46, 47, 48, 49, 50, 51, 52, 53, 54, 55, 56, 57, 64, 65, 66] (by decide +kernel) (by decide +kernel)
set_option maxRecDepth 20000 in
theorem gX7_steps_X4_searchLength : GoodIn wsX7_steps (wsV RX7 95 RX4 yX4_searchLength wsX4_searchLength) := goodIn_app (goodIn_of _ (by decide +kernel)) ggX7_steps_X4_searchLength
theorem dX7_steps_0 : decode cX7_steps 0 = .ok (.aload_n 0, 1) := by decide +kernel
theorem dX7_steps_1 : decode cX7_steps 1 = .ok (.iload_n 1, 1) := by decide +kernel
theorem dX7_steps_2 : decode cX7_steps 2 = .ok (.invokevirtual 22, 3) := by decide +kernel
theorem dX7_steps_5 : decode cX7_steps 5 = .ok (.astore_n 3, 1) := by decide +kernel
theorem dX7_steps_6 : decode cX7_steps 6 = .ok (.iload_n 2, 1) := by decide +kernel
theorem dX7_steps_7 : decode cX7_steps 7 = .ok (.invokestatic 26, 3) := by decide +kernel
theorem dX7_steps_10 : decode cX7_steps 10 = .ok (.aload_n 3, 1) := by decide +kernel
theorem dX7_steps_11 : decode cX7_steps 11 = .ok (.getfield 62, 3) := by decide +kernel
theorem dX7_steps_14 : decode cX7_steps 14 = .ok (.iload_n 2, 1) := by decide +kernel
theorem dX7_steps_15 : decode cX7_steps 15 = .ok (.invokevirtual 95, 3) := by decide +kernel
theorem dX7_steps_18 : decode cX7_steps 18 = .ok (.ireturn, 1) := by decide +kernel
set_option maxRecDepth 20000 in
theorem ggX7_trees_X7_chosenSet : GoodIn wsX7_trees wsX7_chosenSet := goodIn_ca (goodIn_r _ [5, 6, 7, 8, 9, 10, 31, 32, 33] (by decide +kernel) (by decide +kernel)) (goodIn_sub (fun _ h => List.mem_cons_of_mem _ (List.mem_append_right _ h)) (by decide +kernel))
set_option maxRecDepth 20000 in
theorem gX7_trees_X7_chosenSet : GoodIn wsX7_trees (wsV RX7 22 RX7 yX7_chosenSet wsX7_chosenSet) := goodIn_app (goodIn_of _ (by decide +kernel)) ggX7_trees_X7_chosenSet
set_option maxRecDepth 20000 in
theorem ggX7_trees_X4_treeCount : GoodIn wsX7_trees wsX4_treeCount := goodIn_r _ [15, 16, 17, 18, 19, 20, 21, 22, 23, 24, 25, 14, 26, 27, 34, 35, 36] (by decide +kernel) (by decide +kernel)
set_option maxRecDepth 20000 in
theorem gX7_trees_X4_treeCount : GoodIn wsX7_trees (wsV RX7 98 RX4 yX4_treeCount wsX4_treeCount) := goodIn_app (goodIn_of _ (by decide +kernel)) ggX7_trees_X4_treeCount
theorem dX7_trees_0 : decode cX7_trees 0 = .ok (.aload_n 0, 1) := by decide +kernel
theorem dX7_trees_1 : decode cX7_trees 1 = .ok (.iload_n 1, 1) := by decide +kernel
theorem dX7_trees_2 : decode cX7_trees 2 = .ok (.invokevirtual 22, 3) := by decide +kernel
theorem dX7_trees_5 : decode cX7_trees 5 = .ok (.getfield 62, 3) := by decide +kernel
theorem dX7_trees_8 : decode cX7_trees 8 = .ok (.invokevirtual 98, 3) := by decide +kernel
theorem dX7_trees_11 : decode cX7_trees 11 = .ok (.ireturn, 1) := by decide +kernel
set_option maxRecDepth 20000 in
theorem ggX7_clusterMinimum_X7_chosenSet : GoodIn wsX7_clusterMinimum wsX7_chosenSet := goodIn_ca (goodIn_r _ [5, 6, 7, 8, 9, 10, 34, 35, 36] (by decide +kernel) (by decide +kernel)) (goodIn_sub (fun _ h => List.mem_cons_of_mem _ (List.mem_append_right _ h)) (by decide +kernel))
set_option maxRecDepth 20000 in
theorem gX7_clusterMinimum_X7_chosenSet : GoodIn wsX7_clusterMinimum (wsV RX7 22 RX7 yX7_chosenSet wsX7_chosenSet) := goodIn_app (goodIn_of _ (by decide +kernel)) ggX7_clusterMinimum_X7_chosenSet
set_option maxRecDepth 20000 in
theorem ggX7_clusterMinimum_X7_needPlace : GoodIn wsX7_clusterMinimum wsX7_needPlace := goodIn_ca (goodIn_r _ [13, 6, 7] (by decide +kernel) (by decide +kernel)) (goodIn_sub (fun _ h => List.mem_cons_of_mem _ (List.mem_append_right _ h)) (by decide +kernel))
set_option maxRecDepth 20000 in
theorem gX7_clusterMinimum_X7_needPlace : GoodIn wsX7_clusterMinimum (va_wsS RX7 92 yX7_needPlace wsX7_needPlace) := goodIn_app (goodIn_of _ (by decide +kernel)) ggX7_clusterMinimum_X7_needPlace
set_option maxRecDepth 20000 in
theorem ggX7_clusterMinimum_X4_cluster : GoodIn wsX7_clusterMinimum wsX4_cluster := goodIn_r _ [18, 19, 37, 38, 39] (by decide +kernel) (by decide +kernel)
set_option maxRecDepth 20000 in
theorem gX7_clusterMinimum_X4_cluster : GoodIn wsX7_clusterMinimum (wsV RX7 101 RX4 yX4_cluster wsX4_cluster) := goodIn_app (goodIn_of _ (by decide +kernel)) ggX7_clusterMinimum_X4_cluster
set_option maxRecDepth 20000 in
theorem ggX7_clusterMinimum_X6_least : GoodIn wsX7_clusterMinimum wsX6_least := goodIn_r _ [23, 24, 25, 26, 27, 28, 29, 30] (by decide +kernel) (by decide +kernel)
set_option maxRecDepth 20000 in
theorem gX7_clusterMinimum_X6_least : GoodIn wsX7_clusterMinimum (va_wsS RX7 105 yX6_least wsX6_least) := goodIn_app (goodIn_of _ (by decide +kernel)) ggX7_clusterMinimum_X6_least
theorem dX7_clusterMinimum_0 : decode cX7_clusterMinimum 0 = .ok (.aload_n 0, 1) := by decide +kernel
theorem dX7_clusterMinimum_1 : decode cX7_clusterMinimum 1 = .ok (.iload_n 1, 1) := by decide +kernel
theorem dX7_clusterMinimum_2 : decode cX7_clusterMinimum 2 = .ok (.invokevirtual 22, 3) := by decide +kernel
theorem dX7_clusterMinimum_5 : decode cX7_clusterMinimum 5 = .ok (.astore_n 3, 1) := by decide +kernel
theorem dX7_clusterMinimum_6 : decode cX7_clusterMinimum 6 = .ok (.iload_n 2, 1) := by decide +kernel
theorem dX7_clusterMinimum_7 : decode cX7_clusterMinimum 7 = .ok (.bipush 64, 2) := by decide +kernel
theorem dX7_clusterMinimum_9 : decode cX7_clusterMinimum 9 = .ok (.invokestatic 92, 3) := by decide +kernel
theorem dX7_clusterMinimum_12 : decode cX7_clusterMinimum 12 = .ok (.aload_n 3, 1) := by decide +kernel
theorem dX7_clusterMinimum_13 : decode cX7_clusterMinimum 13 = .ok (.getfield 62, 3) := by decide +kernel
theorem dX7_clusterMinimum_16 : decode cX7_clusterMinimum 16 = .ok (.iload_n 2, 1) := by decide +kernel
theorem dX7_clusterMinimum_17 : decode cX7_clusterMinimum 17 = .ok (.invokevirtual 101, 3) := by decide +kernel
theorem dX7_clusterMinimum_20 : decode cX7_clusterMinimum 20 = .ok (.invokestatic 105, 3) := by decide +kernel
theorem dX7_clusterMinimum_23 : decode cX7_clusterMinimum 23 = .ok (.ireturn, 1) := by decide +kernel
set_option maxRecDepth 20000 in
theorem ggX7_clusterMaximum_X7_chosenSet : GoodIn wsX7_clusterMaximum wsX7_chosenSet := goodIn_ca (goodIn_r _ [5, 6, 7, 8, 9, 10, 34, 35, 36] (by decide +kernel) (by decide +kernel)) (goodIn_sub (fun _ h => List.mem_cons_of_mem _ (List.mem_append_right _ h)) (by decide +kernel))
set_option maxRecDepth 20000 in
theorem gX7_clusterMaximum_X7_chosenSet : GoodIn wsX7_clusterMaximum (wsV RX7 22 RX7 yX7_chosenSet wsX7_chosenSet) := goodIn_app (goodIn_of _ (by decide +kernel)) ggX7_clusterMaximum_X7_chosenSet
set_option maxRecDepth 20000 in
theorem ggX7_clusterMaximum_X7_needPlace : GoodIn wsX7_clusterMaximum wsX7_needPlace := goodIn_ca (goodIn_r _ [13, 6, 7] (by decide +kernel) (by decide +kernel)) (goodIn_sub (fun _ h => List.mem_cons_of_mem _ (List.mem_append_right _ h)) (by decide +kernel))
set_option maxRecDepth 20000 in
theorem gX7_clusterMaximum_X7_needPlace : GoodIn wsX7_clusterMaximum (va_wsS RX7 92 yX7_needPlace wsX7_needPlace) := goodIn_app (goodIn_of _ (by decide +kernel)) ggX7_clusterMaximum_X7_needPlace
set_option maxRecDepth 20000 in
theorem ggX7_clusterMaximum_X4_cluster : GoodIn wsX7_clusterMaximum wsX4_cluster := goodIn_r _ [18, 19, 37, 38, 39] (by decide +kernel) (by decide +kernel)
set_option maxRecDepth 20000 in
theorem gX7_clusterMaximum_X4_cluster : GoodIn wsX7_clusterMaximum (wsV RX7 101 RX4 yX4_cluster wsX4_cluster) := goodIn_app (goodIn_of _ (by decide +kernel)) ggX7_clusterMaximum_X4_cluster
set_option maxRecDepth 20000 in
theorem ggX7_clusterMaximum_X6_greatest : GoodIn wsX7_clusterMaximum wsX6_greatest := goodIn_r _ [23, 24, 25, 26, 27, 28, 29, 30] (by decide +kernel) (by decide +kernel)
set_option maxRecDepth 20000 in
theorem gX7_clusterMaximum_X6_greatest : GoodIn wsX7_clusterMaximum (va_wsS RX7 110 yX6_greatest wsX6_greatest) := goodIn_app (goodIn_of _ (by decide +kernel)) ggX7_clusterMaximum_X6_greatest
theorem dX7_clusterMaximum_0 : decode cX7_clusterMaximum 0 = .ok (.aload_n 0, 1) := by decide +kernel
theorem dX7_clusterMaximum_1 : decode cX7_clusterMaximum 1 = .ok (.iload_n 1, 1) := by decide +kernel
theorem dX7_clusterMaximum_2 : decode cX7_clusterMaximum 2 = .ok (.invokevirtual 22, 3) := by decide +kernel
theorem dX7_clusterMaximum_5 : decode cX7_clusterMaximum 5 = .ok (.astore_n 3, 1) := by decide +kernel
theorem dX7_clusterMaximum_6 : decode cX7_clusterMaximum 6 = .ok (.iload_n 2, 1) := by decide +kernel
theorem dX7_clusterMaximum_7 : decode cX7_clusterMaximum 7 = .ok (.bipush 64, 2) := by decide +kernel
theorem dX7_clusterMaximum_9 : decode cX7_clusterMaximum 9 = .ok (.invokestatic 92, 3) := by decide +kernel
theorem dX7_clusterMaximum_12 : decode cX7_clusterMaximum 12 = .ok (.aload_n 3, 1) := by decide +kernel
theorem dX7_clusterMaximum_13 : decode cX7_clusterMaximum 13 = .ok (.getfield 62, 3) := by decide +kernel
theorem dX7_clusterMaximum_16 : decode cX7_clusterMaximum 16 = .ok (.iload_n 2, 1) := by decide +kernel
theorem dX7_clusterMaximum_17 : decode cX7_clusterMaximum 17 = .ok (.invokevirtual 101, 3) := by decide +kernel
theorem dX7_clusterMaximum_20 : decode cX7_clusterMaximum 20 = .ok (.invokestatic 110, 3) := by decide +kernel
theorem dX7_clusterMaximum_23 : decode cX7_clusterMaximum 23 = .ok (.ireturn, 1) := by decide +kernel
set_option maxRecDepth 20000 in
theorem ggX7_prefixes_X7_chosenSet : GoodIn wsX7_prefixes wsX7_chosenSet := goodIn_ca (goodIn_r _ [5, 6, 7, 8, 9, 10, 51, 52, 53] (by decide +kernel) (by decide +kernel)) (goodIn_sub (fun _ h => List.mem_cons_of_mem _ (List.mem_append_right _ h)) (by decide +kernel))
set_option maxRecDepth 20000 in
theorem gX7_prefixes_X7_chosenSet : GoodIn wsX7_prefixes (wsV RX7 22 RX7 yX7_chosenSet wsX7_chosenSet) := goodIn_app (goodIn_of _ (by decide +kernel)) ggX7_prefixes_X7_chosenSet
set_option maxRecDepth 20000 in
theorem ggX7_prefixes_X7_needPlace : GoodIn wsX7_prefixes wsX7_needPlace := goodIn_ca (goodIn_r _ [13, 6, 7] (by decide +kernel) (by decide +kernel)) (goodIn_sub (fun _ h => List.mem_cons_of_mem _ (List.mem_append_right _ h)) (by decide +kernel))
set_option maxRecDepth 20000 in
theorem gX7_prefixes_X7_needPlace : GoodIn wsX7_prefixes (va_wsS RX7 92 yX7_needPlace wsX7_needPlace) := goodIn_app (goodIn_of _ (by decide +kernel)) ggX7_prefixes_X7_needPlace
set_option maxRecDepth 20000 in
theorem ggX7_prefixes_X5_prefixCount : GoodIn wsX7_prefixes wsX5_prefixCount := goodIn_r _ [18, 19, 20, 21, 17, 22, 23, 24, 25, 26, 27, 28, 29, 30, 31, 32, 33, 34, 35, 36, 37, 38, 39, 40, 41, 42, 43, 44, 45, 46, 47, 54, 55] (by decide +kernel) (by decide +kernel)
set_option maxRecDepth 20000 in
theorem gX7_prefixes_X5_prefixCount : GoodIn wsX7_prefixes (wsV RX7 116 RX5 yX5_prefixCount wsX5_prefixCount) := goodIn_app (goodIn_of _ (by decide +kernel)) ggX7_prefixes_X5_prefixCount
theorem dX7_prefixes_0 : decode cX7_prefixes 0 = .ok (.aload_n 0, 1) := by decide +kernel
theorem dX7_prefixes_1 : decode cX7_prefixes 1 = .ok (.iload_n 1, 1) := by decide +kernel
theorem dX7_prefixes_2 : decode cX7_prefixes 2 = .ok (.invokevirtual 22, 3) := by decide +kernel
theorem dX7_prefixes_5 : decode cX7_prefixes 5 = .ok (.astore_n 3, 1) := by decide +kernel
theorem dX7_prefixes_6 : decode cX7_prefixes 6 = .ok (.iload_n 2, 1) := by decide +kernel
theorem dX7_prefixes_7 : decode cX7_prefixes 7 = .ok (.bipush 13, 2) := by decide +kernel
theorem dX7_prefixes_9 : decode cX7_prefixes 9 = .ok (.invokestatic 92, 3) := by decide +kernel
theorem dX7_prefixes_12 : decode cX7_prefixes 12 = .ok (.aload_n 3, 1) := by decide +kernel
theorem dX7_prefixes_13 : decode cX7_prefixes 13 = .ok (.getfield 112, 3) := by decide +kernel
theorem dX7_prefixes_16 : decode cX7_prefixes 16 = .ok (.iload_n 2, 1) := by decide +kernel
theorem dX7_prefixes_17 : decode cX7_prefixes 17 = .ok (.invokevirtual 116, 3) := by decide +kernel
theorem dX7_prefixes_20 : decode cX7_prefixes 20 = .ok (.ireturn, 1) := by decide +kernel
set_option maxRecDepth 20000 in
theorem ggX7_longestMatch_X7_chosenSet : GoodIn wsX7_longestMatch wsX7_chosenSet := goodIn_ca (goodIn_r _ [5, 6, 7, 8, 9, 10, 55, 56, 57] (by decide +kernel) (by decide +kernel)) (goodIn_sub (fun _ h => List.mem_cons_of_mem _ (List.mem_append_left _ (List.mem_append_right _ h))) (by decide +kernel))
set_option maxRecDepth 20000 in
theorem gX7_longestMatch_X7_chosenSet : GoodIn wsX7_longestMatch (wsV RX7 22 RX7 yX7_chosenSet wsX7_chosenSet) := goodIn_app (goodIn_of _ (by decide +kernel)) ggX7_longestMatch_X7_chosenSet
set_option maxRecDepth 20000 in
theorem ggX7_longestMatch_X7_needNumber : GoodIn wsX7_longestMatch wsX7_needNumber := goodIn_ca (goodIn_r _ [13, 14, 15] (by decide +kernel) (by decide +kernel)) (goodIn_sub (fun _ h => List.mem_cons_of_mem _ (List.mem_append_right _ h)) (by decide +kernel))
set_option maxRecDepth 20000 in
theorem gX7_longestMatch_X7_needNumber : GoodIn wsX7_longestMatch (va_wsS RX7 26 yX7_needNumber wsX7_needNumber) := goodIn_app (goodIn_of _ (by decide +kernel)) ggX7_longestMatch_X7_needNumber
set_option maxRecDepth 20000 in
theorem ggX7_longestMatch_X5_search : GoodIn wsX7_longestMatch wsX5_search := goodIn_r _ [20, 21, 22, 23, 24, 25, 26, 19, 27, 28, 29, 30, 31, 32, 33, 34, 35, 36, 37, 38, 39, 40, 41, 42, 43, 44, 45, 46, 47, 48, 49, 58, 53, 54, 59] (by decide +kernel) (by decide +kernel)
set_option maxRecDepth 20000 in
theorem gX7_longestMatch_X5_search : GoodIn wsX7_longestMatch (wsV RX7 121 RX5 yX5_search wsX5_search) := goodIn_app (goodIn_of _ (by decide +kernel)) ggX7_longestMatch_X5_search
theorem dX7_longestMatch_0 : decode cX7_longestMatch 0 = .ok (.aload_n 0, 1) := by decide +kernel
theorem dX7_longestMatch_1 : decode cX7_longestMatch 1 = .ok (.iload_n 1, 1) := by decide +kernel
theorem dX7_longestMatch_2 : decode cX7_longestMatch 2 = .ok (.invokevirtual 22, 3) := by decide +kernel
theorem dX7_longestMatch_5 : decode cX7_longestMatch 5 = .ok (.astore_n 3, 1) := by decide +kernel
theorem dX7_longestMatch_6 : decode cX7_longestMatch 6 = .ok (.iload_n 2, 1) := by decide +kernel
theorem dX7_longestMatch_7 : decode cX7_longestMatch 7 = .ok (.invokestatic 26, 3) := by decide +kernel
theorem dX7_longestMatch_10 : decode cX7_longestMatch 10 = .ok (.aload_n 3, 1) := by decide +kernel
theorem dX7_longestMatch_11 : decode cX7_longestMatch 11 = .ok (.getfield 112, 3) := by decide +kernel
theorem dX7_longestMatch_14 : decode cX7_longestMatch 14 = .ok (.iload_n 2, 1) := by decide +kernel
theorem dX7_longestMatch_15 : decode cX7_longestMatch 15 = .ok (.invokevirtual 121, 3) := by decide +kernel
theorem dX7_longestMatch_18 : decode cX7_longestMatch 18 = .ok (.getfield 125, 3) := by decide +kernel
theorem dX7_longestMatch_21 : decode cX7_longestMatch 21 = .ok (.ireturn, 1) := by decide +kernel
set_option maxRecDepth 20000 in
theorem ggX7_probes_X7_chosenSet : GoodIn wsX7_probes wsX7_chosenSet := goodIn_ca (goodIn_r _ [5, 6, 7, 8, 9, 10, 55, 56, 57] (by decide +kernel) (by decide +kernel)) (goodIn_sub (fun _ h => List.mem_cons_of_mem _ (List.mem_append_left _ (List.mem_append_right _ h))) (by decide +kernel))
set_option maxRecDepth 20000 in
theorem gX7_probes_X7_chosenSet : GoodIn wsX7_probes (wsV RX7 22 RX7 yX7_chosenSet wsX7_chosenSet) := goodIn_app (goodIn_of _ (by decide +kernel)) ggX7_probes_X7_chosenSet
set_option maxRecDepth 20000 in
theorem ggX7_probes_X7_needNumber : GoodIn wsX7_probes wsX7_needNumber := goodIn_ca (goodIn_r _ [13, 14, 15] (by decide +kernel) (by decide +kernel)) (goodIn_sub (fun _ h => List.mem_cons_of_mem _ (List.mem_append_right _ h)) (by decide +kernel))
set_option maxRecDepth 20000 in
theorem gX7_probes_X7_needNumber : GoodIn wsX7_probes (va_wsS RX7 26 yX7_needNumber wsX7_needNumber) := goodIn_app (goodIn_of _ (by decide +kernel)) ggX7_probes_X7_needNumber
set_option maxRecDepth 20000 in
theorem ggX7_probes_X5_search : GoodIn wsX7_probes wsX5_search := goodIn_r _ [20, 21, 22, 23, 24, 25, 26, 19, 27, 28, 29, 30, 31, 32, 33, 34, 35, 36, 37, 38, 39, 40, 41, 42, 43, 44, 45, 46, 47, 48, 49, 58, 53, 54, 59] (by decide +kernel) (by decide +kernel)
set_option maxRecDepth 20000 in
theorem gX7_probes_X5_search : GoodIn wsX7_probes (wsV RX7 121 RX5 yX5_search wsX5_search) := goodIn_app (goodIn_of _ (by decide +kernel)) ggX7_probes_X5_search
theorem dX7_probes_0 : decode cX7_probes 0 = .ok (.aload_n 0, 1) := by decide +kernel
theorem dX7_probes_1 : decode cX7_probes 1 = .ok (.iload_n 1, 1) := by decide +kernel
theorem dX7_probes_2 : decode cX7_probes 2 = .ok (.invokevirtual 22, 3) := by decide +kernel
theorem dX7_probes_5 : decode cX7_probes 5 = .ok (.astore_n 3, 1) := by decide +kernel
theorem dX7_probes_6 : decode cX7_probes 6 = .ok (.iload_n 2, 1) := by decide +kernel
theorem dX7_probes_7 : decode cX7_probes 7 = .ok (.invokestatic 26, 3) := by decide +kernel
theorem dX7_probes_10 : decode cX7_probes 10 = .ok (.aload_n 3, 1) := by decide +kernel
theorem dX7_probes_11 : decode cX7_probes 11 = .ok (.getfield 112, 3) := by decide +kernel
theorem dX7_probes_14 : decode cX7_probes 14 = .ok (.iload_n 2, 1) := by decide +kernel
theorem dX7_probes_15 : decode cX7_probes 15 = .ok (.invokevirtual 121, 3) := by decide +kernel
theorem dX7_probes_18 : decode cX7_probes 18 = .ok (.getfield 131, 3) := by decide +kernel
theorem dX7_probes_21 : decode cX7_probes 21 = .ok (.ireturn, 1) := by decide +kernel
set_option maxRecDepth 20000 in
theorem ggX7_buckets_X7_chosenSet : GoodIn wsX7_buckets wsX7_chosenSet := goodIn_ca (goodIn_r _ [5, 6, 7, 8, 9, 10, 45, 46, 47] (by decide +kernel) (by decide +kernel)) (goodIn_sub (fun _ h => List.mem_cons_of_mem _ (List.mem_append_right _ h)) (by decide +kernel))
set_option maxRecDepth 20000 in
theorem gX7_buckets_X7_chosenSet : GoodIn wsX7_buckets (wsV RX7 22 RX7 yX7_chosenSet wsX7_chosenSet) := goodIn_app (goodIn_of _ (by decide +kernel)) ggX7_buckets_X7_chosenSet
set_option maxRecDepth 20000 in
theorem ggX7_buckets_X1_bucketCount : GoodIn wsX7_buckets wsX1_bucketCount := goodIn_r _ [15, 16, 17, 18, 19, 20, 21, 22, 23, 24, 25, 26, 27, 28, 29, 30, 31, 32, 33, 34, 35, 36, 37, 38, 39, 40, 41, 48, 49, 50] (by decide +kernel) (by decide +kernel)
set_option maxRecDepth 20000 in
theorem gX7_buckets_X1_bucketCount : GoodIn wsX7_buckets (wsV RX7 134 RX1 yX1_bucketCount wsX1_bucketCount) := goodIn_app (goodIn_of _ (by decide +kernel)) ggX7_buckets_X1_bucketCount
theorem dX7_buckets_0 : decode cX7_buckets 0 = .ok (.aload_n 0, 1) := by decide +kernel
theorem dX7_buckets_1 : decode cX7_buckets 1 = .ok (.iload_n 1, 1) := by decide +kernel
theorem dX7_buckets_2 : decode cX7_buckets 2 = .ok (.invokevirtual 22, 3) := by decide +kernel
theorem dX7_buckets_5 : decode cX7_buckets 5 = .ok (.getfield 38, 3) := by decide +kernel
theorem dX7_buckets_8 : decode cX7_buckets 8 = .ok (.invokevirtual 134, 3) := by decide +kernel
theorem dX7_buckets_11 : decode cX7_buckets 11 = .ok (.ireturn, 1) := by decide +kernel
set_option maxRecDepth 20000 in
theorem ggX7_bucketSize_X7_chosenSet : GoodIn wsX7_bucketSize wsX7_chosenSet := goodIn_ca (goodIn_r _ [5, 6, 7, 8, 9, 10, 65, 66, 67] (by decide +kernel) (by decide +kernel)) (goodIn_sub (fun _ h => List.mem_cons_of_mem _ (List.mem_append_right _ h)) (by decide +kernel))
set_option maxRecDepth 20000 in
theorem gX7_bucketSize_X7_chosenSet : GoodIn wsX7_bucketSize (wsV RX7 22 RX7 yX7_chosenSet wsX7_chosenSet) := goodIn_app (goodIn_of _ (by decide +kernel)) ggX7_bucketSize_X7_chosenSet
set_option maxRecDepth 20000 in
theorem ggX7_bucketSize_X1_bucketCount : GoodIn wsX7_bucketSize wsX1_bucketCount := goodIn_r _ [15, 16, 17, 18, 19, 20, 21, 22, 23, 24, 25, 26, 27, 28, 29, 30, 31, 32, 33, 34, 35, 36, 37, 38, 39, 40, 41, 68, 69, 70] (by decide +kernel) (by decide +kernel)
set_option maxRecDepth 20000 in
theorem gX7_bucketSize_X1_bucketCount : GoodIn wsX7_bucketSize (wsV RX7 134 RX1 yX1_bucketCount wsX1_bucketCount) := goodIn_app (goodIn_of _ (by decide +kernel)) ggX7_bucketSize_X1_bucketCount
set_option maxRecDepth 20000 in
theorem ggX7_bucketSize_X7_needPlace : GoodIn wsX7_bucketSize wsX7_needPlace := goodIn_ca (goodIn_r _ [44, 6, 7] (by decide +kernel) (by decide +kernel)) (goodIn_sub (fun _ h => List.mem_cons_of_mem _ (List.mem_append_right _ h)) (by decide +kernel))
set_option maxRecDepth 20000 in
theorem gX7_bucketSize_X7_needPlace : GoodIn wsX7_bucketSize (va_wsS RX7 92 yX7_needPlace wsX7_needPlace) := goodIn_app (goodIn_of _ (by decide +kernel)) ggX7_bucketSize_X7_needPlace
set_option maxRecDepth 20000 in
theorem ggX7_bucketSize_X1_separatorAt : GoodIn wsX7_bucketSize wsX1_separatorAt := goodIn_r _ [48, 16, 49, 50, 51, 20, 52, 22, 27, 28, 29, 30, 35, 36, 37, 38, 39, 40, 41, 53, 54, 33, 55, 56, 68, 69, 70] (by decide +kernel) (by decide +kernel)
set_option maxRecDepth 20000 in
theorem gX7_bucketSize_X1_separatorAt : GoodIn wsX7_bucketSize (wsV RX7 137 RX1 yX1_separatorAt wsX1_separatorAt) := goodIn_app (goodIn_of _ (by decide +kernel)) ggX7_bucketSize_X1_separatorAt
set_option maxRecDepth 20000 in
theorem ggX7_bucketSize_X1_membersFrom : GoodIn wsX7_bucketSize wsX1_membersFrom := goodIn_r _ [60, 16, 61, 17, 18, 19, 20, 21, 22, 23, 24, 25, 26, 27, 28, 29, 30, 31, 32, 33, 34, 35, 36, 37, 38, 39, 40, 41, 49, 50, 51, 52, 53, 54, 55, 56, 68, 69, 70] (by decide +kernel) (by decide +kernel)
set_option maxRecDepth 20000 in
theorem gX7_bucketSize_X1_membersFrom : GoodIn wsX7_bucketSize (wsV RX7 140 RX1 yX1_membersFrom wsX1_membersFrom) := goodIn_app (goodIn_of _ (by decide +kernel)) ggX7_bucketSize_X1_membersFrom
theorem dX7_bucketSize_0 : decode cX7_bucketSize 0 = .ok (.aload_n 0, 1) := by decide +kernel
theorem dX7_bucketSize_1 : decode cX7_bucketSize 1 = .ok (.iload_n 1, 1) := by decide +kernel
theorem dX7_bucketSize_2 : decode cX7_bucketSize 2 = .ok (.invokevirtual 22, 3) := by decide +kernel
theorem dX7_bucketSize_5 : decode cX7_bucketSize 5 = .ok (.astore_n 3, 1) := by decide +kernel
theorem dX7_bucketSize_6 : decode cX7_bucketSize 6 = .ok (.iload_n 2, 1) := by decide +kernel
theorem dX7_bucketSize_7 : decode cX7_bucketSize 7 = .ok (.aload_n 3, 1) := by decide +kernel
theorem dX7_bucketSize_8 : decode cX7_bucketSize 8 = .ok (.getfield 38, 3) := by decide +kernel
theorem dX7_bucketSize_11 : decode cX7_bucketSize 11 = .ok (.invokevirtual 134, 3) := by decide +kernel
theorem dX7_bucketSize_14 : decode cX7_bucketSize 14 = .ok (.invokestatic 92, 3) := by decide +kernel
theorem dX7_bucketSize_17 : decode cX7_bucketSize 17 = .ok (.aload_n 3, 1) := by decide +kernel
theorem dX7_bucketSize_18 : decode cX7_bucketSize 18 = .ok (.getfield 38, 3) := by decide +kernel
theorem dX7_bucketSize_21 : decode cX7_bucketSize 21 = .ok (.aload_n 3, 1) := by decide +kernel
theorem dX7_bucketSize_22 : decode cX7_bucketSize 22 = .ok (.getfield 38, 3) := by decide +kernel
theorem dX7_bucketSize_25 : decode cX7_bucketSize 25 = .ok (.iload_n 2, 1) := by decide +kernel
theorem dX7_bucketSize_26 : decode cX7_bucketSize 26 = .ok (.invokevirtual 137, 3) := by decide +kernel
theorem dX7_bucketSize_29 : decode cX7_bucketSize 29 = .ok (.invokevirtual 140, 3) := by decide +kernel
theorem dX7_bucketSize_32 : decode cX7_bucketSize 32 = .ok (.ireturn, 1) := by decide +kernel
theorem dX7_chosenSet_0 : decode cX7_chosenSet 0 = .ok (.iload_n 1, 1) := by decide +kernel
theorem dX7_chosenSet_1 : decode cX7_chosenSet 1 = .ok (.tableswitch 42 0 2 #[27, 32, 37], 27) := by decide +kernel
theorem dX7_chosenSet_28 : decode cX7_chosenSet 28 = .ok (.aload_n 0, 1) := by decide +kernel
theorem dX7_chosenSet_29 : decode cX7_chosenSet 29 = .ok (.getfield 10, 3) := by decide +kernel
theorem dX7_chosenSet_32 : decode cX7_chosenSet 32 = .ok (.areturn, 1) := by decide +kernel
theorem dX7_chosenSet_33 : decode cX7_chosenSet 33 = .ok (.aload_n 0, 1) := by decide +kernel
theorem dX7_chosenSet_34 : decode cX7_chosenSet 34 = .ok (.getfield 16, 3) := by decide +kernel
theorem dX7_chosenSet_37 : decode cX7_chosenSet 37 = .ok (.areturn, 1) := by decide +kernel
theorem dX7_chosenSet_38 : decode cX7_chosenSet 38 = .ok (.aload_n 0, 1) := by decide +kernel
theorem dX7_chosenSet_39 : decode cX7_chosenSet 39 = .ok (.getfield 19, 3) := by decide +kernel
theorem dX7_chosenSet_42 : decode cX7_chosenSet 42 = .ok (.areturn, 1) := by decide +kernel
theorem dX7_chosenSet_43 : decode cX7_chosenSet 43 = .ok (.new 146, 3) := by decide +kernel
theorem dX7_chosenSet_46 : decode cX7_chosenSet 46 = .ok (.dup, 1) := by decide +kernel
theorem dX7_chosenSet_47 : decode cX7_chosenSet 47 = .ok (.ldc 148, 2) := by decide +kernel
theorem dX7_chosenSet_49 : decode cX7_chosenSet 49 = .ok (.invokespecial 150, 3) := by decide +kernel
theorem dX7_chosenSet_52 : decode cX7_chosenSet 52 = .ok (.athrow, 1) := by decide +kernel
theorem dX7_needNumber_0 : decode cX7_needNumber 0 = .ok (.iload_n 0, 1) := by decide +kernel
theorem dX7_needNumber_1 : decode cX7_needNumber 1 = .ok (.ifCond .lt 10, 3) := by decide +kernel
theorem dX7_needNumber_4 : decode cX7_needNumber 4 = .ok (.iload_n 0, 1) := by decide +kernel
theorem dX7_needNumber_5 : decode cX7_needNumber 5 = .ok (.sipush 4096, 3) := by decide +kernel
theorem dX7_needNumber_8 : decode cX7_needNumber 8 = .ok (.if_icmp .lt 13, 3) := by decide +kernel
theorem dX7_needNumber_11 : decode cX7_needNumber 11 = .ok (.new 151, 3) := by decide +kernel
theorem dX7_needNumber_14 : decode cX7_needNumber 14 = .ok (.dup, 1) := by decide +kernel
theorem dX7_needNumber_15 : decode cX7_needNumber 15 = .ok (.ldc 153, 2) := by decide +kernel
theorem dX7_needNumber_17 : decode cX7_needNumber 17 = .ok (.invokespecial 155, 3) := by decide +kernel
theorem dX7_needNumber_20 : decode cX7_needNumber 20 = .ok (.athrow, 1) := by decide +kernel
theorem dX7_needNumber_21 : decode cX7_needNumber 21 = .ok (.return_, 1) := by decide +kernel
theorem dX7_needMember_0 : decode cX7_needMember 0 = .ok (.iload_n 0, 1) := by decide +kernel
theorem dX7_needMember_1 : decode cX7_needMember 1 = .ok (.iconst (-1), 1) := by decide +kernel
theorem dX7_needMember_2 : decode cX7_needMember 2 = .ok (.if_icmp .ne 13, 3) := by decide +kernel
theorem dX7_needMember_5 : decode cX7_needMember 5 = .ok (.new 160, 3) := by decide +kernel
theorem dX7_needMember_8 : decode cX7_needMember 8 = .ok (.dup, 1) := by decide +kernel
theorem dX7_needMember_9 : decode cX7_needMember 9 = .ok (.ldc 162, 2) := by decide +kernel
theorem dX7_needMember_11 : decode cX7_needMember 11 = .ok (.invokespecial 164, 3) := by decide +kernel
theorem dX7_needMember_14 : decode cX7_needMember 14 = .ok (.athrow, 1) := by decide +kernel
theorem dX7_needMember_15 : decode cX7_needMember 15 = .ok (.return_, 1) := by decide +kernel
theorem dX7_needPlace_0 : decode cX7_needPlace 0 = .ok (.iload_n 0, 1) := by decide +kernel
theorem dX7_needPlace_1 : decode cX7_needPlace 1 = .ok (.ifCond .lt 8, 3) := by decide +kernel
theorem dX7_needPlace_4 : decode cX7_needPlace 4 = .ok (.iload_n 0, 1) := by decide +kernel
theorem dX7_needPlace_5 : decode cX7_needPlace 5 = .ok (.iload_n 1, 1) := by decide +kernel
theorem dX7_needPlace_6 : decode cX7_needPlace 6 = .ok (.if_icmp .lt 13, 3) := by decide +kernel
theorem dX7_needPlace_9 : decode cX7_needPlace 9 = .ok (.new 146, 3) := by decide +kernel
theorem dX7_needPlace_12 : decode cX7_needPlace 12 = .ok (.dup, 1) := by decide +kernel
theorem dX7_needPlace_13 : decode cX7_needPlace 13 = .ok (.ldc 165, 2) := by decide +kernel
theorem dX7_needPlace_15 : decode cX7_needPlace 15 = .ok (.invokespecial 150, 3) := by decide +kernel
theorem dX7_needPlace_18 : decode cX7_needPlace 18 = .ok (.athrow, 1) := by decide +kernel
theorem dX7_needPlace_19 : decode cX7_needPlace 19 = .ok (.return_, 1) := by decide +kernel
