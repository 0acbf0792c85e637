theorem dX8_init_0 : decode cX8_init 0 = .ok (.aload_n 0, 1) := by decide +kernel
theorem dX8_init_1 : decode cX8_init 1 = .ok (.invokespecial 1, 3) := by decide +kernel
theorem dX8_init_4 : decode cX8_init 4 = .ok (.aload_n 0, 1) := by decide +kernel
theorem dX8_init_5 : decode cX8_init 5 = .ok (.sipush 12288, 3) := by decide +kernel
theorem dX8_init_8 : decode cX8_init 8 = .ok (.newarray .boolean, 2) := by decide +kernel
theorem dX8_init_10 : decode cX8_init 10 = .ok (.putfield 7, 3) := by decide +kernel
theorem dX8_init_13 : decode cX8_init 13 = .ok (.aload_n 0, 1) := by decide +kernel
theorem dX8_init_14 : decode cX8_init 14 = .ok (.iconst 3, 1) := by decide +kernel
theorem dX8_init_15 : decode cX8_init 15 = .ok (.newarray .int, 2) := by decide +kernel
theorem dX8_init_17 : decode cX8_init 17 = .ok (.putfield 13, 3) := by decide +kernel
theorem dX8_init_20 : decode cX8_init 20 = .ok (.aload_n 0, 1) := by decide +kernel
theorem dX8_init_21 : decode cX8_init 21 = .ok (.sipush 6156, 3) := by decide +kernel
theorem dX8_init_24 : decode cX8_init 24 = .ok (.newarray .int, 2) := by decide +kernel
theorem dX8_init_26 : decode cX8_init 26 = .ok (.putfield 17, 3) := by decide +kernel
theorem dX8_init_29 : decode cX8_init 29 = .ok (.aload_n 0, 1) := by decide +kernel
theorem dX8_init_30 : decode cX8_init 30 = .ok (.iconst 3, 1) := by decide +kernel
theorem dX8_init_31 : decode cX8_init 31 = .ok (.newarray .int, 2) := by decide +kernel
theorem dX8_init_33 : decode cX8_init 33 = .ok (.putfield 20, 3) := by decide +kernel
theorem dX8_init_36 : decode cX8_init 36 = .ok (.aload_n 0, 1) := by decide +kernel
theorem dX8_init_37 : decode cX8_init 37 = .ok (.bipush 64, 2) := by decide +kernel
theorem dX8_init_39 : decode cX8_init 39 = .ok (.newarray .long, 2) := by decide +kernel
theorem dX8_init_41 : decode cX8_init 41 = .ok (.putfield 23, 3) := by decide +kernel
theorem dX8_init_44 : decode cX8_init 44 = .ok (.aload_n 0, 1) := by decide +kernel
theorem dX8_init_45 : decode cX8_init 45 = .ok (.bipush 8, 2) := by decide +kernel
theorem dX8_init_47 : decode cX8_init 47 = .ok (.newarray .int, 2) := by decide +kernel
theorem dX8_init_49 : decode cX8_init 49 = .ok (.putfield 27, 3) := by decide +kernel
theorem dX8_init_52 : decode cX8_init 52 = .ok (.iconst 0, 1) := by decide +kernel
theorem dX8_init_53 : decode cX8_init 53 = .ok (.istore_n 1, 1) := by decide +kernel
theorem dX8_init_54 : decode cX8_init 54 = .ok (.iload_n 1, 1) := by decide +kernel
theorem dX8_init_55 : decode cX8_init 55 = .ok (.iconst 3, 1) := by decide +kernel
theorem dX8_init_56 : decode cX8_init 56 = .ok (.if_icmp .ge 16, 3) := by decide +kernel
theorem dX8_init_59 : decode cX8_init 59 = .ok (.aload_n 0, 1) := by decide +kernel
theorem dX8_init_60 : decode cX8_init 60 = .ok (.getfield 20, 3) := by decide +kernel
theorem dX8_init_63 : decode cX8_init 63 = .ok (.iload_n 1, 1) := by decide +kernel
theorem dX8_init_64 : decode cX8_init 64 = .ok (.iconst 1, 1) := by decide +kernel
theorem dX8_init_65 : decode cX8_init 65 = .ok (.iastore, 1) := by decide +kernel
theorem dX8_init_66 : decode cX8_init 66 = .ok (.iinc 1 1, 3) := by decide +kernel
theorem dX8_init_69 : decode cX8_init 69 = .ok (.goto (-15), 3) := by decide +kernel
theorem dX8_init_72 : decode cX8_init 72 = .ok (.return_, 1) := by decide +kernel
theorem dX8_thrown_0 : decode cX8_thrown 0 = .ok (.aload_n 0, 1) := by decide +kernel
theorem dX8_thrown_1 : decode cX8_thrown 1 = .ok (.getfield 30, 3) := by decide +kernel
theorem dX8_thrown_4 : decode cX8_thrown 4 = .ok (.ireturn, 1) := by decide +kernel
theorem dX8_in_0 : decode cX8_in 0 = .ok (.iload_n 0, 1) := by decide +kernel
theorem dX8_in_1 : decode cX8_in 1 = .ok (.iload_n 1, 1) := by decide +kernel
theorem dX8_in_2 : decode cX8_in 2 = .ok (.if_icmp .lt 12, 3) := by decide +kernel
theorem dX8_in_5 : decode cX8_in 5 = .ok (.iload_n 0, 1) := by decide +kernel
theorem dX8_in_6 : decode cX8_in 6 = .ok (.iload_n 2, 1) := by decide +kernel
theorem dX8_in_7 : decode cX8_in 7 = .ok (.if_icmp .gt 7, 3) := by decide +kernel
theorem dX8_in_10 : decode cX8_in 10 = .ok (.iconst 1, 1) := by decide +kernel
theorem dX8_in_11 : decode cX8_in 11 = .ok (.goto 4, 3) := by decide +kernel
theorem dX8_in_14 : decode cX8_in 14 = .ok (.iconst 0, 1) := by decide +kernel
theorem dX8_in_15 : decode cX8_in 15 = .ok (.ireturn, 1) := by decide +kernel
theorem dX8_asked_0 : decode cX8_asked 0 = .ok (.aload_n 0, 1) := by decide +kernel
theorem dX8_asked_1 : decode cX8_asked 1 = .ok (.iload_n 1, 1) := by decide +kernel
theorem dX8_asked_2 : decode cX8_asked 2 = .ok (.ifCond .eq 7, 3) := by decide +kernel
theorem dX8_asked_5 : decode cX8_asked 5 = .ok (.iconst 0, 1) := by decide +kernel
theorem dX8_asked_6 : decode cX8_asked 6 = .ok (.goto 4, 3) := by decide +kernel
theorem dX8_asked_9 : decode cX8_asked 9 = .ok (.iconst 1, 1) := by decide +kernel
theorem dX8_asked_10 : decode cX8_asked 10 = .ok (.putfield 30, 3) := by decide +kernel
theorem dX8_asked_13 : decode cX8_asked 13 = .ok (.iload_n 1, 1) := by decide +kernel
theorem dX8_asked_14 : decode cX8_asked 14 = .ok (.ireturn, 1) := by decide +kernel
theorem dX8_asked__0 : decode cX8_asked_ 0 = .ok (.aload_n 0, 1) := by decide +kernel
theorem dX8_asked__1 : decode cX8_asked_ 1 = .ok (.iload_n 1, 1) := by decide +kernel
theorem dX8_asked__2 : decode cX8_asked_ 2 = .ok (.ifCond .ne 7, 3) := by decide +kernel
theorem dX8_asked__5 : decode cX8_asked_ 5 = .ok (.iconst 1, 1) := by decide +kernel
theorem dX8_asked__6 : decode cX8_asked_ 6 = .ok (.goto 12, 3) := by decide +kernel
theorem dX8_asked__9 : decode cX8_asked_ 9 = .ok (.iload_n 2, 1) := by decide +kernel
theorem dX8_asked__10 : decode cX8_asked_ 10 = .ok (.ifCond .eq 7, 3) := by decide +kernel
theorem dX8_asked__13 : decode cX8_asked_ 13 = .ok (.iconst 0, 1) := by decide +kernel
theorem dX8_asked__14 : decode cX8_asked_ 14 = .ok (.goto 4, 3) := by decide +kernel
theorem dX8_asked__17 : decode cX8_asked_ 17 = .ok (.iconst 2, 1) := by decide +kernel
theorem dX8_asked__18 : decode cX8_asked_ 18 = .ok (.putfield 30, 3) := by decide +kernel
theorem dX8_asked__21 : decode cX8_asked_ 21 = .ok (.aload_n 0, 1) := by decide +kernel
theorem dX8_asked__22 : decode cX8_asked_ 22 = .ok (.getfield 30, 3) := by decide +kernel
theorem dX8_asked__25 : decode cX8_asked_ 25 = .ok (.ifCond .ne 7, 3) := by decide +kernel
theorem dX8_asked__28 : decode cX8_asked_ 28 = .ok (.iconst 1, 1) := by decide +kernel
theorem dX8_asked__29 : decode cX8_asked_ 29 = .ok (.goto 4, 3) := by decide +kernel
theorem dX8_asked__32 : decode cX8_asked_ 32 = .ok (.iconst 0, 1) := by decide +kernel
theorem dX8_asked__33 : decode cX8_asked_ 33 = .ok (.ireturn, 1) := by decide +kernel
set_option maxRecDepth 20000 in
theorem ggX8_isSet_X8_in : GoodIn wsX8_isSet wsX8_in := goodIn_r _ [4] (by decide +kernel) (by decide +kernel)
set_option maxRecDepth 20000 in
theorem gX8_isSet_X8_in : GoodIn wsX8_isSet (va_wsS RX8 34 yX8_in wsX8_in) := goodIn_app (goodIn_of _ (by decide +kernel)) ggX8_isSet_X8_in
theorem dX8_isSet_0 : decode cX8_isSet 0 = .ok (.iload_n 0, 1) := by decide +kernel
theorem dX8_isSet_1 : decode cX8_isSet 1 = .ok (.iconst 0, 1) := by decide +kernel
theorem dX8_isSet_2 : decode cX8_isSet 2 = .ok (.iconst 2, 1) := by decide +kernel
theorem dX8_isSet_3 : decode cX8_isSet 3 = .ok (.invokestatic 34, 3) := by decide +kernel
theorem dX8_isSet_6 : decode cX8_isSet 6 = .ok (.ireturn, 1) := by decide +kernel
set_option maxRecDepth 20000 in
theorem ggX8_isRight_X8_isSet : GoodIn wsX8_isRight wsX8_isSet := goodIn_r _ [4, 5, 6, 3, 7] (by decide +kernel) (by decide +kernel)
set_option maxRecDepth 20000 in
theorem gX8_isRight_X8_isSet : GoodIn wsX8_isRight (va_wsS RX8 38 yX8_isSet wsX8_isSet) := goodIn_app (goodIn_of _ (by decide +kernel)) ggX8_isRight_X8_isSet
set_option maxRecDepth 20000 in
theorem ggX8_isRight_X8_in : GoodIn wsX8_isRight wsX8_in := goodIn_r _ [7] (by decide +kernel) (by decide +kernel)
set_option maxRecDepth 20000 in
theorem gX8_isRight_X8_in : GoodIn wsX8_isRight (va_wsS RX8 34 yX8_in wsX8_in) := goodIn_app (goodIn_of _ (by decide +kernel)) ggX8_isRight_X8_in
set_option maxRecDepth 20000 in
theorem ggX8_isRight_X8_asked_ : GoodIn wsX8_isRight wsX8_asked_ := goodIn_r _ [11, 12, 13, 14, 15, 16, 17, 18, 19, 20, 21] (by decide +kernel) (by decide +kernel)
set_option maxRecDepth 20000 in
theorem gX8_isRight_X8_asked_ : GoodIn wsX8_isRight (wsV RX8 42 RX8 yX8_asked_ wsX8_asked_) := goodIn_app (goodIn_of _ (by decide +kernel)) ggX8_isRight_X8_asked_
theorem dX8_isRight_0 : decode cX8_isRight 0 = .ok (.aload_n 0, 1) := by decide +kernel
theorem dX8_isRight_1 : decode cX8_isRight 1 = .ok (.iload_n 1, 1) := by decide +kernel
theorem dX8_isRight_2 : decode cX8_isRight 2 = .ok (.invokestatic 38, 3) := by decide +kernel
theorem dX8_isRight_5 : decode cX8_isRight 5 = .ok (.iload_n 2, 1) := by decide +kernel
theorem dX8_isRight_6 : decode cX8_isRight 6 = .ok (.iconst 0, 1) := by decide +kernel
theorem dX8_isRight_7 : decode cX8_isRight 7 = .ok (.sipush 4095, 3) := by decide +kernel
theorem dX8_isRight_10 : decode cX8_isRight 10 = .ok (.invokestatic 34, 3) := by decide +kernel
theorem dX8_isRight_13 : decode cX8_isRight 13 = .ok (.invokevirtual 42, 3) := by decide +kernel
theorem dX8_isRight_16 : decode cX8_isRight 16 = .ok (.ireturn, 1) := by decide +kernel
theorem dX8_has_0 : decode cX8_has 0 = .ok (.aload_n 0, 1) := by decide +kernel
theorem dX8_has_1 : decode cX8_has 1 = .ok (.getfield 7, 3) := by decide +kernel
theorem dX8_has_4 : decode cX8_has 4 = .ok (.sipush 4096, 3) := by decide +kernel
theorem dX8_has_7 : decode cX8_has 7 = .ok (.iload_n 1, 1) := by decide +kernel
theorem dX8_has_8 : decode cX8_has 8 = .ok (.imul, 1) := by decide +kernel
theorem dX8_has_9 : decode cX8_has 9 = .ok (.iload_n 2, 1) := by decide +kernel
theorem dX8_has_10 : decode cX8_has 10 = .ok (.iadd, 1) := by decide +kernel
theorem dX8_has_11 : decode cX8_has 11 = .ok (.baload, 1) := by decide +kernel
theorem dX8_has_12 : decode cX8_has 12 = .ok (.ireturn, 1) := by decide +kernel
theorem dX8_separatorOf_0 : decode cX8_separatorOf 0 = .ok (.iload_n 2, 1) := by decide +kernel
theorem dX8_separatorOf_1 : decode cX8_separatorOf 1 = .ok (.aload_n 0, 1) := by decide +kernel
theorem dX8_separatorOf_2 : decode cX8_separatorOf 2 = .ok (.getfield 20, 3) := by decide +kernel
theorem dX8_separatorOf_5 : decode cX8_separatorOf 5 = .ok (.iload_n 1, 1) := by decide +kernel
theorem dX8_separatorOf_6 : decode cX8_separatorOf 6 = .ok (.iaload, 1) := by decide +kernel
theorem dX8_separatorOf_7 : decode cX8_separatorOf 7 = .ok (.if_icmp .ne 9, 3) := by decide +kernel
theorem dX8_separatorOf_10 : decode cX8_separatorOf 10 = .ok (.sipush 4096, 3) := by decide +kernel
theorem dX8_separatorOf_13 : decode cX8_separatorOf 13 = .ok (.goto 15, 3) := by decide +kernel
theorem dX8_separatorOf_16 : decode cX8_separatorOf 16 = .ok (.aload_n 0, 1) := by decide +kernel
theorem dX8_separatorOf_17 : decode cX8_separatorOf 17 = .ok (.getfield 17, 3) := by decide +kernel
theorem dX8_separatorOf_20 : decode cX8_separatorOf 20 = .ok (.sipush 2052, 3) := by decide +kernel
theorem dX8_separatorOf_23 : decode cX8_separatorOf 23 = .ok (.iload_n 1, 1) := by decide +kernel
theorem dX8_separatorOf_24 : decode cX8_separatorOf 24 = .ok (.imul, 1) := by decide +kernel
theorem dX8_separatorOf_25 : decode cX8_separatorOf 25 = .ok (.iload_n 2, 1) := by decide +kernel
theorem dX8_separatorOf_26 : decode cX8_separatorOf 26 = .ok (.iadd, 1) := by decide +kernel
theorem dX8_separatorOf_27 : decode cX8_separatorOf 27 = .ok (.iaload, 1) := by decide +kernel
theorem dX8_separatorOf_28 : decode cX8_separatorOf 28 = .ok (.ireturn, 1) := by decide +kernel
set_option maxRecDepth 20000 in
theorem ggX8_belongs_X8_separatorOf : GoodIn wsX8_belongs wsX8_separatorOf := goodIn_r _ [5, 6, 7, 8, 9, 10, 11, 12, 13, 14, 15, 16] (by decide +kernel) (by decide +kernel)
set_option maxRecDepth 20000 in
theorem gX8_belongs_X8_separatorOf : GoodIn wsX8_belongs (wsV RX8 46 RX8 yX8_separatorOf wsX8_separatorOf) := goodIn_app (goodIn_of _ (by decide +kernel)) ggX8_belongs_X8_separatorOf
theorem dX8_belongs_0 : decode cX8_belongs 0 = .ok (.iconst 0, 1) := by decide +kernel
theorem dX8_belongs_1 : decode cX8_belongs 1 = .ok (.istore_n 3, 1) := by decide +kernel
theorem dX8_belongs_2 : decode cX8_belongs 2 = .ok (.aload_n 0, 1) := by decide +kernel
theorem dX8_belongs_3 : decode cX8_belongs 3 = .ok (.iload_n 1, 1) := by decide +kernel
theorem dX8_belongs_4 : decode cX8_belongs 4 = .ok (.iload_n 3, 1) := by decide +kernel
theorem dX8_belongs_5 : decode cX8_belongs 5 = .ok (.iconst 1, 1) := by decide +kernel
theorem dX8_belongs_6 : decode cX8_belongs 6 = .ok (.iadd, 1) := by decide +kernel
theorem dX8_belongs_7 : decode cX8_belongs 7 = .ok (.invokevirtual 46, 3) := by decide +kernel
theorem dX8_belongs_10 : decode cX8_belongs 10 = .ok (.iload_n 2, 1) := by decide +kernel
theorem dX8_belongs_11 : decode cX8_belongs 11 = .ok (.if_icmp .gt 9, 3) := by decide +kernel
theorem dX8_belongs_14 : decode cX8_belongs 14 = .ok (.iinc 3 1, 3) := by decide +kernel
theorem dX8_belongs_17 : decode cX8_belongs 17 = .ok (.goto (-15), 3) := by decide +kernel
theorem dX8_belongs_20 : decode cX8_belongs 20 = .ok (.iload_n 3, 1) := by decide +kernel
theorem dX8_belongs_21 : decode cX8_belongs 21 = .ok (.ireturn, 1) := by decide +kernel
set_option maxRecDepth 20000 in
theorem ggX8_held_X8_separatorOf : GoodIn wsX8_held wsX8_separatorOf := goodIn_r _ [5, 6, 7, 13, 14, 15, 16, 17, 18, 19, 20, 21] (by decide +kernel) (by decide +kernel)
set_option maxRecDepth 20000 in
theorem gX8_held_X8_separatorOf : GoodIn wsX8_held (wsV RX8 46 RX8 yX8_separatorOf wsX8_separatorOf) := goodIn_app (goodIn_of _ (by decide +kernel)) ggX8_held_X8_separatorOf
set_option maxRecDepth 20000 in
theorem ggX8_held_X8_has : GoodIn wsX8_held wsX8_has := goodIn_r _ [11, 12, 13, 14, 15, 16, 17, 18, 19, 20, 21] (by decide +kernel) (by decide +kernel)
set_option maxRecDepth 20000 in
theorem gX8_held_X8_has : GoodIn wsX8_held (wsV RX8 50 RX8 yX8_has wsX8_has) := goodIn_app (goodIn_of _ (by decide +kernel)) ggX8_held_X8_has
theorem dX8_held_0 : decode cX8_held 0 = .ok (.iconst 0, 1) := by decide +kernel
theorem dX8_held_1 : decode cX8_held 1 = .ok (.istore_n 3, 1) := by decide +kernel
theorem dX8_held_2 : decode cX8_held 2 = .ok (.aload_n 0, 1) := by decide +kernel
theorem dX8_held_3 : decode cX8_held 3 = .ok (.iload_n 1, 1) := by decide +kernel
theorem dX8_held_4 : decode cX8_held 4 = .ok (.iload_n 2, 1) := by decide +kernel
theorem dX8_held_5 : decode cX8_held 5 = .ok (.invokevirtual 46, 3) := by decide +kernel
theorem dX8_held_8 : decode cX8_held 8 = .ok (.istore 4, 2) := by decide +kernel
theorem dX8_held_10 : decode cX8_held 10 = .ok (.iload 4, 2) := by decide +kernel
theorem dX8_held_12 : decode cX8_held 12 = .ok (.aload_n 0, 1) := by decide +kernel
theorem dX8_held_13 : decode cX8_held 13 = .ok (.iload_n 1, 1) := by decide +kernel
theorem dX8_held_14 : decode cX8_held 14 = .ok (.iload_n 2, 1) := by decide +kernel
theorem dX8_held_15 : decode cX8_held 15 = .ok (.iconst 1, 1) := by decide +kernel
theorem dX8_held_16 : decode cX8_held 16 = .ok (.iadd, 1) := by decide +kernel
theorem dX8_held_17 : decode cX8_held 17 = .ok (.invokevirtual 46, 3) := by decide +kernel
theorem dX8_held_20 : decode cX8_held 20 = .ok (.if_icmp .ge 27, 3) := by decide +kernel
theorem dX8_held_23 : decode cX8_held 23 = .ok (.iload_n 3, 1) := by decide +kernel
theorem dX8_held_24 : decode cX8_held 24 = .ok (.aload_n 0, 1) := by decide +kernel
theorem dX8_held_25 : decode cX8_held 25 = .ok (.iload_n 1, 1) := by decide +kernel
theorem dX8_held_26 : decode cX8_held 26 = .ok (.iload 4, 2) := by decide +kernel
theorem dX8_held_28 : decode cX8_held 28 = .ok (.invokevirtual 50, 3) := by decide +kernel
theorem dX8_held_31 : decode cX8_held 31 = .ok (.ifCond .eq 7, 3) := by decide +kernel
theorem dX8_held_34 : decode cX8_held 34 = .ok (.iconst 1, 1) := by decide +kernel
theorem dX8_held_35 : decode cX8_held 35 = .ok (.goto 4, 3) := by decide +kernel
theorem dX8_held_38 : decode cX8_held 38 = .ok (.iconst 0, 1) := by decide +kernel
theorem dX8_held_39 : decode cX8_held 39 = .ok (.iadd, 1) := by decide +kernel
theorem dX8_held_40 : decode cX8_held 40 = .ok (.istore_n 3, 1) := by decide +kernel
theorem dX8_held_41 : decode cX8_held 41 = .ok (.iinc 4 1, 3) := by decide +kernel
theorem dX8_held_44 : decode cX8_held 44 = .ok (.goto (-34), 3) := by decide +kernel
theorem dX8_held_47 : decode cX8_held 47 = .ok (.iload_n 3, 1) := by decide +kernel
theorem dX8_held_48 : decode cX8_held 48 = .ok (.ireturn, 1) := by decide +kernel
set_option maxRecDepth 20000 in
theorem ggX8_nth_X8_separatorOf : GoodIn wsX8_nth wsX8_separatorOf := goodIn_r _ [5, 6, 7, 13, 14, 15, 16, 17, 18, 19, 20, 21] (by decide +kernel) (by decide +kernel)
set_option maxRecDepth 20000 in
theorem gX8_nth_X8_separatorOf : GoodIn wsX8_nth (wsV RX8 46 RX8 yX8_separatorOf wsX8_separatorOf) := goodIn_app (goodIn_of _ (by decide +kernel)) ggX8_nth_X8_separatorOf
set_option maxRecDepth 20000 in
theorem ggX8_nth_X8_has : GoodIn wsX8_nth wsX8_has := goodIn_r _ [11, 12, 13, 14, 15, 16, 17, 18, 19, 20, 21] (by decide +kernel) (by decide +kernel)
set_option maxRecDepth 20000 in
theorem gX8_nth_X8_has : GoodIn wsX8_nth (wsV RX8 50 RX8 yX8_has wsX8_has) := goodIn_app (goodIn_of _ (by decide +kernel)) ggX8_nth_X8_has
theorem dX8_nth_0 : decode cX8_nth 0 = .ok (.aload_n 0, 1) := by decide +kernel
theorem dX8_nth_1 : decode cX8_nth 1 = .ok (.iload_n 1, 1) := by decide +kernel
theorem dX8_nth_2 : decode cX8_nth 2 = .ok (.iload_n 2, 1) := by decide +kernel
theorem dX8_nth_3 : decode cX8_nth 3 = .ok (.invokevirtual 46, 3) := by decide +kernel
theorem dX8_nth_6 : decode cX8_nth 6 = .ok (.istore 4, 2) := by decide +kernel
theorem dX8_nth_8 : decode cX8_nth 8 = .ok (.iload_n 3, 1) := by decide +kernel
theorem dX8_nth_9 : decode cX8_nth 9 = .ok (.istore 5, 2) := by decide +kernel
theorem dX8_nth_11 : decode cX8_nth 11 = .ok (.aload_n 0, 1) := by decide +kernel
theorem dX8_nth_12 : decode cX8_nth 12 = .ok (.iload_n 1, 1) := by decide +kernel
theorem dX8_nth_13 : decode cX8_nth 13 = .ok (.iload 4, 2) := by decide +kernel
theorem dX8_nth_15 : decode cX8_nth 15 = .ok (.invokevirtual 50, 3) := by decide +kernel
theorem dX8_nth_18 : decode cX8_nth 18 = .ok (.ifCond .eq 8, 3) := by decide +kernel
theorem dX8_nth_21 : decode cX8_nth 21 = .ok (.iload 5, 2) := by decide +kernel
theorem dX8_nth_23 : decode cX8_nth 23 = .ok (.ifCond .le 29, 3) := by decide +kernel
theorem dX8_nth_26 : decode cX8_nth 26 = .ok (.iload 5, 2) := by decide +kernel
theorem dX8_nth_28 : decode cX8_nth 28 = .ok (.aload_n 0, 1) := by decide +kernel
theorem dX8_nth_29 : decode cX8_nth 29 = .ok (.iload_n 1, 1) := by decide +kernel
theorem dX8_nth_30 : decode cX8_nth 30 = .ok (.iload 4, 2) := by decide +kernel
theorem dX8_nth_32 : decode cX8_nth 32 = .ok (.invokevirtual 50, 3) := by decide +kernel
theorem dX8_nth_35 : decode cX8_nth 35 = .ok (.ifCond .eq 7, 3) := by decide +kernel
theorem dX8_nth_38 : decode cX8_nth 38 = .ok (.iconst 1, 1) := by decide +kernel
theorem dX8_nth_39 : decode cX8_nth 39 = .ok (.goto 4, 3) := by decide +kernel
theorem dX8_nth_42 : decode cX8_nth 42 = .ok (.iconst 0, 1) := by decide +kernel
theorem dX8_nth_43 : decode cX8_nth 43 = .ok (.isub, 1) := by decide +kernel
theorem dX8_nth_44 : decode cX8_nth 44 = .ok (.istore 5, 2) := by decide +kernel
theorem dX8_nth_46 : decode cX8_nth 46 = .ok (.iinc 4 1, 3) := by decide +kernel
theorem dX8_nth_49 : decode cX8_nth 49 = .ok (.goto (-38), 3) := by decide +kernel
theorem dX8_nth_52 : decode cX8_nth 52 = .ok (.iload 4, 2) := by decide +kernel
theorem dX8_nth_54 : decode cX8_nth 54 = .ok (.ireturn, 1) := by decide +kernel
set_option maxRecDepth 20000 in
theorem ggX8_splits_X8_held : GoodIn wsX8_splits wsX8_held := goodIn_r _ [7, 8, 9, 10, 6, 11, 1, 2, 12, 13, 14, 15, 16, 21, 22, 23, 24, 25, 26, 27, 28, 29] (by decide +kernel) (by decide +kernel)
set_option maxRecDepth 20000 in
theorem gX8_splits_X8_held : GoodIn wsX8_splits (wsV RX8 54 RX8 yX8_held wsX8_held) := goodIn_app (goodIn_of _ (by decide +kernel)) ggX8_splits_X8_held
set_option maxRecDepth 20000 in
theorem ggX8_splits_X8_nth : GoodIn wsX8_splits wsX8_nth := goodIn_r _ [20, 8, 9, 10, 6, 11, 1, 2, 12, 13, 14, 15, 16, 21, 22, 23, 24, 25, 26, 27, 28, 29] (by decide +kernel) (by decide +kernel)
set_option maxRecDepth 20000 in
theorem gX8_splits_X8_nth : GoodIn wsX8_splits (wsV RX8 57 RX8 yX8_nth wsX8_nth) := goodIn_app (goodIn_of _ (by decide +kernel)) ggX8_splits_X8_nth
theorem dX8_splits_0 : decode cX8_splits 0 = .ok (.aload_n 0, 1) := by decide +kernel
theorem dX8_splits_1 : decode cX8_splits 1 = .ok (.iload_n 1, 1) := by decide +kernel
theorem dX8_splits_2 : decode cX8_splits 2 = .ok (.iload_n 2, 1) := by decide +kernel
theorem dX8_splits_3 : decode cX8_splits 3 = .ok (.invokevirtual 54, 3) := by decide +kernel
theorem dX8_splits_6 : decode cX8_splits 6 = .ok (.istore_n 3, 1) := by decide +kernel
theorem dX8_splits_7 : decode cX8_splits 7 = .ok (.iload_n 3, 1) := by decide +kernel
theorem dX8_splits_8 : decode cX8_splits 8 = .ok (.bipush 8, 2) := by decide +kernel
theorem dX8_splits_10 : decode cX8_splits 10 = .ok (.if_icmp .gt 4, 3) := by decide +kernel
theorem dX8_splits_13 : decode cX8_splits 13 = .ok (.return_, 1) := by decide +kernel
theorem dX8_splits_14 : decode cX8_splits 14 = .ok (.aload_n 0, 1) := by decide +kernel
theorem dX8_splits_15 : decode cX8_splits 15 = .ok (.iload_n 1, 1) := by decide +kernel
theorem dX8_splits_16 : decode cX8_splits 16 = .ok (.iload_n 2, 1) := by decide +kernel
theorem dX8_splits_17 : decode cX8_splits 17 = .ok (.iload_n 3, 1) := by decide +kernel
theorem dX8_splits_18 : decode cX8_splits 18 = .ok (.iconst 2, 1) := by decide +kernel
theorem dX8_splits_19 : decode cX8_splits 19 = .ok (.idiv, 1) := by decide +kernel
theorem dX8_splits_20 : decode cX8_splits 20 = .ok (.invokevirtual 57, 3) := by decide +kernel
theorem dX8_splits_23 : decode cX8_splits 23 = .ok (.istore 4, 2) := by decide +kernel
theorem dX8_splits_25 : decode cX8_splits 25 = .ok (.aload_n 0, 1) := by decide +kernel
theorem dX8_splits_26 : decode cX8_splits 26 = .ok (.getfield 20, 3) := by decide +kernel
theorem dX8_splits_29 : decode cX8_splits 29 = .ok (.iload_n 1, 1) := by decide +kernel
theorem dX8_splits_30 : decode cX8_splits 30 = .ok (.iaload, 1) := by decide +kernel
theorem dX8_splits_31 : decode cX8_splits 31 = .ok (.istore 5, 2) := by decide +kernel
theorem dX8_splits_33 : decode cX8_splits 33 = .ok (.iload 5, 2) := by decide +kernel
theorem dX8_splits_35 : decode cX8_splits 35 = .ok (.iload_n 2, 1) := by decide +kernel
theorem dX8_splits_36 : decode cX8_splits 36 = .ok (.iconst 1, 1) := by decide +kernel
theorem dX8_splits_37 : decode cX8_splits 37 = .ok (.iadd, 1) := by decide +kernel
theorem dX8_splits_38 : decode cX8_splits 38 = .ok (.if_icmp .le 37, 3) := by decide +kernel
theorem dX8_splits_41 : decode cX8_splits 41 = .ok (.aload_n 0, 1) := by decide +kernel
theorem dX8_splits_42 : decode cX8_splits 42 = .ok (.getfield 17, 3) := by decide +kernel
theorem dX8_splits_45 : decode cX8_splits 45 = .ok (.sipush 2052, 3) := by decide +kernel
theorem dX8_splits_48 : decode cX8_splits 48 = .ok (.iload_n 1, 1) := by decide +kernel
theorem dX8_splits_49 : decode cX8_splits 49 = .ok (.imul, 1) := by decide +kernel
theorem dX8_splits_50 : decode cX8_splits 50 = .ok (.iload 5, 2) := by decide +kernel
theorem dX8_splits_52 : decode cX8_splits 52 = .ok (.iadd, 1) := by decide +kernel
theorem dX8_splits_53 : decode cX8_splits 53 = .ok (.aload_n 0, 1) := by decide +kernel
theorem dX8_splits_54 : decode cX8_splits 54 = .ok (.getfield 17, 3) := by decide +kernel
theorem dX8_splits_57 : decode cX8_splits 57 = .ok (.sipush 2052, 3) := by decide +kernel
theorem dX8_splits_60 : decode cX8_splits 60 = .ok (.iload_n 1, 1) := by decide +kernel
theorem dX8_splits_61 : decode cX8_splits 61 = .ok (.imul, 1) := by decide +kernel
theorem dX8_splits_62 : decode cX8_splits 62 = .ok (.iload 5, 2) := by decide +kernel
theorem dX8_splits_64 : decode cX8_splits 64 = .ok (.iadd, 1) := by decide +kernel
theorem dX8_splits_65 : decode cX8_splits 65 = .ok (.iconst 1, 1) := by decide +kernel
theorem dX8_splits_66 : decode cX8_splits 66 = .ok (.isub, 1) := by decide +kernel
theorem dX8_splits_67 : decode cX8_splits 67 = .ok (.iaload, 1) := by decide +kernel
theorem dX8_splits_68 : decode cX8_splits 68 = .ok (.iastore, 1) := by decide +kernel
theorem dX8_splits_69 : decode cX8_splits 69 = .ok (.iinc 5 (-1), 3) := by decide +kernel
theorem dX8_splits_72 : decode cX8_splits 72 = .ok (.goto (-39), 3) := by decide +kernel
theorem dX8_splits_75 : decode cX8_splits 75 = .ok (.aload_n 0, 1) := by decide +kernel
theorem dX8_splits_76 : decode cX8_splits 76 = .ok (.getfield 17, 3) := by decide +kernel
theorem dX8_splits_79 : decode cX8_splits 79 = .ok (.sipush 2052, 3) := by decide +kernel
theorem dX8_splits_82 : decode cX8_splits 82 = .ok (.iload_n 1, 1) := by decide +kernel
theorem dX8_splits_83 : decode cX8_splits 83 = .ok (.imul, 1) := by decide +kernel
theorem dX8_splits_84 : decode cX8_splits 84 = .ok (.iload_n 2, 1) := by decide +kernel
theorem dX8_splits_85 : decode cX8_splits 85 = .ok (.iadd, 1) := by decide +kernel
theorem dX8_splits_86 : decode cX8_splits 86 = .ok (.iconst 1, 1) := by decide +kernel
theorem dX8_splits_87 : decode cX8_splits 87 = .ok (.iadd, 1) := by decide +kernel
theorem dX8_splits_88 : decode cX8_splits 88 = .ok (.iload 4, 2) := by decide +kernel
theorem dX8_splits_90 : decode cX8_splits 90 = .ok (.iastore, 1) := by decide +kernel
theorem dX8_splits_91 : decode cX8_splits 91 = .ok (.aload_n 0, 1) := by decide +kernel
theorem dX8_splits_92 : decode cX8_splits 92 = .ok (.getfield 20, 3) := by decide +kernel
theorem dX8_splits_95 : decode cX8_splits 95 = .ok (.iload_n 1, 1) := by decide +kernel
theorem dX8_splits_96 : decode cX8_splits 96 = .ok (.dup2, 1) := by decide +kernel
theorem dX8_splits_97 : decode cX8_splits 97 = .ok (.iaload, 1) := by decide +kernel
theorem dX8_splits_98 : decode cX8_splits 98 = .ok (.iconst 1, 1) := by decide +kernel
theorem dX8_splits_99 : decode cX8_splits 99 = .ok (.iadd, 1) := by decide +kernel
theorem dX8_splits_100 : decode cX8_splits 100 = .ok (.iastore, 1) := by decide +kernel
theorem dX8_splits_101 : decode cX8_splits 101 = .ok (.return_, 1) := by decide +kernel
set_option maxRecDepth 20000 in
theorem ggX8_merges_X8_held : GoodIn wsX8_merges wsX8_held := goodIn_r _ [7, 8, 9, 10, 6, 11, 1, 2, 12, 13, 14, 15, 16, 25, 26, 27, 28, 29, 30, 31, 32, 33] (by decide +kernel) (by decide +kernel)
set_option maxRecDepth 20000 in
theorem gX8_merges_X8_held : GoodIn wsX8_merges (wsV RX8 54 RX8 yX8_held wsX8_held) := goodIn_app (goodIn_of _ (by decide +kernel)) ggX8_merges_X8_held
set_option maxRecDepth 20000 in
theorem ggX8_merges_X8_splits : GoodIn wsX8_merges wsX8_splits := goodIn_r _ [20, 1, 2, 3, 4, 5, 6, 7, 8, 9, 10, 11, 12, 13, 14, 15, 16, 21, 22, 23, 24, 25, 26, 27, 28, 29, 30, 31, 32, 33] (by decide +kernel) (by decide +kernel)
set_option maxRecDepth 20000 in
theorem gX8_merges_X8_splits : GoodIn wsX8_merges (wsV RX8 61 RX8 yX8_splits wsX8_splits) := goodIn_app (goodIn_of _ (by decide +kernel)) ggX8_merges_X8_splits
theorem dX8_merges_0 : decode cX8_merges 0 = .ok (.aload_n 0, 1) := by decide +kernel
theorem dX8_merges_1 : decode cX8_merges 1 = .ok (.iload_n 1, 1) := by decide +kernel
theorem dX8_merges_2 : decode cX8_merges 2 = .ok (.iload_n 2, 1) := by decide +kernel
theorem dX8_merges_3 : decode cX8_merges 3 = .ok (.invokevirtual 54, 3) := by decide +kernel
theorem dX8_merges_6 : decode cX8_merges 6 = .ok (.iconst 1, 1) := by decide +kernel
theorem dX8_merges_7 : decode cX8_merges 7 = .ok (.if_icmp .gt 13, 3) := by decide +kernel
theorem dX8_merges_10 : decode cX8_merges 10 = .ok (.aload_n 0, 1) := by decide +kernel
theorem dX8_merges_11 : decode cX8_merges 11 = .ok (.getfield 20, 3) := by decide +kernel
theorem dX8_merges_14 : decode cX8_merges 14 = .ok (.iload_n 1, 1) := by decide +kernel
theorem dX8_merges_15 : decode cX8_merges 15 = .ok (.iaload, 1) := by decide +kernel
theorem dX8_merges_16 : decode cX8_merges 16 = .ok (.iconst 1, 1) := by decide +kernel
theorem dX8_merges_17 : decode cX8_merges 17 = .ok (.if_icmp .ne 4, 3) := by decide +kernel
theorem dX8_merges_20 : decode cX8_merges 20 = .ok (.return_, 1) := by decide +kernel
theorem dX8_merges_21 : decode cX8_merges 21 = .ok (.iload_n 2, 1) := by decide +kernel
theorem dX8_merges_22 : decode cX8_merges 22 = .ok (.aload_n 0, 1) := by decide +kernel
theorem dX8_merges_23 : decode cX8_merges 23 = .ok (.getfield 20, 3) := by decide +kernel
theorem dX8_merges_26 : decode cX8_merges 26 = .ok (.iload_n 1, 1) := by decide +kernel
theorem dX8_merges_27 : decode cX8_merges 27 = .ok (.iaload, 1) := by decide +kernel
theorem dX8_merges_28 : decode cX8_merges 28 = .ok (.iconst 1, 1) := by decide +kernel
theorem dX8_merges_29 : decode cX8_merges 29 = .ok (.isub, 1) := by decide +kernel
theorem dX8_merges_30 : decode cX8_merges 30 = .ok (.if_icmp .ne 9, 3) := by decide +kernel
theorem dX8_merges_33 : decode cX8_merges 33 = .ok (.iload_n 2, 1) := by decide +kernel
theorem dX8_merges_34 : decode cX8_merges 34 = .ok (.iconst 1, 1) := by decide +kernel
theorem dX8_merges_35 : decode cX8_merges 35 = .ok (.isub, 1) := by decide +kernel
theorem dX8_merges_36 : decode cX8_merges 36 = .ok (.goto 4, 3) := by decide +kernel
theorem dX8_merges_39 : decode cX8_merges 39 = .ok (.iload_n 2, 1) := by decide +kernel
theorem dX8_merges_40 : decode cX8_merges 40 = .ok (.istore_n 3, 1) := by decide +kernel
theorem dX8_merges_41 : decode cX8_merges 41 = .ok (.aload_n 0, 1) := by decide +kernel
theorem dX8_merges_42 : decode cX8_merges 42 = .ok (.getfield 20, 3) := by decide +kernel
theorem dX8_merges_45 : decode cX8_merges 45 = .ok (.iload_n 1, 1) := by decide +kernel
theorem dX8_merges_46 : decode cX8_merges 46 = .ok (.dup2, 1) := by decide +kernel
theorem dX8_merges_47 : decode cX8_merges 47 = .ok (.iaload, 1) := by decide +kernel
theorem dX8_merges_48 : decode cX8_merges 48 = .ok (.iconst 1, 1) := by decide +kernel
theorem dX8_merges_49 : decode cX8_merges 49 = .ok (.isub, 1) := by decide +kernel
theorem dX8_merges_50 : decode cX8_merges 50 = .ok (.iastore, 1) := by decide +kernel
theorem dX8_merges_51 : decode cX8_merges 51 = .ok (.iload_n 3, 1) := by decide +kernel
theorem dX8_merges_52 : decode cX8_merges 52 = .ok (.iconst 1, 1) := by decide +kernel
theorem dX8_merges_53 : decode cX8_merges 53 = .ok (.iadd, 1) := by decide +kernel
theorem dX8_merges_54 : decode cX8_merges 54 = .ok (.istore 4, 2) := by decide +kernel
theorem dX8_merges_56 : decode cX8_merges 56 = .ok (.iload 4, 2) := by decide +kernel
theorem dX8_merges_58 : decode cX8_merges 58 = .ok (.aload_n 0, 1) := by decide +kernel
theorem dX8_merges_59 : decode cX8_merges 59 = .ok (.getfield 20, 3) := by decide +kernel
theorem dX8_merges_62 : decode cX8_merges 62 = .ok (.iload_n 1, 1) := by decide +kernel
theorem dX8_merges_63 : decode cX8_merges 63 = .ok (.iaload, 1) := by decide +kernel
theorem dX8_merges_64 : decode cX8_merges 64 = .ok (.if_icmp .ge 37, 3) := by decide +kernel
theorem dX8_merges_67 : decode cX8_merges 67 = .ok (.aload_n 0, 1) := by decide +kernel
theorem dX8_merges_68 : decode cX8_merges 68 = .ok (.getfield 17, 3) := by decide +kernel
theorem dX8_merges_71 : decode cX8_merges 71 = .ok (.sipush 2052, 3) := by decide +kernel
theorem dX8_merges_74 : decode cX8_merges 74 = .ok (.iload_n 1, 1) := by decide +kernel
theorem dX8_merges_75 : decode cX8_merges 75 = .ok (.imul, 1) := by decide +kernel
theorem dX8_merges_76 : decode cX8_merges 76 = .ok (.iload 4, 2) := by decide +kernel
theorem dX8_merges_78 : decode cX8_merges 78 = .ok (.iadd, 1) := by decide +kernel
theorem dX8_merges_79 : decode cX8_merges 79 = .ok (.aload_n 0, 1) := by decide +kernel
theorem dX8_merges_80 : decode cX8_merges 80 = .ok (.getfield 17, 3) := by decide +kernel
theorem dX8_merges_83 : decode cX8_merges 83 = .ok (.sipush 2052, 3) := by decide +kernel
theorem dX8_merges_86 : decode cX8_merges 86 = .ok (.iload_n 1, 1) := by decide +kernel
theorem dX8_merges_87 : decode cX8_merges 87 = .ok (.imul, 1) := by decide +kernel
theorem dX8_merges_88 : decode cX8_merges 88 = .ok (.iload 4, 2) := by decide +kernel
theorem dX8_merges_90 : decode cX8_merges 90 = .ok (.iadd, 1) := by decide +kernel
theorem dX8_merges_91 : decode cX8_merges 91 = .ok (.iconst 1, 1) := by decide +kernel
theorem dX8_merges_92 : decode cX8_merges 92 = .ok (.iadd, 1) := by decide +kernel
theorem dX8_merges_93 : decode cX8_merges 93 = .ok (.iaload, 1) := by decide +kernel
theorem dX8_merges_94 : decode cX8_merges 94 = .ok (.iastore, 1) := by decide +kernel
theorem dX8_merges_95 : decode cX8_merges 95 = .ok (.iinc 4 1, 3) := by decide +kernel
theorem dX8_merges_98 : decode cX8_merges 98 = .ok (.goto (-42), 3) := by decide +kernel
theorem dX8_merges_101 : decode cX8_merges 101 = .ok (.aload_n 0, 1) := by decide +kernel
theorem dX8_merges_102 : decode cX8_merges 102 = .ok (.iload_n 1, 1) := by decide +kernel
theorem dX8_merges_103 : decode cX8_merges 103 = .ok (.iload_n 3, 1) := by decide +kernel
theorem dX8_merges_104 : decode cX8_merges 104 = .ok (.invokevirtual 61, 3) := by decide +kernel
theorem dX8_merges_107 : decode cX8_merges 107 = .ok (.return_, 1) := by decide +kernel
set_option maxRecDepth 20000 in
theorem ggX8_puts_X8_has : GoodIn wsX8_puts wsX8_has := goodIn_r _ [7, 1, 30, 31, 32, 33, 34, 35, 36, 37, 38] (by decide +kernel) (by decide +kernel)
set_option maxRecDepth 20000 in
theorem gX8_puts_X8_has : GoodIn wsX8_puts (wsV RX8 50 RX8 yX8_has wsX8_has) := goodIn_app (goodIn_of _ (by decide +kernel)) ggX8_puts_X8_has
set_option maxRecDepth 20000 in
theorem ggX8_puts_X8_belongs : GoodIn wsX8_puts wsX8_belongs := goodIn_r _ [11, 12, 13, 14, 6, 15, 16, 17, 30, 31, 32, 33, 34, 35, 36, 37, 38] (by decide +kernel) (by decide +kernel)
set_option maxRecDepth 20000 in
theorem gX8_puts_X8_belongs : GoodIn wsX8_puts (wsV RX8 65 RX8 yX8_belongs wsX8_belongs) := goodIn_app (goodIn_of _ (by decide +kernel)) ggX8_puts_X8_belongs
set_option maxRecDepth 20000 in
theorem ggX8_puts_X8_splits : GoodIn wsX8_puts wsX8_splits := goodIn_r _ [21, 16, 17, 22, 23, 24, 6, 25, 12, 13, 14, 15, 3, 4, 5, 7, 1, 26, 27, 28, 29, 30, 31, 32, 33, 34, 35, 36, 37, 38] (by decide +kernel) (by decide +kernel)
set_option maxRecDepth 20000 in
theorem gX8_puts_X8_splits : GoodIn wsX8_puts (wsV RX8 61 RX8 yX8_splits wsX8_splits) := goodIn_app (goodIn_of _ (by decide +kernel)) ggX8_puts_X8_splits
theorem dX8_puts_0 : decode cX8_puts 0 = .ok (.aload_n 0, 1) := by decide +kernel
theorem dX8_puts_1 : decode cX8_puts 1 = .ok (.iload_n 1, 1) := by decide +kernel
theorem dX8_puts_2 : decode cX8_puts 2 = .ok (.iload_n 2, 1) := by decide +kernel
theorem dX8_puts_3 : decode cX8_puts 3 = .ok (.invokevirtual 50, 3) := by decide +kernel
theorem dX8_puts_6 : decode cX8_puts 6 = .ok (.ifCond .eq 5, 3) := by decide +kernel
theorem dX8_puts_9 : decode cX8_puts 9 = .ok (.iconst 0, 1) := by decide +kernel
theorem dX8_puts_10 : decode cX8_puts 10 = .ok (.ireturn, 1) := by decide +kernel
theorem dX8_puts_11 : decode cX8_puts 11 = .ok (.aload_n 0, 1) := by decide +kernel
theorem dX8_puts_12 : decode cX8_puts 12 = .ok (.getfield 7, 3) := by decide +kernel
theorem dX8_puts_15 : decode cX8_puts 15 = .ok (.sipush 4096, 3) := by decide +kernel
theorem dX8_puts_18 : decode cX8_puts 18 = .ok (.iload_n 1, 1) := by decide +kernel
theorem dX8_puts_19 : decode cX8_puts 19 = .ok (.imul, 1) := by decide +kernel
theorem dX8_puts_20 : decode cX8_puts 20 = .ok (.iload_n 2, 1) := by decide +kernel
theorem dX8_puts_21 : decode cX8_puts 21 = .ok (.iadd, 1) := by decide +kernel
theorem dX8_puts_22 : decode cX8_puts 22 = .ok (.iconst 1, 1) := by decide +kernel
theorem dX8_puts_23 : decode cX8_puts 23 = .ok (.bastore, 1) := by decide +kernel
theorem dX8_puts_24 : decode cX8_puts 24 = .ok (.aload_n 0, 1) := by decide +kernel
theorem dX8_puts_25 : decode cX8_puts 25 = .ok (.getfield 13, 3) := by decide +kernel
theorem dX8_puts_28 : decode cX8_puts 28 = .ok (.iload_n 1, 1) := by decide +kernel
theorem dX8_puts_29 : decode cX8_puts 29 = .ok (.dup2, 1) := by decide +kernel
theorem dX8_puts_30 : decode cX8_puts 30 = .ok (.iaload, 1) := by decide +kernel
theorem dX8_puts_31 : decode cX8_puts 31 = .ok (.iconst 1, 1) := by decide +kernel
theorem dX8_puts_32 : decode cX8_puts 32 = .ok (.iadd, 1) := by decide +kernel
theorem dX8_puts_33 : decode cX8_puts 33 = .ok (.iastore, 1) := by decide +kernel
theorem dX8_puts_34 : decode cX8_puts 34 = .ok (.aload_n 0, 1) := by decide +kernel
theorem dX8_puts_35 : decode cX8_puts 35 = .ok (.iload_n 1, 1) := by decide +kernel
theorem dX8_puts_36 : decode cX8_puts 36 = .ok (.aload_n 0, 1) := by decide +kernel
theorem dX8_puts_37 : decode cX8_puts 37 = .ok (.iload_n 1, 1) := by decide +kernel
theorem dX8_puts_38 : decode cX8_puts 38 = .ok (.iload_n 2, 1) := by decide +kernel
theorem dX8_puts_39 : decode cX8_puts 39 = .ok (.invokevirtual 65, 3) := by decide +kernel
theorem dX8_puts_42 : decode cX8_puts 42 = .ok (.invokevirtual 61, 3) := by decide +kernel
theorem dX8_puts_45 : decode cX8_puts 45 = .ok (.iconst 1, 1) := by decide +kernel
theorem dX8_puts_46 : decode cX8_puts 46 = .ok (.ireturn, 1) := by decide +kernel
set_option maxRecDepth 20000 in
theorem ggX8_takes_X8_has : GoodIn wsX8_takes wsX8_has := goodIn_r _ [7, 1, 34, 35, 36, 37, 38, 39, 40, 41, 42] (by decide +kernel) (by decide +kernel)
set_option maxRecDepth 20000 in
theorem gX8_takes_X8_has : GoodIn wsX8_takes (wsV RX8 50 RX8 yX8_has wsX8_has) := goodIn_app (goodIn_of _ (by decide +kernel)) ggX8_takes_X8_has
set_option maxRecDepth 20000 in
theorem ggX8_takes_X8_belongs : GoodIn wsX8_takes wsX8_belongs := goodIn_r _ [11, 12, 13, 14, 6, 15, 16, 17, 34, 35, 36, 37, 38, 39, 40, 41, 42] (by decide +kernel) (by decide +kernel)
set_option maxRecDepth 20000 in
theorem gX8_takes_X8_belongs : GoodIn wsX8_takes (wsV RX8 65 RX8 yX8_belongs wsX8_belongs) := goodIn_app (goodIn_of _ (by decide +kernel)) ggX8_takes_X8_belongs
set_option maxRecDepth 20000 in
theorem ggX8_takes_X8_merges : GoodIn wsX8_takes wsX8_merges := goodIn_r _ [21, 16, 17, 22, 23, 24, 6, 25, 12, 13, 14, 15, 3, 4, 5, 7, 1, 26, 27, 28, 29, 30, 31, 32, 33, 34, 35, 36, 37, 38, 39, 40, 41, 42] (by decide +kernel) (by decide +kernel)
set_option maxRecDepth 20000 in
theorem gX8_takes_X8_merges : GoodIn wsX8_takes (wsV RX8 68 RX8 yX8_merges wsX8_merges) := goodIn_app (goodIn_of _ (by decide +kernel)) ggX8_takes_X8_merges
theorem dX8_takes_0 : decode cX8_takes 0 = .ok (.aload_n 0, 1) := by decide +kernel
theorem dX8_takes_1 : decode cX8_takes 1 = .ok (.iload_n 1, 1) := by decide +kernel
theorem dX8_takes_2 : decode cX8_takes 2 = .ok (.iload_n 2, 1) := by decide +kernel
theorem dX8_takes_3 : decode cX8_takes 3 = .ok (.invokevirtual 50, 3) := by decide +kernel
theorem dX8_takes_6 : decode cX8_takes 6 = .ok (.ifCond .ne 5, 3) := by decide +kernel
theorem dX8_takes_9 : decode cX8_takes 9 = .ok (.iconst 0, 1) := by decide +kernel
theorem dX8_takes_10 : decode cX8_takes 10 = .ok (.ireturn, 1) := by decide +kernel
theorem dX8_takes_11 : decode cX8_takes 11 = .ok (.aload_n 0, 1) := by decide +kernel
theorem dX8_takes_12 : decode cX8_takes 12 = .ok (.getfield 7, 3) := by decide +kernel
theorem dX8_takes_15 : decode cX8_takes 15 = .ok (.sipush 4096, 3) := by decide +kernel
theorem dX8_takes_18 : decode cX8_takes 18 = .ok (.iload_n 1, 1) := by decide +kernel
theorem dX8_takes_19 : decode cX8_takes 19 = .ok (.imul, 1) := by decide +kernel
theorem dX8_takes_20 : decode cX8_takes 20 = .ok (.iload_n 2, 1) := by decide +kernel
theorem dX8_takes_21 : decode cX8_takes 21 = .ok (.iadd, 1) := by decide +kernel
theorem dX8_takes_22 : decode cX8_takes 22 = .ok (.iconst 0, 1) := by decide +kernel
theorem dX8_takes_23 : decode cX8_takes 23 = .ok (.bastore, 1) := by decide +kernel
theorem dX8_takes_24 : decode cX8_takes 24 = .ok (.aload_n 0, 1) := by decide +kernel
theorem dX8_takes_25 : decode cX8_takes 25 = .ok (.getfield 13, 3) := by decide +kernel
theorem dX8_takes_28 : decode cX8_takes 28 = .ok (.iload_n 1, 1) := by decide +kernel
theorem dX8_takes_29 : decode cX8_takes 29 = .ok (.dup2, 1) := by decide +kernel
theorem dX8_takes_30 : decode cX8_takes 30 = .ok (.iaload, 1) := by decide +kernel
theorem dX8_takes_31 : decode cX8_takes 31 = .ok (.iconst 1, 1) := by decide +kernel
theorem dX8_takes_32 : decode cX8_takes 32 = .ok (.isub, 1) := by decide +kernel
theorem dX8_takes_33 : decode cX8_takes 33 = .ok (.iastore, 1) := by decide +kernel
theorem dX8_takes_34 : decode cX8_takes 34 = .ok (.aload_n 0, 1) := by decide +kernel
theorem dX8_takes_35 : decode cX8_takes 35 = .ok (.iload_n 1, 1) := by decide +kernel
theorem dX8_takes_36 : decode cX8_takes 36 = .ok (.aload_n 0, 1) := by decide +kernel
theorem dX8_takes_37 : decode cX8_takes 37 = .ok (.iload_n 1, 1) := by decide +kernel
theorem dX8_takes_38 : decode cX8_takes 38 = .ok (.iload_n 2, 1) := by decide +kernel
theorem dX8_takes_39 : decode cX8_takes 39 = .ok (.invokevirtual 65, 3) := by decide +kernel
theorem dX8_takes_42 : decode cX8_takes 42 = .ok (.invokevirtual 68, 3) := by decide +kernel
theorem dX8_takes_45 : decode cX8_takes 45 = .ok (.iconst 1, 1) := by decide +kernel
theorem dX8_takes_46 : decode cX8_takes 46 = .ok (.ireturn, 1) := by decide +kernel
set_option maxRecDepth 20000 in
theorem ggX8_insert_X8_isRight : GoodIn wsX8_insert wsX8_isRight := goodIn_r _ [5, 6, 7, 4, 8, 9, 10, 11, 12, 13, 14, 15, 16, 49, 50, 51, 52, 53, 54, 55, 56, 57] (by decide +kernel) (by decide +kernel)
set_option maxRecDepth 20000 in
theorem gX8_insert_X8_isRight : GoodIn wsX8_insert (wsV RX8 71 RX8 yX8_isRight wsX8_isRight) := goodIn_app (goodIn_of _ (by decide +kernel)) ggX8_insert_X8_isRight
set_option maxRecDepth 20000 in
theorem ggX8_insert_X8_puts : GoodIn wsX8_insert wsX8_puts := goodIn_r _ [20, 21, 22, 23, 24, 25, 4, 26, 27, 28, 29, 30, 31, 32, 33, 34, 35, 36, 37, 38, 39, 40, 41, 42, 43, 44, 45, 46, 47, 48, 49, 50, 51, 52, 53, 54, 55, 56, 57] (by decide +kernel) (by decide +kernel)
set_option maxRecDepth 20000 in
theorem gX8_insert_X8_puts : GoodIn wsX8_insert (wsV RX8 74 RX8 yX8_puts wsX8_puts) := goodIn_app (goodIn_of _ (by decide +kernel)) ggX8_insert_X8_puts
theorem dX8_insert_0 : decode cX8_insert 0 = .ok (.aload_n 0, 1) := by decide +kernel
theorem dX8_insert_1 : decode cX8_insert 1 = .ok (.iload_n 1, 1) := by decide +kernel
theorem dX8_insert_2 : decode cX8_insert 2 = .ok (.iload_n 2, 1) := by decide +kernel
theorem dX8_insert_3 : decode cX8_insert 3 = .ok (.invokevirtual 71, 3) := by decide +kernel
theorem dX8_insert_6 : decode cX8_insert 6 = .ok (.ifCond .eq 16, 3) := by decide +kernel
theorem dX8_insert_9 : decode cX8_insert 9 = .ok (.aload_n 0, 1) := by decide +kernel
theorem dX8_insert_10 : decode cX8_insert 10 = .ok (.iload_n 1, 1) := by decide +kernel
theorem dX8_insert_11 : decode cX8_insert 11 = .ok (.iload_n 2, 1) := by decide +kernel
theorem dX8_insert_12 : decode cX8_insert 12 = .ok (.invokevirtual 74, 3) := by decide +kernel
theorem dX8_insert_15 : decode cX8_insert 15 = .ok (.ifCond .eq 7, 3) := by decide +kernel
theorem dX8_insert_18 : decode cX8_insert 18 = .ok (.iconst 1, 1) := by decide +kernel
theorem dX8_insert_19 : decode cX8_insert 19 = .ok (.goto 4, 3) := by decide +kernel
theorem dX8_insert_22 : decode cX8_insert 22 = .ok (.iconst 0, 1) := by decide +kernel
theorem dX8_insert_23 : decode cX8_insert 23 = .ok (.ireturn, 1) := by decide +kernel
set_option maxRecDepth 20000 in
theorem ggX8_insertRange_X8_in : GoodIn wsX8_insertRange wsX8_in := goodIn_r _ [4] (by decide +kernel) (by decide +kernel)
set_option maxRecDepth 20000 in
theorem gX8_insertRange_X8_in : GoodIn wsX8_insertRange (va_wsS RX8 34 yX8_in wsX8_in) := goodIn_app (goodIn_of _ (by decide +kernel)) ggX8_insertRange_X8_in
set_option maxRecDepth 20000 in
theorem ggX8_insertRange_X8_isSet : GoodIn wsX8_insertRange wsX8_isSet := goodIn_r _ [7, 1, 2, 3, 4] (by decide +kernel) (by decide +kernel)
set_option maxRecDepth 20000 in
theorem gX8_insertRange_X8_isSet : GoodIn wsX8_insertRange (va_wsS RX8 38 yX8_isSet wsX8_isSet) := goodIn_app (goodIn_of _ (by decide +kernel)) ggX8_insertRange_X8_isSet
set_option maxRecDepth 20000 in
theorem ggX8_insertRange_X8_asked_ : GoodIn wsX8_insertRange wsX8_asked_ := goodIn_r _ [11, 12, 45, 46, 47, 48, 49, 50, 51, 52, 53] (by decide +kernel) (by decide +kernel)
set_option maxRecDepth 20000 in
theorem gX8_insertRange_X8_asked_ : GoodIn wsX8_insertRange (wsV RX8 42 RX8 yX8_asked_ wsX8_asked_) := goodIn_app (goodIn_of _ (by decide +kernel)) ggX8_insertRange_X8_asked_
set_option maxRecDepth 20000 in
theorem ggX8_insertRange_X8_puts : GoodIn wsX8_insertRange wsX8_puts := goodIn_r _ [16, 17, 18, 19, 20, 21, 3, 22, 23, 24, 25, 26, 27, 28, 29, 30, 31, 32, 33, 34, 35, 36, 37, 38, 39, 40, 41, 42, 43, 44, 45, 46, 47, 48, 49, 50, 51, 52, 53] (by decide +kernel) (by decide +kernel)
set_option maxRecDepth 20000 in
theorem gX8_insertRange_X8_puts : GoodIn wsX8_insertRange (wsV RX8 74 RX8 yX8_puts wsX8_puts) := goodIn_app (goodIn_of _ (by decide +kernel)) ggX8_insertRange_X8_puts
theorem dX8_insertRange_0 : decode cX8_insertRange 0 = .ok (.iload_n 2, 1) := by decide +kernel
theorem dX8_insertRange_1 : decode cX8_insertRange 1 = .ok (.iconst 0, 1) := by decide +kernel
theorem dX8_insertRange_2 : decode cX8_insertRange 2 = .ok (.sipush 4095, 3) := by decide +kernel
theorem dX8_insertRange_5 : decode cX8_insertRange 5 = .ok (.invokestatic 34, 3) := by decide +kernel
theorem dX8_insertRange_8 : decode cX8_insertRange 8 = .ok (.ifCond .eq 29, 3) := by decide +kernel
theorem dX8_insertRange_11 : decode cX8_insertRange 11 = .ok (.iload_n 3, 1) := by decide +kernel
theorem dX8_insertRange_12 : decode cX8_insertRange 12 = .ok (.iconst 1, 1) := by decide +kernel
theorem dX8_insertRange_13 : decode cX8_insertRange 13 = .ok (.sipush 1000, 3) := by decide +kernel
theorem dX8_insertRange_16 : decode cX8_insertRange 16 = .ok (.invokestatic 34, 3) := by decide +kernel
theorem dX8_insertRange_19 : decode cX8_insertRange 19 = .ok (.ifCond .eq 18, 3) := by decide +kernel
theorem dX8_insertRange_22 : decode cX8_insertRange 22 = .ok (.iload 4, 2) := by decide +kernel
theorem dX8_insertRange_24 : decode cX8_insertRange 24 = .ok (.iconst 1, 1) := by decide +kernel
theorem dX8_insertRange_25 : decode cX8_insertRange 25 = .ok (.bipush 30, 2) := by decide +kernel
theorem dX8_insertRange_27 : decode cX8_insertRange 27 = .ok (.invokestatic 34, 3) := by decide +kernel
theorem dX8_insertRange_30 : decode cX8_insertRange 30 = .ok (.ifCond .eq 7, 3) := by decide +kernel
theorem dX8_insertRange_33 : decode cX8_insertRange 33 = .ok (.iconst 1, 1) := by decide +kernel
theorem dX8_insertRange_34 : decode cX8_insertRange 34 = .ok (.goto 4, 3) := by decide +kernel
theorem dX8_insertRange_37 : decode cX8_insertRange 37 = .ok (.iconst 0, 1) := by decide +kernel
theorem dX8_insertRange_38 : decode cX8_insertRange 38 = .ok (.istore 5, 2) := by decide +kernel
theorem dX8_insertRange_40 : decode cX8_insertRange 40 = .ok (.aload_n 0, 1) := by decide +kernel
theorem dX8_insertRange_41 : decode cX8_insertRange 41 = .ok (.iload_n 1, 1) := by decide +kernel
theorem dX8_insertRange_42 : decode cX8_insertRange 42 = .ok (.invokestatic 38, 3) := by decide +kernel
theorem dX8_insertRange_45 : decode cX8_insertRange 45 = .ok (.iload 5, 2) := by decide +kernel
theorem dX8_insertRange_47 : decode cX8_insertRange 47 = .ok (.ifCond .eq 21, 3) := by decide +kernel
theorem dX8_insertRange_50 : decode cX8_insertRange 50 = .ok (.iload_n 2, 1) := by decide +kernel
theorem dX8_insertRange_51 : decode cX8_insertRange 51 = .ok (.iload 4, 2) := by decide +kernel
theorem dX8_insertRange_53 : decode cX8_insertRange 53 = .ok (.iconst 1, 1) := by decide +kernel
theorem dX8_insertRange_54 : decode cX8_insertRange 54 = .ok (.isub, 1) := by decide +kernel
theorem dX8_insertRange_55 : decode cX8_insertRange 55 = .ok (.iload_n 3, 1) := by decide +kernel
theorem dX8_insertRange_56 : decode cX8_insertRange 56 = .ok (.imul, 1) := by decide +kernel
theorem dX8_insertRange_57 : decode cX8_insertRange 57 = .ok (.iadd, 1) := by decide +kernel
theorem dX8_insertRange_58 : decode cX8_insertRange 58 = .ok (.sipush 4096, 3) := by decide +kernel
theorem dX8_insertRange_61 : decode cX8_insertRange 61 = .ok (.if_icmp .ge 7, 3) := by decide +kernel
theorem dX8_insertRange_64 : decode cX8_insertRange 64 = .ok (.iconst 1, 1) := by decide +kernel
theorem dX8_insertRange_65 : decode cX8_insertRange 65 = .ok (.goto 4, 3) := by decide +kernel
theorem dX8_insertRange_68 : decode cX8_insertRange 68 = .ok (.iconst 0, 1) := by decide +kernel
theorem dX8_insertRange_69 : decode cX8_insertRange 69 = .ok (.invokevirtual 42, 3) := by decide +kernel
theorem dX8_insertRange_72 : decode cX8_insertRange 72 = .ok (.ifCond .ne 5, 3) := by decide +kernel
theorem dX8_insertRange_75 : decode cX8_insertRange 75 = .ok (.iconst 0, 1) := by decide +kernel
theorem dX8_insertRange_76 : decode cX8_insertRange 76 = .ok (.ireturn, 1) := by decide +kernel
theorem dX8_insertRange_77 : decode cX8_insertRange 77 = .ok (.iconst 0, 1) := by decide +kernel
theorem dX8_insertRange_78 : decode cX8_insertRange 78 = .ok (.istore 6, 2) := by decide +kernel
theorem dX8_insertRange_80 : decode cX8_insertRange 80 = .ok (.iconst 0, 1) := by decide +kernel
theorem dX8_insertRange_81 : decode cX8_insertRange 81 = .ok (.istore 7, 2) := by decide +kernel
theorem dX8_insertRange_83 : decode cX8_insertRange 83 = .ok (.iload 7, 2) := by decide +kernel
theorem dX8_insertRange_85 : decode cX8_insertRange 85 = .ok (.iload 4, 2) := by decide +kernel
theorem dX8_insertRange_87 : decode cX8_insertRange 87 = .ok (.if_icmp .ge 33, 3) := by decide +kernel
theorem dX8_insertRange_90 : decode cX8_insertRange 90 = .ok (.iload 6, 2) := by decide +kernel
theorem dX8_insertRange_92 : decode cX8_insertRange 92 = .ok (.aload_n 0, 1) := by decide +kernel
theorem dX8_insertRange_93 : decode cX8_insertRange 93 = .ok (.iload_n 1, 1) := by decide +kernel
theorem dX8_insertRange_94 : decode cX8_insertRange 94 = .ok (.iload_n 2, 1) := by decide +kernel
theorem dX8_insertRange_95 : decode cX8_insertRange 95 = .ok (.iload 7, 2) := by decide +kernel
theorem dX8_insertRange_97 : decode cX8_insertRange 97 = .ok (.iload_n 3, 1) := by decide +kernel
theorem dX8_insertRange_98 : decode cX8_insertRange 98 = .ok (.imul, 1) := by decide +kernel
theorem dX8_insertRange_99 : decode cX8_insertRange 99 = .ok (.iadd, 1) := by decide +kernel
theorem dX8_insertRange_100 : decode cX8_insertRange 100 = .ok (.invokevirtual 74, 3) := by decide +kernel
theorem dX8_insertRange_103 : decode cX8_insertRange 103 = .ok (.ifCond .eq 7, 3) := by decide +kernel
theorem dX8_insertRange_106 : decode cX8_insertRange 106 = .ok (.iconst 1, 1) := by decide +kernel
theorem dX8_insertRange_107 : decode cX8_insertRange 107 = .ok (.goto 4, 3) := by decide +kernel
theorem dX8_insertRange_110 : decode cX8_insertRange 110 = .ok (.iconst 0, 1) := by decide +kernel
theorem dX8_insertRange_111 : decode cX8_insertRange 111 = .ok (.iadd, 1) := by decide +kernel
theorem dX8_insertRange_112 : decode cX8_insertRange 112 = .ok (.istore 6, 2) := by decide +kernel
theorem dX8_insertRange_114 : decode cX8_insertRange 114 = .ok (.iinc 7 1, 3) := by decide +kernel
theorem dX8_insertRange_117 : decode cX8_insertRange 117 = .ok (.goto (-34), 3) := by decide +kernel
theorem dX8_insertRange_120 : decode cX8_insertRange 120 = .ok (.iload 6, 2) := by decide +kernel
theorem dX8_insertRange_122 : decode cX8_insertRange 122 = .ok (.ireturn, 1) := by decide +kernel
set_option maxRecDepth 20000 in
theorem ggX8_insertAll_X8_isSet : GoodIn wsX8_insertAll wsX8_isSet := goodIn_r _ [5, 6, 7, 4, 8] (by decide +kernel) (by decide +kernel)
set_option maxRecDepth 20000 in
theorem gX8_insertAll_X8_isSet : GoodIn wsX8_insertAll (va_wsS RX8 38 yX8_isSet wsX8_isSet) := goodIn_app (goodIn_of _ (by decide +kernel)) ggX8_insertAll_X8_isSet
set_option maxRecDepth 20000 in
theorem ggX8_insertAll_X8_asked_ : GoodIn wsX8_insertAll wsX8_asked_ := goodIn_r _ [12, 13, 45, 46, 47, 48, 49, 50, 51, 52, 53] (by decide +kernel) (by decide +kernel)
set_option maxRecDepth 20000 in
theorem gX8_insertAll_X8_asked_ : GoodIn wsX8_insertAll (wsV RX8 42 RX8 yX8_asked_ wsX8_asked_) := goodIn_app (goodIn_of _ (by decide +kernel)) ggX8_insertAll_X8_asked_
set_option maxRecDepth 20000 in
theorem ggX8_insertAll_X8_has : GoodIn wsX8_insertAll wsX8_has := goodIn_r _ [17, 18, 45, 46, 47, 48, 49, 50, 51, 52, 53] (by decide +kernel) (by decide +kernel)
set_option maxRecDepth 20000 in
theorem gX8_insertAll_X8_has : GoodIn wsX8_insertAll (wsV RX8 50 RX8 yX8_has wsX8_has) := goodIn_app (goodIn_of _ (by decide +kernel)) ggX8_insertAll_X8_has
set_option maxRecDepth 20000 in
theorem ggX8_insertAll_X8_puts : GoodIn wsX8_insertAll wsX8_puts := goodIn_r _ [22, 18, 1, 14, 15, 16, 4, 17, 23, 24, 25, 26, 27, 28, 29, 30, 31, 32, 33, 34, 35, 36, 37, 38, 39, 40, 41, 42, 43, 44, 45, 46, 47, 48, 49, 50, 51, 52, 53] (by decide +kernel) (by decide +kernel)
set_option maxRecDepth 20000 in
theorem gX8_insertAll_X8_puts : GoodIn wsX8_insertAll (wsV RX8 74 RX8 yX8_puts wsX8_puts) := goodIn_app (goodIn_of _ (by decide +kernel)) ggX8_insertAll_X8_puts
theorem dX8_insertAll_0 : decode cX8_insertAll 0 = .ok (.iload_n 1, 1) := by decide +kernel
theorem dX8_insertAll_1 : decode cX8_insertAll 1 = .ok (.invokestatic 38, 3) := by decide +kernel
theorem dX8_insertAll_4 : decode cX8_insertAll 4 = .ok (.ifCond .eq 14, 3) := by decide +kernel
theorem dX8_insertAll_7 : decode cX8_insertAll 7 = .ok (.iload_n 2, 1) := by decide +kernel
theorem dX8_insertAll_8 : decode cX8_insertAll 8 = .ok (.invokestatic 38, 3) := by decide +kernel
theorem dX8_insertAll_11 : decode cX8_insertAll 11 = .ok (.ifCond .eq 7, 3) := by decide +kernel
theorem dX8_insertAll_14 : decode cX8_insertAll 14 = .ok (.iconst 1, 1) := by decide +kernel
theorem dX8_insertAll_15 : decode cX8_insertAll 15 = .ok (.goto 4, 3) := by decide +kernel
theorem dX8_insertAll_18 : decode cX8_insertAll 18 = .ok (.iconst 0, 1) := by decide +kernel
theorem dX8_insertAll_19 : decode cX8_insertAll 19 = .ok (.istore_n 3, 1) := by decide +kernel
theorem dX8_insertAll_20 : decode cX8_insertAll 20 = .ok (.aload_n 0, 1) := by decide +kernel
theorem dX8_insertAll_21 : decode cX8_insertAll 21 = .ok (.iload_n 3, 1) := by decide +kernel
theorem dX8_insertAll_22 : decode cX8_insertAll 22 = .ok (.iload_n 3, 1) := by decide +kernel
theorem dX8_insertAll_23 : decode cX8_insertAll 23 = .ok (.ifCond .eq 18, 3) := by decide +kernel
theorem dX8_insertAll_26 : decode cX8_insertAll 26 = .ok (.aload_n 0, 1) := by decide +kernel
theorem dX8_insertAll_27 : decode cX8_insertAll 27 = .ok (.getfield 13, 3) := by decide +kernel
theorem dX8_insertAll_30 : decode cX8_insertAll 30 = .ok (.iload_n 2, 1) := by decide +kernel
theorem dX8_insertAll_31 : decode cX8_insertAll 31 = .ok (.iaload, 1) := by decide +kernel
theorem dX8_insertAll_32 : decode cX8_insertAll 32 = .ok (.bipush 30, 2) := by decide +kernel
theorem dX8_insertAll_34 : decode cX8_insertAll 34 = .ok (.if_icmp .gt 7, 3) := by decide +kernel
theorem dX8_insertAll_37 : decode cX8_insertAll 37 = .ok (.iconst 1, 1) := by decide +kernel
theorem dX8_insertAll_38 : decode cX8_insertAll 38 = .ok (.goto 4, 3) := by decide +kernel
theorem dX8_insertAll_41 : decode cX8_insertAll 41 = .ok (.iconst 0, 1) := by decide +kernel
theorem dX8_insertAll_42 : decode cX8_insertAll 42 = .ok (.invokevirtual 42, 3) := by decide +kernel
theorem dX8_insertAll_45 : decode cX8_insertAll 45 = .ok (.ifCond .ne 5, 3) := by decide +kernel
theorem dX8_insertAll_48 : decode cX8_insertAll 48 = .ok (.iconst 0, 1) := by decide +kernel
theorem dX8_insertAll_49 : decode cX8_insertAll 49 = .ok (.ireturn, 1) := by decide +kernel
theorem dX8_insertAll_50 : decode cX8_insertAll 50 = .ok (.iconst 0, 1) := by decide +kernel
theorem dX8_insertAll_51 : decode cX8_insertAll 51 = .ok (.istore 4, 2) := by decide +kernel
theorem dX8_insertAll_53 : decode cX8_insertAll 53 = .ok (.iconst 0, 1) := by decide +kernel
theorem dX8_insertAll_54 : decode cX8_insertAll 54 = .ok (.istore 5, 2) := by decide +kernel
theorem dX8_insertAll_56 : decode cX8_insertAll 56 = .ok (.iload 5, 2) := by decide +kernel
theorem dX8_insertAll_58 : decode cX8_insertAll 58 = .ok (.sipush 4096, 3) := by decide +kernel
theorem dX8_insertAll_61 : decode cX8_insertAll 61 = .ok (.if_icmp .ge 39, 3) := by decide +kernel
theorem dX8_insertAll_64 : decode cX8_insertAll 64 = .ok (.iload 4, 2) := by decide +kernel
theorem dX8_insertAll_66 : decode cX8_insertAll 66 = .ok (.aload_n 0, 1) := by decide +kernel
theorem dX8_insertAll_67 : decode cX8_insertAll 67 = .ok (.iload_n 2, 1) := by decide +kernel
theorem dX8_insertAll_68 : decode cX8_insertAll 68 = .ok (.iload 5, 2) := by decide +kernel
theorem dX8_insertAll_70 : decode cX8_insertAll 70 = .ok (.invokevirtual 50, 3) := by decide +kernel
theorem dX8_insertAll_73 : decode cX8_insertAll 73 = .ok (.ifCond .eq 17, 3) := by decide +kernel
theorem dX8_insertAll_76 : decode cX8_insertAll 76 = .ok (.aload_n 0, 1) := by decide +kernel
theorem dX8_insertAll_77 : decode cX8_insertAll 77 = .ok (.iload_n 1, 1) := by decide +kernel
theorem dX8_insertAll_78 : decode cX8_insertAll 78 = .ok (.iload 5, 2) := by decide +kernel
theorem dX8_insertAll_80 : decode cX8_insertAll 80 = .ok (.invokevirtual 74, 3) := by decide +kernel
theorem dX8_insertAll_83 : decode cX8_insertAll 83 = .ok (.ifCond .eq 7, 3) := by decide +kernel
theorem dX8_insertAll_86 : decode cX8_insertAll 86 = .ok (.iconst 1, 1) := by decide +kernel
theorem dX8_insertAll_87 : decode cX8_insertAll 87 = .ok (.goto 4, 3) := by decide +kernel
theorem dX8_insertAll_90 : decode cX8_insertAll 90 = .ok (.iconst 0, 1) := by decide +kernel
theorem dX8_insertAll_91 : decode cX8_insertAll 91 = .ok (.iadd, 1) := by decide +kernel
theorem dX8_insertAll_92 : decode cX8_insertAll 92 = .ok (.istore 4, 2) := by decide +kernel
theorem dX8_insertAll_94 : decode cX8_insertAll 94 = .ok (.iinc 5 1, 3) := by decide +kernel
theorem dX8_insertAll_97 : decode cX8_insertAll 97 = .ok (.goto (-41), 3) := by decide +kernel
theorem dX8_insertAll_100 : decode cX8_insertAll 100 = .ok (.iload 4, 2) := by decide +kernel
theorem dX8_insertAll_102 : decode cX8_insertAll 102 = .ok (.ireturn, 1) := by decide +kernel
set_option maxRecDepth 20000 in
theorem ggX8_delete_X8_isRight : GoodIn wsX8_delete wsX8_isRight := goodIn_r _ [5, 6, 7, 4, 8, 9, 10, 11, 12, 13, 14, 15, 16, 53, 54, 55, 56, 57, 58, 59, 60, 61] (by decide +kernel) (by decide +kernel)
set_option maxRecDepth 20000 in
theorem gX8_delete_X8_isRight : GoodIn wsX8_delete (wsV RX8 71 RX8 yX8_isRight wsX8_isRight) := goodIn_app (goodIn_of _ (by decide +kernel)) ggX8_delete_X8_isRight
set_option maxRecDepth 20000 in
theorem ggX8_delete_X8_takes : GoodIn wsX8_delete wsX8_takes := goodIn_r _ [20, 21, 22, 23, 24, 25, 4, 26, 27, 28, 29, 30, 31, 32, 33, 34, 35, 36, 37, 38, 39, 40, 41, 42, 43, 44, 45, 46, 47, 48, 49, 50, 51, 52, 53, 54, 55, 56, 57, 58, 59, 60, 61] (by decide +kernel) (by decide +kernel)
set_option maxRecDepth 20000 in
theorem gX8_delete_X8_takes : GoodIn wsX8_delete (wsV RX8 77 RX8 yX8_takes wsX8_takes) := goodIn_app (goodIn_of _ (by decide +kernel)) ggX8_delete_X8_takes
theorem dX8_delete_0 : decode cX8_delete 0 = .ok (.aload_n 0, 1) := by decide +kernel
theorem dX8_delete_1 : decode cX8_delete 1 = .ok (.iload_n 1, 1) := by decide +kernel
theorem dX8_delete_2 : decode cX8_delete 2 = .ok (.iload_n 2, 1) := by decide +kernel
theorem dX8_delete_3 : decode cX8_delete 3 = .ok (.invokevirtual 71, 3) := by decide +kernel
theorem dX8_delete_6 : decode cX8_delete 6 = .ok (.ifCond .eq 16, 3) := by decide +kernel
theorem dX8_delete_9 : decode cX8_delete 9 = .ok (.aload_n 0, 1) := by decide +kernel
theorem dX8_delete_10 : decode cX8_delete 10 = .ok (.iload_n 1, 1) := by decide +kernel
theorem dX8_delete_11 : decode cX8_delete 11 = .ok (.iload_n 2, 1) := by decide +kernel
theorem dX8_delete_12 : decode cX8_delete 12 = .ok (.invokevirtual 77, 3) := by decide +kernel
theorem dX8_delete_15 : decode cX8_delete 15 = .ok (.ifCond .eq 7, 3) := by decide +kernel
theorem dX8_delete_18 : decode cX8_delete 18 = .ok (.iconst 1, 1) := by decide +kernel
theorem dX8_delete_19 : decode cX8_delete 19 = .ok (.goto 4, 3) := by decide +kernel
theorem dX8_delete_22 : decode cX8_delete 22 = .ok (.iconst 0, 1) := by decide +kernel
theorem dX8_delete_23 : decode cX8_delete 23 = .ok (.ireturn, 1) := by decide +kernel
set_option maxRecDepth 20000 in
theorem ggX8_above_X8_has : GoodIn wsX8_above wsX8_has := goodIn_r _ [5, 6, 7, 8, 9, 10, 11, 12, 13, 14, 15] (by decide +kernel) (by decide +kernel)
set_option maxRecDepth 20000 in
theorem gX8_above_X8_has : GoodIn wsX8_above (wsV RX8 50 RX8 yX8_has wsX8_has) := goodIn_app (goodIn_of _ (by decide +kernel)) ggX8_above_X8_has
theorem dX8_above_0 : decode cX8_above 0 = .ok (.iload_n 2, 1) := by decide +kernel
theorem dX8_above_1 : decode cX8_above 1 = .ok (.istore_n 3, 1) := by decide +kernel
theorem dX8_above_2 : decode cX8_above 2 = .ok (.iload_n 3, 1) := by decide +kernel
theorem dX8_above_3 : decode cX8_above 3 = .ok (.sipush 4096, 3) := by decide +kernel
theorem dX8_above_6 : decode cX8_above 6 = .ok (.if_icmp .ge 18, 3) := by decide +kernel
theorem dX8_above_9 : decode cX8_above 9 = .ok (.aload_n 0, 1) := by decide +kernel
theorem dX8_above_10 : decode cX8_above 10 = .ok (.iload_n 1, 1) := by decide +kernel
theorem dX8_above_11 : decode cX8_above 11 = .ok (.iload_n 3, 1) := by decide +kernel
theorem dX8_above_12 : decode cX8_above 12 = .ok (.invokevirtual 50, 3) := by decide +kernel
theorem dX8_above_15 : decode cX8_above 15 = .ok (.ifCond .ne 9, 3) := by decide +kernel
theorem dX8_above_18 : decode cX8_above 18 = .ok (.iinc 3 1, 3) := by decide +kernel
theorem dX8_above_21 : decode cX8_above 21 = .ok (.goto (-19), 3) := by decide +kernel
theorem dX8_above_24 : decode cX8_above 24 = .ok (.iload_n 3, 1) := by decide +kernel
theorem dX8_above_25 : decode cX8_above 25 = .ok (.ireturn, 1) := by decide +kernel
set_option maxRecDepth 20000 in
theorem ggX8_below_X8_has : GoodIn wsX8_below wsX8_has := goodIn_r _ [5, 6, 7, 8, 9, 10, 11, 12, 13, 14, 15] (by decide +kernel) (by decide +kernel)
set_option maxRecDepth 20000 in
theorem gX8_below_X8_has : GoodIn wsX8_below (wsV RX8 50 RX8 yX8_has wsX8_has) := goodIn_app (goodIn_of _ (by decide +kernel)) ggX8_below_X8_has
theorem dX8_below_0 : decode cX8_below 0 = .ok (.iload_n 2, 1) := by decide +kernel
theorem dX8_below_1 : decode cX8_below 1 = .ok (.istore_n 3, 1) := by decide +kernel
theorem dX8_below_2 : decode cX8_below 2 = .ok (.iload_n 3, 1) := by decide +kernel
theorem dX8_below_3 : decode cX8_below 3 = .ok (.ifCond .lt 18, 3) := by decide +kernel
theorem dX8_below_6 : decode cX8_below 6 = .ok (.aload_n 0, 1) := by decide +kernel
theorem dX8_below_7 : decode cX8_below 7 = .ok (.iload_n 1, 1) := by decide +kernel
theorem dX8_below_8 : decode cX8_below 8 = .ok (.iload_n 3, 1) := by decide +kernel
theorem dX8_below_9 : decode cX8_below 9 = .ok (.invokevirtual 50, 3) := by decide +kernel
theorem dX8_below_12 : decode cX8_below 12 = .ok (.ifCond .ne 9, 3) := by decide +kernel
theorem dX8_below_15 : decode cX8_below 15 = .ok (.iinc 3 (-1), 3) := by decide +kernel
theorem dX8_below_18 : decode cX8_below 18 = .ok (.goto (-16), 3) := by decide +kernel
theorem dX8_below_21 : decode cX8_below 21 = .ok (.iload_n 3, 1) := by decide +kernel
theorem dX8_below_22 : decode cX8_below 22 = .ok (.ireturn, 1) := by decide +kernel
set_option maxRecDepth 20000 in
theorem ggX8_hasMembers_X8_isSet : GoodIn wsX8_hasMembers wsX8_isSet := goodIn_r _ [5, 6, 7, 4, 8] (by decide +kernel) (by decide +kernel)
set_option maxRecDepth 20000 in
theorem gX8_hasMembers_X8_isSet : GoodIn wsX8_hasMembers (va_wsS RX8 38 yX8_isSet wsX8_isSet) := goodIn_app (goodIn_of _ (by decide +kernel)) ggX8_hasMembers_X8_isSet
set_option maxRecDepth 20000 in
theorem ggX8_hasMembers_X8_asked_ : GoodIn wsX8_hasMembers wsX8_asked_ := goodIn_r _ [12, 13, 14, 15, 16, 17, 18, 19, 20, 21, 22] (by decide +kernel) (by decide +kernel)
set_option maxRecDepth 20000 in
theorem gX8_hasMembers_X8_asked_ : GoodIn wsX8_hasMembers (wsV RX8 42 RX8 yX8_asked_ wsX8_asked_) := goodIn_app (goodIn_of _ (by decide +kernel)) ggX8_hasMembers_X8_asked_
theorem dX8_hasMembers_0 : decode cX8_hasMembers 0 = .ok (.iload_n 1, 1) := by decide +kernel
theorem dX8_hasMembers_1 : decode cX8_hasMembers 1 = .ok (.invokestatic 38, 3) := by decide +kernel
theorem dX8_hasMembers_4 : decode cX8_hasMembers 4 = .ok (.istore_n 2, 1) := by decide +kernel
theorem dX8_hasMembers_5 : decode cX8_hasMembers 5 = .ok (.aload_n 0, 1) := by decide +kernel
theorem dX8_hasMembers_6 : decode cX8_hasMembers 6 = .ok (.iload_n 2, 1) := by decide +kernel
theorem dX8_hasMembers_7 : decode cX8_hasMembers 7 = .ok (.iload_n 2, 1) := by decide +kernel
theorem dX8_hasMembers_8 : decode cX8_hasMembers 8 = .ok (.ifCond .eq 16, 3) := by decide +kernel
theorem dX8_hasMembers_11 : decode cX8_hasMembers 11 = .ok (.aload_n 0, 1) := by decide +kernel
theorem dX8_hasMembers_12 : decode cX8_hasMembers 12 = .ok (.getfield 13, 3) := by decide +kernel
theorem dX8_hasMembers_15 : decode cX8_hasMembers 15 = .ok (.iload_n 1, 1) := by decide +kernel
theorem dX8_hasMembers_16 : decode cX8_hasMembers 16 = .ok (.iaload, 1) := by decide +kernel
theorem dX8_hasMembers_17 : decode cX8_hasMembers 17 = .ok (.ifCond .le 7, 3) := by decide +kernel
theorem dX8_hasMembers_20 : decode cX8_hasMembers 20 = .ok (.iconst 1, 1) := by decide +kernel
theorem dX8_hasMembers_21 : decode cX8_hasMembers 21 = .ok (.goto 4, 3) := by decide +kernel
theorem dX8_hasMembers_24 : decode cX8_hasMembers 24 = .ok (.iconst 0, 1) := by decide +kernel
theorem dX8_hasMembers_25 : decode cX8_hasMembers 25 = .ok (.invokevirtual 42, 3) := by decide +kernel
theorem dX8_hasMembers_28 : decode cX8_hasMembers 28 = .ok (.ireturn, 1) := by decide +kernel
set_option maxRecDepth 20000 in
theorem ggX8_pollFirst_X8_hasMembers : GoodIn wsX8_pollFirst wsX8_hasMembers := goodIn_r _ [5, 6, 7, 8, 4, 9, 10, 11, 12, 13, 14, 15, 16, 17, 57, 58, 59, 60, 61, 62, 63, 64, 65] (by decide +kernel) (by decide +kernel)
set_option maxRecDepth 20000 in
theorem gX8_pollFirst_X8_hasMembers : GoodIn wsX8_pollFirst (wsV RX8 80 RX8 yX8_hasMembers wsX8_hasMembers) := goodIn_app (goodIn_of _ (by decide +kernel)) ggX8_pollFirst_X8_hasMembers
set_option maxRecDepth 20000 in
theorem ggX8_pollFirst_X8_above : GoodIn wsX8_pollFirst wsX8_above := goodIn_r _ [21, 22, 23, 24, 4, 25, 26, 57, 58, 59, 60, 61, 62, 63, 64, 65] (by decide +kernel) (by decide +kernel)
set_option maxRecDepth 20000 in
theorem gX8_pollFirst_X8_above : GoodIn wsX8_pollFirst (wsV RX8 83 RX8 yX8_above wsX8_above) := goodIn_app (goodIn_of _ (by decide +kernel)) ggX8_pollFirst_X8_above
set_option maxRecDepth 20000 in
theorem ggX8_pollFirst_X8_takes : GoodIn wsX8_pollFirst wsX8_takes := goodIn_r _ [30, 26, 6, 22, 23, 24, 4, 25, 31, 32, 33, 34, 35, 36, 37, 38, 39, 40, 41, 42, 43, 44, 45, 46, 47, 48, 49, 50, 51, 52, 53, 54, 55, 56, 57, 58, 59, 60, 61, 62, 63, 64, 65] (by decide +kernel) (by decide +kernel)
set_option maxRecDepth 20000 in
theorem gX8_pollFirst_X8_takes : GoodIn wsX8_pollFirst (wsV RX8 77 RX8 yX8_takes wsX8_takes) := goodIn_app (goodIn_of _ (by decide +kernel)) ggX8_pollFirst_X8_takes
theorem dX8_pollFirst_0 : decode cX8_pollFirst 0 = .ok (.aload_n 0, 1) := by decide +kernel
theorem dX8_pollFirst_1 : decode cX8_pollFirst 1 = .ok (.iload_n 1, 1) := by decide +kernel
theorem dX8_pollFirst_2 : decode cX8_pollFirst 2 = .ok (.invokevirtual 80, 3) := by decide +kernel
theorem dX8_pollFirst_5 : decode cX8_pollFirst 5 = .ok (.ifCond .ne 5, 3) := by decide +kernel
theorem dX8_pollFirst_8 : decode cX8_pollFirst 8 = .ok (.iconst 0, 1) := by decide +kernel
theorem dX8_pollFirst_9 : decode cX8_pollFirst 9 = .ok (.ireturn, 1) := by decide +kernel
theorem dX8_pollFirst_10 : decode cX8_pollFirst 10 = .ok (.aload_n 0, 1) := by decide +kernel
theorem dX8_pollFirst_11 : decode cX8_pollFirst 11 = .ok (.iload_n 1, 1) := by decide +kernel
theorem dX8_pollFirst_12 : decode cX8_pollFirst 12 = .ok (.iconst 0, 1) := by decide +kernel
theorem dX8_pollFirst_13 : decode cX8_pollFirst 13 = .ok (.invokevirtual 83, 3) := by decide +kernel
theorem dX8_pollFirst_16 : decode cX8_pollFirst 16 = .ok (.istore_n 2, 1) := by decide +kernel
theorem dX8_pollFirst_17 : decode cX8_pollFirst 17 = .ok (.aload_n 0, 1) := by decide +kernel
theorem dX8_pollFirst_18 : decode cX8_pollFirst 18 = .ok (.iload_n 1, 1) := by decide +kernel
theorem dX8_pollFirst_19 : decode cX8_pollFirst 19 = .ok (.iload_n 2, 1) := by decide +kernel
theorem dX8_pollFirst_20 : decode cX8_pollFirst 20 = .ok (.invokevirtual 77, 3) := by decide +kernel
theorem dX8_pollFirst_23 : decode cX8_pollFirst 23 = .ok (.pop, 1) := by decide +kernel
theorem dX8_pollFirst_24 : decode cX8_pollFirst 24 = .ok (.iload_n 2, 1) := by decide +kernel
theorem dX8_pollFirst_25 : decode cX8_pollFirst 25 = .ok (.ireturn, 1) := by decide +kernel
set_option maxRecDepth 20000 in
theorem ggX8_pollLast_X8_hasMembers : GoodIn wsX8_pollLast wsX8_hasMembers := goodIn_r _ [5, 6, 7, 8, 4, 9, 10, 11, 12, 13, 14, 15, 16, 17, 57, 58, 59, 60, 61, 62, 63, 64, 65] (by decide +kernel) (by decide +kernel)
set_option maxRecDepth 20000 in
theorem gX8_pollLast_X8_hasMembers : GoodIn wsX8_pollLast (wsV RX8 80 RX8 yX8_hasMembers wsX8_hasMembers) := goodIn_app (goodIn_of _ (by decide +kernel)) ggX8_pollLast_X8_hasMembers
set_option maxRecDepth 20000 in
theorem ggX8_pollLast_X8_below : GoodIn wsX8_pollLast wsX8_below := goodIn_r _ [21, 22, 23, 24, 4, 25, 26, 57, 58, 59, 60, 61, 62, 63, 64, 65] (by decide +kernel) (by decide +kernel)
set_option maxRecDepth 20000 in
theorem gX8_pollLast_X8_below : GoodIn wsX8_pollLast (wsV RX8 86 RX8 yX8_below wsX8_below) := goodIn_app (goodIn_of _ (by decide +kernel)) ggX8_pollLast_X8_below
set_option maxRecDepth 20000 in
theorem ggX8_pollLast_X8_takes : GoodIn wsX8_pollLast wsX8_takes := goodIn_r _ [30, 26, 6, 22, 23, 24, 4, 25, 31, 32, 33, 34, 35, 36, 37, 38, 39, 40, 41, 42, 43, 44, 45, 46, 47, 48, 49, 50, 51, 52, 53, 54, 55, 56, 57, 58, 59, 60, 61, 62, 63, 64, 65] (by decide +kernel) (by decide +kernel)
set_option maxRecDepth 20000 in
theorem gX8_pollLast_X8_takes : GoodIn wsX8_pollLast (wsV RX8 77 RX8 yX8_takes wsX8_takes) := goodIn_app (goodIn_of _ (by decide +kernel)) ggX8_pollLast_X8_takes
theorem dX8_pollLast_0 : decode cX8_pollLast 0 = .ok (.aload_n 0, 1) := by decide +kernel
theorem dX8_pollLast_1 : decode cX8_pollLast 1 = .ok (.iload_n 1, 1) := by decide +kernel
theorem dX8_pollLast_2 : decode cX8_pollLast 2 = .ok (.invokevirtual 80, 3) := by decide +kernel
theorem dX8_pollLast_5 : decode cX8_pollLast 5 = .ok (.ifCond .ne 5, 3) := by decide +kernel
theorem dX8_pollLast_8 : decode cX8_pollLast 8 = .ok (.iconst 0, 1) := by decide +kernel
theorem dX8_pollLast_9 : decode cX8_pollLast 9 = .ok (.ireturn, 1) := by decide +kernel
theorem dX8_pollLast_10 : decode cX8_pollLast 10 = .ok (.aload_n 0, 1) := by decide +kernel
theorem dX8_pollLast_11 : decode cX8_pollLast 11 = .ok (.iload_n 1, 1) := by decide +kernel
theorem dX8_pollLast_12 : decode cX8_pollLast 12 = .ok (.sipush 4095, 3) := by decide +kernel
theorem dX8_pollLast_15 : decode cX8_pollLast 15 = .ok (.invokevirtual 86, 3) := by decide +kernel
theorem dX8_pollLast_18 : decode cX8_pollLast 18 = .ok (.istore_n 2, 1) := by decide +kernel
theorem dX8_pollLast_19 : decode cX8_pollLast 19 = .ok (.aload_n 0, 1) := by decide +kernel
theorem dX8_pollLast_20 : decode cX8_pollLast 20 = .ok (.iload_n 1, 1) := by decide +kernel
theorem dX8_pollLast_21 : decode cX8_pollLast 21 = .ok (.iload_n 2, 1) := by decide +kernel
theorem dX8_pollLast_22 : decode cX8_pollLast 22 = .ok (.invokevirtual 77, 3) := by decide +kernel
theorem dX8_pollLast_25 : decode cX8_pollLast 25 = .ok (.pop, 1) := by decide +kernel
theorem dX8_pollLast_26 : decode cX8_pollLast 26 = .ok (.iload_n 2, 1) := by decide +kernel
theorem dX8_pollLast_27 : decode cX8_pollLast 27 = .ok (.ireturn, 1) := by decide +kernel
set_option maxRecDepth 20000 in
theorem ggX8_clear_X8_isSet : GoodIn wsX8_clear wsX8_isSet := goodIn_r _ [7, 8, 9, 6, 10] (by decide +kernel) (by decide +kernel)
set_option maxRecDepth 20000 in
theorem gX8_clear_X8_isSet : GoodIn wsX8_clear (va_wsS RX8 38 yX8_isSet wsX8_isSet) := goodIn_app (goodIn_of _ (by decide +kernel)) ggX8_clear_X8_isSet
set_option maxRecDepth 20000 in
theorem ggX8_clear_X8_asked : GoodIn wsX8_clear wsX8_asked := goodIn_r _ [14, 15, 16, 17, 18, 19, 20, 21, 22, 23, 24] (by decide +kernel) (by decide +kernel)
set_option maxRecDepth 20000 in
theorem gX8_clear_X8_asked : GoodIn wsX8_clear (wsV RX8 89 RX8 yX8_asked wsX8_asked) := goodIn_app (goodIn_of _ (by decide +kernel)) ggX8_clear_X8_asked
theorem dX8_clear_0 : decode cX8_clear 0 = .ok (.aload_n 0, 1) := by decide +kernel
theorem dX8_clear_1 : decode cX8_clear 1 = .ok (.iload_n 1, 1) := by decide +kernel
theorem dX8_clear_2 : decode cX8_clear 2 = .ok (.invokestatic 38, 3) := by decide +kernel
theorem dX8_clear_5 : decode cX8_clear 5 = .ok (.invokevirtual 89, 3) := by decide +kernel
theorem dX8_clear_8 : decode cX8_clear 8 = .ok (.ifCond .ne 5, 3) := by decide +kernel
theorem dX8_clear_11 : decode cX8_clear 11 = .ok (.iconst 0, 1) := by decide +kernel
theorem dX8_clear_12 : decode cX8_clear 12 = .ok (.ireturn, 1) := by decide +kernel
theorem dX8_clear_13 : decode cX8_clear 13 = .ok (.aload_n 0, 1) := by decide +kernel
theorem dX8_clear_14 : decode cX8_clear 14 = .ok (.getfield 13, 3) := by decide +kernel
theorem dX8_clear_17 : decode cX8_clear 17 = .ok (.iload_n 1, 1) := by decide +kernel
theorem dX8_clear_18 : decode cX8_clear 18 = .ok (.iaload, 1) := by decide +kernel
theorem dX8_clear_19 : decode cX8_clear 19 = .ok (.istore_n 2, 1) := by decide +kernel
theorem dX8_clear_20 : decode cX8_clear 20 = .ok (.iconst 0, 1) := by decide +kernel
theorem dX8_clear_21 : decode cX8_clear 21 = .ok (.istore_n 3, 1) := by decide +kernel
theorem dX8_clear_22 : decode cX8_clear 22 = .ok (.iload_n 3, 1) := by decide +kernel
theorem dX8_clear_23 : decode cX8_clear 23 = .ok (.sipush 4096, 3) := by decide +kernel
theorem dX8_clear_26 : decode cX8_clear 26 = .ok (.if_icmp .ge 22, 3) := by decide +kernel
theorem dX8_clear_29 : decode cX8_clear 29 = .ok (.aload_n 0, 1) := by decide +kernel
theorem dX8_clear_30 : decode cX8_clear 30 = .ok (.getfield 7, 3) := by decide +kernel
theorem dX8_clear_33 : decode cX8_clear 33 = .ok (.sipush 4096, 3) := by decide +kernel
theorem dX8_clear_36 : decode cX8_clear 36 = .ok (.iload_n 1, 1) := by decide +kernel
theorem dX8_clear_37 : decode cX8_clear 37 = .ok (.imul, 1) := by decide +kernel
theorem dX8_clear_38 : decode cX8_clear 38 = .ok (.iload_n 3, 1) := by decide +kernel
theorem dX8_clear_39 : decode cX8_clear 39 = .ok (.iadd, 1) := by decide +kernel
theorem dX8_clear_40 : decode cX8_clear 40 = .ok (.iconst 0, 1) := by decide +kernel
theorem dX8_clear_41 : decode cX8_clear 41 = .ok (.bastore, 1) := by decide +kernel
theorem dX8_clear_42 : decode cX8_clear 42 = .ok (.iinc 3 1, 3) := by decide +kernel
theorem dX8_clear_45 : decode cX8_clear 45 = .ok (.goto (-23), 3) := by decide +kernel
theorem dX8_clear_48 : decode cX8_clear 48 = .ok (.aload_n 0, 1) := by decide +kernel
theorem dX8_clear_49 : decode cX8_clear 49 = .ok (.getfield 13, 3) := by decide +kernel
theorem dX8_clear_52 : decode cX8_clear 52 = .ok (.iload_n 1, 1) := by decide +kernel
theorem dX8_clear_53 : decode cX8_clear 53 = .ok (.iconst 0, 1) := by decide +kernel
theorem dX8_clear_54 : decode cX8_clear 54 = .ok (.iastore, 1) := by decide +kernel
theorem dX8_clear_55 : decode cX8_clear 55 = .ok (.aload_n 0, 1) := by decide +kernel
theorem dX8_clear_56 : decode cX8_clear 56 = .ok (.getfield 20, 3) := by decide +kernel
theorem dX8_clear_59 : decode cX8_clear 59 = .ok (.iload_n 1, 1) := by decide +kernel
theorem dX8_clear_60 : decode cX8_clear 60 = .ok (.iconst 1, 1) := by decide +kernel
theorem dX8_clear_61 : decode cX8_clear 61 = .ok (.iastore, 1) := by decide +kernel
theorem dX8_clear_62 : decode cX8_clear 62 = .ok (.iload_n 2, 1) := by decide +kernel
theorem dX8_clear_63 : decode cX8_clear 63 = .ok (.ireturn, 1) := by decide +kernel
set_option maxRecDepth 20000 in
theorem ggX8_size_X8_isSet : GoodIn wsX8_size wsX8_isSet := goodIn_r _ [5, 6, 7, 4, 8] (by decide +kernel) (by decide +kernel)
set_option maxRecDepth 20000 in
theorem gX8_size_X8_isSet : GoodIn wsX8_size (va_wsS RX8 38 yX8_isSet wsX8_isSet) := goodIn_app (goodIn_of _ (by decide +kernel)) ggX8_size_X8_isSet
set_option maxRecDepth 20000 in
theorem ggX8_size_X8_asked : GoodIn wsX8_size wsX8_asked := goodIn_r _ [12, 13, 14, 15, 16, 17, 18, 19, 20, 21, 22] (by decide +kernel) (by decide +kernel)
set_option maxRecDepth 20000 in
theorem gX8_size_X8_asked : GoodIn wsX8_size (wsV RX8 89 RX8 yX8_asked wsX8_asked) := goodIn_app (goodIn_of _ (by decide +kernel)) ggX8_size_X8_asked
theorem dX8_size_0 : decode cX8_size 0 = .ok (.aload_n 0, 1) := by decide +kernel
theorem dX8_size_1 : decode cX8_size 1 = .ok (.iload_n 1, 1) := by decide +kernel
theorem dX8_size_2 : decode cX8_size 2 = .ok (.invokestatic 38, 3) := by decide +kernel
theorem dX8_size_5 : decode cX8_size 5 = .ok (.invokevirtual 89, 3) := by decide +kernel
theorem dX8_size_8 : decode cX8_size 8 = .ok (.ifCond .eq 12, 3) := by decide +kernel
theorem dX8_size_11 : decode cX8_size 11 = .ok (.aload_n 0, 1) := by decide +kernel
theorem dX8_size_12 : decode cX8_size 12 = .ok (.getfield 13, 3) := by decide +kernel
theorem dX8_size_15 : decode cX8_size 15 = .ok (.iload_n 1, 1) := by decide +kernel
theorem dX8_size_16 : decode cX8_size 16 = .ok (.iaload, 1) := by decide +kernel
theorem dX8_size_17 : decode cX8_size 17 = .ok (.goto 4, 3) := by decide +kernel
theorem dX8_size_20 : decode cX8_size 20 = .ok (.iconst 0, 1) := by decide +kernel
theorem dX8_size_21 : decode cX8_size 21 = .ok (.ireturn, 1) := by decide +kernel
set_option maxRecDepth 20000 in
theorem ggX8_contains_X8_isRight : GoodIn wsX8_contains wsX8_isRight := goodIn_r _ [5, 6, 7, 4, 8, 9, 10, 11, 12, 13, 14, 15, 16, 22, 23, 24, 25, 26, 27, 28, 29, 30] (by decide +kernel) (by decide +kernel)
set_option maxRecDepth 20000 in
theorem gX8_contains_X8_isRight : GoodIn wsX8_contains (wsV RX8 71 RX8 yX8_isRight wsX8_isRight) := goodIn_app (goodIn_of _ (by decide +kernel)) ggX8_contains_X8_isRight
set_option maxRecDepth 20000 in
theorem ggX8_contains_X8_has : GoodIn wsX8_contains wsX8_has := goodIn_r _ [20, 21, 22, 23, 24, 25, 26, 27, 28, 29, 30] (by decide +kernel) (by decide +kernel)
set_option maxRecDepth 20000 in
theorem gX8_contains_X8_has : GoodIn wsX8_contains (wsV RX8 50 RX8 yX8_has wsX8_has) := goodIn_app (goodIn_of _ (by decide +kernel)) ggX8_contains_X8_has
theorem dX8_contains_0 : decode cX8_contains 0 = .ok (.aload_n 0, 1) := by decide +kernel
theorem dX8_contains_1 : decode cX8_contains 1 = .ok (.iload_n 1, 1) := by decide +kernel
theorem dX8_contains_2 : decode cX8_contains 2 = .ok (.iload_n 2, 1) := by decide +kernel
theorem dX8_contains_3 : decode cX8_contains 3 = .ok (.invokevirtual 71, 3) := by decide +kernel
theorem dX8_contains_6 : decode cX8_contains 6 = .ok (.ifCond .eq 16, 3) := by decide +kernel
theorem dX8_contains_9 : decode cX8_contains 9 = .ok (.aload_n 0, 1) := by decide +kernel
theorem dX8_contains_10 : decode cX8_contains 10 = .ok (.iload_n 1, 1) := by decide +kernel
theorem dX8_contains_11 : decode cX8_contains 11 = .ok (.iload_n 2, 1) := by decide +kernel
theorem dX8_contains_12 : decode cX8_contains 12 = .ok (.invokevirtual 50, 3) := by decide +kernel
theorem dX8_contains_15 : decode cX8_contains 15 = .ok (.ifCond .eq 7, 3) := by decide +kernel
theorem dX8_contains_18 : decode cX8_contains 18 = .ok (.iconst 1, 1) := by decide +kernel
theorem dX8_contains_19 : decode cX8_contains 19 = .ok (.goto 4, 3) := by decide +kernel
theorem dX8_contains_22 : decode cX8_contains 22 = .ok (.iconst 0, 1) := by decide +kernel
theorem dX8_contains_23 : decode cX8_contains 23 = .ok (.ireturn, 1) := by decide +kernel
set_option maxRecDepth 20000 in
theorem ggX8_successor_X8_isRight : GoodIn wsX8_successor wsX8_isRight := goodIn_r _ [5, 6, 7, 4, 8, 9, 10, 11, 12, 13, 14, 15, 16, 26, 27, 28, 29, 30, 31, 32, 33, 34] (by decide +kernel) (by decide +kernel)
set_option maxRecDepth 20000 in
theorem gX8_successor_X8_isRight : GoodIn wsX8_successor (wsV RX8 71 RX8 yX8_isRight wsX8_isRight) := goodIn_app (goodIn_of _ (by decide +kernel)) ggX8_successor_X8_isRight
set_option maxRecDepth 20000 in
theorem ggX8_successor_X8_above : GoodIn wsX8_successor wsX8_above := goodIn_r _ [20, 21, 22, 23, 4, 24, 25, 26, 27, 28, 29, 30, 31, 32, 33, 34] (by decide +kernel) (by decide +kernel)
set_option maxRecDepth 20000 in
theorem gX8_successor_X8_above : GoodIn wsX8_successor (wsV RX8 83 RX8 yX8_above wsX8_above) := goodIn_app (goodIn_of _ (by decide +kernel)) ggX8_successor_X8_above
theorem dX8_successor_0 : decode cX8_successor 0 = .ok (.aload_n 0, 1) := by decide +kernel
theorem dX8_successor_1 : decode cX8_successor 1 = .ok (.iload_n 1, 1) := by decide +kernel
theorem dX8_successor_2 : decode cX8_successor 2 = .ok (.iload_n 2, 1) := by decide +kernel
theorem dX8_successor_3 : decode cX8_successor 3 = .ok (.invokevirtual 71, 3) := by decide +kernel
theorem dX8_successor_6 : decode cX8_successor 6 = .ok (.ifCond .ne 5, 3) := by decide +kernel
theorem dX8_successor_9 : decode cX8_successor 9 = .ok (.iconst 0, 1) := by decide +kernel
theorem dX8_successor_10 : decode cX8_successor 10 = .ok (.ireturn, 1) := by decide +kernel
theorem dX8_successor_11 : decode cX8_successor 11 = .ok (.aload_n 0, 1) := by decide +kernel
theorem dX8_successor_12 : decode cX8_successor 12 = .ok (.iload_n 1, 1) := by decide +kernel
theorem dX8_successor_13 : decode cX8_successor 13 = .ok (.iload_n 2, 1) := by decide +kernel
theorem dX8_successor_14 : decode cX8_successor 14 = .ok (.iconst 1, 1) := by decide +kernel
theorem dX8_successor_15 : decode cX8_successor 15 = .ok (.iadd, 1) := by decide +kernel
theorem dX8_successor_16 : decode cX8_successor 16 = .ok (.invokevirtual 83, 3) := by decide +kernel
theorem dX8_successor_19 : decode cX8_successor 19 = .ok (.istore_n 3, 1) := by decide +kernel
theorem dX8_successor_20 : decode cX8_successor 20 = .ok (.iload_n 3, 1) := by decide +kernel
theorem dX8_successor_21 : decode cX8_successor 21 = .ok (.sipush 4096, 3) := by decide +kernel
theorem dX8_successor_24 : decode cX8_successor 24 = .ok (.if_icmp .ne 7, 3) := by decide +kernel
theorem dX8_successor_27 : decode cX8_successor 27 = .ok (.iconst (-1), 1) := by decide +kernel
theorem dX8_successor_28 : decode cX8_successor 28 = .ok (.goto 4, 3) := by decide +kernel
theorem dX8_successor_31 : decode cX8_successor 31 = .ok (.iload_n 3, 1) := by decide +kernel
theorem dX8_successor_32 : decode cX8_successor 32 = .ok (.ireturn, 1) := by decide +kernel
set_option maxRecDepth 20000 in
theorem ggX8_predecessor_X8_isRight : GoodIn wsX8_predecessor wsX8_isRight := goodIn_r _ [5, 6, 7, 4, 8, 9, 10, 11, 12, 13, 14, 15, 16, 26, 27, 28, 29, 30, 31, 32, 33, 34] (by decide +kernel) (by decide +kernel)
set_option maxRecDepth 20000 in
theorem gX8_predecessor_X8_isRight : GoodIn wsX8_predecessor (wsV RX8 71 RX8 yX8_isRight wsX8_isRight) := goodIn_app (goodIn_of _ (by decide +kernel)) ggX8_predecessor_X8_isRight
set_option maxRecDepth 20000 in
theorem ggX8_predecessor_X8_below : GoodIn wsX8_predecessor wsX8_below := goodIn_r _ [20, 21, 22, 23, 4, 24, 25, 26, 27, 28, 29, 30, 31, 32, 33, 34] (by decide +kernel) (by decide +kernel)
set_option maxRecDepth 20000 in
theorem gX8_predecessor_X8_below : GoodIn wsX8_predecessor (wsV RX8 86 RX8 yX8_below wsX8_below) := goodIn_app (goodIn_of _ (by decide +kernel)) ggX8_predecessor_X8_below
theorem dX8_predecessor_0 : decode cX8_predecessor 0 = .ok (.aload_n 0, 1) := by decide +kernel
theorem dX8_predecessor_1 : decode cX8_predecessor 1 = .ok (.iload_n 1, 1) := by decide +kernel
theorem dX8_predecessor_2 : decode cX8_predecessor 2 = .ok (.iload_n 2, 1) := by decide +kernel
theorem dX8_predecessor_3 : decode cX8_predecessor 3 = .ok (.invokevirtual 71, 3) := by decide +kernel
theorem dX8_predecessor_6 : decode cX8_predecessor 6 = .ok (.ifCond .eq 14, 3) := by decide +kernel
theorem dX8_predecessor_9 : decode cX8_predecessor 9 = .ok (.aload_n 0, 1) := by decide +kernel
theorem dX8_predecessor_10 : decode cX8_predecessor 10 = .ok (.iload_n 1, 1) := by decide +kernel
theorem dX8_predecessor_11 : decode cX8_predecessor 11 = .ok (.iload_n 2, 1) := by decide +kernel
theorem dX8_predecessor_12 : decode cX8_predecessor 12 = .ok (.iconst 1, 1) := by decide +kernel
theorem dX8_predecessor_13 : decode cX8_predecessor 13 = .ok (.isub, 1) := by decide +kernel
theorem dX8_predecessor_14 : decode cX8_predecessor 14 = .ok (.invokevirtual 86, 3) := by decide +kernel
theorem dX8_predecessor_17 : decode cX8_predecessor 17 = .ok (.goto 4, 3) := by decide +kernel
theorem dX8_predecessor_20 : decode cX8_predecessor 20 = .ok (.iconst 0, 1) := by decide +kernel
theorem dX8_predecessor_21 : decode cX8_predecessor 21 = .ok (.ireturn, 1) := by decide +kernel
set_option maxRecDepth 20000 in
theorem ggX8_before_X8_has : GoodIn wsX8_before wsX8_has := goodIn_r _ [5, 6, 7, 8, 9, 10, 11, 12, 13, 14, 15] (by decide +kernel) (by decide +kernel)
set_option maxRecDepth 20000 in
theorem gX8_before_X8_has : GoodIn wsX8_before (wsV RX8 50 RX8 yX8_has wsX8_has) := goodIn_app (goodIn_of _ (by decide +kernel)) ggX8_before_X8_has
theorem dX8_before_0 : decode cX8_before 0 = .ok (.iconst 0, 1) := by decide +kernel
theorem dX8_before_1 : decode cX8_before 1 = .ok (.istore_n 3, 1) := by decide +kernel
theorem dX8_before_2 : decode cX8_before 2 = .ok (.iconst 0, 1) := by decide +kernel
theorem dX8_before_3 : decode cX8_before 3 = .ok (.istore 4, 2) := by decide +kernel
theorem dX8_before_5 : decode cX8_before 5 = .ok (.iload 4, 2) := by decide +kernel
theorem dX8_before_7 : decode cX8_before 7 = .ok (.iload_n 2, 1) := by decide +kernel
theorem dX8_before_8 : decode cX8_before 8 = .ok (.if_icmp .ge 27, 3) := by decide +kernel
theorem dX8_before_11 : decode cX8_before 11 = .ok (.iload_n 3, 1) := by decide +kernel
theorem dX8_before_12 : decode cX8_before 12 = .ok (.aload_n 0, 1) := by decide +kernel
theorem dX8_before_13 : decode cX8_before 13 = .ok (.iload_n 1, 1) := by decide +kernel
theorem dX8_before_14 : decode cX8_before 14 = .ok (.iload 4, 2) := by decide +kernel
theorem dX8_before_16 : decode cX8_before 16 = .ok (.invokevirtual 50, 3) := by decide +kernel
theorem dX8_before_19 : decode cX8_before 19 = .ok (.ifCond .eq 7, 3) := by decide +kernel
theorem dX8_before_22 : decode cX8_before 22 = .ok (.iconst 1, 1) := by decide +kernel
theorem dX8_before_23 : decode cX8_before 23 = .ok (.goto 4, 3) := by decide +kernel
theorem dX8_before_26 : decode cX8_before 26 = .ok (.iconst 0, 1) := by decide +kernel
theorem dX8_before_27 : decode cX8_before 27 = .ok (.iadd, 1) := by decide +kernel
theorem dX8_before_28 : decode cX8_before 28 = .ok (.istore_n 3, 1) := by decide +kernel
theorem dX8_before_29 : decode cX8_before 29 = .ok (.iinc 4 1, 3) := by decide +kernel
theorem dX8_before_32 : decode cX8_before 32 = .ok (.goto (-27), 3) := by decide +kernel
theorem dX8_before_35 : decode cX8_before 35 = .ok (.iload_n 3, 1) := by decide +kernel
theorem dX8_before_36 : decode cX8_before 36 = .ok (.ireturn, 1) := by decide +kernel
set_option maxRecDepth 20000 in
theorem ggX8_rank_X8_isRight : GoodIn wsX8_rank wsX8_isRight := goodIn_r _ [5, 6, 7, 4, 8, 9, 10, 11, 12, 13, 14, 15, 16, 26, 27, 28, 29, 30, 31, 32, 33, 34] (by decide +kernel) (by decide +kernel)
set_option maxRecDepth 20000 in
theorem gX8_rank_X8_isRight : GoodIn wsX8_rank (wsV RX8 71 RX8 yX8_isRight wsX8_isRight) := goodIn_app (goodIn_of _ (by decide +kernel)) ggX8_rank_X8_isRight
set_option maxRecDepth 20000 in
theorem ggX8_rank_X8_before : GoodIn wsX8_rank wsX8_before := goodIn_r _ [20, 21, 22, 23, 4, 24, 25, 26, 27, 28, 29, 30, 31, 32, 33, 34] (by decide +kernel) (by decide +kernel)
set_option maxRecDepth 20000 in
theorem gX8_rank_X8_before : GoodIn wsX8_rank (wsV RX8 92 RX8 yX8_before wsX8_before) := goodIn_app (goodIn_of _ (by decide +kernel)) ggX8_rank_X8_before
theorem dX8_rank_0 : decode cX8_rank 0 = .ok (.aload_n 0, 1) := by decide +kernel
theorem dX8_rank_1 : decode cX8_rank 1 = .ok (.iload_n 1, 1) := by decide +kernel
theorem dX8_rank_2 : decode cX8_rank 2 = .ok (.iload_n 2, 1) := by decide +kernel
theorem dX8_rank_3 : decode cX8_rank 3 = .ok (.invokevirtual 71, 3) := by decide +kernel
theorem dX8_rank_6 : decode cX8_rank 6 = .ok (.ifCond .eq 12, 3) := by decide +kernel
theorem dX8_rank_9 : decode cX8_rank 9 = .ok (.aload_n 0, 1) := by decide +kernel
theorem dX8_rank_10 : decode cX8_rank 10 = .ok (.iload_n 1, 1) := by decide +kernel
theorem dX8_rank_11 : decode cX8_rank 11 = .ok (.iload_n 2, 1) := by decide +kernel
theorem dX8_rank_12 : decode cX8_rank 12 = .ok (.invokevirtual 92, 3) := by decide +kernel
theorem dX8_rank_15 : decode cX8_rank 15 = .ok (.goto 4, 3) := by decide +kernel
theorem dX8_rank_18 : decode cX8_rank 18 = .ok (.iconst 0, 1) := by decide +kernel
theorem dX8_rank_19 : decode cX8_rank 19 = .ok (.ireturn, 1) := by decide +kernel
set_option maxRecDepth 20000 in
theorem ggX8_select_X8_isSet : GoodIn wsX8_select wsX8_isSet := goodIn_r _ [5, 6, 7, 4, 8] (by decide +kernel) (by decide +kernel)
set_option maxRecDepth 20000 in
theorem gX8_select_X8_isSet : GoodIn wsX8_select (va_wsS RX8 38 yX8_isSet wsX8_isSet) := goodIn_app (goodIn_of _ (by decide +kernel)) ggX8_select_X8_isSet
set_option maxRecDepth 20000 in
theorem ggX8_select_X8_in : GoodIn wsX8_select wsX8_in := goodIn_r _ [8] (by decide +kernel) (by decide +kernel)
set_option maxRecDepth 20000 in
theorem gX8_select_X8_in : GoodIn wsX8_select (va_wsS RX8 34 yX8_in wsX8_in) := goodIn_app (goodIn_of _ (by decide +kernel)) ggX8_select_X8_in
set_option maxRecDepth 20000 in
theorem ggX8_select_X8_asked : GoodIn wsX8_select wsX8_asked := goodIn_r _ [12, 13, 23, 24, 25, 26, 27, 28, 29, 30, 31] (by decide +kernel) (by decide +kernel)
set_option maxRecDepth 20000 in
theorem gX8_select_X8_asked : GoodIn wsX8_select (wsV RX8 89 RX8 yX8_asked wsX8_asked) := goodIn_app (goodIn_of _ (by decide +kernel)) ggX8_select_X8_asked
set_option maxRecDepth 20000 in
theorem ggX8_select_X8_above : GoodIn wsX8_select wsX8_above := goodIn_r _ [17, 18, 19, 20, 4, 21, 22, 23, 24, 25, 26, 27, 28, 29, 30, 31] (by decide +kernel) (by decide +kernel)
set_option maxRecDepth 20000 in
theorem gX8_select_X8_above : GoodIn wsX8_select (wsV RX8 83 RX8 yX8_above wsX8_above) := goodIn_app (goodIn_of _ (by decide +kernel)) ggX8_select_X8_above
theorem dX8_select_0 : decode cX8_select 0 = .ok (.iload_n 1, 1) := by decide +kernel
theorem dX8_select_1 : decode cX8_select 1 = .ok (.invokestatic 38, 3) := by decide +kernel
theorem dX8_select_4 : decode cX8_select 4 = .ok (.istore_n 3, 1) := by decide +kernel
theorem dX8_select_5 : decode cX8_select 5 = .ok (.aload_n 0, 1) := by decide +kernel
theorem dX8_select_6 : decode cX8_select 6 = .ok (.iload_n 3, 1) := by decide +kernel
theorem dX8_select_7 : decode cX8_select 7 = .ok (.ifCond .eq 23, 3) := by decide +kernel
theorem dX8_select_10 : decode cX8_select 10 = .ok (.iload_n 2, 1) := by decide +kernel
theorem dX8_select_11 : decode cX8_select 11 = .ok (.iconst 0, 1) := by decide +kernel
theorem dX8_select_12 : decode cX8_select 12 = .ok (.aload_n 0, 1) := by decide +kernel
theorem dX8_select_13 : decode cX8_select 13 = .ok (.getfield 13, 3) := by decide +kernel
theorem dX8_select_16 : decode cX8_select 16 = .ok (.iload_n 1, 1) := by decide +kernel
theorem dX8_select_17 : decode cX8_select 17 = .ok (.iaload, 1) := by decide +kernel
theorem dX8_select_18 : decode cX8_select 18 = .ok (.iconst 1, 1) := by decide +kernel
theorem dX8_select_19 : decode cX8_select 19 = .ok (.isub, 1) := by decide +kernel
theorem dX8_select_20 : decode cX8_select 20 = .ok (.invokestatic 34, 3) := by decide +kernel
theorem dX8_select_23 : decode cX8_select 23 = .ok (.ifCond .eq 7, 3) := by decide +kernel
theorem dX8_select_26 : decode cX8_select 26 = .ok (.iconst 1, 1) := by decide +kernel
theorem dX8_select_27 : decode cX8_select 27 = .ok (.goto 4, 3) := by decide +kernel
theorem dX8_select_30 : decode cX8_select 30 = .ok (.iconst 0, 1) := by decide +kernel
theorem dX8_select_31 : decode cX8_select 31 = .ok (.invokevirtual 89, 3) := by decide +kernel
theorem dX8_select_34 : decode cX8_select 34 = .ok (.ifCond .ne 5, 3) := by decide +kernel
theorem dX8_select_37 : decode cX8_select 37 = .ok (.iconst 0, 1) := by decide +kernel
theorem dX8_select_38 : decode cX8_select 38 = .ok (.ireturn, 1) := by decide +kernel
theorem dX8_select_39 : decode cX8_select 39 = .ok (.aload_n 0, 1) := by decide +kernel
theorem dX8_select_40 : decode cX8_select 40 = .ok (.iload_n 1, 1) := by decide +kernel
theorem dX8_select_41 : decode cX8_select 41 = .ok (.iconst 0, 1) := by decide +kernel
theorem dX8_select_42 : decode cX8_select 42 = .ok (.invokevirtual 83, 3) := by decide +kernel
theorem dX8_select_45 : decode cX8_select 45 = .ok (.istore 4, 2) := by decide +kernel
theorem dX8_select_47 : decode cX8_select 47 = .ok (.iconst 0, 1) := by decide +kernel
theorem dX8_select_48 : decode cX8_select 48 = .ok (.istore 5, 2) := by decide +kernel
theorem dX8_select_50 : decode cX8_select 50 = .ok (.iload 5, 2) := by decide +kernel
theorem dX8_select_52 : decode cX8_select 52 = .ok (.iload_n 2, 1) := by decide +kernel
theorem dX8_select_53 : decode cX8_select 53 = .ok (.if_icmp .ge 20, 3) := by decide +kernel
theorem dX8_select_56 : decode cX8_select 56 = .ok (.aload_n 0, 1) := by decide +kernel
theorem dX8_select_57 : decode cX8_select 57 = .ok (.iload_n 1, 1) := by decide +kernel
theorem dX8_select_58 : decode cX8_select 58 = .ok (.iload 4, 2) := by decide +kernel
theorem dX8_select_60 : decode cX8_select 60 = .ok (.iconst 1, 1) := by decide +kernel
theorem dX8_select_61 : decode cX8_select 61 = .ok (.iadd, 1) := by decide +kernel
theorem dX8_select_62 : decode cX8_select 62 = .ok (.invokevirtual 83, 3) := by decide +kernel
theorem dX8_select_65 : decode cX8_select 65 = .ok (.istore 4, 2) := by decide +kernel
theorem dX8_select_67 : decode cX8_select 67 = .ok (.iinc 5 1, 3) := by decide +kernel
theorem dX8_select_70 : decode cX8_select 70 = .ok (.goto (-20), 3) := by decide +kernel
theorem dX8_select_73 : decode cX8_select 73 = .ok (.iload 4, 2) := by decide +kernel
theorem dX8_select_75 : decode cX8_select 75 = .ok (.ireturn, 1) := by decide +kernel
theorem dX8_lowest_0 : decode cX8_lowest 0 = .ok (.iconst 0, 1) := by decide +kernel
theorem dX8_lowest_1 : decode cX8_lowest 1 = .ok (.istore_n 2, 1) := by decide +kernel
theorem dX8_lowest_2 : decode cX8_lowest 2 = .ok (.iload_n 2, 1) := by decide +kernel
theorem dX8_lowest_3 : decode cX8_lowest 3 = .ok (.bipush 64, 2) := by decide +kernel
theorem dX8_lowest_5 : decode cX8_lowest 5 = .ok (.if_icmp .ge 19, 3) := by decide +kernel
theorem dX8_lowest_8 : decode cX8_lowest 8 = .ok (.lload_n 0, 1) := by decide +kernel
theorem dX8_lowest_9 : decode cX8_lowest 9 = .ok (.iload_n 2, 1) := by decide +kernel
theorem dX8_lowest_10 : decode cX8_lowest 10 = .ok (.lushr, 1) := by decide +kernel
theorem dX8_lowest_11 : decode cX8_lowest 11 = .ok (.lconst 1, 1) := by decide +kernel
theorem dX8_lowest_12 : decode cX8_lowest 12 = .ok (.land, 1) := by decide +kernel
theorem dX8_lowest_13 : decode cX8_lowest 13 = .ok (.lconst 0, 1) := by decide +kernel
theorem dX8_lowest_14 : decode cX8_lowest 14 = .ok (.lcmp, 1) := by decide +kernel
theorem dX8_lowest_15 : decode cX8_lowest 15 = .ok (.ifCond .ne 9, 3) := by decide +kernel
theorem dX8_lowest_18 : decode cX8_lowest 18 = .ok (.iinc 2 1, 3) := by decide +kernel
theorem dX8_lowest_21 : decode cX8_lowest 21 = .ok (.goto (-19), 3) := by decide +kernel
theorem dX8_lowest_24 : decode cX8_lowest 24 = .ok (.iload_n 2, 1) := by decide +kernel
theorem dX8_lowest_25 : decode cX8_lowest 25 = .ok (.bipush 64, 2) := by decide +kernel
theorem dX8_lowest_27 : decode cX8_lowest 27 = .ok (.if_icmp .ne 7, 3) := by decide +kernel
theorem dX8_lowest_30 : decode cX8_lowest 30 = .ok (.iconst (-1), 1) := by decide +kernel
theorem dX8_lowest_31 : decode cX8_lowest 31 = .ok (.goto 4, 3) := by decide +kernel
theorem dX8_lowest_34 : decode cX8_lowest 34 = .ok (.iload_n 2, 1) := by decide +kernel
theorem dX8_lowest_35 : decode cX8_lowest 35 = .ok (.ireturn, 1) := by decide +kernel
theorem dX8_highest_0 : decode cX8_highest 0 = .ok (.bipush 63, 2) := by decide +kernel
theorem dX8_highest_2 : decode cX8_highest 2 = .ok (.istore_n 2, 1) := by decide +kernel
theorem dX8_highest_3 : decode cX8_highest 3 = .ok (.iload_n 2, 1) := by decide +kernel
theorem dX8_highest_4 : decode cX8_highest 4 = .ok (.ifCond .lt 19, 3) := by decide +kernel
theorem dX8_highest_7 : decode cX8_highest 7 = .ok (.lload_n 0, 1) := by decide +kernel
theorem dX8_highest_8 : decode cX8_highest 8 = .ok (.iload_n 2, 1) := by decide +kernel
theorem dX8_highest_9 : decode cX8_highest 9 = .ok (.lushr, 1) := by decide +kernel
theorem dX8_highest_10 : decode cX8_highest 10 = .ok (.lconst 1, 1) := by decide +kernel
theorem dX8_highest_11 : decode cX8_highest 11 = .ok (.land, 1) := by decide +kernel
theorem dX8_highest_12 : decode cX8_highest 12 = .ok (.lconst 0, 1) := by decide +kernel
theorem dX8_highest_13 : decode cX8_highest 13 = .ok (.lcmp, 1) := by decide +kernel
theorem dX8_highest_14 : decode cX8_highest 14 = .ok (.ifCond .ne 9, 3) := by decide +kernel
theorem dX8_highest_17 : decode cX8_highest 17 = .ok (.iinc 2 (-1), 3) := by decide +kernel
theorem dX8_highest_20 : decode cX8_highest 20 = .ok (.goto (-17), 3) := by decide +kernel
theorem dX8_highest_23 : decode cX8_highest 23 = .ok (.iload_n 2, 1) := by decide +kernel
theorem dX8_highest_24 : decode cX8_highest 24 = .ok (.ireturn, 1) := by decide +kernel
set_option maxRecDepth 20000 in
theorem ggX8_grows_X8_above : GoodIn wsX8_grows wsX8_above := goodIn_r _ [7, 8, 9, 10, 6, 11, 12, 13, 14, 15, 16, 17, 18, 19, 20, 21] (by decide +kernel) (by decide +kernel)
set_option maxRecDepth 20000 in
theorem gX8_grows_X8_above : GoodIn wsX8_grows (wsV RX8 83 RX8 yX8_above wsX8_above) := goodIn_app (goodIn_of _ (by decide +kernel)) ggX8_grows_X8_above
set_option maxRecDepth 20000 in
theorem ggX8_grows_X8_has : GoodIn wsX8_grows wsX8_has := goodIn_r _ [11, 12, 13, 14, 15, 16, 17, 18, 19, 20, 21] (by decide +kernel) (by decide +kernel)
set_option maxRecDepth 20000 in
theorem gX8_grows_X8_has : GoodIn wsX8_grows (wsV RX8 50 RX8 yX8_has wsX8_has) := goodIn_app (goodIn_of _ (by decide +kernel)) ggX8_grows_X8_has
theorem dX8_grows_0 : decode cX8_grows 0 = .ok (.aload_n 0, 1) := by decide +kernel
theorem dX8_grows_1 : decode cX8_grows 1 = .ok (.iload_n 1, 1) := by decide +kernel
theorem dX8_grows_2 : decode cX8_grows 2 = .ok (.iconst 0, 1) := by decide +kernel
theorem dX8_grows_3 : decode cX8_grows 3 = .ok (.invokevirtual 83, 3) := by decide +kernel
theorem dX8_grows_6 : decode cX8_grows 6 = .ok (.istore_n 2, 1) := by decide +kernel
theorem dX8_grows_7 : decode cX8_grows 7 = .ok (.aload_n 0, 1) := by decide +kernel
theorem dX8_grows_8 : decode cX8_grows 8 = .ok (.lconst 0, 1) := by decide +kernel
theorem dX8_grows_9 : decode cX8_grows 9 = .ok (.putfield 95, 3) := by decide +kernel
theorem dX8_grows_12 : decode cX8_grows 12 = .ok (.iconst 0, 1) := by decide +kernel
theorem dX8_grows_13 : decode cX8_grows 13 = .ok (.istore_n 3, 1) := by decide +kernel
theorem dX8_grows_14 : decode cX8_grows 14 = .ok (.iload_n 3, 1) := by decide +kernel
theorem dX8_grows_15 : decode cX8_grows 15 = .ok (.bipush 64, 2) := by decide +kernel
theorem dX8_grows_17 : decode cX8_grows 17 = .ok (.if_icmp .ge 101, 3) := by decide +kernel
theorem dX8_grows_20 : decode cX8_grows 20 = .ok (.aload_n 0, 1) := by decide +kernel
theorem dX8_grows_21 : decode cX8_grows 21 = .ok (.getfield 23, 3) := by decide +kernel
theorem dX8_grows_24 : decode cX8_grows 24 = .ok (.iload_n 3, 1) := by decide +kernel
theorem dX8_grows_25 : decode cX8_grows 25 = .ok (.lconst 0, 1) := by decide +kernel
theorem dX8_grows_26 : decode cX8_grows 26 = .ok (.lastore, 1) := by decide +kernel
theorem dX8_grows_27 : decode cX8_grows 27 = .ok (.iconst 0, 1) := by decide +kernel
theorem dX8_grows_28 : decode cX8_grows 28 = .ok (.istore 4, 2) := by decide +kernel
theorem dX8_grows_30 : decode cX8_grows 30 = .ok (.iload 4, 2) := by decide +kernel
theorem dX8_grows_32 : decode cX8_grows 32 = .ok (.bipush 64, 2) := by decide +kernel
theorem dX8_grows_34 : decode cX8_grows 34 = .ok (.if_icmp .ge 51, 3) := by decide +kernel
theorem dX8_grows_37 : decode cX8_grows 37 = .ok (.bipush 64, 2) := by decide +kernel
theorem dX8_grows_39 : decode cX8_grows 39 = .ok (.iload_n 3, 1) := by decide +kernel
theorem dX8_grows_40 : decode cX8_grows 40 = .ok (.imul, 1) := by decide +kernel
theorem dX8_grows_41 : decode cX8_grows 41 = .ok (.iload 4, 2) := by decide +kernel
theorem dX8_grows_43 : decode cX8_grows 43 = .ok (.iadd, 1) := by decide +kernel
theorem dX8_grows_44 : decode cX8_grows 44 = .ok (.istore 5, 2) := by decide +kernel
theorem dX8_grows_46 : decode cX8_grows 46 = .ok (.aload_n 0, 1) := by decide +kernel
theorem dX8_grows_47 : decode cX8_grows 47 = .ok (.getfield 23, 3) := by decide +kernel
theorem dX8_grows_50 : decode cX8_grows 50 = .ok (.iload_n 3, 1) := by decide +kernel
theorem dX8_grows_51 : decode cX8_grows 51 = .ok (.dup2, 1) := by decide +kernel
theorem dX8_grows_52 : decode cX8_grows 52 = .ok (.laload, 1) := by decide +kernel
theorem dX8_grows_53 : decode cX8_grows 53 = .ok (.aload_n 0, 1) := by decide +kernel
theorem dX8_grows_54 : decode cX8_grows 54 = .ok (.iload_n 1, 1) := by decide +kernel
theorem dX8_grows_55 : decode cX8_grows 55 = .ok (.iload 5, 2) := by decide +kernel
theorem dX8_grows_57 : decode cX8_grows 57 = .ok (.invokevirtual 50, 3) := by decide +kernel
theorem dX8_grows_60 : decode cX8_grows 60 = .ok (.ifCond .eq 16, 3) := by decide +kernel
theorem dX8_grows_63 : decode cX8_grows 63 = .ok (.iload 5, 2) := by decide +kernel
theorem dX8_grows_65 : decode cX8_grows 65 = .ok (.iload_n 2, 1) := by decide +kernel
theorem dX8_grows_66 : decode cX8_grows 66 = .ok (.if_icmp .eq 10, 3) := by decide +kernel
theorem dX8_grows_69 : decode cX8_grows 69 = .ok (.lconst 1, 1) := by decide +kernel
theorem dX8_grows_70 : decode cX8_grows 70 = .ok (.iload 4, 2) := by decide +kernel
theorem dX8_grows_72 : decode cX8_grows 72 = .ok (.lshl, 1) := by decide +kernel
theorem dX8_grows_73 : decode cX8_grows 73 = .ok (.goto 4, 3) := by decide +kernel
theorem dX8_grows_76 : decode cX8_grows 76 = .ok (.lconst 0, 1) := by decide +kernel
theorem dX8_grows_77 : decode cX8_grows 77 = .ok (.lor, 1) := by decide +kernel
theorem dX8_grows_78 : decode cX8_grows 78 = .ok (.lastore, 1) := by decide +kernel
theorem dX8_grows_79 : decode cX8_grows 79 = .ok (.iinc 4 1, 3) := by decide +kernel
theorem dX8_grows_82 : decode cX8_grows 82 = .ok (.goto (-52), 3) := by decide +kernel
theorem dX8_grows_85 : decode cX8_grows 85 = .ok (.aload_n 0, 1) := by decide +kernel
theorem dX8_grows_86 : decode cX8_grows 86 = .ok (.dup, 1) := by decide +kernel
theorem dX8_grows_87 : decode cX8_grows 87 = .ok (.getfield 95, 3) := by decide +kernel
theorem dX8_grows_90 : decode cX8_grows 90 = .ok (.aload_n 0, 1) := by decide +kernel
theorem dX8_grows_91 : decode cX8_grows 91 = .ok (.getfield 23, 3) := by decide +kernel
theorem dX8_grows_94 : decode cX8_grows 94 = .ok (.iload_n 3, 1) := by decide +kernel
theorem dX8_grows_95 : decode cX8_grows 95 = .ok (.laload, 1) := by decide +kernel
theorem dX8_grows_96 : decode cX8_grows 96 = .ok (.lconst 0, 1) := by decide +kernel
theorem dX8_grows_97 : decode cX8_grows 97 = .ok (.lcmp, 1) := by decide +kernel
theorem dX8_grows_98 : decode cX8_grows 98 = .ok (.ifCond .ne 7, 3) := by decide +kernel
theorem dX8_grows_101 : decode cX8_grows 101 = .ok (.lconst 0, 1) := by decide +kernel
theorem dX8_grows_102 : decode cX8_grows 102 = .ok (.goto 6, 3) := by decide +kernel
theorem dX8_grows_105 : decode cX8_grows 105 = .ok (.lconst 1, 1) := by decide +kernel
theorem dX8_grows_106 : decode cX8_grows 106 = .ok (.iload_n 3, 1) := by decide +kernel
theorem dX8_grows_107 : decode cX8_grows 107 = .ok (.lshl, 1) := by decide +kernel
theorem dX8_grows_108 : decode cX8_grows 108 = .ok (.lor, 1) := by decide +kernel
theorem dX8_grows_109 : decode cX8_grows 109 = .ok (.putfield 95, 3) := by decide +kernel
theorem dX8_grows_112 : decode cX8_grows 112 = .ok (.iinc 3 1, 3) := by decide +kernel
theorem dX8_grows_115 : decode cX8_grows 115 = .ok (.goto (-101), 3) := by decide +kernel
theorem dX8_grows_118 : decode cX8_grows 118 = .ok (.return_, 1) := by decide +kernel
set_option maxRecDepth 20000 in
theorem ggX8_growsSmall_X8_lowest : GoodIn wsX8_growsSmall wsX8_lowest := goodIn_r _ [8] (by decide +kernel) (by decide +kernel)
set_option maxRecDepth 20000 in
theorem gX8_growsSmall_X8_lowest : GoodIn wsX8_growsSmall (va_wsS RX8 99 yX8_lowest wsX8_lowest) := goodIn_app (goodIn_of _ (by decide +kernel)) ggX8_growsSmall_X8_lowest
theorem dX8_growsSmall_0 : decode cX8_growsSmall 0 = .ok (.lload_n 1, 1) := by decide +kernel
theorem dX8_growsSmall_1 : decode cX8_growsSmall 1 = .ok (.lconst 1, 1) := by decide +kernel
theorem dX8_growsSmall_2 : decode cX8_growsSmall 2 = .ok (.lload_n 1, 1) := by decide +kernel
theorem dX8_growsSmall_3 : decode cX8_growsSmall 3 = .ok (.invokestatic 99, 3) := by decide +kernel
theorem dX8_growsSmall_6 : decode cX8_growsSmall 6 = .ok (.lshl, 1) := by decide +kernel
theorem dX8_growsSmall_7 : decode cX8_growsSmall 7 = .ok (.ldc2_w 103, 3) := by decide +kernel
theorem dX8_growsSmall_10 : decode cX8_growsSmall 10 = .ok (.lxor, 1) := by decide +kernel
theorem dX8_growsSmall_11 : decode cX8_growsSmall 11 = .ok (.land, 1) := by decide +kernel
theorem dX8_growsSmall_12 : decode cX8_growsSmall 12 = .ok (.lstore_n 3, 1) := by decide +kernel
theorem dX8_growsSmall_13 : decode cX8_growsSmall 13 = .ok (.aload_n 0, 1) := by decide +kernel
theorem dX8_growsSmall_14 : decode cX8_growsSmall 14 = .ok (.iconst 0, 1) := by decide +kernel
theorem dX8_growsSmall_15 : decode cX8_growsSmall 15 = .ok (.putfield 105, 3) := by decide +kernel
theorem dX8_growsSmall_18 : decode cX8_growsSmall 18 = .ok (.iconst 0, 1) := by decide +kernel
theorem dX8_growsSmall_19 : decode cX8_growsSmall 19 = .ok (.istore 5, 2) := by decide +kernel
theorem dX8_growsSmall_21 : decode cX8_growsSmall 21 = .ok (.iload 5, 2) := by decide +kernel
theorem dX8_growsSmall_23 : decode cX8_growsSmall 23 = .ok (.bipush 8, 2) := by decide +kernel
theorem dX8_growsSmall_25 : decode cX8_growsSmall 25 = .ok (.if_icmp .ge 65, 3) := by decide +kernel
theorem dX8_growsSmall_28 : decode cX8_growsSmall 28 = .ok (.aload_n 0, 1) := by decide +kernel
theorem dX8_growsSmall_29 : decode cX8_growsSmall 29 = .ok (.getfield 27, 3) := by decide +kernel
theorem dX8_growsSmall_32 : decode cX8_growsSmall 32 = .ok (.iload 5, 2) := by decide +kernel
theorem dX8_growsSmall_34 : decode cX8_growsSmall 34 = .ok (.lload_n 1, 1) := by decide +kernel
theorem dX8_growsSmall_35 : decode cX8_growsSmall 35 = .ok (.lconst 0, 1) := by decide +kernel
theorem dX8_growsSmall_36 : decode cX8_growsSmall 36 = .ok (.lcmp, 1) := by decide +kernel
theorem dX8_growsSmall_37 : decode cX8_growsSmall 37 = .ok (.ifCond .ne 7, 3) := by decide +kernel
theorem dX8_growsSmall_40 : decode cX8_growsSmall 40 = .ok (.iconst 0, 1) := by decide +kernel
theorem dX8_growsSmall_41 : decode cX8_growsSmall 41 = .ok (.goto 15, 3) := by decide +kernel
theorem dX8_growsSmall_44 : decode cX8_growsSmall 44 = .ok (.lload_n 3, 1) := by decide +kernel
theorem dX8_growsSmall_45 : decode cX8_growsSmall 45 = .ok (.bipush 8, 2) := by decide +kernel
theorem dX8_growsSmall_47 : decode cX8_growsSmall 47 = .ok (.iload 5, 2) := by decide +kernel
theorem dX8_growsSmall_49 : decode cX8_growsSmall 49 = .ok (.imul, 1) := by decide +kernel
theorem dX8_growsSmall_50 : decode cX8_growsSmall 50 = .ok (.lushr, 1) := by decide +kernel
theorem dX8_growsSmall_51 : decode cX8_growsSmall 51 = .ok (.ldc2_w 108, 3) := by decide +kernel
theorem dX8_growsSmall_54 : decode cX8_growsSmall 54 = .ok (.land, 1) := by decide +kernel
theorem dX8_growsSmall_55 : decode cX8_growsSmall 55 = .ok (.l2i, 1) := by decide +kernel
theorem dX8_growsSmall_56 : decode cX8_growsSmall 56 = .ok (.iastore, 1) := by decide +kernel
theorem dX8_growsSmall_57 : decode cX8_growsSmall 57 = .ok (.aload_n 0, 1) := by decide +kernel
theorem dX8_growsSmall_58 : decode cX8_growsSmall 58 = .ok (.dup, 1) := by decide +kernel
theorem dX8_growsSmall_59 : decode cX8_growsSmall 59 = .ok (.getfield 105, 3) := by decide +kernel
theorem dX8_growsSmall_62 : decode cX8_growsSmall 62 = .ok (.aload_n 0, 1) := by decide +kernel
theorem dX8_growsSmall_63 : decode cX8_growsSmall 63 = .ok (.getfield 27, 3) := by decide +kernel
theorem dX8_growsSmall_66 : decode cX8_growsSmall 66 = .ok (.iload 5, 2) := by decide +kernel
theorem dX8_growsSmall_68 : decode cX8_growsSmall 68 = .ok (.iaload, 1) := by decide +kernel
theorem dX8_growsSmall_69 : decode cX8_growsSmall 69 = .ok (.ifCond .ne 7, 3) := by decide +kernel
theorem dX8_growsSmall_72 : decode cX8_growsSmall 72 = .ok (.iconst 0, 1) := by decide +kernel
theorem dX8_growsSmall_73 : decode cX8_growsSmall 73 = .ok (.goto 7, 3) := by decide +kernel
theorem dX8_growsSmall_76 : decode cX8_growsSmall 76 = .ok (.iconst 1, 1) := by decide +kernel
theorem dX8_growsSmall_77 : decode cX8_growsSmall 77 = .ok (.iload 5, 2) := by decide +kernel
theorem dX8_growsSmall_79 : decode cX8_growsSmall 79 = .ok (.ishl, 1) := by decide +kernel
theorem dX8_growsSmall_80 : decode cX8_growsSmall 80 = .ok (.ior, 1) := by decide +kernel
theorem dX8_growsSmall_81 : decode cX8_growsSmall 81 = .ok (.putfield 105, 3) := by decide +kernel
theorem dX8_growsSmall_84 : decode cX8_growsSmall 84 = .ok (.iinc 5 1, 3) := by decide +kernel
theorem dX8_growsSmall_87 : decode cX8_growsSmall 87 = .ok (.goto (-66), 3) := by decide +kernel
theorem dX8_growsSmall_90 : decode cX8_growsSmall 90 = .ok (.return_, 1) := by decide +kernel
set_option maxRecDepth 20000 in
theorem ggX8_stepsIn_X8_highest : GoodIn wsX8_stepsIn wsX8_highest := goodIn_r _ [4] (by decide +kernel) (by decide +kernel)
set_option maxRecDepth 20000 in
theorem gX8_stepsIn_X8_highest : GoodIn wsX8_stepsIn (va_wsS RX8 110 yX8_highest wsX8_highest) := goodIn_app (goodIn_of _ (by decide +kernel)) ggX8_stepsIn_X8_highest
set_option maxRecDepth 20000 in
theorem ggX8_stepsIn_X8_lowest : GoodIn wsX8_stepsIn wsX8_lowest := goodIn_r _ [7] (by decide +kernel) (by decide +kernel)
set_option maxRecDepth 20000 in
theorem gX8_stepsIn_X8_lowest : GoodIn wsX8_stepsIn (va_wsS RX8 99 yX8_lowest wsX8_lowest) := goodIn_app (goodIn_of _ (by decide +kernel)) ggX8_stepsIn_X8_lowest
theorem dX8_stepsIn_0 : decode cX8_stepsIn 0 = .ok (.iload_n 3, 1) := by decide +kernel
theorem dX8_stepsIn_1 : decode cX8_stepsIn 1 = .ok (.lload_n 1, 1) := by decide +kernel
theorem dX8_stepsIn_2 : decode cX8_stepsIn 2 = .ok (.invokestatic 110, 3) := by decide +kernel
theorem dX8_stepsIn_5 : decode cX8_stepsIn 5 = .ok (.if_icmp .ge 11, 3) := by decide +kernel
theorem dX8_stepsIn_8 : decode cX8_stepsIn 8 = .ok (.iload_n 3, 1) := by decide +kernel
theorem dX8_stepsIn_9 : decode cX8_stepsIn 9 = .ok (.lload_n 1, 1) := by decide +kernel
theorem dX8_stepsIn_10 : decode cX8_stepsIn 10 = .ok (.invokestatic 99, 3) := by decide +kernel
theorem dX8_stepsIn_13 : decode cX8_stepsIn 13 = .ok (.if_icmp .ge 5, 3) := by decide +kernel
theorem dX8_stepsIn_16 : decode cX8_stepsIn 16 = .ok (.iconst 1, 1) := by decide +kernel
theorem dX8_stepsIn_17 : decode cX8_stepsIn 17 = .ok (.ireturn, 1) := by decide +kernel
theorem dX8_stepsIn_18 : decode cX8_stepsIn 18 = .ok (.iconst 2, 1) := by decide +kernel
theorem dX8_stepsIn_19 : decode cX8_stepsIn 19 = .ok (.ireturn, 1) := by decide +kernel
set_option maxRecDepth 20000 in
theorem ggX8_steps_X8_isRight : GoodIn wsX8_steps wsX8_isRight := goodIn_r _ [7, 8, 9, 6, 10, 11, 12, 13, 14, 15, 16, 17, 18, 46, 47, 48, 49, 50, 51, 52, 53, 54] (by decide +kernel) (by decide +kernel)
set_option maxRecDepth 20000 in
theorem gX8_steps_X8_isRight : GoodIn wsX8_steps (wsV RX8 71 RX8 yX8_isRight wsX8_isRight) := goodIn_app (goodIn_of _ (by decide +kernel)) ggX8_steps_X8_isRight
set_option maxRecDepth 20000 in
theorem ggX8_steps_X8_above : GoodIn wsX8_steps wsX8_above := goodIn_r _ [22, 23, 24, 25, 6, 26, 27, 46, 47, 48, 49, 50, 51, 52, 53, 54] (by decide +kernel) (by decide +kernel)
set_option maxRecDepth 20000 in
theorem gX8_steps_X8_above : GoodIn wsX8_steps (wsV RX8 83 RX8 yX8_above wsX8_above) := goodIn_app (goodIn_of _ (by decide +kernel)) ggX8_steps_X8_above
set_option maxRecDepth 20000 in
theorem ggX8_steps_X8_below : GoodIn wsX8_steps wsX8_below := goodIn_r _ [31, 23, 24, 25, 6, 26, 27, 46, 47, 48, 49, 50, 51, 52, 53, 54] (by decide +kernel) (by decide +kernel)
set_option maxRecDepth 20000 in
theorem gX8_steps_X8_below : GoodIn wsX8_steps (wsV RX8 86 RX8 yX8_below wsX8_below) := goodIn_app (goodIn_of _ (by decide +kernel)) ggX8_steps_X8_below
set_option maxRecDepth 20000 in
theorem ggX8_steps_X8_grows : GoodIn wsX8_steps wsX8_grows := goodIn_r _ [35, 2, 1, 19, 20, 21, 6, 22, 23, 24, 25, 26, 27, 46, 47, 48, 49, 50, 51, 52, 53, 54] (by decide +kernel) (by decide +kernel)
set_option maxRecDepth 20000 in
theorem gX8_steps_X8_grows : GoodIn wsX8_steps (wsV RX8 113 RX8 yX8_grows wsX8_grows) := goodIn_app (goodIn_of _ (by decide +kernel)) ggX8_steps_X8_grows
set_option maxRecDepth 20000 in
theorem ggX8_steps_X8_highest : GoodIn wsX8_steps wsX8_highest := goodIn_r _ [38] (by decide +kernel) (by decide +kernel)
set_option maxRecDepth 20000 in
theorem gX8_steps_X8_highest : GoodIn wsX8_steps (va_wsS RX8 110 yX8_highest wsX8_highest) := goodIn_app (goodIn_of _ (by decide +kernel)) ggX8_steps_X8_highest
set_option maxRecDepth 20000 in
theorem ggX8_steps_X8_stepsIn : GoodIn wsX8_steps wsX8_stepsIn := goodIn_r _ [42, 36, 37, 6, 38, 43, 44, 45] (by decide +kernel) (by decide +kernel)
set_option maxRecDepth 20000 in
theorem gX8_steps_X8_stepsIn : GoodIn wsX8_steps (wsV RX8 117 RX8 yX8_stepsIn wsX8_stepsIn) := goodIn_app (goodIn_of _ (by decide +kernel)) ggX8_steps_X8_stepsIn
theorem dX8_steps_0 : decode cX8_steps 0 = .ok (.aload_n 0, 1) := by decide +kernel
theorem dX8_steps_1 : decode cX8_steps 1 = .ok (.iload_n 1, 1) := by decide +kernel
theorem dX8_steps_2 : decode cX8_steps 2 = .ok (.iload_n 2, 1) := by decide +kernel
theorem dX8_steps_3 : decode cX8_steps 3 = .ok (.invokevirtual 71, 3) := by decide +kernel
theorem dX8_steps_6 : decode cX8_steps 6 = .ok (.ifCond .ne 5, 3) := by decide +kernel
theorem dX8_steps_9 : decode cX8_steps 9 = .ok (.iconst 0, 1) := by decide +kernel
theorem dX8_steps_10 : decode cX8_steps 10 = .ok (.ireturn, 1) := by decide +kernel
theorem dX8_steps_11 : decode cX8_steps 11 = .ok (.aload_n 0, 1) := by decide +kernel
theorem dX8_steps_12 : decode cX8_steps 12 = .ok (.iload_n 1, 1) := by decide +kernel
theorem dX8_steps_13 : decode cX8_steps 13 = .ok (.iconst 0, 1) := by decide +kernel
theorem dX8_steps_14 : decode cX8_steps 14 = .ok (.invokevirtual 83, 3) := by decide +kernel
theorem dX8_steps_17 : decode cX8_steps 17 = .ok (.istore_n 3, 1) := by decide +kernel
theorem dX8_steps_18 : decode cX8_steps 18 = .ok (.aload_n 0, 1) := by decide +kernel
theorem dX8_steps_19 : decode cX8_steps 19 = .ok (.iload_n 1, 1) := by decide +kernel
theorem dX8_steps_20 : decode cX8_steps 20 = .ok (.sipush 4095, 3) := by decide +kernel
theorem dX8_steps_23 : decode cX8_steps 23 = .ok (.invokevirtual 86, 3) := by decide +kernel
theorem dX8_steps_26 : decode cX8_steps 26 = .ok (.istore 4, 2) := by decide +kernel
theorem dX8_steps_28 : decode cX8_steps 28 = .ok (.iload_n 2, 1) := by decide +kernel
theorem dX8_steps_29 : decode cX8_steps 29 = .ok (.iload 4, 2) := by decide +kernel
theorem dX8_steps_31 : decode cX8_steps 31 = .ok (.if_icmp .ge 8, 3) := by decide +kernel
theorem dX8_steps_34 : decode cX8_steps 34 = .ok (.iload_n 2, 1) := by decide +kernel
theorem dX8_steps_35 : decode cX8_steps 35 = .ok (.iload_n 3, 1) := by decide +kernel
theorem dX8_steps_36 : decode cX8_steps 36 = .ok (.if_icmp .ge 5, 3) := by decide +kernel
theorem dX8_steps_39 : decode cX8_steps 39 = .ok (.iconst 1, 1) := by decide +kernel
theorem dX8_steps_40 : decode cX8_steps 40 = .ok (.ireturn, 1) := by decide +kernel
theorem dX8_steps_41 : decode cX8_steps 41 = .ok (.aload_n 0, 1) := by decide +kernel
theorem dX8_steps_42 : decode cX8_steps 42 = .ok (.iload_n 1, 1) := by decide +kernel
theorem dX8_steps_43 : decode cX8_steps 43 = .ok (.invokevirtual 113, 3) := by decide +kernel
theorem dX8_steps_46 : decode cX8_steps 46 = .ok (.iload_n 2, 1) := by decide +kernel
theorem dX8_steps_47 : decode cX8_steps 47 = .ok (.bipush 64, 2) := by decide +kernel
theorem dX8_steps_49 : decode cX8_steps 49 = .ok (.idiv, 1) := by decide +kernel
theorem dX8_steps_50 : decode cX8_steps 50 = .ok (.istore 5, 2) := by decide +kernel
theorem dX8_steps_52 : decode cX8_steps 52 = .ok (.iload_n 2, 1) := by decide +kernel
theorem dX8_steps_53 : decode cX8_steps 53 = .ok (.bipush 64, 2) := by decide +kernel
theorem dX8_steps_55 : decode cX8_steps 55 = .ok (.irem, 1) := by decide +kernel
theorem dX8_steps_56 : decode cX8_steps 56 = .ok (.istore 6, 2) := by decide +kernel
theorem dX8_steps_58 : decode cX8_steps 58 = .ok (.aload_n 0, 1) := by decide +kernel
theorem dX8_steps_59 : decode cX8_steps 59 = .ok (.getfield 23, 3) := by decide +kernel
theorem dX8_steps_62 : decode cX8_steps 62 = .ok (.iload 5, 2) := by decide +kernel
theorem dX8_steps_64 : decode cX8_steps 64 = .ok (.laload, 1) := by decide +kernel
theorem dX8_steps_65 : decode cX8_steps 65 = .ok (.lconst 0, 1) := by decide +kernel
theorem dX8_steps_66 : decode cX8_steps 66 = .ok (.lcmp, 1) := by decide +kernel
theorem dX8_steps_67 : decode cX8_steps 67 = .ok (.ifCond .eq 22, 3) := by decide +kernel
theorem dX8_steps_70 : decode cX8_steps 70 = .ok (.iload 6, 2) := by decide +kernel
theorem dX8_steps_72 : decode cX8_steps 72 = .ok (.aload_n 0, 1) := by decide +kernel
theorem dX8_steps_73 : decode cX8_steps 73 = .ok (.getfield 23, 3) := by decide +kernel
theorem dX8_steps_76 : decode cX8_steps 76 = .ok (.iload 5, 2) := by decide +kernel
theorem dX8_steps_78 : decode cX8_steps 78 = .ok (.laload, 1) := by decide +kernel
theorem dX8_steps_79 : decode cX8_steps 79 = .ok (.invokestatic 110, 3) := by decide +kernel
theorem dX8_steps_82 : decode cX8_steps 82 = .ok (.if_icmp .ge 7, 3) := by decide +kernel
theorem dX8_steps_85 : decode cX8_steps 85 = .ok (.iconst 1, 1) := by decide +kernel
theorem dX8_steps_86 : decode cX8_steps 86 = .ok (.goto 4, 3) := by decide +kernel
theorem dX8_steps_89 : decode cX8_steps 89 = .ok (.iconst 0, 1) := by decide +kernel
theorem dX8_steps_90 : decode cX8_steps 90 = .ok (.istore 7, 2) := by decide +kernel
theorem dX8_steps_92 : decode cX8_steps 92 = .ok (.iconst 1, 1) := by decide +kernel
theorem dX8_steps_93 : decode cX8_steps 93 = .ok (.iload 7, 2) := by decide +kernel
theorem dX8_steps_95 : decode cX8_steps 95 = .ok (.ifCond .eq 19, 3) := by decide +kernel
theorem dX8_steps_98 : decode cX8_steps 98 = .ok (.aload_n 0, 1) := by decide +kernel
theorem dX8_steps_99 : decode cX8_steps 99 = .ok (.aload_n 0, 1) := by decide +kernel
theorem dX8_steps_100 : decode cX8_steps 100 = .ok (.getfield 23, 3) := by decide +kernel
theorem dX8_steps_103 : decode cX8_steps 103 = .ok (.iload 5, 2) := by decide +kernel
theorem dX8_steps_105 : decode cX8_steps 105 = .ok (.laload, 1) := by decide +kernel
theorem dX8_steps_106 : decode cX8_steps 106 = .ok (.iload 6, 2) := by decide +kernel
theorem dX8_steps_108 : decode cX8_steps 108 = .ok (.invokevirtual 117, 3) := by decide +kernel
theorem dX8_steps_111 : decode cX8_steps 111 = .ok (.goto 13, 3) := by decide +kernel
theorem dX8_steps_114 : decode cX8_steps 114 = .ok (.aload_n 0, 1) := by decide +kernel
theorem dX8_steps_115 : decode cX8_steps 115 = .ok (.aload_n 0, 1) := by decide +kernel
theorem dX8_steps_116 : decode cX8_steps 116 = .ok (.getfield 95, 3) := by decide +kernel
theorem dX8_steps_119 : decode cX8_steps 119 = .ok (.iload 5, 2) := by decide +kernel
theorem dX8_steps_121 : decode cX8_steps 121 = .ok (.invokevirtual 117, 3) := by decide +kernel
theorem dX8_steps_124 : decode cX8_steps 124 = .ok (.iadd, 1) := by decide +kernel
theorem dX8_steps_125 : decode cX8_steps 125 = .ok (.ireturn, 1) := by decide +kernel
set_option maxRecDepth 20000 in
theorem ggX8_treesIn_X8_growsSmall : GoodIn wsX8_treesIn wsX8_growsSmall := goodIn_r _ [7, 8, 1, 2, 9, 10, 11, 6, 12, 13, 14, 15, 16, 17, 18, 19, 20, 21] (by decide +kernel) (by decide +kernel)
set_option maxRecDepth 20000 in
theorem gX8_treesIn_X8_growsSmall : GoodIn wsX8_treesIn (wsV RX8 121 RX8 yX8_growsSmall wsX8_growsSmall) := goodIn_app (goodIn_of _ (by decide +kernel)) ggX8_treesIn_X8_growsSmall
theorem dX8_treesIn_0 : decode cX8_treesIn 0 = .ok (.lload_n 1, 1) := by decide +kernel
theorem dX8_treesIn_1 : decode cX8_treesIn 1 = .ok (.lconst 0, 1) := by decide +kernel
theorem dX8_treesIn_2 : decode cX8_treesIn 2 = .ok (.lcmp, 1) := by decide +kernel
theorem dX8_treesIn_3 : decode cX8_treesIn 3 = .ok (.ifCond .ne 5, 3) := by decide +kernel
theorem dX8_treesIn_6 : decode cX8_treesIn 6 = .ok (.iconst 0, 1) := by decide +kernel
theorem dX8_treesIn_7 : decode cX8_treesIn 7 = .ok (.ireturn, 1) := by decide +kernel
theorem dX8_treesIn_8 : decode cX8_treesIn 8 = .ok (.aload_n 0, 1) := by decide +kernel
theorem dX8_treesIn_9 : decode cX8_treesIn 9 = .ok (.lload_n 1, 1) := by decide +kernel
theorem dX8_treesIn_10 : decode cX8_treesIn 10 = .ok (.invokevirtual 121, 3) := by decide +kernel
theorem dX8_treesIn_13 : decode cX8_treesIn 13 = .ok (.aload_n 0, 1) := by decide +kernel
theorem dX8_treesIn_14 : decode cX8_treesIn 14 = .ok (.getfield 105, 3) := by decide +kernel
theorem dX8_treesIn_17 : decode cX8_treesIn 17 = .ok (.ifCond .ne 7, 3) := by decide +kernel
theorem dX8_treesIn_20 : decode cX8_treesIn 20 = .ok (.iconst 1, 1) := by decide +kernel
theorem dX8_treesIn_21 : decode cX8_treesIn 21 = .ok (.goto 4, 3) := by decide +kernel
theorem dX8_treesIn_24 : decode cX8_treesIn 24 = .ok (.iconst 2, 1) := by decide +kernel
theorem dX8_treesIn_25 : decode cX8_treesIn 25 = .ok (.istore_n 3, 1) := by decide +kernel
theorem dX8_treesIn_26 : decode cX8_treesIn 26 = .ok (.iconst 0, 1) := by decide +kernel
theorem dX8_treesIn_27 : decode cX8_treesIn 27 = .ok (.istore 4, 2) := by decide +kernel
theorem dX8_treesIn_29 : decode cX8_treesIn 29 = .ok (.iload 4, 2) := by decide +kernel
theorem dX8_treesIn_31 : decode cX8_treesIn 31 = .ok (.bipush 8, 2) := by decide +kernel
theorem dX8_treesIn_33 : decode cX8_treesIn 33 = .ok (.if_icmp .ge 27, 3) := by decide +kernel
theorem dX8_treesIn_36 : decode cX8_treesIn 36 = .ok (.iload_n 3, 1) := by decide +kernel
theorem dX8_treesIn_37 : decode cX8_treesIn 37 = .ok (.aload_n 0, 1) := by decide +kernel
theorem dX8_treesIn_38 : decode cX8_treesIn 38 = .ok (.getfield 27, 3) := by decide +kernel
theorem dX8_treesIn_41 : decode cX8_treesIn 41 = .ok (.iload 4, 2) := by decide +kernel
theorem dX8_treesIn_43 : decode cX8_treesIn 43 = .ok (.iaload, 1) := by decide +kernel
theorem dX8_treesIn_44 : decode cX8_treesIn 44 = .ok (.ifCond .ne 7, 3) := by decide +kernel
theorem dX8_treesIn_47 : decode cX8_treesIn 47 = .ok (.iconst 0, 1) := by decide +kernel
theorem dX8_treesIn_48 : decode cX8_treesIn 48 = .ok (.goto 4, 3) := by decide +kernel
theorem dX8_treesIn_51 : decode cX8_treesIn 51 = .ok (.iconst 1, 1) := by decide +kernel
theorem dX8_treesIn_52 : decode cX8_treesIn 52 = .ok (.iadd, 1) := by decide +kernel
theorem dX8_treesIn_53 : decode cX8_treesIn 53 = .ok (.istore_n 3, 1) := by decide +kernel
theorem dX8_treesIn_54 : decode cX8_treesIn 54 = .ok (.iinc 4 1, 3) := by decide +kernel
theorem dX8_treesIn_57 : decode cX8_treesIn 57 = .ok (.goto (-28), 3) := by decide +kernel
theorem dX8_treesIn_60 : decode cX8_treesIn 60 = .ok (.iload_n 3, 1) := by decide +kernel
theorem dX8_treesIn_61 : decode cX8_treesIn 61 = .ok (.ireturn, 1) := by decide +kernel
set_option maxRecDepth 20000 in
theorem ggX8_trees_X8_isSet : GoodIn wsX8_trees wsX8_isSet := goodIn_r _ [7, 8, 9, 6, 10] (by decide +kernel) (by decide +kernel)
set_option maxRecDepth 20000 in
theorem gX8_trees_X8_isSet : GoodIn wsX8_trees (va_wsS RX8 38 yX8_isSet wsX8_isSet) := goodIn_app (goodIn_of _ (by decide +kernel)) ggX8_trees_X8_isSet
set_option maxRecDepth 20000 in
theorem ggX8_trees_X8_asked : GoodIn wsX8_trees wsX8_asked := goodIn_r _ [14, 15, 44, 45, 46, 47, 48, 49, 50, 51, 52] (by decide +kernel) (by decide +kernel)
set_option maxRecDepth 20000 in
theorem gX8_trees_X8_asked : GoodIn wsX8_trees (wsV RX8 89 RX8 yX8_asked wsX8_asked) := goodIn_app (goodIn_of _ (by decide +kernel)) ggX8_trees_X8_asked
set_option maxRecDepth 20000 in
theorem ggX8_trees_X8_grows : GoodIn wsX8_trees wsX8_grows := goodIn_r _ [19, 2, 3, 20, 21, 22, 6, 23, 24, 25, 26, 27, 28, 44, 45, 46, 47, 48, 49, 50, 51, 52] (by decide +kernel) (by decide +kernel)
set_option maxRecDepth 20000 in
theorem gX8_trees_X8_grows : GoodIn wsX8_trees (wsV RX8 113 RX8 yX8_grows wsX8_grows) := goodIn_app (goodIn_of _ (by decide +kernel)) ggX8_trees_X8_grows
set_option maxRecDepth 20000 in
theorem ggX8_trees_X8_treesIn : GoodIn wsX8_trees wsX8_treesIn := goodIn_r _ [32, 33, 34, 35, 36, 37, 6, 38, 39, 40, 41, 42, 43, 44, 45, 46, 47, 48, 49, 50, 51, 52] (by decide +kernel) (by decide +kernel)
set_option maxRecDepth 20000 in
theorem gX8_trees_X8_treesIn : GoodIn wsX8_trees (wsV RX8 125 RX8 yX8_treesIn wsX8_treesIn) := goodIn_app (goodIn_of _ (by decide +kernel)) ggX8_trees_X8_treesIn
theorem dX8_trees_0 : decode cX8_trees 0 = .ok (.aload_n 0, 1) := by decide +kernel
theorem dX8_trees_1 : decode cX8_trees 1 = .ok (.iload_n 1, 1) := by decide +kernel
theorem dX8_trees_2 : decode cX8_trees 2 = .ok (.invokestatic 38, 3) := by decide +kernel
theorem dX8_trees_5 : decode cX8_trees 5 = .ok (.invokevirtual 89, 3) := by decide +kernel
theorem dX8_trees_8 : decode cX8_trees 8 = .ok (.ifCond .eq 12, 3) := by decide +kernel
theorem dX8_trees_11 : decode cX8_trees 11 = .ok (.aload_n 0, 1) := by decide +kernel
theorem dX8_trees_12 : decode cX8_trees 12 = .ok (.getfield 13, 3) := by decide +kernel
theorem dX8_trees_15 : decode cX8_trees 15 = .ok (.iload_n 1, 1) := by decide +kernel
theorem dX8_trees_16 : decode cX8_trees 16 = .ok (.iaload, 1) := by decide +kernel
theorem dX8_trees_17 : decode cX8_trees 17 = .ok (.ifCond .ne 5, 3) := by decide +kernel
theorem dX8_trees_20 : decode cX8_trees 20 = .ok (.iconst 0, 1) := by decide +kernel
theorem dX8_trees_21 : decode cX8_trees 21 = .ok (.ireturn, 1) := by decide +kernel
theorem dX8_trees_22 : decode cX8_trees 22 = .ok (.aload_n 0, 1) := by decide +kernel
theorem dX8_trees_23 : decode cX8_trees 23 = .ok (.iload_n 1, 1) := by decide +kernel
theorem dX8_trees_24 : decode cX8_trees 24 = .ok (.invokevirtual 113, 3) := by decide +kernel
theorem dX8_trees_27 : decode cX8_trees 27 = .ok (.iconst 1, 1) := by decide +kernel
theorem dX8_trees_28 : decode cX8_trees 28 = .ok (.aload_n 0, 1) := by decide +kernel
theorem dX8_trees_29 : decode cX8_trees 29 = .ok (.aload_n 0, 1) := by decide +kernel
theorem dX8_trees_30 : decode cX8_trees 30 = .ok (.getfield 95, 3) := by decide +kernel
theorem dX8_trees_33 : decode cX8_trees 33 = .ok (.invokevirtual 125, 3) := by decide +kernel
theorem dX8_trees_36 : decode cX8_trees 36 = .ok (.iadd, 1) := by decide +kernel
theorem dX8_trees_37 : decode cX8_trees 37 = .ok (.istore_n 2, 1) := by decide +kernel
theorem dX8_trees_38 : decode cX8_trees 38 = .ok (.iconst 0, 1) := by decide +kernel
theorem dX8_trees_39 : decode cX8_trees 39 = .ok (.istore_n 3, 1) := by decide +kernel
theorem dX8_trees_40 : decode cX8_trees 40 = .ok (.iload_n 3, 1) := by decide +kernel
theorem dX8_trees_41 : decode cX8_trees 41 = .ok (.bipush 64, 2) := by decide +kernel
theorem dX8_trees_43 : decode cX8_trees 43 = .ok (.if_icmp .ge 22, 3) := by decide +kernel
theorem dX8_trees_46 : decode cX8_trees 46 = .ok (.iload_n 2, 1) := by decide +kernel
theorem dX8_trees_47 : decode cX8_trees 47 = .ok (.aload_n 0, 1) := by decide +kernel
theorem dX8_trees_48 : decode cX8_trees 48 = .ok (.aload_n 0, 1) := by decide +kernel
theorem dX8_trees_49 : decode cX8_trees 49 = .ok (.getfield 23, 3) := by decide +kernel
theorem dX8_trees_52 : decode cX8_trees 52 = .ok (.iload_n 3, 1) := by decide +kernel
theorem dX8_trees_53 : decode cX8_trees 53 = .ok (.laload, 1) := by decide +kernel
theorem dX8_trees_54 : decode cX8_trees 54 = .ok (.invokevirtual 125, 3) := by decide +kernel
theorem dX8_trees_57 : decode cX8_trees 57 = .ok (.iadd, 1) := by decide +kernel
theorem dX8_trees_58 : decode cX8_trees 58 = .ok (.istore_n 2, 1) := by decide +kernel
theorem dX8_trees_59 : decode cX8_trees 59 = .ok (.iinc 3 1, 3) := by decide +kernel
theorem dX8_trees_62 : decode cX8_trees 62 = .ok (.goto (-22), 3) := by decide +kernel
theorem dX8_trees_65 : decode cX8_trees 65 = .ok (.iload_n 2, 1) := by decide +kernel
theorem dX8_trees_66 : decode cX8_trees 66 = .ok (.ireturn, 1) := by decide +kernel
set_option maxRecDepth 20000 in
theorem ggX8_isCluster_X8_isSet : GoodIn wsX8_isCluster wsX8_isSet := goodIn_r _ [4, 5, 6, 3, 7] (by decide +kernel) (by decide +kernel)
set_option maxRecDepth 20000 in
theorem gX8_isCluster_X8_isSet : GoodIn wsX8_isCluster (va_wsS RX8 38 yX8_isSet wsX8_isSet) := goodIn_app (goodIn_of _ (by decide +kernel)) ggX8_isCluster_X8_isSet
set_option maxRecDepth 20000 in
theorem ggX8_isCluster_X8_in : GoodIn wsX8_isCluster wsX8_in := goodIn_r _ [7] (by decide +kernel) (by decide +kernel)
set_option maxRecDepth 20000 in
theorem gX8_isCluster_X8_in : GoodIn wsX8_isCluster (va_wsS RX8 34 yX8_in wsX8_in) := goodIn_app (goodIn_of _ (by decide +kernel)) ggX8_isCluster_X8_in
set_option maxRecDepth 20000 in
theorem ggX8_isCluster_X8_asked : GoodIn wsX8_isCluster wsX8_asked := goodIn_r _ [11, 12, 28, 29, 30, 31, 32, 33, 34, 35, 36] (by decide +kernel) (by decide +kernel)
set_option maxRecDepth 20000 in
theorem gX8_isCluster_X8_asked : GoodIn wsX8_isCluster (wsV RX8 89 RX8 yX8_asked wsX8_asked) := goodIn_app (goodIn_of _ (by decide +kernel)) ggX8_isCluster_X8_asked
set_option maxRecDepth 20000 in
theorem ggX8_isCluster_X8_grows : GoodIn wsX8_isCluster wsX8_grows := goodIn_r _ [16, 17, 18, 19, 20, 21, 3, 22, 23, 24, 25, 26, 27, 28, 29, 30, 31, 32, 33, 34, 35, 36] (by decide +kernel) (by decide +kernel)
set_option maxRecDepth 20000 in
theorem gX8_isCluster_X8_grows : GoodIn wsX8_isCluster (wsV RX8 113 RX8 yX8_grows wsX8_grows) := goodIn_app (goodIn_of _ (by decide +kernel)) ggX8_isCluster_X8_grows
theorem dX8_isCluster_0 : decode cX8_isCluster 0 = .ok (.aload_n 0, 1) := by decide +kernel
theorem dX8_isCluster_1 : decode cX8_isCluster 1 = .ok (.iload_n 1, 1) := by decide +kernel
theorem dX8_isCluster_2 : decode cX8_isCluster 2 = .ok (.invokestatic 38, 3) := by decide +kernel
theorem dX8_isCluster_5 : decode cX8_isCluster 5 = .ok (.ifCond .eq 17, 3) := by decide +kernel
theorem dX8_isCluster_8 : decode cX8_isCluster 8 = .ok (.iload_n 2, 1) := by decide +kernel
theorem dX8_isCluster_9 : decode cX8_isCluster 9 = .ok (.iconst 0, 1) := by decide +kernel
theorem dX8_isCluster_10 : decode cX8_isCluster 10 = .ok (.bipush 63, 2) := by decide +kernel
theorem dX8_isCluster_12 : decode cX8_isCluster 12 = .ok (.invokestatic 34, 3) := by decide +kernel
theorem dX8_isCluster_15 : decode cX8_isCluster 15 = .ok (.ifCond .eq 7, 3) := by decide +kernel
theorem dX8_isCluster_18 : decode cX8_isCluster 18 = .ok (.iconst 1, 1) := by decide +kernel
theorem dX8_isCluster_19 : decode cX8_isCluster 19 = .ok (.goto 4, 3) := by decide +kernel
theorem dX8_isCluster_22 : decode cX8_isCluster 22 = .ok (.iconst 0, 1) := by decide +kernel
theorem dX8_isCluster_23 : decode cX8_isCluster 23 = .ok (.invokevirtual 89, 3) := by decide +kernel
theorem dX8_isCluster_26 : decode cX8_isCluster 26 = .ok (.istore_n 3, 1) := by decide +kernel
theorem dX8_isCluster_27 : decode cX8_isCluster 27 = .ok (.iload_n 3, 1) := by decide +kernel
theorem dX8_isCluster_28 : decode cX8_isCluster 28 = .ok (.ifCond .eq 8, 3) := by decide +kernel
theorem dX8_isCluster_31 : decode cX8_isCluster 31 = .ok (.aload_n 0, 1) := by decide +kernel
theorem dX8_isCluster_32 : decode cX8_isCluster 32 = .ok (.iload_n 1, 1) := by decide +kernel
theorem dX8_isCluster_33 : decode cX8_isCluster 33 = .ok (.invokevirtual 113, 3) := by decide +kernel
theorem dX8_isCluster_36 : decode cX8_isCluster 36 = .ok (.iload_n 3, 1) := by decide +kernel
theorem dX8_isCluster_37 : decode cX8_isCluster 37 = .ok (.ireturn, 1) := by decide +kernel
set_option maxRecDepth 20000 in
theorem ggX8_clusterMinimum_X8_isCluster : GoodIn wsX8_clusterMinimum wsX8_isCluster := goodIn_r _ [6, 7, 8, 5, 9, 10, 11, 12, 13, 14, 15, 16, 17, 18, 19, 20, 21, 22, 1, 23, 24, 25, 26, 27, 28, 29, 30, 31, 35, 36, 37, 38, 39, 40, 41, 42, 43] (by decide +kernel) (by decide +kernel)
set_option maxRecDepth 20000 in
theorem gX8_clusterMinimum_X8_isCluster : GoodIn wsX8_clusterMinimum (wsV RX8 128 RX8 yX8_isCluster wsX8_isCluster) := goodIn_app (goodIn_of _ (by decide +kernel)) ggX8_clusterMinimum_X8_isCluster
set_option maxRecDepth 20000 in
theorem ggX8_clusterMinimum_X8_lowest : GoodIn wsX8_clusterMinimum wsX8_lowest := goodIn_r _ [34] (by decide +kernel) (by decide +kernel)
set_option maxRecDepth 20000 in
theorem gX8_clusterMinimum_X8_lowest : GoodIn wsX8_clusterMinimum (va_wsS RX8 99 yX8_lowest wsX8_lowest) := goodIn_app (goodIn_of _ (by decide +kernel)) ggX8_clusterMinimum_X8_lowest
theorem dX8_clusterMinimum_0 : decode cX8_clusterMinimum 0 = .ok (.aload_n 0, 1) := by decide +kernel
theorem dX8_clusterMinimum_1 : decode cX8_clusterMinimum 1 = .ok (.iload_n 1, 1) := by decide +kernel
theorem dX8_clusterMinimum_2 : decode cX8_clusterMinimum 2 = .ok (.iload_n 2, 1) := by decide +kernel
theorem dX8_clusterMinimum_3 : decode cX8_clusterMinimum 3 = .ok (.invokevirtual 128, 3) := by decide +kernel
theorem dX8_clusterMinimum_6 : decode cX8_clusterMinimum 6 = .ok (.ifCond .eq 15, 3) := by decide +kernel
theorem dX8_clusterMinimum_9 : decode cX8_clusterMinimum 9 = .ok (.aload_n 0, 1) := by decide +kernel
theorem dX8_clusterMinimum_10 : decode cX8_clusterMinimum 10 = .ok (.getfield 23, 3) := by decide +kernel
theorem dX8_clusterMinimum_13 : decode cX8_clusterMinimum 13 = .ok (.iload_n 2, 1) := by decide +kernel
theorem dX8_clusterMinimum_14 : decode cX8_clusterMinimum 14 = .ok (.laload, 1) := by decide +kernel
theorem dX8_clusterMinimum_15 : decode cX8_clusterMinimum 15 = .ok (.invokestatic 99, 3) := by decide +kernel
theorem dX8_clusterMinimum_18 : decode cX8_clusterMinimum 18 = .ok (.goto 4, 3) := by decide +kernel
theorem dX8_clusterMinimum_21 : decode cX8_clusterMinimum 21 = .ok (.iconst 0, 1) := by decide +kernel
theorem dX8_clusterMinimum_22 : decode cX8_clusterMinimum 22 = .ok (.ireturn, 1) := by decide +kernel
set_option maxRecDepth 20000 in
theorem ggX8_clusterMaximum_X8_isCluster : GoodIn wsX8_clusterMaximum wsX8_isCluster := goodIn_r _ [6, 7, 8, 5, 9, 10, 11, 12, 13, 14, 15, 16, 17, 18, 19, 20, 21, 22, 1, 23, 24, 25, 26, 27, 28, 29, 30, 31, 35, 36, 37, 38, 39, 40, 41, 42, 43] (by decide +kernel) (by decide +kernel)
set_option maxRecDepth 20000 in
theorem gX8_clusterMaximum_X8_isCluster : GoodIn wsX8_clusterMaximum (wsV RX8 128 RX8 yX8_isCluster wsX8_isCluster) := goodIn_app (goodIn_of _ (by decide +kernel)) ggX8_clusterMaximum_X8_isCluster
set_option maxRecDepth 20000 in
theorem ggX8_clusterMaximum_X8_highest : GoodIn wsX8_clusterMaximum wsX8_highest := goodIn_r _ [34] (by decide +kernel) (by decide +kernel)
set_option maxRecDepth 20000 in
theorem gX8_clusterMaximum_X8_highest : GoodIn wsX8_clusterMaximum (va_wsS RX8 110 yX8_highest wsX8_highest) := goodIn_app (goodIn_of _ (by decide +kernel)) ggX8_clusterMaximum_X8_highest
theorem dX8_clusterMaximum_0 : decode cX8_clusterMaximum 0 = .ok (.aload_n 0, 1) := by decide +kernel
theorem dX8_clusterMaximum_1 : decode cX8_clusterMaximum 1 = .ok (.iload_n 1, 1) := by decide +kernel
theorem dX8_clusterMaximum_2 : decode cX8_clusterMaximum 2 = .ok (.iload_n 2, 1) := by decide +kernel
theorem dX8_clusterMaximum_3 : decode cX8_clusterMaximum 3 = .ok (.invokevirtual 128, 3) := by decide +kernel
theorem dX8_clusterMaximum_6 : decode cX8_clusterMaximum 6 = .ok (.ifCond .eq 15, 3) := by decide +kernel
theorem dX8_clusterMaximum_9 : decode cX8_clusterMaximum 9 = .ok (.aload_n 0, 1) := by decide +kernel
theorem dX8_clusterMaximum_10 : decode cX8_clusterMaximum 10 = .ok (.getfield 23, 3) := by decide +kernel
theorem dX8_clusterMaximum_13 : decode cX8_clusterMaximum 13 = .ok (.iload_n 2, 1) := by decide +kernel
theorem dX8_clusterMaximum_14 : decode cX8_clusterMaximum 14 = .ok (.laload, 1) := by decide +kernel
theorem dX8_clusterMaximum_15 : decode cX8_clusterMaximum 15 = .ok (.invokestatic 110, 3) := by decide +kernel
theorem dX8_clusterMaximum_18 : decode cX8_clusterMaximum 18 = .ok (.goto 4, 3) := by decide +kernel
theorem dX8_clusterMaximum_21 : decode cX8_clusterMaximum 21 = .ok (.iconst 0, 1) := by decide +kernel
theorem dX8_clusterMaximum_22 : decode cX8_clusterMaximum 22 = .ok (.ireturn, 1) := by decide +kernel
set_option maxRecDepth 20000 in
theorem ggX8_hasPrefix_X8_above : GoodIn wsX8_hasPrefix wsX8_above := goodIn_r _ [5, 6, 7, 8, 4, 9, 10, 11, 12, 13, 14, 15, 16, 17, 18, 19] (by decide +kernel) (by decide +kernel)
set_option maxRecDepth 20000 in
theorem gX8_hasPrefix_X8_above : GoodIn wsX8_hasPrefix (wsV RX8 83 RX8 yX8_above wsX8_above) := goodIn_app (goodIn_of _ (by decide +kernel)) ggX8_hasPrefix_X8_above
theorem dX8_hasPrefix_0 : decode cX8_hasPrefix 0 = .ok (.iconst 1, 1) := by decide +kernel
theorem dX8_hasPrefix_1 : decode cX8_hasPrefix 1 = .ok (.bipush 12, 2) := by decide +kernel
theorem dX8_hasPrefix_3 : decode cX8_hasPrefix 3 = .ok (.iload_n 2, 1) := by decide +kernel
theorem dX8_hasPrefix_4 : decode cX8_hasPrefix 4 = .ok (.isub, 1) := by decide +kernel
theorem dX8_hasPrefix_5 : decode cX8_hasPrefix 5 = .ok (.ishl, 1) := by decide +kernel
theorem dX8_hasPrefix_6 : decode cX8_hasPrefix 6 = .ok (.istore 4, 2) := by decide +kernel
theorem dX8_hasPrefix_8 : decode cX8_hasPrefix 8 = .ok (.aload_n 0, 1) := by decide +kernel
theorem dX8_hasPrefix_9 : decode cX8_hasPrefix 9 = .ok (.iload_n 1, 1) := by decide +kernel
theorem dX8_hasPrefix_10 : decode cX8_hasPrefix 10 = .ok (.iload_n 3, 1) := by decide +kernel
theorem dX8_hasPrefix_11 : decode cX8_hasPrefix 11 = .ok (.iload 4, 2) := by decide +kernel
theorem dX8_hasPrefix_13 : decode cX8_hasPrefix 13 = .ok (.imul, 1) := by decide +kernel
theorem dX8_hasPrefix_14 : decode cX8_hasPrefix 14 = .ok (.invokevirtual 83, 3) := by decide +kernel
theorem dX8_hasPrefix_17 : decode cX8_hasPrefix 17 = .ok (.iload_n 3, 1) := by decide +kernel
theorem dX8_hasPrefix_18 : decode cX8_hasPrefix 18 = .ok (.iconst 1, 1) := by decide +kernel
theorem dX8_hasPrefix_19 : decode cX8_hasPrefix 19 = .ok (.iadd, 1) := by decide +kernel
theorem dX8_hasPrefix_20 : decode cX8_hasPrefix 20 = .ok (.iload 4, 2) := by decide +kernel
theorem dX8_hasPrefix_22 : decode cX8_hasPrefix 22 = .ok (.imul, 1) := by decide +kernel
theorem dX8_hasPrefix_23 : decode cX8_hasPrefix 23 = .ok (.if_icmp .ge 7, 3) := by decide +kernel
theorem dX8_hasPrefix_26 : decode cX8_hasPrefix 26 = .ok (.iconst 1, 1) := by decide +kernel
theorem dX8_hasPrefix_27 : decode cX8_hasPrefix 27 = .ok (.goto 4, 3) := by decide +kernel
theorem dX8_hasPrefix_30 : decode cX8_hasPrefix 30 = .ok (.iconst 0, 1) := by decide +kernel
theorem dX8_hasPrefix_31 : decode cX8_hasPrefix 31 = .ok (.ireturn, 1) := by decide +kernel
set_option maxRecDepth 20000 in
theorem ggX8_prefixes_X8_isSet : GoodIn wsX8_prefixes wsX8_isSet := goodIn_r _ [4, 5, 6, 3, 7] (by decide +kernel) (by decide +kernel)
set_option maxRecDepth 20000 in
theorem gX8_prefixes_X8_isSet : GoodIn wsX8_prefixes (va_wsS RX8 38 yX8_isSet wsX8_isSet) := goodIn_app (goodIn_of _ (by decide +kernel)) ggX8_prefixes_X8_isSet
set_option maxRecDepth 20000 in
theorem ggX8_prefixes_X8_in : GoodIn wsX8_prefixes wsX8_in := goodIn_r _ [7] (by decide +kernel) (by decide +kernel)
set_option maxRecDepth 20000 in
theorem gX8_prefixes_X8_in : GoodIn wsX8_prefixes (va_wsS RX8 34 yX8_in wsX8_in) := goodIn_app (goodIn_of _ (by decide +kernel)) ggX8_prefixes_X8_in
set_option maxRecDepth 20000 in
theorem ggX8_prefixes_X8_asked : GoodIn wsX8_prefixes wsX8_asked := goodIn_r _ [11, 12, 26, 27, 28, 29, 30, 31, 32, 33, 34] (by decide +kernel) (by decide +kernel)
set_option maxRecDepth 20000 in
theorem gX8_prefixes_X8_asked : GoodIn wsX8_prefixes (wsV RX8 89 RX8 yX8_asked wsX8_asked) := goodIn_app (goodIn_of _ (by decide +kernel)) ggX8_prefixes_X8_asked
set_option maxRecDepth 20000 in
theorem ggX8_prefixes_X8_hasPrefix : GoodIn wsX8_prefixes wsX8_hasPrefix := goodIn_r _ [16, 17, 18, 19, 3, 20, 21, 22, 23, 24, 25, 26, 27, 28, 29, 30, 31, 32, 33, 34] (by decide +kernel) (by decide +kernel)
set_option maxRecDepth 20000 in
theorem gX8_prefixes_X8_hasPrefix : GoodIn wsX8_prefixes (wsV RX8 131 RX8 yX8_hasPrefix wsX8_hasPrefix) := goodIn_app (goodIn_of _ (by decide +kernel)) ggX8_prefixes_X8_hasPrefix
theorem dX8_prefixes_0 : decode cX8_prefixes 0 = .ok (.aload_n 0, 1) := by decide +kernel
theorem dX8_prefixes_1 : decode cX8_prefixes 1 = .ok (.iload_n 1, 1) := by decide +kernel
theorem dX8_prefixes_2 : decode cX8_prefixes 2 = .ok (.invokestatic 38, 3) := by decide +kernel
theorem dX8_prefixes_5 : decode cX8_prefixes 5 = .ok (.ifCond .eq 17, 3) := by decide +kernel
theorem dX8_prefixes_8 : decode cX8_prefixes 8 = .ok (.iload_n 2, 1) := by decide +kernel
theorem dX8_prefixes_9 : decode cX8_prefixes 9 = .ok (.iconst 0, 1) := by decide +kernel
theorem dX8_prefixes_10 : decode cX8_prefixes 10 = .ok (.bipush 12, 2) := by decide +kernel
theorem dX8_prefixes_12 : decode cX8_prefixes 12 = .ok (.invokestatic 34, 3) := by decide +kernel
theorem dX8_prefixes_15 : decode cX8_prefixes 15 = .ok (.ifCond .eq 7, 3) := by decide +kernel
theorem dX8_prefixes_18 : decode cX8_prefixes 18 = .ok (.iconst 1, 1) := by decide +kernel
theorem dX8_prefixes_19 : decode cX8_prefixes 19 = .ok (.goto 4, 3) := by decide +kernel
theorem dX8_prefixes_22 : decode cX8_prefixes 22 = .ok (.iconst 0, 1) := by decide +kernel
theorem dX8_prefixes_23 : decode cX8_prefixes 23 = .ok (.invokevirtual 89, 3) := by decide +kernel
theorem dX8_prefixes_26 : decode cX8_prefixes 26 = .ok (.ifCond .ne 5, 3) := by decide +kernel
theorem dX8_prefixes_29 : decode cX8_prefixes 29 = .ok (.iconst 0, 1) := by decide +kernel
theorem dX8_prefixes_30 : decode cX8_prefixes 30 = .ok (.ireturn, 1) := by decide +kernel
theorem dX8_prefixes_31 : decode cX8_prefixes 31 = .ok (.iconst 0, 1) := by decide +kernel
theorem dX8_prefixes_32 : decode cX8_prefixes 32 = .ok (.istore_n 3, 1) := by decide +kernel
theorem dX8_prefixes_33 : decode cX8_prefixes 33 = .ok (.iconst 0, 1) := by decide +kernel
theorem dX8_prefixes_34 : decode cX8_prefixes 34 = .ok (.istore 4, 2) := by decide +kernel
theorem dX8_prefixes_36 : decode cX8_prefixes 36 = .ok (.iload 4, 2) := by decide +kernel
theorem dX8_prefixes_38 : decode cX8_prefixes 38 = .ok (.iconst 1, 1) := by decide +kernel
theorem dX8_prefixes_39 : decode cX8_prefixes 39 = .ok (.iload_n 2, 1) := by decide +kernel
theorem dX8_prefixes_40 : decode cX8_prefixes 40 = .ok (.ishl, 1) := by decide +kernel
theorem dX8_prefixes_41 : decode cX8_prefixes 41 = .ok (.if_icmp .ge 28, 3) := by decide +kernel
theorem dX8_prefixes_44 : decode cX8_prefixes 44 = .ok (.iload_n 3, 1) := by decide +kernel
theorem dX8_prefixes_45 : decode cX8_prefixes 45 = .ok (.aload_n 0, 1) := by decide +kernel
theorem dX8_prefixes_46 : decode cX8_prefixes 46 = .ok (.iload_n 1, 1) := by decide +kernel
theorem dX8_prefixes_47 : decode cX8_prefixes 47 = .ok (.iload_n 2, 1) := by decide +kernel
theorem dX8_prefixes_48 : decode cX8_prefixes 48 = .ok (.iload 4, 2) := by decide +kernel
theorem dX8_prefixes_50 : decode cX8_prefixes 50 = .ok (.invokevirtual 131, 3) := by decide +kernel
theorem dX8_prefixes_53 : decode cX8_prefixes 53 = .ok (.ifCond .eq 7, 3) := by decide +kernel
theorem dX8_prefixes_56 : decode cX8_prefixes 56 = .ok (.iconst 1, 1) := by decide +kernel
theorem dX8_prefixes_57 : decode cX8_prefixes 57 = .ok (.goto 4, 3) := by decide +kernel
theorem dX8_prefixes_60 : decode cX8_prefixes 60 = .ok (.iconst 0, 1) := by decide +kernel
theorem dX8_prefixes_61 : decode cX8_prefixes 61 = .ok (.iadd, 1) := by decide +kernel
theorem dX8_prefixes_62 : decode cX8_prefixes 62 = .ok (.istore_n 3, 1) := by decide +kernel
theorem dX8_prefixes_63 : decode cX8_prefixes 63 = .ok (.iinc 4 1, 3) := by decide +kernel
theorem dX8_prefixes_66 : decode cX8_prefixes 66 = .ok (.goto (-30), 3) := by decide +kernel
theorem dX8_prefixes_69 : decode cX8_prefixes 69 = .ok (.iload_n 3, 1) := by decide +kernel
theorem dX8_prefixes_70 : decode cX8_prefixes 70 = .ok (.ireturn, 1) := by decide +kernel
set_option maxRecDepth 20000 in
theorem ggX8_matches_X8_hasPrefix : GoodIn wsX8_matches wsX8_hasPrefix := goodIn_r _ [5, 6, 7, 8, 4, 9, 10, 11, 12, 13, 14, 15, 16, 17, 18, 19, 20, 21, 22, 23] (by decide +kernel) (by decide +kernel)
set_option maxRecDepth 20000 in
theorem gX8_matches_X8_hasPrefix : GoodIn wsX8_matches (wsV RX8 131 RX8 yX8_hasPrefix wsX8_hasPrefix) := goodIn_app (goodIn_of _ (by decide +kernel)) ggX8_matches_X8_hasPrefix
theorem dX8_matches_0 : decode cX8_matches 0 = .ok (.iconst 0, 1) := by decide +kernel
theorem dX8_matches_1 : decode cX8_matches 1 = .ok (.istore_n 3, 1) := by decide +kernel
theorem dX8_matches_2 : decode cX8_matches 2 = .ok (.bipush 13, 2) := by decide +kernel
theorem dX8_matches_4 : decode cX8_matches 4 = .ok (.istore 4, 2) := by decide +kernel
theorem dX8_matches_6 : decode cX8_matches 6 = .ok (.iconst 0, 1) := by decide +kernel
theorem dX8_matches_7 : decode cX8_matches 7 = .ok (.istore 5, 2) := by decide +kernel
theorem dX8_matches_9 : decode cX8_matches 9 = .ok (.iload 4, 2) := by decide +kernel
theorem dX8_matches_11 : decode cX8_matches 11 = .ok (.iload_n 3, 1) := by decide +kernel
theorem dX8_matches_12 : decode cX8_matches 12 = .ok (.iconst 1, 1) := by decide +kernel
theorem dX8_matches_13 : decode cX8_matches 13 = .ok (.iadd, 1) := by decide +kernel
theorem dX8_matches_14 : decode cX8_matches 14 = .ok (.if_icmp .le 44, 3) := by decide +kernel
theorem dX8_matches_17 : decode cX8_matches 17 = .ok (.iload_n 3, 1) := by decide +kernel
theorem dX8_matches_18 : decode cX8_matches 18 = .ok (.iload 4, 2) := by decide +kernel
theorem dX8_matches_20 : decode cX8_matches 20 = .ok (.iadd, 1) := by decide +kernel
theorem dX8_matches_21 : decode cX8_matches 21 = .ok (.iconst 2, 1) := by decide +kernel
theorem dX8_matches_22 : decode cX8_matches 22 = .ok (.idiv, 1) := by decide +kernel
theorem dX8_matches_23 : decode cX8_matches 23 = .ok (.istore 6, 2) := by decide +kernel
theorem dX8_matches_25 : decode cX8_matches 25 = .ok (.iinc 5 1, 3) := by decide +kernel
theorem dX8_matches_28 : decode cX8_matches 28 = .ok (.aload_n 0, 1) := by decide +kernel
theorem dX8_matches_29 : decode cX8_matches 29 = .ok (.iload_n 1, 1) := by decide +kernel
theorem dX8_matches_30 : decode cX8_matches 30 = .ok (.iload 6, 2) := by decide +kernel
theorem dX8_matches_32 : decode cX8_matches 32 = .ok (.iload_n 2, 1) := by decide +kernel
theorem dX8_matches_33 : decode cX8_matches 33 = .ok (.bipush 12, 2) := by decide +kernel
theorem dX8_matches_35 : decode cX8_matches 35 = .ok (.iload 6, 2) := by decide +kernel
theorem dX8_matches_37 : decode cX8_matches 37 = .ok (.isub, 1) := by decide +kernel
theorem dX8_matches_38 : decode cX8_matches 38 = .ok (.ishr, 1) := by decide +kernel
theorem dX8_matches_39 : decode cX8_matches 39 = .ok (.invokevirtual 131, 3) := by decide +kernel
theorem dX8_matches_42 : decode cX8_matches 42 = .ok (.ifCond .eq 9, 3) := by decide +kernel
theorem dX8_matches_45 : decode cX8_matches 45 = .ok (.iload 6, 2) := by decide +kernel
theorem dX8_matches_47 : decode cX8_matches 47 = .ok (.istore_n 3, 1) := by decide +kernel
theorem dX8_matches_48 : decode cX8_matches 48 = .ok (.goto 7, 3) := by decide +kernel
theorem dX8_matches_51 : decode cX8_matches 51 = .ok (.iload 6, 2) := by decide +kernel
theorem dX8_matches_53 : decode cX8_matches 53 = .ok (.istore 4, 2) := by decide +kernel
theorem dX8_matches_55 : decode cX8_matches 55 = .ok (.goto (-46), 3) := by decide +kernel
theorem dX8_matches_58 : decode cX8_matches 58 = .ok (.iload_n 3, 1) := by decide +kernel
theorem dX8_matches_59 : decode cX8_matches 59 = .ok (.bipush 100, 2) := by decide +kernel
theorem dX8_matches_61 : decode cX8_matches 61 = .ok (.iload 5, 2) := by decide +kernel
theorem dX8_matches_63 : decode cX8_matches 63 = .ok (.imul, 1) := by decide +kernel
theorem dX8_matches_64 : decode cX8_matches 64 = .ok (.iadd, 1) := by decide +kernel
theorem dX8_matches_65 : decode cX8_matches 65 = .ok (.ireturn, 1) := by decide +kernel
set_option maxRecDepth 20000 in
theorem ggX8_longestMatch_X8_isRight : GoodIn wsX8_longestMatch wsX8_isRight := goodIn_r _ [6, 7, 8, 5, 9, 10, 11, 12, 13, 14, 15, 16, 17, 35, 36, 37, 38, 39, 40, 41, 42, 43] (by decide +kernel) (by decide +kernel)
set_option maxRecDepth 20000 in
theorem gX8_longestMatch_X8_isRight : GoodIn wsX8_longestMatch (wsV RX8 71 RX8 yX8_isRight wsX8_isRight) := goodIn_app (goodIn_of _ (by decide +kernel)) ggX8_longestMatch_X8_isRight
set_option maxRecDepth 20000 in
theorem ggX8_longestMatch_X8_matches : GoodIn wsX8_longestMatch wsX8_matches := goodIn_r _ [21, 22, 23, 24, 5, 25, 26, 27, 28, 29, 30, 31, 32, 33, 34, 35, 36, 37, 38, 39, 40, 41, 42, 43] (by decide +kernel) (by decide +kernel)
set_option maxRecDepth 20000 in
theorem gX8_longestMatch_X8_matches : GoodIn wsX8_longestMatch (wsV RX8 134 RX8 yX8_matches wsX8_matches) := goodIn_app (goodIn_of _ (by decide +kernel)) ggX8_longestMatch_X8_matches
theorem dX8_longestMatch_0 : decode cX8_longestMatch 0 = .ok (.aload_n 0, 1) := by decide +kernel
theorem dX8_longestMatch_1 : decode cX8_longestMatch 1 = .ok (.iload_n 1, 1) := by decide +kernel
theorem dX8_longestMatch_2 : decode cX8_longestMatch 2 = .ok (.iload_n 2, 1) := by decide +kernel
theorem dX8_longestMatch_3 : decode cX8_longestMatch 3 = .ok (.invokevirtual 71, 3) := by decide +kernel
theorem dX8_longestMatch_6 : decode cX8_longestMatch 6 = .ok (.ifCond .ne 5, 3) := by decide +kernel
theorem dX8_longestMatch_9 : decode cX8_longestMatch 9 = .ok (.iconst 0, 1) := by decide +kernel
theorem dX8_longestMatch_10 : decode cX8_longestMatch 10 = .ok (.ireturn, 1) := by decide +kernel
theorem dX8_longestMatch_11 : decode cX8_longestMatch 11 = .ok (.aload_n 0, 1) := by decide +kernel
theorem dX8_longestMatch_12 : decode cX8_longestMatch 12 = .ok (.getfield 13, 3) := by decide +kernel
theorem dX8_longestMatch_15 : decode cX8_longestMatch 15 = .ok (.iload_n 1, 1) := by decide +kernel
theorem dX8_longestMatch_16 : decode cX8_longestMatch 16 = .ok (.iaload, 1) := by decide +kernel
theorem dX8_longestMatch_17 : decode cX8_longestMatch 17 = .ok (.ifCond .ne 7, 3) := by decide +kernel
theorem dX8_longestMatch_20 : decode cX8_longestMatch 20 = .ok (.iconst (-1), 1) := by decide +kernel
theorem dX8_longestMatch_21 : decode cX8_longestMatch 21 = .ok (.goto 12, 3) := by decide +kernel
theorem dX8_longestMatch_24 : decode cX8_longestMatch 24 = .ok (.aload_n 0, 1) := by decide +kernel
theorem dX8_longestMatch_25 : decode cX8_longestMatch 25 = .ok (.iload_n 1, 1) := by decide +kernel
theorem dX8_longestMatch_26 : decode cX8_longestMatch 26 = .ok (.iload_n 2, 1) := by decide +kernel
theorem dX8_longestMatch_27 : decode cX8_longestMatch 27 = .ok (.invokevirtual 134, 3) := by decide +kernel
theorem dX8_longestMatch_30 : decode cX8_longestMatch 30 = .ok (.bipush 100, 2) := by decide +kernel
theorem dX8_longestMatch_32 : decode cX8_longestMatch 32 = .ok (.irem, 1) := by decide +kernel
theorem dX8_longestMatch_33 : decode cX8_longestMatch 33 = .ok (.ireturn, 1) := by decide +kernel
set_option maxRecDepth 20000 in
theorem ggX8_probes_X8_isRight : GoodIn wsX8_probes wsX8_isRight := goodIn_r _ [6, 7, 8, 5, 9, 10, 11, 12, 13, 14, 15, 16, 17, 35, 36, 37, 38, 39, 40, 41, 42, 43] (by decide +kernel) (by decide +kernel)
set_option maxRecDepth 20000 in
theorem gX8_probes_X8_isRight : GoodIn wsX8_probes (wsV RX8 71 RX8 yX8_isRight wsX8_isRight) := goodIn_app (goodIn_of _ (by decide +kernel)) ggX8_probes_X8_isRight
set_option maxRecDepth 20000 in
theorem ggX8_probes_X8_matches : GoodIn wsX8_probes wsX8_matches := goodIn_r _ [21, 22, 23, 24, 5, 25, 26, 27, 28, 29, 30, 31, 32, 33, 34, 35, 36, 37, 38, 39, 40, 41, 42, 43] (by decide +kernel) (by decide +kernel)
set_option maxRecDepth 20000 in
theorem gX8_probes_X8_matches : GoodIn wsX8_probes (wsV RX8 134 RX8 yX8_matches wsX8_matches) := goodIn_app (goodIn_of _ (by decide +kernel)) ggX8_probes_X8_matches
theorem dX8_probes_0 : decode cX8_probes 0 = .ok (.aload_n 0, 1) := by decide +kernel
theorem dX8_probes_1 : decode cX8_probes 1 = .ok (.iload_n 1, 1) := by decide +kernel
theorem dX8_probes_2 : decode cX8_probes 2 = .ok (.iload_n 2, 1) := by decide +kernel
theorem dX8_probes_3 : decode cX8_probes 3 = .ok (.invokevirtual 71, 3) := by decide +kernel
theorem dX8_probes_6 : decode cX8_probes 6 = .ok (.ifCond .eq 24, 3) := by decide +kernel
theorem dX8_probes_9 : decode cX8_probes 9 = .ok (.aload_n 0, 1) := by decide +kernel
theorem dX8_probes_10 : decode cX8_probes 10 = .ok (.getfield 13, 3) := by decide +kernel
theorem dX8_probes_13 : decode cX8_probes 13 = .ok (.iload_n 1, 1) := by decide +kernel
theorem dX8_probes_14 : decode cX8_probes 14 = .ok (.iaload, 1) := by decide +kernel
theorem dX8_probes_15 : decode cX8_probes 15 = .ok (.ifCond .le 15, 3) := by decide +kernel
theorem dX8_probes_18 : decode cX8_probes 18 = .ok (.aload_n 0, 1) := by decide +kernel
theorem dX8_probes_19 : decode cX8_probes 19 = .ok (.iload_n 1, 1) := by decide +kernel
theorem dX8_probes_20 : decode cX8_probes 20 = .ok (.iload_n 2, 1) := by decide +kernel
theorem dX8_probes_21 : decode cX8_probes 21 = .ok (.invokevirtual 134, 3) := by decide +kernel
theorem dX8_probes_24 : decode cX8_probes 24 = .ok (.bipush 100, 2) := by decide +kernel
theorem dX8_probes_26 : decode cX8_probes 26 = .ok (.idiv, 1) := by decide +kernel
theorem dX8_probes_27 : decode cX8_probes 27 = .ok (.goto 4, 3) := by decide +kernel
theorem dX8_probes_30 : decode cX8_probes 30 = .ok (.iconst 0, 1) := by decide +kernel
theorem dX8_probes_31 : decode cX8_probes 31 = .ok (.ireturn, 1) := by decide +kernel
set_option maxRecDepth 20000 in
theorem ggX8_buckets_X8_isSet : GoodIn wsX8_buckets wsX8_isSet := goodIn_r _ [5, 6, 7, 4, 8] (by decide +kernel) (by decide +kernel)
set_option maxRecDepth 20000 in
theorem gX8_buckets_X8_isSet : GoodIn wsX8_buckets (va_wsS RX8 38 yX8_isSet wsX8_isSet) := goodIn_app (goodIn_of _ (by decide +kernel)) ggX8_buckets_X8_isSet
set_option maxRecDepth 20000 in
theorem ggX8_buckets_X8_asked : GoodIn wsX8_buckets wsX8_asked := goodIn_r _ [12, 13, 14, 15, 16, 17, 18, 19, 20, 21, 22] (by decide +kernel) (by decide +kernel)
set_option maxRecDepth 20000 in
theorem gX8_buckets_X8_asked : GoodIn wsX8_buckets (wsV RX8 89 RX8 yX8_asked wsX8_asked) := goodIn_app (goodIn_of _ (by decide +kernel)) ggX8_buckets_X8_asked
theorem dX8_buckets_0 : decode cX8_buckets 0 = .ok (.aload_n 0, 1) := by decide +kernel
theorem dX8_buckets_1 : decode cX8_buckets 1 = .ok (.iload_n 1, 1) := by decide +kernel
theorem dX8_buckets_2 : decode cX8_buckets 2 = .ok (.invokestatic 38, 3) := by decide +kernel
theorem dX8_buckets_5 : decode cX8_buckets 5 = .ok (.invokevirtual 89, 3) := by decide +kernel
theorem dX8_buckets_8 : decode cX8_buckets 8 = .ok (.ifCond .eq 12, 3) := by decide +kernel
theorem dX8_buckets_11 : decode cX8_buckets 11 = .ok (.aload_n 0, 1) := by decide +kernel
theorem dX8_buckets_12 : decode cX8_buckets 12 = .ok (.getfield 20, 3) := by decide +kernel
theorem dX8_buckets_15 : decode cX8_buckets 15 = .ok (.iload_n 1, 1) := by decide +kernel
theorem dX8_buckets_16 : decode cX8_buckets 16 = .ok (.iaload, 1) := by decide +kernel
theorem dX8_buckets_17 : decode cX8_buckets 17 = .ok (.goto 4, 3) := by decide +kernel
theorem dX8_buckets_20 : decode cX8_buckets 20 = .ok (.iconst 0, 1) := by decide +kernel
theorem dX8_buckets_21 : decode cX8_buckets 21 = .ok (.ireturn, 1) := by decide +kernel
set_option maxRecDepth 20000 in
theorem ggX8_isBucket_X8_isSet : GoodIn wsX8_isBucket wsX8_isSet := goodIn_r _ [5, 6, 7, 4, 8] (by decide +kernel) (by decide +kernel)
set_option maxRecDepth 20000 in
theorem gX8_isBucket_X8_isSet : GoodIn wsX8_isBucket (va_wsS RX8 38 yX8_isSet wsX8_isSet) := goodIn_app (goodIn_of _ (by decide +kernel)) ggX8_isBucket_X8_isSet
set_option maxRecDepth 20000 in
theorem ggX8_isBucket_X8_in : GoodIn wsX8_isBucket wsX8_in := goodIn_r _ [8] (by decide +kernel) (by decide +kernel)
set_option maxRecDepth 20000 in
theorem gX8_isBucket_X8_in : GoodIn wsX8_isBucket (va_wsS RX8 34 yX8_in wsX8_in) := goodIn_app (goodIn_of _ (by decide +kernel)) ggX8_isBucket_X8_in
set_option maxRecDepth 20000 in
theorem ggX8_isBucket_X8_asked : GoodIn wsX8_isBucket wsX8_asked := goodIn_r _ [12, 13, 14, 15, 16, 17, 18, 19, 20, 21, 22] (by decide +kernel) (by decide +kernel)
set_option maxRecDepth 20000 in
theorem gX8_isBucket_X8_asked : GoodIn wsX8_isBucket (wsV RX8 89 RX8 yX8_asked wsX8_asked) := goodIn_app (goodIn_of _ (by decide +kernel)) ggX8_isBucket_X8_asked
theorem dX8_isBucket_0 : decode cX8_isBucket 0 = .ok (.iload_n 1, 1) := by decide +kernel
theorem dX8_isBucket_1 : decode cX8_isBucket 1 = .ok (.invokestatic 38, 3) := by decide +kernel
theorem dX8_isBucket_4 : decode cX8_isBucket 4 = .ok (.istore_n 3, 1) := by decide +kernel
theorem dX8_isBucket_5 : decode cX8_isBucket 5 = .ok (.aload_n 0, 1) := by decide +kernel
theorem dX8_isBucket_6 : decode cX8_isBucket 6 = .ok (.iload_n 3, 1) := by decide +kernel
theorem dX8_isBucket_7 : decode cX8_isBucket 7 = .ok (.ifCond .eq 23, 3) := by decide +kernel
theorem dX8_isBucket_10 : decode cX8_isBucket 10 = .ok (.iload_n 2, 1) := by decide +kernel
theorem dX8_isBucket_11 : decode cX8_isBucket 11 = .ok (.iconst 0, 1) := by decide +kernel
theorem dX8_isBucket_12 : decode cX8_isBucket 12 = .ok (.aload_n 0, 1) := by decide +kernel
theorem dX8_isBucket_13 : decode cX8_isBucket 13 = .ok (.getfield 20, 3) := by decide +kernel
theorem dX8_isBucket_16 : decode cX8_isBucket 16 = .ok (.iload_n 1, 1) := by decide +kernel
theorem dX8_isBucket_17 : decode cX8_isBucket 17 = .ok (.iaload, 1) := by decide +kernel
theorem dX8_isBucket_18 : decode cX8_isBucket 18 = .ok (.iconst 1, 1) := by decide +kernel
theorem dX8_isBucket_19 : decode cX8_isBucket 19 = .ok (.isub, 1) := by decide +kernel
theorem dX8_isBucket_20 : decode cX8_isBucket 20 = .ok (.invokestatic 34, 3) := by decide +kernel
theorem dX8_isBucket_23 : decode cX8_isBucket 23 = .ok (.ifCond .eq 7, 3) := by decide +kernel
theorem dX8_isBucket_26 : decode cX8_isBucket 26 = .ok (.iconst 1, 1) := by decide +kernel
theorem dX8_isBucket_27 : decode cX8_isBucket 27 = .ok (.goto 4, 3) := by decide +kernel
theorem dX8_isBucket_30 : decode cX8_isBucket 30 = .ok (.iconst 0, 1) := by decide +kernel
theorem dX8_isBucket_31 : decode cX8_isBucket 31 = .ok (.invokevirtual 89, 3) := by decide +kernel
theorem dX8_isBucket_34 : decode cX8_isBucket 34 = .ok (.ireturn, 1) := by decide +kernel
set_option maxRecDepth 20000 in
theorem ggX8_separator_X8_isBucket : GoodIn wsX8_separator wsX8_isBucket := goodIn_r _ [5, 6, 7, 8, 4, 9, 10, 11, 12, 13, 14, 15, 16, 17, 23, 24, 25, 26, 27, 28, 29, 30, 31] (by decide +kernel) (by decide +kernel)
set_option maxRecDepth 20000 in
theorem gX8_separator_X8_isBucket : GoodIn wsX8_separator (wsV RX8 137 RX8 yX8_isBucket wsX8_isBucket) := goodIn_app (goodIn_of _ (by decide +kernel)) ggX8_separator_X8_isBucket
set_option maxRecDepth 20000 in
theorem ggX8_separator_X8_separatorOf : GoodIn wsX8_separator wsX8_separatorOf := goodIn_r _ [21, 6, 22, 23, 24, 25, 26, 27, 28, 29, 30, 31] (by decide +kernel) (by decide +kernel)
set_option maxRecDepth 20000 in
theorem gX8_separator_X8_separatorOf : GoodIn wsX8_separator (wsV RX8 46 RX8 yX8_separatorOf wsX8_separatorOf) := goodIn_app (goodIn_of _ (by decide +kernel)) ggX8_separator_X8_separatorOf
theorem dX8_separator_0 : decode cX8_separator 0 = .ok (.aload_n 0, 1) := by decide +kernel
theorem dX8_separator_1 : decode cX8_separator 1 = .ok (.iload_n 1, 1) := by decide +kernel
theorem dX8_separator_2 : decode cX8_separator 2 = .ok (.iload_n 2, 1) := by decide +kernel
theorem dX8_separator_3 : decode cX8_separator 3 = .ok (.invokevirtual 137, 3) := by decide +kernel
theorem dX8_separator_6 : decode cX8_separator 6 = .ok (.ifCond .eq 12, 3) := by decide +kernel
theorem dX8_separator_9 : decode cX8_separator 9 = .ok (.aload_n 0, 1) := by decide +kernel
theorem dX8_separator_10 : decode cX8_separator 10 = .ok (.iload_n 1, 1) := by decide +kernel
theorem dX8_separator_11 : decode cX8_separator 11 = .ok (.iload_n 2, 1) := by decide +kernel
theorem dX8_separator_12 : decode cX8_separator 12 = .ok (.invokevirtual 46, 3) := by decide +kernel
theorem dX8_separator_15 : decode cX8_separator 15 = .ok (.goto 4, 3) := by decide +kernel
theorem dX8_separator_18 : decode cX8_separator 18 = .ok (.iconst 0, 1) := by decide +kernel
theorem dX8_separator_19 : decode cX8_separator 19 = .ok (.ireturn, 1) := by decide +kernel
set_option maxRecDepth 20000 in
theorem ggX8_bucketSize_X8_isBucket : GoodIn wsX8_bucketSize wsX8_isBucket := goodIn_r _ [5, 6, 7, 8, 4, 9, 10, 11, 12, 13, 14, 15, 16, 17, 32, 33, 34, 35, 36, 37, 38, 39, 40] (by decide +kernel) (by decide +kernel)
set_option maxRecDepth 20000 in
theorem gX8_bucketSize_X8_isBucket : GoodIn wsX8_bucketSize (wsV RX8 137 RX8 yX8_isBucket wsX8_isBucket) := goodIn_app (goodIn_of _ (by decide +kernel)) ggX8_bucketSize_X8_isBucket
set_option maxRecDepth 20000 in
theorem ggX8_bucketSize_X8_held : GoodIn wsX8_bucketSize wsX8_held := goodIn_r _ [21, 22, 23, 24, 4, 25, 6, 26, 27, 28, 29, 30, 31, 32, 33, 34, 35, 36, 37, 38, 39, 40] (by decide +kernel) (by decide +kernel)
set_option maxRecDepth 20000 in
theorem gX8_bucketSize_X8_held : GoodIn wsX8_bucketSize (wsV RX8 54 RX8 yX8_held wsX8_held) := goodIn_app (goodIn_of _ (by decide +kernel)) ggX8_bucketSize_X8_held
theorem dX8_bucketSize_0 : decode cX8_bucketSize 0 = .ok (.aload_n 0, 1) := by decide +kernel
theorem dX8_bucketSize_1 : decode cX8_bucketSize 1 = .ok (.iload_n 1, 1) := by decide +kernel
theorem dX8_bucketSize_2 : decode cX8_bucketSize 2 = .ok (.iload_n 2, 1) := by decide +kernel
theorem dX8_bucketSize_3 : decode cX8_bucketSize 3 = .ok (.invokevirtual 137, 3) := by decide +kernel
theorem dX8_bucketSize_6 : decode cX8_bucketSize 6 = .ok (.ifCond .eq 12, 3) := by decide +kernel
theorem dX8_bucketSize_9 : decode cX8_bucketSize 9 = .ok (.aload_n 0, 1) := by decide +kernel
theorem dX8_bucketSize_10 : decode cX8_bucketSize 10 = .ok (.iload_n 1, 1) := by decide +kernel
theorem dX8_bucketSize_11 : decode cX8_bucketSize 11 = .ok (.iload_n 2, 1) := by decide +kernel
theorem dX8_bucketSize_12 : decode cX8_bucketSize 12 = .ok (.invokevirtual 54, 3) := by decide +kernel
theorem dX8_bucketSize_15 : decode cX8_bucketSize 15 = .ok (.goto 4, 3) := by decide +kernel
theorem dX8_bucketSize_18 : decode cX8_bucketSize 18 = .ok (.iconst 0, 1) := by decide +kernel
theorem dX8_bucketSize_19 : decode cX8_bucketSize 19 = .ok (.ireturn, 1) := by decide +kernel
set_option maxRecDepth 20000 in
theorem ggX8_bucketOf_X8_isRight : GoodIn wsX8_bucketOf wsX8_isRight := goodIn_r _ [5, 6, 7, 4, 8, 9, 10, 11, 12, 13, 14, 15, 16, 27, 28, 29, 30, 31, 32, 33, 34, 35] (by decide +kernel) (by decide +kernel)
set_option maxRecDepth 20000 in
theorem gX8_bucketOf_X8_isRight : GoodIn wsX8_bucketOf (wsV RX8 71 RX8 yX8_isRight wsX8_isRight) := goodIn_app (goodIn_of _ (by decide +kernel)) ggX8_bucketOf_X8_isRight
set_option maxRecDepth 20000 in
theorem ggX8_bucketOf_X8_belongs : GoodIn wsX8_bucketOf wsX8_belongs := goodIn_r _ [20, 21, 22, 23, 4, 24, 25, 26, 27, 28, 29, 30, 31, 32, 33, 34, 35] (by decide +kernel) (by decide +kernel)
set_option maxRecDepth 20000 in
theorem gX8_bucketOf_X8_belongs : GoodIn wsX8_bucketOf (wsV RX8 65 RX8 yX8_belongs wsX8_belongs) := goodIn_app (goodIn_of _ (by decide +kernel)) ggX8_bucketOf_X8_belongs
theorem dX8_bucketOf_0 : decode cX8_bucketOf 0 = .ok (.aload_n 0, 1) := by decide +kernel
theorem dX8_bucketOf_1 : decode cX8_bucketOf 1 = .ok (.iload_n 1, 1) := by decide +kernel
theorem dX8_bucketOf_2 : decode cX8_bucketOf 2 = .ok (.iload_n 2, 1) := by decide +kernel
theorem dX8_bucketOf_3 : decode cX8_bucketOf 3 = .ok (.invokevirtual 71, 3) := by decide +kernel
theorem dX8_bucketOf_6 : decode cX8_bucketOf 6 = .ok (.ifCond .eq 12, 3) := by decide +kernel
theorem dX8_bucketOf_9 : decode cX8_bucketOf 9 = .ok (.aload_n 0, 1) := by decide +kernel
theorem dX8_bucketOf_10 : decode cX8_bucketOf 10 = .ok (.iload_n 1, 1) := by decide +kernel
theorem dX8_bucketOf_11 : decode cX8_bucketOf 11 = .ok (.iload_n 2, 1) := by decide +kernel
theorem dX8_bucketOf_12 : decode cX8_bucketOf 12 = .ok (.invokevirtual 65, 3) := by decide +kernel
theorem dX8_bucketOf_15 : decode cX8_bucketOf 15 = .ok (.goto 4, 3) := by decide +kernel
theorem dX8_bucketOf_18 : decode cX8_bucketOf 18 = .ok (.iconst 0, 1) := by decide +kernel
theorem dX8_bucketOf_19 : decode cX8_bucketOf 19 = .ok (.ireturn, 1) := by decide +kernel
