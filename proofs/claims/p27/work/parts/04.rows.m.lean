theorem dJ13_bitCount_95d88_0 : decode cJ13_bitCount_95d88 0 = .ok (.lload_n 0, 1) := by decide +kernel
theorem dJ13_bitCount_95d88_1 : decode cJ13_bitCount_95d88 1 = .ok (.lload_n 0, 1) := by decide +kernel
theorem dJ13_bitCount_95d88_2 : decode cJ13_bitCount_95d88 2 = .ok (.iconst 1, 1) := by decide +kernel
theorem dJ13_bitCount_95d88_3 : decode cJ13_bitCount_95d88 3 = .ok (.lushr, 1) := by decide +kernel
theorem dJ13_bitCount_95d88_4 : decode cJ13_bitCount_95d88 4 = .ok (.ldc2_w 314, 3) := by decide +kernel
theorem dJ13_bitCount_95d88_7 : decode cJ13_bitCount_95d88 7 = .ok (.land, 1) := by decide +kernel
theorem dJ13_bitCount_95d88_8 : decode cJ13_bitCount_95d88 8 = .ok (.lsub, 1) := by decide +kernel
theorem dJ13_bitCount_95d88_9 : decode cJ13_bitCount_95d88 9 = .ok (.lstore_n 0, 1) := by decide +kernel
theorem dJ13_bitCount_95d88_10 : decode cJ13_bitCount_95d88 10 = .ok (.lload_n 0, 1) := by decide +kernel
theorem dJ13_bitCount_95d88_11 : decode cJ13_bitCount_95d88 11 = .ok (.ldc2_w 316, 3) := by decide +kernel
theorem dJ13_bitCount_95d88_14 : decode cJ13_bitCount_95d88 14 = .ok (.land, 1) := by decide +kernel
theorem dJ13_bitCount_95d88_15 : decode cJ13_bitCount_95d88 15 = .ok (.lload_n 0, 1) := by decide +kernel
theorem dJ13_bitCount_95d88_16 : decode cJ13_bitCount_95d88 16 = .ok (.iconst 2, 1) := by decide +kernel
theorem dJ13_bitCount_95d88_17 : decode cJ13_bitCount_95d88 17 = .ok (.lushr, 1) := by decide +kernel
theorem dJ13_bitCount_95d88_18 : decode cJ13_bitCount_95d88 18 = .ok (.ldc2_w 316, 3) := by decide +kernel
theorem dJ13_bitCount_95d88_21 : decode cJ13_bitCount_95d88 21 = .ok (.land, 1) := by decide +kernel
theorem dJ13_bitCount_95d88_22 : decode cJ13_bitCount_95d88 22 = .ok (.ladd, 1) := by decide +kernel
theorem dJ13_bitCount_95d88_23 : decode cJ13_bitCount_95d88 23 = .ok (.lstore_n 0, 1) := by decide +kernel
theorem dJ13_bitCount_95d88_24 : decode cJ13_bitCount_95d88 24 = .ok (.lload_n 0, 1) := by decide +kernel
theorem dJ13_bitCount_95d88_25 : decode cJ13_bitCount_95d88 25 = .ok (.lload_n 0, 1) := by decide +kernel
theorem dJ13_bitCount_95d88_26 : decode cJ13_bitCount_95d88 26 = .ok (.iconst 4, 1) := by decide +kernel
theorem dJ13_bitCount_95d88_27 : decode cJ13_bitCount_95d88 27 = .ok (.lushr, 1) := by decide +kernel
theorem dJ13_bitCount_95d88_28 : decode cJ13_bitCount_95d88 28 = .ok (.ladd, 1) := by decide +kernel
theorem dJ13_bitCount_95d88_29 : decode cJ13_bitCount_95d88 29 = .ok (.ldc2_w 318, 3) := by decide +kernel
theorem dJ13_bitCount_95d88_32 : decode cJ13_bitCount_95d88 32 = .ok (.land, 1) := by decide +kernel
theorem dJ13_bitCount_95d88_33 : decode cJ13_bitCount_95d88 33 = .ok (.lstore_n 0, 1) := by decide +kernel
theorem dJ13_bitCount_95d88_34 : decode cJ13_bitCount_95d88 34 = .ok (.lload_n 0, 1) := by decide +kernel
theorem dJ13_bitCount_95d88_35 : decode cJ13_bitCount_95d88 35 = .ok (.lload_n 0, 1) := by decide +kernel
theorem dJ13_bitCount_95d88_36 : decode cJ13_bitCount_95d88 36 = .ok (.bipush 8, 2) := by decide +kernel
theorem dJ13_bitCount_95d88_38 : decode cJ13_bitCount_95d88 38 = .ok (.lushr, 1) := by decide +kernel
theorem dJ13_bitCount_95d88_39 : decode cJ13_bitCount_95d88 39 = .ok (.ladd, 1) := by decide +kernel
theorem dJ13_bitCount_95d88_40 : decode cJ13_bitCount_95d88 40 = .ok (.lstore_n 0, 1) := by decide +kernel
theorem dJ13_bitCount_95d88_41 : decode cJ13_bitCount_95d88 41 = .ok (.lload_n 0, 1) := by decide +kernel
theorem dJ13_bitCount_95d88_42 : decode cJ13_bitCount_95d88 42 = .ok (.lload_n 0, 1) := by decide +kernel
theorem dJ13_bitCount_95d88_43 : decode cJ13_bitCount_95d88 43 = .ok (.bipush 16, 2) := by decide +kernel
theorem dJ13_bitCount_95d88_45 : decode cJ13_bitCount_95d88 45 = .ok (.lushr, 1) := by decide +kernel
theorem dJ13_bitCount_95d88_46 : decode cJ13_bitCount_95d88 46 = .ok (.ladd, 1) := by decide +kernel
theorem dJ13_bitCount_95d88_47 : decode cJ13_bitCount_95d88 47 = .ok (.lstore_n 0, 1) := by decide +kernel
theorem dJ13_bitCount_95d88_48 : decode cJ13_bitCount_95d88 48 = .ok (.lload_n 0, 1) := by decide +kernel
theorem dJ13_bitCount_95d88_49 : decode cJ13_bitCount_95d88 49 = .ok (.lload_n 0, 1) := by decide +kernel
theorem dJ13_bitCount_95d88_50 : decode cJ13_bitCount_95d88 50 = .ok (.bipush 32, 2) := by decide +kernel
theorem dJ13_bitCount_95d88_52 : decode cJ13_bitCount_95d88 52 = .ok (.lushr, 1) := by decide +kernel
theorem dJ13_bitCount_95d88_53 : decode cJ13_bitCount_95d88 53 = .ok (.ladd, 1) := by decide +kernel
theorem dJ13_bitCount_95d88_54 : decode cJ13_bitCount_95d88 54 = .ok (.lstore_n 0, 1) := by decide +kernel
theorem dJ13_bitCount_95d88_55 : decode cJ13_bitCount_95d88 55 = .ok (.lload_n 0, 1) := by decide +kernel
theorem dJ13_bitCount_95d88_56 : decode cJ13_bitCount_95d88 56 = .ok (.l2i, 1) := by decide +kernel
theorem dJ13_bitCount_95d88_57 : decode cJ13_bitCount_95d88 57 = .ok (.bipush 127, 2) := by decide +kernel
theorem dJ13_bitCount_95d88_59 : decode cJ13_bitCount_95d88 59 = .ok (.iand, 1) := by decide +kernel
theorem dJ13_bitCount_95d88_60 : decode cJ13_bitCount_95d88 60 = .ok (.ireturn, 1) := by decide +kernel
theorem dJ9_max_7cf53_0 : decode cJ9_max_7cf53 0 = .ok (.iload_n 0, 1) := by decide +kernel
theorem dJ9_max_7cf53_1 : decode cJ9_max_7cf53 1 = .ok (.iload_n 1, 1) := by decide +kernel
theorem dJ9_max_7cf53_2 : decode cJ9_max_7cf53 2 = .ok (.if_icmp .lt 7, 3) := by decide +kernel
theorem dJ9_max_7cf53_5 : decode cJ9_max_7cf53 5 = .ok (.iload_n 0, 1) := by decide +kernel
theorem dJ9_max_7cf53_6 : decode cJ9_max_7cf53 6 = .ok (.goto 4, 3) := by decide +kernel
theorem dJ9_max_7cf53_9 : decode cJ9_max_7cf53 9 = .ok (.iload_n 1, 1) := by decide +kernel
theorem dJ9_max_7cf53_10 : decode cJ9_max_7cf53 10 = .ok (.ireturn, 1) := by decide +kernel
theorem dJ9_min_7cf53_0 : decode cJ9_min_7cf53 0 = .ok (.iload_n 0, 1) := by decide +kernel
theorem dJ9_min_7cf53_1 : decode cJ9_min_7cf53 1 = .ok (.iload_n 1, 1) := by decide +kernel
theorem dJ9_min_7cf53_2 : decode cJ9_min_7cf53 2 = .ok (.if_icmp .gt 7, 3) := by decide +kernel
theorem dJ9_min_7cf53_5 : decode cJ9_min_7cf53 5 = .ok (.iload_n 0, 1) := by decide +kernel
theorem dJ9_min_7cf53_6 : decode cJ9_min_7cf53 6 = .ok (.goto 4, 3) := by decide +kernel
theorem dJ9_min_7cf53_9 : decode cJ9_min_7cf53 9 = .ok (.iload_n 1, 1) := by decide +kernel
theorem dJ9_min_7cf53_10 : decode cJ9_min_7cf53 10 = .ok (.ireturn, 1) := by decide +kernel
theorem dL_drawn_0 : decode cL_drawn 0 = .ok (.iload_n 1, 1) := by decide +kernel
theorem dL_drawn_1 : decode cL_drawn 1 = .ok (.aload_n 0, 1) := by decide +kernel
theorem dL_drawn_2 : decode cL_drawn 2 = .ok (.arraylength, 1) := by decide +kernel
theorem dL_drawn_3 : decode cL_drawn 3 = .ok (.if_icmp .ge 9, 3) := by decide +kernel
theorem dL_drawn_6 : decode cL_drawn 6 = .ok (.aload_n 0, 1) := by decide +kernel
theorem dL_drawn_7 : decode cL_drawn 7 = .ok (.iload_n 1, 1) := by decide +kernel
theorem dL_drawn_8 : decode cL_drawn 8 = .ok (.iaload, 1) := by decide +kernel
theorem dL_drawn_9 : decode cL_drawn 9 = .ok (.goto 12, 3) := by decide +kernel
theorem dL_drawn_12 : decode cL_drawn 12 = .ok (.sipush 10037, 3) := by decide +kernel
theorem dL_drawn_15 : decode cL_drawn 15 = .ok (.iload_n 1, 1) := by decide +kernel
theorem dL_drawn_16 : decode cL_drawn 16 = .ok (.imul, 1) := by decide +kernel
theorem dL_drawn_17 : decode cL_drawn 17 = .ok (.sipush 557, 3) := by decide +kernel
theorem dL_drawn_20 : decode cL_drawn 20 = .ok (.iadd, 1) := by decide +kernel
theorem dL_drawn_21 : decode cL_drawn 21 = .ok (.istore_n 2, 1) := by decide +kernel
theorem dL_drawn_22 : decode cL_drawn 22 = .ok (.iload_n 2, 1) := by decide +kernel
theorem dL_drawn_23 : decode cL_drawn 23 = .ok (.ldc 7, 2) := by decide +kernel
theorem dL_drawn_25 : decode cL_drawn 25 = .ok (.iand, 1) := by decide +kernel
theorem dL_drawn_26 : decode cL_drawn 26 = .ok (.ireturn, 1) := by decide +kernel
set_option maxRecDepth 20000 in
theorem ggL_changed_X7_insert : GoodIn wsL_changed wsX7_insert := goodIn_ca (goodIn_ca (goodIn_r _ [7, 8, 9, 10, 6, 11, 12, 13, 14, 15, 16, 17, 18, 19, 20, 21, 22, 23, 24, 25, 26, 27, 28, 29, 30, 31, 32, 33, 34, 35, 36, 37, 38, 39, 40, 41, 42, 43, 44, 45, 46, 47, 48, 49, 50, 51, 52, 53, 54, 55, 56, 57, 58, 59, 60, 61, 62, 63, 64, 65, 66, 67, 68, 69, 70, 71, 72, 73, 74, 75, 76, 77, 78, 79, 80, 81, 82, 83, 84, 85, 86, 87, 88, 89, 90, 91, 92, 93, 94, 95, 96, 97, 98, 99, 100, 101, 102, 103, 104, 105, 106, 107, 108, 109, 110, 111, 112, 113, 114, 115, 116, 117, 118, 119, 120, 121, 122, 123, 124, 125, 126, 127, 128, 129, 130, 131, 132, 133, 134, 135, 136, 137, 178, 179, 180, 181, 182, 183, 184, 185, 186, 187, 188, 189, 190] (by decide +kernel) (by decide +kernel)) (goodIn_sub (fun _ h => List.mem_cons_of_mem _ (List.mem_append_left _ (List.mem_append_right _ h))) (by decide +kernel))) (goodIn_sub (fun _ h => List.mem_cons_of_mem _ (List.mem_append_right _ h)) (by decide +kernel))
set_option maxRecDepth 20000 in
theorem gL_changed_X7_insert : GoodIn wsL_changed (wsV RL 8 RX7 yX7_insert wsX7_insert) := goodIn_app (goodIn_of _ (by decide +kernel)) ggL_changed_X7_insert
set_option maxRecDepth 20000 in
theorem ggL_changed_X7_delete : GoodIn wsL_changed wsX7_delete := goodIn_ca (goodIn_ca (goodIn_r _ [141, 8, 9, 10, 6, 11, 12, 13, 14, 15, 16, 17, 18, 19, 20, 21, 142, 143, 144, 25, 145, 27, 28, 29, 30, 31, 32, 33, 34, 35, 36, 37, 38, 39, 40, 41, 42, 43, 44, 45, 46, 47, 48, 49, 146, 147, 148, 53, 149, 55, 74, 150, 151, 152, 153, 73, 154, 119, 120, 121, 104, 105, 106, 107, 108, 109, 155, 156, 157, 158, 63, 64, 65, 66, 67, 68, 69, 70, 71, 72, 159, 160, 161, 78, 162, 80, 81, 82, 83, 163, 164, 165, 166, 167, 168, 169, 170, 171, 172, 97, 173, 93, 94, 95, 96, 98, 99, 100, 101, 102, 61, 58, 62, 103, 110, 111, 112, 113, 114, 115, 116, 117, 118, 126, 127, 128, 129, 174, 175, 176, 177, 122, 123, 124, 125, 130, 131, 132, 133, 134, 135, 136, 137, 92, 85, 86, 87, 178, 179, 180, 181, 182, 183, 184, 185, 186, 187, 188, 189, 190] (by decide +kernel) (by decide +kernel)) (goodIn_sub (fun _ h => List.mem_cons_of_mem _ (List.mem_append_left _ (List.mem_append_right _ h))) (by decide +kernel))) (goodIn_sub (fun _ h => List.mem_cons_of_mem _ (List.mem_append_right _ h)) (by decide +kernel))
set_option maxRecDepth 20000 in
theorem gL_changed_X7_delete : GoodIn wsL_changed (wsV RL 14 RX7 yX7_delete wsX7_delete) := goodIn_app (goodIn_of _ (by decide +kernel)) ggL_changed_X7_delete
theorem dL_changed_0 : decode cL_changed 0 = .ok (.iload_n 1, 1) := by decide +kernel
theorem dL_changed_1 : decode cL_changed 1 = .ok (.ifCond .eq 15, 3) := by decide +kernel
theorem dL_changed_4 : decode cL_changed 4 = .ok (.aload_n 0, 1) := by decide +kernel
theorem dL_changed_5 : decode cL_changed 5 = .ok (.iload_n 2, 1) := by decide +kernel
theorem dL_changed_6 : decode cL_changed 6 = .ok (.iload_n 3, 1) := by decide +kernel
theorem dL_changed_7 : decode cL_changed 7 = .ok (.invokevirtual 8, 3) := by decide +kernel
theorem dL_changed_10 : decode cL_changed 10 = .ok (.ifCond .eq 19, 3) := by decide +kernel
theorem dL_changed_13 : decode cL_changed 13 = .ok (.goto 12, 3) := by decide +kernel
theorem dL_changed_16 : decode cL_changed 16 = .ok (.aload_n 0, 1) := by decide +kernel
theorem dL_changed_17 : decode cL_changed 17 = .ok (.iload_n 2, 1) := by decide +kernel
theorem dL_changed_18 : decode cL_changed 18 = .ok (.iload_n 3, 1) := by decide +kernel
theorem dL_changed_19 : decode cL_changed 19 = .ok (.invokevirtual 14, 3) := by decide +kernel
theorem dL_changed_22 : decode cL_changed 22 = .ok (.ifCond .eq 7, 3) := by decide +kernel
theorem dL_changed_25 : decode cL_changed 25 = .ok (.iconst 1, 1) := by decide +kernel
theorem dL_changed_26 : decode cL_changed 26 = .ok (.goto 4, 3) := by decide +kernel
theorem dL_changed_29 : decode cL_changed 29 = .ok (.iconst 0, 1) := by decide +kernel
theorem dL_changed_30 : decode cL_changed 30 = .ok (.ireturn, 1) := by decide +kernel
theorem dL_changed_31 : decode cL_changed 31 = .ok (.astore 4, 2) := by decide +kernel
theorem dL_changed_33 : decode cL_changed 33 = .ok (.bipush (-9), 2) := by decide +kernel
theorem dL_changed_35 : decode cL_changed 35 = .ok (.ireturn, 1) := by decide +kernel
theorem dL_changed_36 : decode cL_changed 36 = .ok (.astore 4, 2) := by decide +kernel
theorem dL_changed_38 : decode cL_changed 38 = .ok (.bipush (-9), 2) := by decide +kernel
theorem dL_changed_40 : decode cL_changed 40 = .ok (.ireturn, 1) := by decide +kernel
set_option maxRecDepth 20000 in
theorem ggL_polled_X7_pollFirst : GoodIn wsL_polled wsX7_pollFirst := goodIn_ca (goodIn_ca (goodIn_r _ [7, 8, 9, 10, 6, 11, 12, 13, 14, 15, 16, 17, 18, 19, 20, 21, 22, 23, 24, 25, 26, 27, 28, 29, 30, 31, 32, 33, 34, 35, 36, 37, 38, 39, 40, 41, 42, 43, 44, 45, 46, 47, 48, 49, 50, 51, 52, 53, 54, 55, 56, 57, 58, 59, 60, 61, 62, 63, 64, 65, 66, 67, 68, 69, 70, 71, 72, 73, 74, 75, 76, 77, 78, 79, 80, 81, 82, 83, 84, 85, 86, 87, 88, 89, 90, 91, 92, 93, 94, 95, 96, 97, 98, 99, 100, 101, 102, 103, 104, 105, 106, 107, 108, 109, 110, 111, 112, 113, 114, 115, 116, 117, 118, 119, 120, 121, 122, 123, 124, 125, 126, 127, 128, 129, 130, 131, 132, 133, 134, 135, 136, 137, 138, 139, 140, 141, 142, 143, 144, 145, 146, 147, 148, 149, 150, 151, 152, 153, 154, 155, 156, 172, 173, 174, 175, 176, 177, 178, 179, 180, 181, 182, 183, 184] (by decide +kernel) (by decide +kernel)) (goodIn_sub (fun _ h => List.mem_cons_of_mem _ (List.mem_append_left _ (List.mem_append_right _ h))) (by decide +kernel))) (goodIn_sub (fun _ h => List.mem_cons_of_mem _ (List.mem_append_right _ h)) (by decide +kernel))
set_option maxRecDepth 20000 in
theorem gL_polled_X7_pollFirst : GoodIn wsL_polled (wsV RL 21 RX7 yX7_pollFirst wsX7_pollFirst) := goodIn_app (goodIn_of _ (by decide +kernel)) ggL_polled_X7_pollFirst
set_option maxRecDepth 20000 in
theorem ggL_polled_X7_pollLast : GoodIn wsL_polled wsX7_pollLast := goodIn_ca (goodIn_ca (goodIn_r _ [160, 8, 9, 10, 6, 11, 12, 13, 14, 15, 16, 161, 162, 163, 20, 164, 65, 22, 165, 166, 54, 167, 69, 70, 71, 72, 73, 74, 75, 168, 169, 170, 171, 80, 81, 82, 83, 84, 23, 24, 25, 26, 27, 28, 29, 30, 31, 32, 33, 34, 35, 36, 37, 38, 39, 40, 41, 42, 43, 44, 45, 46, 47, 48, 49, 50, 51, 52, 53, 55, 56, 57, 58, 59, 60, 61, 62, 63, 64, 66, 67, 68, 76, 77, 78, 79, 85, 86, 87, 88, 89, 90, 91, 92, 93, 94, 95, 96, 97, 98, 99, 100, 101, 102, 103, 104, 105, 106, 107, 108, 109, 110, 111, 112, 113, 114, 115, 116, 117, 118, 119, 120, 121, 122, 123, 124, 125, 126, 127, 128, 129, 130, 131, 132, 133, 134, 135, 136, 137, 138, 139, 140, 141, 142, 143, 144, 145, 146, 147, 148, 149, 150, 151, 152, 153, 154, 155, 156, 172, 173, 174, 175, 176, 177, 178, 179, 180, 181, 182, 183, 184] (by decide +kernel) (by decide +kernel)) (goodIn_sub (fun _ h => List.mem_cons_of_mem _ (List.mem_append_left _ (List.mem_append_right _ h))) (by decide +kernel))) (goodIn_sub (fun _ h => List.mem_cons_of_mem _ (List.mem_append_right _ h)) (by decide +kernel))
set_option maxRecDepth 20000 in
theorem gL_polled_X7_pollLast : GoodIn wsL_polled (wsV RL 25 RX7 yX7_pollLast wsX7_pollLast) := goodIn_app (goodIn_of _ (by decide +kernel)) ggL_polled_X7_pollLast
theorem dL_polled_0 : decode cL_polled 0 = .ok (.iload_n 1, 1) := by decide +kernel
theorem dL_polled_1 : decode cL_polled 1 = .ok (.ifCond .eq 11, 3) := by decide +kernel
theorem dL_polled_4 : decode cL_polled 4 = .ok (.aload_n 0, 1) := by decide +kernel
theorem dL_polled_5 : decode cL_polled 5 = .ok (.iload_n 2, 1) := by decide +kernel
theorem dL_polled_6 : decode cL_polled 6 = .ok (.invokevirtual 21, 3) := by decide +kernel
theorem dL_polled_9 : decode cL_polled 9 = .ok (.goto 8, 3) := by decide +kernel
theorem dL_polled_12 : decode cL_polled 12 = .ok (.aload_n 0, 1) := by decide +kernel
theorem dL_polled_13 : decode cL_polled 13 = .ok (.iload_n 2, 1) := by decide +kernel
theorem dL_polled_14 : decode cL_polled 14 = .ok (.invokevirtual 25, 3) := by decide +kernel
theorem dL_polled_17 : decode cL_polled 17 = .ok (.ireturn, 1) := by decide +kernel
theorem dL_polled_18 : decode cL_polled 18 = .ok (.astore_n 3, 1) := by decide +kernel
theorem dL_polled_19 : decode cL_polled 19 = .ok (.bipush (-9), 2) := by decide +kernel
theorem dL_polled_21 : decode cL_polled 21 = .ok (.ireturn, 1) := by decide +kernel
theorem dL_polled_22 : decode cL_polled 22 = .ok (.astore_n 3, 1) := by decide +kernel
theorem dL_polled_23 : decode cL_polled 23 = .ok (.bipush (-9), 2) := by decide +kernel
theorem dL_polled_25 : decode cL_polled 25 = .ok (.ireturn, 1) := by decide +kernel
set_option maxRecDepth 20000 in
theorem ggL_by_X7_contains : GoodIn wsL_by wsX7_contains := goodIn_ca (goodIn_ca (goodIn_r _ [7, 8, 9, 10, 6, 11, 12, 13, 14, 15, 16, 17, 18, 19, 20, 21, 22, 23, 24, 25, 26, 27, 28, 29, 30, 31, 32, 33, 34, 35, 36, 37, 38, 39, 40, 41, 162, 163, 164, 165, 166, 167, 168, 169, 170] (by decide +kernel) (by decide +kernel)) (goodIn_sub (fun _ h => List.mem_cons_of_mem _ (List.mem_append_left _ (List.mem_append_right _ h))) (by decide +kernel))) (goodIn_sub (fun _ h => List.mem_cons_of_mem _ (List.mem_append_right _ h)) (by decide +kernel))
set_option maxRecDepth 20000 in
theorem gL_by_X7_contains : GoodIn wsL_by (wsV RL 30 RX7 yX7_contains wsX7_contains) := goodIn_app (goodIn_of _ (by decide +kernel)) ggL_by_X7_contains
set_option maxRecDepth 20000 in
theorem ggL_by_X7_successor : GoodIn wsL_by wsX7_successor := goodIn_ca (goodIn_ca (goodIn_r _ [45, 8, 9, 10, 6, 11, 12, 13, 14, 15, 16, 17, 18, 19, 20, 21, 46, 47, 48, 49, 50, 51, 52, 53, 54, 55, 56, 57, 58, 40, 59, 60, 61, 62, 63, 64, 65, 66, 67, 68, 69, 70, 71, 72, 73, 74, 75, 76, 77, 78, 79, 80, 81, 82, 83, 84, 85, 86, 87, 88, 89, 90, 91, 162, 163, 164, 165, 166, 167, 171, 172, 173] (by decide +kernel) (by decide +kernel)) (goodIn_sub (fun _ h => List.mem_cons_of_mem _ (List.mem_append_left _ (List.mem_append_right _ h))) (by decide +kernel))) (goodIn_sub (fun _ h => List.mem_cons_of_mem _ (List.mem_append_right _ h)) (by decide +kernel))
set_option maxRecDepth 20000 in
theorem gL_by_X7_successor : GoodIn wsL_by (wsV RL 33 RX7 yX7_successor wsX7_successor) := goodIn_app (goodIn_of _ (by decide +kernel)) ggL_by_X7_successor
set_option maxRecDepth 20000 in
theorem ggL_by_X7_predecessor : GoodIn wsL_by wsX7_predecessor := goodIn_ca (goodIn_ca (goodIn_r _ [95, 8, 9, 10, 6, 11, 12, 13, 14, 15, 16, 17, 18, 19, 20, 21, 96, 97, 98, 49, 99, 51, 52, 71, 72, 73, 74, 75, 100, 101, 40, 102, 103, 39, 41, 104, 58, 59, 60, 61, 62, 63, 64, 65, 66, 67, 68, 69, 70, 57, 162, 163, 164, 165, 166, 167, 171, 172, 173] (by decide +kernel) (by decide +kernel)) (goodIn_sub (fun _ h => List.mem_cons_of_mem _ (List.mem_append_left _ (List.mem_append_right _ h))) (by decide +kernel))) (goodIn_sub (fun _ h => List.mem_cons_of_mem _ (List.mem_append_right _ h)) (by decide +kernel))
set_option maxRecDepth 20000 in
theorem gL_by_X7_predecessor : GoodIn wsL_by (wsV RL 37 RX7 yX7_predecessor wsX7_predecessor) := goodIn_app (goodIn_of _ (by decide +kernel)) ggL_by_X7_predecessor
set_option maxRecDepth 20000 in
theorem ggL_by_X7_rank : GoodIn wsL_by wsX7_rank := goodIn_ca (goodIn_ca (goodIn_r _ [108, 8, 9, 10, 6, 11, 12, 13, 14, 15, 16, 17, 18, 19, 20, 21, 109, 110, 111, 25, 112, 27, 113, 114, 115, 31, 116, 37, 117, 118, 119, 120, 33, 34, 35, 36, 38, 39, 40, 41, 121, 61, 62, 63, 64, 65, 66, 162, 163, 164, 165, 166, 167, 168, 169, 170] (by decide +kernel) (by decide +kernel)) (goodIn_sub (fun _ h => List.mem_cons_of_mem _ (List.mem_append_left _ (List.mem_append_right _ h))) (by decide +kernel))) (goodIn_sub (fun _ h => List.mem_cons_of_mem _ (List.mem_append_right _ h)) (by decide +kernel))
set_option maxRecDepth 20000 in
theorem gL_by_X7_rank : GoodIn wsL_by (wsV RL 40 RX7 yX7_rank wsX7_rank) := goodIn_app (goodIn_of _ (by decide +kernel)) ggL_by_X7_rank
set_option maxRecDepth 20000 in
theorem ggL_by_X7_steps : GoodIn wsL_by wsX7_steps := goodIn_ca (goodIn_ca (goodIn_r _ [125, 8, 9, 10, 6, 11, 12, 13, 14, 15, 16, 17, 18, 19, 20, 21, 126, 127, 128, 49, 129, 51, 52, 53, 54, 55, 56, 57, 58, 40, 59, 60, 61, 62, 63, 64, 65, 66, 67, 68, 69, 70, 71, 72, 73, 74, 75, 76, 77, 78, 79, 130, 131, 132, 84, 85, 86, 104, 162, 163, 164, 165, 166, 167, 171, 172, 173] (by decide +kernel) (by decide +kernel)) (goodIn_sub (fun _ h => List.mem_cons_of_mem _ (List.mem_append_left _ (List.mem_append_right _ h))) (by decide +kernel))) (goodIn_sub (fun _ h => List.mem_cons_of_mem _ (List.mem_append_right _ h)) (by decide +kernel))
set_option maxRecDepth 20000 in
theorem gL_by_X7_steps : GoodIn wsL_by (wsV RL 43 RX7 yX7_steps wsX7_steps) := goodIn_app (goodIn_of _ (by decide +kernel)) ggL_by_X7_steps
set_option maxRecDepth 20000 in
theorem ggL_by_X7_longestMatch : GoodIn wsL_by wsX7_longestMatch := goodIn_ca (goodIn_ca (goodIn_r _ [136, 8, 9, 10, 6, 11, 12, 13, 14, 15, 16, 17, 18, 19, 20, 21, 137, 138, 139, 140, 141, 142, 143, 144, 145, 146, 147, 148, 149, 29, 30, 31, 32, 33, 34, 35, 36, 37, 38, 39, 40, 41, 150, 151, 152, 153, 154, 155, 156, 157, 162, 163, 164, 174, 175, 165, 166, 167, 176, 170] (by decide +kernel) (by decide +kernel)) (goodIn_sub (fun _ h => List.mem_cons_of_mem _ (List.mem_append_left _ (List.mem_append_right _ h))) (by decide +kernel))) (goodIn_sub (fun _ h => List.mem_cons_of_mem _ (List.mem_append_right _ h)) (by decide +kernel))
set_option maxRecDepth 20000 in
theorem gL_by_X7_longestMatch : GoodIn wsL_by (wsV RL 46 RX7 yX7_longestMatch wsX7_longestMatch) := goodIn_app (goodIn_of _ (by decide +kernel)) ggL_by_X7_longestMatch
set_option maxRecDepth 20000 in
theorem ggL_by_X7_probes : GoodIn wsL_by wsX7_probes := goodIn_ca (goodIn_ca (goodIn_r _ [161, 8, 9, 10, 6, 11, 12, 13, 14, 15, 16, 17, 18, 19, 20, 21, 137, 138, 139, 140, 141, 142, 143, 144, 145, 146, 147, 148, 149, 29, 30, 31, 32, 33, 34, 35, 36, 37, 38, 39, 40, 41, 150, 151, 152, 153, 154, 155, 156, 157, 162, 163, 164, 174, 175, 165, 166, 167, 176, 170] (by decide +kernel) (by decide +kernel)) (goodIn_sub (fun _ h => List.mem_cons_of_mem _ (List.mem_append_left _ (List.mem_append_right _ h))) (by decide +kernel))) (goodIn_sub (fun _ h => List.mem_cons_of_mem _ (List.mem_append_right _ h)) (by decide +kernel))
set_option maxRecDepth 20000 in
theorem gL_by_X7_probes : GoodIn wsL_by (wsV RL 49 RX7 yX7_probes wsX7_probes) := goodIn_app (goodIn_of _ (by decide +kernel)) ggL_by_X7_probes
theorem dL_by_0 : decode cL_by 0 = .ok (.iload_n 1, 1) := by decide +kernel
theorem dL_by_1 : decode cL_by 1 = .ok (.ifCond .ne 20, 3) := by decide +kernel
theorem dL_by_4 : decode cL_by 4 = .ok (.aload_n 0, 1) := by decide +kernel
theorem dL_by_5 : decode cL_by 5 = .ok (.iload_n 2, 1) := by decide +kernel
theorem dL_by_6 : decode cL_by 6 = .ok (.iload_n 3, 1) := by decide +kernel
theorem dL_by_7 : decode cL_by 7 = .ok (.invokevirtual 30, 3) := by decide +kernel
theorem dL_by_10 : decode cL_by 10 = .ok (.ifCond .eq 7, 3) := by decide +kernel
theorem dL_by_13 : decode cL_by 13 = .ok (.iconst 1, 1) := by decide +kernel
theorem dL_by_14 : decode cL_by 14 = .ok (.goto 83, 3) := by decide +kernel
theorem dL_by_17 : decode cL_by 17 = .ok (.iconst 0, 1) := by decide +kernel
theorem dL_by_18 : decode cL_by 18 = .ok (.goto 79, 3) := by decide +kernel
theorem dL_by_21 : decode cL_by 21 = .ok (.iload_n 1, 1) := by decide +kernel
theorem dL_by_22 : decode cL_by 22 = .ok (.iconst 1, 1) := by decide +kernel
theorem dL_by_23 : decode cL_by 23 = .ok (.if_icmp .ne 12, 3) := by decide +kernel
theorem dL_by_26 : decode cL_by 26 = .ok (.aload_n 0, 1) := by decide +kernel
theorem dL_by_27 : decode cL_by 27 = .ok (.iload_n 2, 1) := by decide +kernel
theorem dL_by_28 : decode cL_by 28 = .ok (.iload_n 3, 1) := by decide +kernel
theorem dL_by_29 : decode cL_by 29 = .ok (.invokevirtual 33, 3) := by decide +kernel
theorem dL_by_32 : decode cL_by 32 = .ok (.goto 65, 3) := by decide +kernel
theorem dL_by_35 : decode cL_by 35 = .ok (.iload_n 1, 1) := by decide +kernel
theorem dL_by_36 : decode cL_by 36 = .ok (.iconst 2, 1) := by decide +kernel
theorem dL_by_37 : decode cL_by 37 = .ok (.if_icmp .ne 12, 3) := by decide +kernel
theorem dL_by_40 : decode cL_by 40 = .ok (.aload_n 0, 1) := by decide +kernel
theorem dL_by_41 : decode cL_by 41 = .ok (.iload_n 2, 1) := by decide +kernel
theorem dL_by_42 : decode cL_by 42 = .ok (.iload_n 3, 1) := by decide +kernel
theorem dL_by_43 : decode cL_by 43 = .ok (.invokevirtual 37, 3) := by decide +kernel
theorem dL_by_46 : decode cL_by 46 = .ok (.goto 51, 3) := by decide +kernel
theorem dL_by_49 : decode cL_by 49 = .ok (.iload_n 1, 1) := by decide +kernel
theorem dL_by_50 : decode cL_by 50 = .ok (.iconst 3, 1) := by decide +kernel
theorem dL_by_51 : decode cL_by 51 = .ok (.if_icmp .ne 12, 3) := by decide +kernel
theorem dL_by_54 : decode cL_by 54 = .ok (.aload_n 0, 1) := by decide +kernel
theorem dL_by_55 : decode cL_by 55 = .ok (.iload_n 2, 1) := by decide +kernel
theorem dL_by_56 : decode cL_by 56 = .ok (.iload_n 3, 1) := by decide +kernel
theorem dL_by_57 : decode cL_by 57 = .ok (.invokevirtual 40, 3) := by decide +kernel
theorem dL_by_60 : decode cL_by 60 = .ok (.goto 37, 3) := by decide +kernel
theorem dL_by_63 : decode cL_by 63 = .ok (.iload_n 1, 1) := by decide +kernel
theorem dL_by_64 : decode cL_by 64 = .ok (.iconst 4, 1) := by decide +kernel
theorem dL_by_65 : decode cL_by 65 = .ok (.if_icmp .ne 12, 3) := by decide +kernel
theorem dL_by_68 : decode cL_by 68 = .ok (.aload_n 0, 1) := by decide +kernel
theorem dL_by_69 : decode cL_by 69 = .ok (.iload_n 2, 1) := by decide +kernel
theorem dL_by_70 : decode cL_by 70 = .ok (.iload_n 3, 1) := by decide +kernel
theorem dL_by_71 : decode cL_by 71 = .ok (.invokevirtual 43, 3) := by decide +kernel
theorem dL_by_74 : decode cL_by 74 = .ok (.goto 23, 3) := by decide +kernel
theorem dL_by_77 : decode cL_by 77 = .ok (.iload_n 1, 1) := by decide +kernel
theorem dL_by_78 : decode cL_by 78 = .ok (.iconst 5, 1) := by decide +kernel
theorem dL_by_79 : decode cL_by 79 = .ok (.if_icmp .ne 12, 3) := by decide +kernel
theorem dL_by_82 : decode cL_by 82 = .ok (.aload_n 0, 1) := by decide +kernel
theorem dL_by_83 : decode cL_by 83 = .ok (.iload_n 2, 1) := by decide +kernel
theorem dL_by_84 : decode cL_by 84 = .ok (.iload_n 3, 1) := by decide +kernel
theorem dL_by_85 : decode cL_by 85 = .ok (.invokevirtual 46, 3) := by decide +kernel
theorem dL_by_88 : decode cL_by 88 = .ok (.goto 9, 3) := by decide +kernel
theorem dL_by_91 : decode cL_by 91 = .ok (.aload_n 0, 1) := by decide +kernel
theorem dL_by_92 : decode cL_by 92 = .ok (.iload_n 2, 1) := by decide +kernel
theorem dL_by_93 : decode cL_by 93 = .ok (.iload_n 3, 1) := by decide +kernel
theorem dL_by_94 : decode cL_by 94 = .ok (.invokevirtual 49, 3) := by decide +kernel
theorem dL_by_97 : decode cL_by 97 = .ok (.ireturn, 1) := by decide +kernel
theorem dL_by_98 : decode cL_by 98 = .ok (.astore 4, 2) := by decide +kernel
theorem dL_by_100 : decode cL_by 100 = .ok (.bipush (-9), 2) := by decide +kernel
theorem dL_by_102 : decode cL_by 102 = .ok (.ireturn, 1) := by decide +kernel
theorem dL_by_103 : decode cL_by 103 = .ok (.astore 4, 2) := by decide +kernel
theorem dL_by_105 : decode cL_by 105 = .ok (.bipush (-9), 2) := by decide +kernel
theorem dL_by_107 : decode cL_by 107 = .ok (.ireturn, 1) := by decide +kernel
set_option maxRecDepth 20000 in
theorem ggL_at_X7_select : GoodIn wsL_at wsX7_select := goodIn_ca (goodIn_r _ [6, 7, 8, 9, 5, 10, 11, 12, 13, 14, 15, 16, 17, 18, 19, 20, 21, 22, 23, 24, 25, 26, 27, 28, 29, 30, 31, 32, 33, 34, 35, 36, 37, 38, 39, 40, 41, 42, 43, 44, 45, 46, 47, 48, 49, 50, 51, 52, 53, 54, 55, 56, 57, 58, 59, 60, 61, 134, 135, 136, 137, 138, 139, 140, 141, 142] (by decide +kernel) (by decide +kernel)) (goodIn_sub (fun _ h => List.mem_cons_of_mem _ (List.mem_append_right _ h)) (by decide +kernel))
set_option maxRecDepth 20000 in
theorem gL_at_X7_select : GoodIn wsL_at (wsV RL 52 RX7 yX7_select wsX7_select) := goodIn_app (goodIn_of _ (by decide +kernel)) ggL_at_X7_select
set_option maxRecDepth 20000 in
theorem ggL_at_X7_clusterMinimum : GoodIn wsL_at wsX7_clusterMinimum := goodIn_ca (goodIn_r _ [65, 7, 8, 9, 5, 10, 11, 12, 13, 14, 15, 47, 48, 49, 66, 67, 68, 69, 70, 71, 72, 59, 38, 60, 61, 41, 42, 43, 44, 45, 46, 134, 135, 136, 137, 138, 139, 143, 144, 145] (by decide +kernel) (by decide +kernel)) (goodIn_sub (fun _ h => List.mem_cons_of_mem _ (List.mem_append_right _ h)) (by decide +kernel))
set_option maxRecDepth 20000 in
theorem gL_at_X7_clusterMinimum : GoodIn wsL_at (wsV RL 55 RX7 yX7_clusterMinimum wsX7_clusterMinimum) := goodIn_app (goodIn_of _ (by decide +kernel)) ggL_at_X7_clusterMinimum
set_option maxRecDepth 20000 in
theorem ggL_at_X7_clusterMaximum : GoodIn wsL_at wsX7_clusterMaximum := goodIn_ca (goodIn_r _ [76, 7, 8, 9, 5, 10, 11, 12, 13, 14, 15, 47, 48, 49, 66, 67, 68, 69, 70, 71, 77, 78, 38, 79, 61, 41, 42, 43, 44, 45, 46, 134, 135, 136, 137, 138, 139, 143, 144, 145] (by decide +kernel) (by decide +kernel)) (goodIn_sub (fun _ h => List.mem_cons_of_mem _ (List.mem_append_right _ h)) (by decide +kernel))
set_option maxRecDepth 20000 in
theorem gL_at_X7_clusterMaximum : GoodIn wsL_at (wsV RL 58 RX7 yX7_clusterMaximum wsX7_clusterMaximum) := goodIn_app (goodIn_of _ (by decide +kernel)) ggL_at_X7_clusterMaximum
set_option maxRecDepth 20000 in
theorem ggL_at_X7_prefixes : GoodIn wsL_at wsX7_prefixes := goodIn_ca (goodIn_r _ [83, 7, 8, 9, 5, 10, 11, 12, 13, 14, 15, 47, 48, 49, 84, 85, 86, 87, 88, 89, 90, 91, 92, 93, 23, 24, 25, 26, 27, 28, 29, 30, 31, 32, 33, 34, 35, 36, 37, 38, 39, 40, 41, 42, 43, 44, 45, 46, 134, 135, 136, 137, 138, 139, 146, 142] (by decide +kernel) (by decide +kernel)) (goodIn_sub (fun _ h => List.mem_cons_of_mem _ (List.mem_append_right _ h)) (by decide +kernel))
set_option maxRecDepth 20000 in
theorem gL_at_X7_prefixes : GoodIn wsL_at (wsV RL 61 RX7 yX7_prefixes wsX7_prefixes) := goodIn_app (goodIn_of _ (by decide +kernel)) ggL_at_X7_prefixes
set_option maxRecDepth 20000 in
theorem ggL_at_X7_bucketSize : GoodIn wsL_at wsX7_bucketSize := goodIn_ca (goodIn_r _ [97, 7, 8, 9, 5, 10, 11, 12, 13, 14, 15, 98, 99, 100, 19, 101, 102, 22, 23, 24, 25, 26, 27, 28, 29, 30, 31, 32, 33, 34, 35, 36, 37, 38, 39, 40, 41, 42, 43, 44, 45, 46, 47, 48, 49, 103, 104, 105, 106, 54, 55, 56, 57, 58, 59, 60, 61, 107, 108, 109, 110, 21, 134, 135, 136, 137, 138, 139, 140, 141, 142] (by decide +kernel) (by decide +kernel)) (goodIn_sub (fun _ h => List.mem_cons_of_mem _ (List.mem_append_right _ h)) (by decide +kernel))
set_option maxRecDepth 20000 in
theorem gL_at_X7_bucketSize : GoodIn wsL_at (wsV RL 64 RX7 yX7_bucketSize wsX7_bucketSize) := goodIn_app (goodIn_of _ (by decide +kernel)) ggL_at_X7_bucketSize
set_option maxRecDepth 20000 in
theorem ggL_at_X7_size : GoodIn wsL_at wsX7_size := goodIn_ca (goodIn_r _ [114, 7, 8, 9, 5, 10, 11, 12, 13, 14, 15, 16, 17, 18, 19, 20, 21, 22, 23, 24, 25, 26, 27, 28, 29, 30, 31, 32, 33, 34, 35, 36, 37, 38, 39, 40, 41, 42, 43, 44, 45, 46, 134, 135, 136, 137, 138, 139, 140, 141, 142] (by decide +kernel) (by decide +kernel)) (goodIn_sub (fun _ h => List.mem_cons_of_mem _ (List.mem_append_right _ h)) (by decide +kernel))
set_option maxRecDepth 20000 in
theorem gL_at_X7_size : GoodIn wsL_at (wsV RL 67 RX7 yX7_size wsX7_size) := goodIn_app (goodIn_of _ (by decide +kernel)) ggL_at_X7_size
set_option maxRecDepth 20000 in
theorem ggL_at_X7_trees : GoodIn wsL_at wsX7_trees := goodIn_ca (goodIn_r _ [118, 7, 8, 9, 5, 10, 11, 12, 13, 14, 15, 119, 120, 121, 69, 122, 123, 124, 125, 126, 38, 127, 128, 129, 67, 68, 70, 71, 134, 135, 136, 137, 138, 139, 143, 144, 145] (by decide +kernel) (by decide +kernel)) (goodIn_sub (fun _ h => List.mem_cons_of_mem _ (List.mem_append_right _ h)) (by decide +kernel))
set_option maxRecDepth 20000 in
theorem gL_at_X7_trees : GoodIn wsL_at (wsV RL 70 RX7 yX7_trees wsX7_trees) := goodIn_app (goodIn_of _ (by decide +kernel)) ggL_at_X7_trees
set_option maxRecDepth 20000 in
theorem ggL_at_X7_buckets : GoodIn wsL_at wsX7_buckets := goodIn_ca (goodIn_r _ [133, 7, 8, 9, 5, 10, 11, 12, 13, 14, 15, 98, 99, 100, 19, 101, 102, 22, 23, 24, 25, 26, 27, 28, 29, 30, 31, 32, 33, 34, 35, 36, 37, 38, 39, 40, 41, 42, 43, 44, 45, 46, 134, 135, 136, 137, 138, 139, 140, 141, 142] (by decide +kernel) (by decide +kernel)) (goodIn_sub (fun _ h => List.mem_cons_of_mem _ (List.mem_append_right _ h)) (by decide +kernel))
set_option maxRecDepth 20000 in
theorem gL_at_X7_buckets : GoodIn wsL_at (wsV RL 73 RX7 yX7_buckets wsX7_buckets) := goodIn_app (goodIn_of _ (by decide +kernel)) ggL_at_X7_buckets
theorem dL_at_0 : decode cL_at 0 = .ok (.iload_n 1, 1) := by decide +kernel
theorem dL_at_1 : decode cL_at 1 = .ok (.ifCond .ne 12, 3) := by decide +kernel
theorem dL_at_4 : decode cL_at 4 = .ok (.aload_n 0, 1) := by decide +kernel
theorem dL_at_5 : decode cL_at 5 = .ok (.iload_n 2, 1) := by decide +kernel
theorem dL_at_6 : decode cL_at 6 = .ok (.iload_n 3, 1) := by decide +kernel
theorem dL_at_7 : decode cL_at 7 = .ok (.invokevirtual 52, 3) := by decide +kernel
theorem dL_at_10 : decode cL_at 10 = .ok (.goto 91, 3) := by decide +kernel
theorem dL_at_13 : decode cL_at 13 = .ok (.iload_n 1, 1) := by decide +kernel
theorem dL_at_14 : decode cL_at 14 = .ok (.iconst 1, 1) := by decide +kernel
theorem dL_at_15 : decode cL_at 15 = .ok (.if_icmp .ne 12, 3) := by decide +kernel
theorem dL_at_18 : decode cL_at 18 = .ok (.aload_n 0, 1) := by decide +kernel
theorem dL_at_19 : decode cL_at 19 = .ok (.iload_n 2, 1) := by decide +kernel
theorem dL_at_20 : decode cL_at 20 = .ok (.iload_n 3, 1) := by decide +kernel
theorem dL_at_21 : decode cL_at 21 = .ok (.invokevirtual 55, 3) := by decide +kernel
theorem dL_at_24 : decode cL_at 24 = .ok (.goto 77, 3) := by decide +kernel
theorem dL_at_27 : decode cL_at 27 = .ok (.iload_n 1, 1) := by decide +kernel
theorem dL_at_28 : decode cL_at 28 = .ok (.iconst 2, 1) := by decide +kernel
theorem dL_at_29 : decode cL_at 29 = .ok (.if_icmp .ne 12, 3) := by decide +kernel
theorem dL_at_32 : decode cL_at 32 = .ok (.aload_n 0, 1) := by decide +kernel
theorem dL_at_33 : decode cL_at 33 = .ok (.iload_n 2, 1) := by decide +kernel
theorem dL_at_34 : decode cL_at 34 = .ok (.iload_n 3, 1) := by decide +kernel
theorem dL_at_35 : decode cL_at 35 = .ok (.invokevirtual 58, 3) := by decide +kernel
theorem dL_at_38 : decode cL_at 38 = .ok (.goto 63, 3) := by decide +kernel
theorem dL_at_41 : decode cL_at 41 = .ok (.iload_n 1, 1) := by decide +kernel
theorem dL_at_42 : decode cL_at 42 = .ok (.iconst 3, 1) := by decide +kernel
theorem dL_at_43 : decode cL_at 43 = .ok (.if_icmp .ne 12, 3) := by decide +kernel
theorem dL_at_46 : decode cL_at 46 = .ok (.aload_n 0, 1) := by decide +kernel
theorem dL_at_47 : decode cL_at 47 = .ok (.iload_n 2, 1) := by decide +kernel
theorem dL_at_48 : decode cL_at 48 = .ok (.iload_n 3, 1) := by decide +kernel
theorem dL_at_49 : decode cL_at 49 = .ok (.invokevirtual 61, 3) := by decide +kernel
theorem dL_at_52 : decode cL_at 52 = .ok (.goto 49, 3) := by decide +kernel
theorem dL_at_55 : decode cL_at 55 = .ok (.iload_n 1, 1) := by decide +kernel
theorem dL_at_56 : decode cL_at 56 = .ok (.iconst 4, 1) := by decide +kernel
theorem dL_at_57 : decode cL_at 57 = .ok (.if_icmp .ne 12, 3) := by decide +kernel
theorem dL_at_60 : decode cL_at 60 = .ok (.aload_n 0, 1) := by decide +kernel
theorem dL_at_61 : decode cL_at 61 = .ok (.iload_n 2, 1) := by decide +kernel
theorem dL_at_62 : decode cL_at 62 = .ok (.iload_n 3, 1) := by decide +kernel
theorem dL_at_63 : decode cL_at 63 = .ok (.invokevirtual 64, 3) := by decide +kernel
theorem dL_at_66 : decode cL_at 66 = .ok (.goto 35, 3) := by decide +kernel
theorem dL_at_69 : decode cL_at 69 = .ok (.iload_n 1, 1) := by decide +kernel
theorem dL_at_70 : decode cL_at 70 = .ok (.iconst 5, 1) := by decide +kernel
theorem dL_at_71 : decode cL_at 71 = .ok (.if_icmp .ne 11, 3) := by decide +kernel
theorem dL_at_74 : decode cL_at 74 = .ok (.aload_n 0, 1) := by decide +kernel
theorem dL_at_75 : decode cL_at 75 = .ok (.iload_n 2, 1) := by decide +kernel
theorem dL_at_76 : decode cL_at 76 = .ok (.invokevirtual 67, 3) := by decide +kernel
theorem dL_at_79 : decode cL_at 79 = .ok (.goto 22, 3) := by decide +kernel
theorem dL_at_82 : decode cL_at 82 = .ok (.iload_n 1, 1) := by decide +kernel
theorem dL_at_83 : decode cL_at 83 = .ok (.bipush 6, 2) := by decide +kernel
theorem dL_at_85 : decode cL_at 85 = .ok (.if_icmp .ne 11, 3) := by decide +kernel
theorem dL_at_88 : decode cL_at 88 = .ok (.aload_n 0, 1) := by decide +kernel
theorem dL_at_89 : decode cL_at 89 = .ok (.iload_n 2, 1) := by decide +kernel
theorem dL_at_90 : decode cL_at 90 = .ok (.invokevirtual 70, 3) := by decide +kernel
theorem dL_at_93 : decode cL_at 93 = .ok (.goto 8, 3) := by decide +kernel
theorem dL_at_96 : decode cL_at 96 = .ok (.aload_n 0, 1) := by decide +kernel
theorem dL_at_97 : decode cL_at 97 = .ok (.iload_n 2, 1) := by decide +kernel
theorem dL_at_98 : decode cL_at 98 = .ok (.invokevirtual 73, 3) := by decide +kernel
theorem dL_at_101 : decode cL_at 101 = .ok (.ireturn, 1) := by decide +kernel
theorem dL_at_102 : decode cL_at 102 = .ok (.astore 4, 2) := by decide +kernel
theorem dL_at_104 : decode cL_at 104 = .ok (.bipush (-9), 2) := by decide +kernel
theorem dL_at_106 : decode cL_at 106 = .ok (.ireturn, 1) := by decide +kernel
set_option maxRecDepth 20000 in
theorem ggL_inBuckets_L_at : GoodIn wsL_inBuckets wsL_at := goodIn_ca (goodIn_r _ [4, 5, 6, 7, 8, 9, 10, 11, 12, 13, 14, 15, 16, 17, 18, 19, 20, 21, 22, 23, 24, 25, 26, 27, 28, 29, 30, 31, 32, 33, 34, 35, 36, 37, 38, 39, 40, 41, 42, 43, 44, 45, 46, 47, 48, 49, 50, 51, 52, 53, 54, 55, 56, 57, 58, 59, 60, 61, 62, 63, 64, 65, 66, 67, 68, 69, 70, 71, 72, 73, 74, 75, 76, 77, 78, 79, 80, 81, 82, 83, 84, 85, 86, 87, 88, 89, 90, 91, 92, 93, 94, 95, 96, 97, 98, 99, 100, 101, 102, 103, 104, 105, 106, 107, 108, 109, 110, 111, 112, 113, 114, 115, 116, 117, 118, 119, 120, 121, 122, 123, 124, 125, 126, 127, 128, 129, 130, 131, 132, 133, 134, 135, 136, 137, 138, 139, 140, 141, 142, 143, 144, 145, 146, 147, 148, 149, 150] (by decide +kernel) (by decide +kernel)) (goodIn_sub (fun _ h => List.mem_cons_of_mem _ (List.mem_append_right _ h)) (by decide +kernel))
set_option maxRecDepth 20000 in
theorem gL_inBuckets_L_at : GoodIn wsL_inBuckets (va_wsS RL 76 yL_at wsL_at) := goodIn_app (goodIn_of _ (by decide +kernel)) ggL_inBuckets_L_at
theorem dL_inBuckets_0 : decode cL_inBuckets 0 = .ok (.iconst 0, 1) := by decide +kernel
theorem dL_inBuckets_1 : decode cL_inBuckets 1 = .ok (.istore_n 2, 1) := by decide +kernel
theorem dL_inBuckets_2 : decode cL_inBuckets 2 = .ok (.iconst 0, 1) := by decide +kernel
theorem dL_inBuckets_3 : decode cL_inBuckets 3 = .ok (.istore_n 3, 1) := by decide +kernel
theorem dL_inBuckets_4 : decode cL_inBuckets 4 = .ok (.iload_n 3, 1) := by decide +kernel
theorem dL_inBuckets_5 : decode cL_inBuckets 5 = .ok (.aload_n 0, 1) := by decide +kernel
theorem dL_inBuckets_6 : decode cL_inBuckets 6 = .ok (.bipush 7, 2) := by decide +kernel
theorem dL_inBuckets_8 : decode cL_inBuckets 8 = .ok (.iload_n 1, 1) := by decide +kernel
theorem dL_inBuckets_9 : decode cL_inBuckets 9 = .ok (.iconst 0, 1) := by decide +kernel
theorem dL_inBuckets_10 : decode cL_inBuckets 10 = .ok (.invokestatic 76, 3) := by decide +kernel
theorem dL_inBuckets_13 : decode cL_inBuckets 13 = .ok (.if_icmp .ge 19, 3) := by decide +kernel
theorem dL_inBuckets_16 : decode cL_inBuckets 16 = .ok (.iload_n 2, 1) := by decide +kernel
theorem dL_inBuckets_17 : decode cL_inBuckets 17 = .ok (.aload_n 0, 1) := by decide +kernel
theorem dL_inBuckets_18 : decode cL_inBuckets 18 = .ok (.iconst 4, 1) := by decide +kernel
theorem dL_inBuckets_19 : decode cL_inBuckets 19 = .ok (.iload_n 1, 1) := by decide +kernel
theorem dL_inBuckets_20 : decode cL_inBuckets 20 = .ok (.iload_n 3, 1) := by decide +kernel
theorem dL_inBuckets_21 : decode cL_inBuckets 21 = .ok (.invokestatic 76, 3) := by decide +kernel
theorem dL_inBuckets_24 : decode cL_inBuckets 24 = .ok (.iadd, 1) := by decide +kernel
theorem dL_inBuckets_25 : decode cL_inBuckets 25 = .ok (.istore_n 2, 1) := by decide +kernel
theorem dL_inBuckets_26 : decode cL_inBuckets 26 = .ok (.iinc 3 1, 3) := by decide +kernel
theorem dL_inBuckets_29 : decode cL_inBuckets 29 = .ok (.goto (-25), 3) := by decide +kernel
theorem dL_inBuckets_32 : decode cL_inBuckets 32 = .ok (.iload_n 2, 1) := by decide +kernel
theorem dL_inBuckets_33 : decode cL_inBuckets 33 = .ok (.ireturn, 1) := by decide +kernel
set_option maxRecDepth 20000 in
theorem ggL_areAlike_L_at : GoodIn wsL_areAlike wsL_at := goodIn_ca (goodIn_r _ [4, 5, 6, 7, 8, 9, 10, 11, 12, 13, 14, 15, 16, 17, 18, 19, 20, 21, 22, 23, 24, 25, 26, 27, 28, 29, 30, 31, 32, 33, 34, 35, 36, 37, 38, 39, 40, 41, 42, 43, 44, 45, 46, 47, 48, 49, 50, 51, 52, 53, 54, 55, 56, 57, 58, 59, 60, 61, 62, 63, 64, 65, 66, 67, 68, 69, 70, 71, 72, 73, 74, 75, 76, 77, 78, 79, 80, 81, 82, 83, 84, 85, 86, 87, 88, 89, 90, 91, 92, 93, 94, 95, 96, 97, 98, 99, 100, 101, 102, 103, 104, 105, 106, 107, 108, 109, 110, 111, 112, 113, 114, 115, 116, 117, 118, 119, 120, 121, 122, 123, 124, 125, 126, 127, 128, 129, 130, 131, 132, 133, 134, 135, 136, 137, 249, 250, 251, 252, 253, 254, 255, 256, 257, 258, 259, 260, 261] (by decide +kernel) (by decide +kernel)) (goodIn_sub (fun _ h => List.mem_cons_of_mem _ (List.mem_append_left _ (List.mem_append_right _ h))) (by decide +kernel))
set_option maxRecDepth 20000 in
theorem gL_areAlike_L_at : GoodIn wsL_areAlike (va_wsS RL 76 yL_at wsL_at) := goodIn_app (goodIn_of _ (by decide +kernel)) ggL_areAlike_L_at
set_option maxRecDepth 20000 in
theorem ggL_areAlike_L_inBuckets : GoodIn wsL_areAlike wsL_inBuckets := goodIn_ca (goodIn_r _ [140, 1, 2, 3, 4, 5, 6, 7, 8, 9, 10, 11, 12, 13, 14, 15, 16, 17, 18, 19, 20, 21, 22, 23, 24, 25, 26, 27, 28, 29, 30, 31, 32, 33, 34, 35, 36, 37, 38, 39, 40, 41, 42, 43, 44, 45, 46, 47, 48, 49, 50, 51, 52, 53, 54, 55, 56, 57, 58, 59, 60, 61, 62, 63, 64, 65, 66, 67, 68, 69, 70, 71, 72, 73, 74, 75, 76, 77, 78, 79, 80, 81, 82, 83, 84, 85, 86, 87, 88, 89, 90, 91, 92, 93, 94, 95, 96, 97, 98, 99, 100, 101, 102, 103, 104, 105, 106, 107, 108, 109, 110, 111, 112, 113, 114, 115, 116, 117, 118, 119, 120, 121, 122, 123, 124, 125, 126, 127, 128, 129, 130, 131, 132, 133, 134, 135, 136, 137, 249, 250, 251, 252, 253, 254, 255, 256, 257, 258, 259, 260, 261] (by decide +kernel) (by decide +kernel)) (goodIn_sub (fun _ h => List.mem_cons_of_mem _ (List.mem_append_left _ (List.mem_append_right _ h))) (by decide +kernel))
set_option maxRecDepth 20000 in
theorem gL_areAlike_L_inBuckets : GoodIn wsL_areAlike (va_wsS RL 82 yL_inBuckets wsL_inBuckets) := goodIn_app (goodIn_of _ (by decide +kernel)) ggL_areAlike_L_inBuckets
set_option maxRecDepth 20000 in
theorem ggL_areAlike_L_by : GoodIn wsL_areAlike wsL_by := goodIn_ca (goodIn_ca (goodIn_r _ [143, 5, 144, 145, 146, 147, 9, 148, 11, 12, 13, 14, 15, 16, 17, 18, 19, 149, 150, 151, 152, 153, 154, 155, 156, 23, 157, 25, 158, 159, 160, 29, 161, 36, 37, 38, 39, 31, 40, 41, 42, 43, 162, 163, 164, 165, 166, 167, 168, 73, 169, 127, 128, 170, 171, 172, 173, 174, 82, 83, 65, 45, 46, 47, 48, 49, 50, 175, 176, 177, 178, 133, 71, 72, 74, 75, 179, 180, 181, 182, 183, 184, 185, 186, 187, 63, 64, 188, 189, 190, 191, 192, 193, 194, 195, 196, 197, 198, 199, 200, 201, 202, 203, 204, 205, 206, 207, 208, 209, 210, 211, 212, 213, 26, 27, 28, 30, 32, 33, 34, 35, 44, 214, 215, 216, 217, 218, 219, 220, 221, 222, 223, 224, 225, 226, 227, 228, 229, 230, 231, 91, 232, 93, 233, 234, 235, 94, 95, 96, 236, 237, 238, 239, 240, 241, 242, 243, 244, 245, 246, 247, 248, 249, 250, 251, 252, 253, 254, 255, 256, 257, 258, 259, 260, 262, 263, 261] (by decide +kernel) (by decide +kernel)) (goodIn_sub (fun _ h => List.mem_cons_of_mem _ (List.mem_append_left _ (List.mem_append_right _ h))) (by decide +kernel))) (goodIn_sub (fun _ h => List.mem_cons_of_mem _ (List.mem_append_right _ h)) (by decide +kernel))
set_option maxRecDepth 20000 in
theorem gL_areAlike_L_by : GoodIn wsL_areAlike (va_wsS RL 86 yL_by wsL_by) := goodIn_app (goodIn_of _ (by decide +kernel)) ggL_areAlike_L_by
theorem dL_areAlike_0 : decode cL_areAlike 0 = .ok (.aload_n 0, 1) := by decide +kernel
theorem dL_areAlike_1 : decode cL_areAlike 1 = .ok (.iconst 5, 1) := by decide +kernel
theorem dL_areAlike_2 : decode cL_areAlike 2 = .ok (.iload_n 1, 1) := by decide +kernel
theorem dL_areAlike_3 : decode cL_areAlike 3 = .ok (.iconst 0, 1) := by decide +kernel
theorem dL_areAlike_4 : decode cL_areAlike 4 = .ok (.invokestatic 76, 3) := by decide +kernel
theorem dL_areAlike_7 : decode cL_areAlike 7 = .ok (.aload_n 0, 1) := by decide +kernel
theorem dL_areAlike_8 : decode cL_areAlike 8 = .ok (.iconst 5, 1) := by decide +kernel
theorem dL_areAlike_9 : decode cL_areAlike 9 = .ok (.iload_n 2, 1) := by decide +kernel
theorem dL_areAlike_10 : decode cL_areAlike 10 = .ok (.iconst 0, 1) := by decide +kernel
theorem dL_areAlike_11 : decode cL_areAlike 11 = .ok (.invokestatic 76, 3) := by decide +kernel
theorem dL_areAlike_14 : decode cL_areAlike 14 = .ok (.if_icmp .ne 54, 3) := by decide +kernel
theorem dL_areAlike_17 : decode cL_areAlike 17 = .ok (.aload_n 0, 1) := by decide +kernel
theorem dL_areAlike_18 : decode cL_areAlike 18 = .ok (.bipush 6, 2) := by decide +kernel
theorem dL_areAlike_20 : decode cL_areAlike 20 = .ok (.iload_n 1, 1) := by decide +kernel
theorem dL_areAlike_21 : decode cL_areAlike 21 = .ok (.iconst 0, 1) := by decide +kernel
theorem dL_areAlike_22 : decode cL_areAlike 22 = .ok (.invokestatic 76, 3) := by decide +kernel
theorem dL_areAlike_25 : decode cL_areAlike 25 = .ok (.aload_n 0, 1) := by decide +kernel
theorem dL_areAlike_26 : decode cL_areAlike 26 = .ok (.bipush 6, 2) := by decide +kernel
theorem dL_areAlike_28 : decode cL_areAlike 28 = .ok (.iload_n 2, 1) := by decide +kernel
theorem dL_areAlike_29 : decode cL_areAlike 29 = .ok (.iconst 0, 1) := by decide +kernel
theorem dL_areAlike_30 : decode cL_areAlike 30 = .ok (.invokestatic 76, 3) := by decide +kernel
theorem dL_areAlike_33 : decode cL_areAlike 33 = .ok (.if_icmp .ne 35, 3) := by decide +kernel
theorem dL_areAlike_36 : decode cL_areAlike 36 = .ok (.aload_n 0, 1) := by decide +kernel
theorem dL_areAlike_37 : decode cL_areAlike 37 = .ok (.iload_n 1, 1) := by decide +kernel
theorem dL_areAlike_38 : decode cL_areAlike 38 = .ok (.invokestatic 82, 3) := by decide +kernel
theorem dL_areAlike_41 : decode cL_areAlike 41 = .ok (.aload_n 0, 1) := by decide +kernel
theorem dL_areAlike_42 : decode cL_areAlike 42 = .ok (.iload_n 2, 1) := by decide +kernel
theorem dL_areAlike_43 : decode cL_areAlike 43 = .ok (.invokestatic 82, 3) := by decide +kernel
theorem dL_areAlike_46 : decode cL_areAlike 46 = .ok (.if_icmp .ne 22, 3) := by decide +kernel
theorem dL_areAlike_49 : decode cL_areAlike 49 = .ok (.aload_n 0, 1) := by decide +kernel
theorem dL_areAlike_50 : decode cL_areAlike 50 = .ok (.iload_n 1, 1) := by decide +kernel
theorem dL_areAlike_51 : decode cL_areAlike 51 = .ok (.invokestatic 82, 3) := by decide +kernel
theorem dL_areAlike_54 : decode cL_areAlike 54 = .ok (.aload_n 0, 1) := by decide +kernel
theorem dL_areAlike_55 : decode cL_areAlike 55 = .ok (.iconst 5, 1) := by decide +kernel
theorem dL_areAlike_56 : decode cL_areAlike 56 = .ok (.iload_n 1, 1) := by decide +kernel
theorem dL_areAlike_57 : decode cL_areAlike 57 = .ok (.iconst 0, 1) := by decide +kernel
theorem dL_areAlike_58 : decode cL_areAlike 58 = .ok (.invokestatic 76, 3) := by decide +kernel
theorem dL_areAlike_61 : decode cL_areAlike 61 = .ok (.if_icmp .ne 7, 3) := by decide +kernel
theorem dL_areAlike_64 : decode cL_areAlike 64 = .ok (.iconst 1, 1) := by decide +kernel
theorem dL_areAlike_65 : decode cL_areAlike 65 = .ok (.goto 4, 3) := by decide +kernel
theorem dL_areAlike_68 : decode cL_areAlike 68 = .ok (.iconst 0, 1) := by decide +kernel
theorem dL_areAlike_69 : decode cL_areAlike 69 = .ok (.istore 4, 2) := by decide +kernel
theorem dL_areAlike_71 : decode cL_areAlike 71 = .ok (.iconst 0, 1) := by decide +kernel
theorem dL_areAlike_72 : decode cL_areAlike 72 = .ok (.istore 5, 2) := by decide +kernel
theorem dL_areAlike_74 : decode cL_areAlike 74 = .ok (.iload 5, 2) := by decide +kernel
theorem dL_areAlike_76 : decode cL_areAlike 76 = .ok (.aload_n 0, 1) := by decide +kernel
theorem dL_areAlike_77 : decode cL_areAlike 77 = .ok (.iconst 5, 1) := by decide +kernel
theorem dL_areAlike_78 : decode cL_areAlike 78 = .ok (.iload_n 1, 1) := by decide +kernel
theorem dL_areAlike_79 : decode cL_areAlike 79 = .ok (.iconst 0, 1) := by decide +kernel
theorem dL_areAlike_80 : decode cL_areAlike 80 = .ok (.invokestatic 76, 3) := by decide +kernel
theorem dL_areAlike_83 : decode cL_areAlike 83 = .ok (.if_icmp .gt 40, 3) := by decide +kernel
theorem dL_areAlike_86 : decode cL_areAlike 86 = .ok (.iload 4, 2) := by decide +kernel
theorem dL_areAlike_88 : decode cL_areAlike 88 = .ok (.ifCond .eq 35, 3) := by decide +kernel
theorem dL_areAlike_91 : decode cL_areAlike 91 = .ok (.aload_n 0, 1) := by decide +kernel
theorem dL_areAlike_92 : decode cL_areAlike 92 = .ok (.iconst 0, 1) := by decide +kernel
theorem dL_areAlike_93 : decode cL_areAlike 93 = .ok (.iload_n 1, 1) := by decide +kernel
theorem dL_areAlike_94 : decode cL_areAlike 94 = .ok (.iload 5, 2) := by decide +kernel
theorem dL_areAlike_96 : decode cL_areAlike 96 = .ok (.invokestatic 76, 3) := by decide +kernel
theorem dL_areAlike_99 : decode cL_areAlike 99 = .ok (.aload_n 0, 1) := by decide +kernel
theorem dL_areAlike_100 : decode cL_areAlike 100 = .ok (.iconst 0, 1) := by decide +kernel
theorem dL_areAlike_101 : decode cL_areAlike 101 = .ok (.iload_n 2, 1) := by decide +kernel
theorem dL_areAlike_102 : decode cL_areAlike 102 = .ok (.iload 5, 2) := by decide +kernel
theorem dL_areAlike_104 : decode cL_areAlike 104 = .ok (.invokestatic 76, 3) := by decide +kernel
theorem dL_areAlike_107 : decode cL_areAlike 107 = .ok (.if_icmp .ne 7, 3) := by decide +kernel
theorem dL_areAlike_110 : decode cL_areAlike 110 = .ok (.iconst 1, 1) := by decide +kernel
theorem dL_areAlike_111 : decode cL_areAlike 111 = .ok (.goto 4, 3) := by decide +kernel
theorem dL_areAlike_114 : decode cL_areAlike 114 = .ok (.iconst 0, 1) := by decide +kernel
theorem dL_areAlike_115 : decode cL_areAlike 115 = .ok (.istore 4, 2) := by decide +kernel
theorem dL_areAlike_117 : decode cL_areAlike 117 = .ok (.iinc 5 1, 3) := by decide +kernel
theorem dL_areAlike_120 : decode cL_areAlike 120 = .ok (.goto (-46), 3) := by decide +kernel
theorem dL_areAlike_123 : decode cL_areAlike 123 = .ok (.iconst 0, 1) := by decide +kernel
theorem dL_areAlike_124 : decode cL_areAlike 124 = .ok (.istore 5, 2) := by decide +kernel
theorem dL_areAlike_126 : decode cL_areAlike 126 = .ok (.iload 5, 2) := by decide +kernel
theorem dL_areAlike_128 : decode cL_areAlike 128 = .ok (.bipush 64, 2) := by decide +kernel
theorem dL_areAlike_130 : decode cL_areAlike 130 = .ok (.if_icmp .ge 85, 3) := by decide +kernel
theorem dL_areAlike_133 : decode cL_areAlike 133 = .ok (.iload 4, 2) := by decide +kernel
theorem dL_areAlike_135 : decode cL_areAlike 135 = .ok (.ifCond .eq 80, 3) := by decide +kernel
theorem dL_areAlike_138 : decode cL_areAlike 138 = .ok (.aload_n 0, 1) := by decide +kernel
theorem dL_areAlike_139 : decode cL_areAlike 139 = .ok (.iconst 1, 1) := by decide +kernel
theorem dL_areAlike_140 : decode cL_areAlike 140 = .ok (.iload_n 1, 1) := by decide +kernel
theorem dL_areAlike_141 : decode cL_areAlike 141 = .ok (.iload 5, 2) := by decide +kernel
theorem dL_areAlike_143 : decode cL_areAlike 143 = .ok (.invokestatic 76, 3) := by decide +kernel
theorem dL_areAlike_146 : decode cL_areAlike 146 = .ok (.aload_n 0, 1) := by decide +kernel
theorem dL_areAlike_147 : decode cL_areAlike 147 = .ok (.iconst 1, 1) := by decide +kernel
theorem dL_areAlike_148 : decode cL_areAlike 148 = .ok (.iload_n 2, 1) := by decide +kernel
theorem dL_areAlike_149 : decode cL_areAlike 149 = .ok (.iload 5, 2) := by decide +kernel
theorem dL_areAlike_151 : decode cL_areAlike 151 = .ok (.invokestatic 76, 3) := by decide +kernel
theorem dL_areAlike_154 : decode cL_areAlike 154 = .ok (.if_icmp .ne 52, 3) := by decide +kernel
theorem dL_areAlike_157 : decode cL_areAlike 157 = .ok (.aload_n 0, 1) := by decide +kernel
theorem dL_areAlike_158 : decode cL_areAlike 158 = .ok (.iconst 2, 1) := by decide +kernel
theorem dL_areAlike_159 : decode cL_areAlike 159 = .ok (.iload_n 1, 1) := by decide +kernel
theorem dL_areAlike_160 : decode cL_areAlike 160 = .ok (.iload 5, 2) := by decide +kernel
theorem dL_areAlike_162 : decode cL_areAlike 162 = .ok (.invokestatic 76, 3) := by decide +kernel
theorem dL_areAlike_165 : decode cL_areAlike 165 = .ok (.aload_n 0, 1) := by decide +kernel
theorem dL_areAlike_166 : decode cL_areAlike 166 = .ok (.iconst 2, 1) := by decide +kernel
theorem dL_areAlike_167 : decode cL_areAlike 167 = .ok (.iload_n 2, 1) := by decide +kernel
theorem dL_areAlike_168 : decode cL_areAlike 168 = .ok (.iload 5, 2) := by decide +kernel
theorem dL_areAlike_170 : decode cL_areAlike 170 = .ok (.invokestatic 76, 3) := by decide +kernel
theorem dL_areAlike_173 : decode cL_areAlike 173 = .ok (.if_icmp .ne 33, 3) := by decide +kernel
theorem dL_areAlike_176 : decode cL_areAlike 176 = .ok (.iload 5, 2) := by decide +kernel
theorem dL_areAlike_178 : decode cL_areAlike 178 = .ok (.bipush 12, 2) := by decide +kernel
theorem dL_areAlike_180 : decode cL_areAlike 180 = .ok (.if_icmp .gt 22, 3) := by decide +kernel
theorem dL_areAlike_183 : decode cL_areAlike 183 = .ok (.aload_n 0, 1) := by decide +kernel
theorem dL_areAlike_184 : decode cL_areAlike 184 = .ok (.iconst 3, 1) := by decide +kernel
theorem dL_areAlike_185 : decode cL_areAlike 185 = .ok (.iload_n 1, 1) := by decide +kernel
theorem dL_areAlike_186 : decode cL_areAlike 186 = .ok (.iload 5, 2) := by decide +kernel
theorem dL_areAlike_188 : decode cL_areAlike 188 = .ok (.invokestatic 76, 3) := by decide +kernel
theorem dL_areAlike_191 : decode cL_areAlike 191 = .ok (.aload_n 0, 1) := by decide +kernel
theorem dL_areAlike_192 : decode cL_areAlike 192 = .ok (.iconst 3, 1) := by decide +kernel
theorem dL_areAlike_193 : decode cL_areAlike 193 = .ok (.iload_n 2, 1) := by decide +kernel
theorem dL_areAlike_194 : decode cL_areAlike 194 = .ok (.iload 5, 2) := by decide +kernel
theorem dL_areAlike_196 : decode cL_areAlike 196 = .ok (.invokestatic 76, 3) := by decide +kernel
theorem dL_areAlike_199 : decode cL_areAlike 199 = .ok (.if_icmp .ne 7, 3) := by decide +kernel
theorem dL_areAlike_202 : decode cL_areAlike 202 = .ok (.iconst 1, 1) := by decide +kernel
theorem dL_areAlike_203 : decode cL_areAlike 203 = .ok (.goto 4, 3) := by decide +kernel
theorem dL_areAlike_206 : decode cL_areAlike 206 = .ok (.iconst 0, 1) := by decide +kernel
theorem dL_areAlike_207 : decode cL_areAlike 207 = .ok (.istore 4, 2) := by decide +kernel
theorem dL_areAlike_209 : decode cL_areAlike 209 = .ok (.iinc 5 1, 3) := by decide +kernel
theorem dL_areAlike_212 : decode cL_areAlike 212 = .ok (.goto (-86), 3) := by decide +kernel
theorem dL_areAlike_215 : decode cL_areAlike 215 = .ok (.iconst 0, 1) := by decide +kernel
theorem dL_areAlike_216 : decode cL_areAlike 216 = .ok (.istore 5, 2) := by decide +kernel
theorem dL_areAlike_218 : decode cL_areAlike 218 = .ok (.iload 5, 2) := by decide +kernel
theorem dL_areAlike_220 : decode cL_areAlike 220 = .ok (.bipush 12, 2) := by decide +kernel
theorem dL_areAlike_222 : decode cL_areAlike 222 = .ok (.if_icmp .ge 77, 3) := by decide +kernel
theorem dL_areAlike_225 : decode cL_areAlike 225 = .ok (.iload 4, 2) := by decide +kernel
theorem dL_areAlike_227 : decode cL_areAlike 227 = .ok (.ifCond .eq 72, 3) := by decide +kernel
theorem dL_areAlike_230 : decode cL_areAlike 230 = .ok (.iload_n 3, 1) := by decide +kernel
theorem dL_areAlike_231 : decode cL_areAlike 231 = .ok (.sipush 331, 3) := by decide +kernel
theorem dL_areAlike_234 : decode cL_areAlike 234 = .ok (.iload 5, 2) := by decide +kernel
theorem dL_areAlike_236 : decode cL_areAlike 236 = .ok (.imul, 1) := by decide +kernel
theorem dL_areAlike_237 : decode cL_areAlike 237 = .ok (.iadd, 1) := by decide +kernel
theorem dL_areAlike_238 : decode cL_areAlike 238 = .ok (.sipush 4096, 3) := by decide +kernel
theorem dL_areAlike_241 : decode cL_areAlike 241 = .ok (.irem, 1) := by decide +kernel
theorem dL_areAlike_242 : decode cL_areAlike 242 = .ok (.istore 6, 2) := by decide +kernel
theorem dL_areAlike_244 : decode cL_areAlike 244 = .ok (.iconst 0, 1) := by decide +kernel
theorem dL_areAlike_245 : decode cL_areAlike 245 = .ok (.istore 7, 2) := by decide +kernel
theorem dL_areAlike_247 : decode cL_areAlike 247 = .ok (.iload 7, 2) := by decide +kernel
theorem dL_areAlike_249 : decode cL_areAlike 249 = .ok (.bipush 7, 2) := by decide +kernel
theorem dL_areAlike_251 : decode cL_areAlike 251 = .ok (.if_icmp .ge 42, 3) := by decide +kernel
theorem dL_areAlike_254 : decode cL_areAlike 254 = .ok (.iload 4, 2) := by decide +kernel
theorem dL_areAlike_256 : decode cL_areAlike 256 = .ok (.ifCond .eq 28, 3) := by decide +kernel
theorem dL_areAlike_259 : decode cL_areAlike 259 = .ok (.aload_n 0, 1) := by decide +kernel
theorem dL_areAlike_260 : decode cL_areAlike 260 = .ok (.iload 7, 2) := by decide +kernel
theorem dL_areAlike_262 : decode cL_areAlike 262 = .ok (.iload_n 1, 1) := by decide +kernel
theorem dL_areAlike_263 : decode cL_areAlike 263 = .ok (.iload 6, 2) := by decide +kernel
theorem dL_areAlike_265 : decode cL_areAlike 265 = .ok (.invokestatic 86, 3) := by decide +kernel
theorem dL_areAlike_268 : decode cL_areAlike 268 = .ok (.aload_n 0, 1) := by decide +kernel
theorem dL_areAlike_269 : decode cL_areAlike 269 = .ok (.iload 7, 2) := by decide +kernel
theorem dL_areAlike_271 : decode cL_areAlike 271 = .ok (.iload_n 2, 1) := by decide +kernel
theorem dL_areAlike_272 : decode cL_areAlike 272 = .ok (.iload 6, 2) := by decide +kernel
theorem dL_areAlike_274 : decode cL_areAlike 274 = .ok (.invokestatic 86, 3) := by decide +kernel
theorem dL_areAlike_277 : decode cL_areAlike 277 = .ok (.if_icmp .ne 7, 3) := by decide +kernel
theorem dL_areAlike_280 : decode cL_areAlike 280 = .ok (.iconst 1, 1) := by decide +kernel
theorem dL_areAlike_281 : decode cL_areAlike 281 = .ok (.goto 4, 3) := by decide +kernel
theorem dL_areAlike_284 : decode cL_areAlike 284 = .ok (.iconst 0, 1) := by decide +kernel
theorem dL_areAlike_285 : decode cL_areAlike 285 = .ok (.istore 4, 2) := by decide +kernel
theorem dL_areAlike_287 : decode cL_areAlike 287 = .ok (.iinc 7 1, 3) := by decide +kernel
theorem dL_areAlike_290 : decode cL_areAlike 290 = .ok (.goto (-43), 3) := by decide +kernel
theorem dL_areAlike_293 : decode cL_areAlike 293 = .ok (.iinc 5 1, 3) := by decide +kernel
theorem dL_areAlike_296 : decode cL_areAlike 296 = .ok (.goto (-78), 3) := by decide +kernel
theorem dL_areAlike_299 : decode cL_areAlike 299 = .ok (.iload 4, 2) := by decide +kernel
theorem dL_areAlike_301 : decode cL_areAlike 301 = .ok (.ireturn, 1) := by decide +kernel
set_option maxRecDepth 20000 in
theorem ggL_numberOf_L_drawn : GoodIn wsL_numberOf wsL_drawn := goodIn_r _ [4, 5] (by decide +kernel) (by decide +kernel)
set_option maxRecDepth 20000 in
theorem gL_numberOf_L_drawn : GoodIn wsL_numberOf (va_wsS RL 89 yL_drawn wsL_drawn) := goodIn_app (goodIn_of _ (by decide +kernel)) ggL_numberOf_L_drawn
theorem dL_numberOf_0 : decode cL_numberOf 0 = .ok (.aload_n 0, 1) := by decide +kernel
theorem dL_numberOf_1 : decode cL_numberOf 1 = .ok (.iload_n 1, 1) := by decide +kernel
theorem dL_numberOf_2 : decode cL_numberOf 2 = .ok (.invokestatic 89, 3) := by decide +kernel
theorem dL_numberOf_5 : decode cL_numberOf 5 = .ok (.istore_n 2, 1) := by decide +kernel
theorem dL_numberOf_6 : decode cL_numberOf 6 = .ok (.iload_n 2, 1) := by decide +kernel
theorem dL_numberOf_7 : decode cL_numberOf 7 = .ok (.iconst 3, 1) := by decide +kernel
theorem dL_numberOf_8 : decode cL_numberOf 8 = .ok (.irem, 1) := by decide +kernel
theorem dL_numberOf_9 : decode cL_numberOf 9 = .ok (.ifCond .ne 13, 3) := by decide +kernel
theorem dL_numberOf_12 : decode cL_numberOf 12 = .ok (.iload_n 2, 1) := by decide +kernel
theorem dL_numberOf_13 : decode cL_numberOf 13 = .ok (.iconst 3, 1) := by decide +kernel
theorem dL_numberOf_14 : decode cL_numberOf 14 = .ok (.idiv, 1) := by decide +kernel
theorem dL_numberOf_15 : decode cL_numberOf 15 = .ok (.sipush 4096, 3) := by decide +kernel
theorem dL_numberOf_18 : decode cL_numberOf 18 = .ok (.irem, 1) := by decide +kernel
theorem dL_numberOf_19 : decode cL_numberOf 19 = .ok (.goto 32, 3) := by decide +kernel
theorem dL_numberOf_22 : decode cL_numberOf 22 = .ok (.iload_n 2, 1) := by decide +kernel
theorem dL_numberOf_23 : decode cL_numberOf 23 = .ok (.iconst 3, 1) := by decide +kernel
theorem dL_numberOf_24 : decode cL_numberOf 24 = .ok (.irem, 1) := by decide +kernel
theorem dL_numberOf_25 : decode cL_numberOf 25 = .ok (.iconst 1, 1) := by decide +kernel
theorem dL_numberOf_26 : decode cL_numberOf 26 = .ok (.if_icmp .ne 16, 3) := by decide +kernel
theorem dL_numberOf_29 : decode cL_numberOf 29 = .ok (.sipush 2000, 3) := by decide +kernel
theorem dL_numberOf_32 : decode cL_numberOf 32 = .ok (.iload_n 2, 1) := by decide +kernel
theorem dL_numberOf_33 : decode cL_numberOf 33 = .ok (.iconst 3, 1) := by decide +kernel
theorem dL_numberOf_34 : decode cL_numberOf 34 = .ok (.idiv, 1) := by decide +kernel
theorem dL_numberOf_35 : decode cL_numberOf 35 = .ok (.bipush 70, 2) := by decide +kernel
theorem dL_numberOf_37 : decode cL_numberOf 37 = .ok (.irem, 1) := by decide +kernel
theorem dL_numberOf_38 : decode cL_numberOf 38 = .ok (.iadd, 1) := by decide +kernel
theorem dL_numberOf_39 : decode cL_numberOf 39 = .ok (.goto 12, 3) := by decide +kernel
theorem dL_numberOf_42 : decode cL_numberOf 42 = .ok (.iload_n 2, 1) := by decide +kernel
theorem dL_numberOf_43 : decode cL_numberOf 43 = .ok (.iconst 3, 1) := by decide +kernel
theorem dL_numberOf_44 : decode cL_numberOf 44 = .ok (.idiv, 1) := by decide +kernel
theorem dL_numberOf_45 : decode cL_numberOf 45 = .ok (.bipush 20, 2) := by decide +kernel
theorem dL_numberOf_47 : decode cL_numberOf 47 = .ok (.irem, 1) := by decide +kernel
theorem dL_numberOf_48 : decode cL_numberOf 48 = .ok (.bipush 64, 2) := by decide +kernel
theorem dL_numberOf_50 : decode cL_numberOf 50 = .ok (.imul, 1) := by decide +kernel
theorem dL_numberOf_51 : decode cL_numberOf 51 = .ok (.ireturn, 1) := by decide +kernel
set_option maxRecDepth 20000 in
theorem ggL_law_X7_init : GoodIn wsL_law wsX7_init := goodIn_r _ [5, 6, 7, 8, 9, 10, 11, 12, 13, 14, 15, 16, 17, 18, 19, 20, 21, 22, 23, 24, 25, 26, 27, 28, 29, 30, 31, 32, 33, 34, 35, 36, 37, 38, 39, 40, 41, 42, 43, 44, 45, 46, 47, 48, 49, 50, 51, 52, 53, 54, 55, 56, 57, 58, 59, 60, 61, 62, 63, 64, 65, 66, 67, 68, 406, 407, 408, 403, 404, 405, 409, 410, 411, 412, 413, 414, 415] (by decide +kernel) (by decide +kernel)
set_option maxRecDepth 20000 in
theorem gL_law_X7_init : GoodIn wsL_law (wsX7_init) := ggL_law_X7_init
set_option maxRecDepth 20000 in
theorem ggL_law_L_drawn : GoodIn wsL_law wsL_drawn := goodIn_r _ [72, 73] (by decide +kernel) (by decide +kernel)
set_option maxRecDepth 20000 in
theorem gL_law_L_drawn : GoodIn wsL_law (va_wsS RL 89 yL_drawn wsL_drawn) := goodIn_app (goodIn_of _ (by decide +kernel)) ggL_law_L_drawn
set_option maxRecDepth 20000 in
theorem ggL_law_L_numberOf : GoodIn wsL_law wsL_numberOf := goodIn_r _ [76, 69, 70, 71, 72, 73] (by decide +kernel) (by decide +kernel)
set_option maxRecDepth 20000 in
theorem gL_law_L_numberOf : GoodIn wsL_law (va_wsS RL 94 yL_numberOf wsL_numberOf) := goodIn_app (goodIn_of _ (by decide +kernel)) ggL_law_L_numberOf
set_option maxRecDepth 20000 in
theorem ggL_law_L_changed : GoodIn wsL_law wsL_changed := goodIn_ca (goodIn_ca (goodIn_r _ [79, 80, 81, 82, 83, 84, 2, 85, 86, 87, 88, 89, 90, 91, 12, 13, 14, 92, 93, 94, 95, 96, 97, 98, 99, 11, 100, 29, 21, 25, 101, 102, 103, 28, 104, 58, 105, 106, 107, 42, 108, 109, 110, 111, 112, 52, 65, 66, 67, 68, 113, 114, 115, 20, 116, 36, 117, 49, 50, 51, 118, 119, 120, 121, 122, 123, 124, 34, 125, 126, 127, 128, 129, 35, 130, 131, 132, 133, 24, 134, 43, 135, 136, 137, 138, 62, 63, 64, 139, 140, 141, 142, 61, 143, 144, 145, 146, 59, 147, 148, 149, 150, 151, 152, 153, 154, 155, 156, 157, 158, 159, 160, 161, 162, 163, 164, 165, 166, 167, 168, 169, 170, 171, 172, 173, 174, 175, 176, 177, 178, 179, 180, 181, 182, 183, 184, 185, 186, 187, 188, 189, 190, 191, 192, 193, 194, 195, 196, 197, 198, 199, 200, 201, 202, 203, 204, 205, 206, 207, 208, 209, 210, 211, 212, 213, 214, 215, 216, 217, 218, 219, 220, 221, 222, 223, 224, 225, 226, 403, 404, 405, 406, 407, 408, 413, 414, 415, 409, 410, 411, 412] (by decide +kernel) (by decide +kernel)) (goodIn_sub (fun _ h => List.mem_append_left _ (List.mem_append_left _ (List.mem_append_right _ h))) (by decide +kernel))) (goodIn_sub (fun _ h => List.mem_append_left _ (List.mem_append_right _ h)) (by decide +kernel))
set_option maxRecDepth 20000 in
theorem gL_law_L_changed : GoodIn wsL_law (va_wsS RL 97 yL_changed wsL_changed) := goodIn_app (goodIn_of _ (by decide +kernel)) ggL_law_L_changed
set_option maxRecDepth 20000 in
theorem ggL_law_L_by : GoodIn wsL_law wsL_by := goodIn_ca (goodIn_ca (goodIn_r _ [229, 80, 81, 230, 231, 232, 2, 233, 86, 87, 88, 89, 90, 91, 12, 13, 14, 92, 93, 94, 95, 96, 234, 102, 103, 28, 104, 58, 105, 106, 107, 42, 108, 109, 110, 111, 112, 52, 65, 66, 67, 68, 235, 236, 237, 238, 239, 240, 241, 20, 242, 36, 35, 243, 244, 245, 246, 247, 248, 249, 170, 153, 154, 155, 156, 157, 158, 250, 251, 252, 253, 121, 122, 123, 124, 34, 254, 255, 256, 257, 258, 259, 260, 261, 262, 168, 169, 204, 205, 206, 207, 203, 263, 264, 265, 266, 267, 268, 269, 270, 271, 272, 273, 274, 275, 276, 277, 278, 279, 280, 180, 181, 182, 147, 148, 149, 150, 151, 119, 50, 120, 152, 281, 282, 283, 284, 285, 286, 287, 288, 289, 290, 291, 292, 293, 294, 295, 296, 297, 298, 24, 299, 43, 300, 301, 302, 135, 136, 137, 217, 303, 304, 305, 306, 7, 8, 307, 308, 309, 310, 311, 312, 406, 407, 408, 403, 404, 405, 413, 414, 415, 409, 410, 411, 416, 417, 412] (by decide +kernel) (by decide +kernel)) (goodIn_sub (fun _ h => List.mem_append_left _ (List.mem_append_left _ (List.mem_append_right _ h))) (by decide +kernel))) (goodIn_sub (fun _ h => List.mem_append_left _ (List.mem_append_right _ h)) (by decide +kernel))
set_option maxRecDepth 20000 in
theorem gL_law_L_by : GoodIn wsL_law (va_wsS RL 86 yL_by wsL_by) := goodIn_app (goodIn_of _ (by decide +kernel)) ggL_law_L_by
set_option maxRecDepth 20000 in
theorem ggL_law_L_areAlike : GoodIn wsL_law wsL_areAlike := goodIn_ca (goodIn_ca (goodIn_r _ [315, 316, 317, 71, 318, 80, 319, 320, 321, 2, 322, 86, 87, 88, 89, 90, 91, 12, 13, 14, 323, 324, 325, 28, 326, 58, 147, 148, 149, 42, 150, 52, 151, 119, 50, 120, 109, 110, 111, 112, 65, 66, 67, 68, 152, 153, 154, 155, 156, 157, 158, 327, 328, 329, 330, 184, 185, 186, 163, 164, 165, 166, 167, 168, 169, 170, 331, 332, 333, 334, 335, 122, 123, 20, 124, 34, 336, 337, 338, 339, 340, 341, 248, 249, 342, 343, 344, 345, 346, 347, 348, 24, 349, 43, 135, 136, 137, 350, 351, 352, 353, 354, 355, 224, 225, 226, 59, 356, 160, 161, 162, 357, 176, 177, 178, 358, 359, 360, 361, 362, 363, 364, 365, 366, 367, 368, 369, 36, 35, 370, 371, 372, 373, 121, 374, 375, 376, 377, 378, 379, 380, 227, 228, 229, 81, 230, 231, 232, 233, 92, 93, 94, 95, 96, 234, 102, 103, 104, 105, 106, 107, 108, 235, 236, 237, 238, 239, 240, 241, 242, 243, 244, 245, 246, 247, 250, 251, 252, 253, 254, 255, 256, 257, 258, 259, 260, 261, 262, 204, 205, 206, 207, 203, 263, 264, 265, 266, 267, 268, 269, 270, 271, 272, 273, 274, 275, 276, 277, 278, 279, 280, 180, 181, 182, 281, 282, 283, 284, 285, 286, 287, 288, 289, 290, 291, 292, 293, 294, 295, 296, 297, 298, 299, 300, 301, 302, 217, 303, 304, 305, 306, 7, 8, 307, 308, 309, 310, 311, 312, 406, 407, 408, 403, 404, 405, 413, 414, 415, 409, 410, 411, 412, 416, 417] (by decide +kernel) (by decide +kernel)) (goodIn_sub (fun _ h => List.mem_append_left _ (List.mem_append_left _ (List.mem_append_right _ h))) (by decide +kernel))) (goodIn_sub (fun _ h => List.mem_append_left _ (List.mem_append_right _ h)) (by decide +kernel))
set_option maxRecDepth 20000 in
theorem gL_law_L_areAlike : GoodIn wsL_law (va_wsS RL 101 yL_areAlike wsL_areAlike) := goodIn_app (goodIn_of _ (by decide +kernel)) ggL_law_L_areAlike
set_option maxRecDepth 20000 in
theorem ggL_law_L_at : GoodIn wsL_law wsL_at := goodIn_ca (goodIn_r _ [318, 80, 319, 320, 321, 2, 322, 86, 87, 88, 89, 90, 91, 12, 13, 14, 323, 324, 325, 28, 326, 58, 147, 148, 149, 42, 150, 52, 151, 119, 50, 120, 109, 110, 111, 112, 65, 66, 67, 68, 152, 153, 154, 155, 156, 157, 158, 327, 328, 329, 330, 184, 185, 186, 163, 164, 165, 166, 167, 168, 169, 170, 331, 332, 333, 334, 335, 122, 123, 20, 124, 34, 336, 337, 338, 339, 340, 341, 248, 249, 342, 343, 344, 345, 346, 347, 348, 24, 349, 43, 135, 136, 137, 350, 351, 352, 353, 354, 355, 224, 225, 226, 59, 356, 160, 161, 162, 357, 176, 177, 178, 358, 359, 360, 361, 362, 363, 364, 365, 366, 367, 368, 369, 36, 35, 370, 371, 372, 373, 121, 374, 375, 376, 377, 406, 407, 408, 403, 404, 405, 413, 414, 415, 409, 410, 411, 412] (by decide +kernel) (by decide +kernel)) (goodIn_sub (fun _ h => List.mem_append_left _ (List.mem_append_left _ (List.mem_append_right _ h))) (by decide +kernel))
set_option maxRecDepth 20000 in
theorem gL_law_L_at : GoodIn wsL_law (va_wsS RL 76 yL_at wsL_at) := goodIn_app (goodIn_of _ (by decide +kernel)) ggL_law_L_at
set_option maxRecDepth 20000 in
theorem ggL_law_L_polled : GoodIn wsL_law wsL_polled := goodIn_ca (goodIn_ca (goodIn_r _ [383, 80, 384, 385, 386, 387, 2, 388, 86, 87, 88, 89, 90, 91, 12, 13, 14, 389, 390, 391, 20, 392, 36, 393, 394, 395, 396, 397, 191, 192, 193, 11, 194, 29, 21, 25, 101, 102, 103, 28, 104, 58, 105, 106, 107, 42, 108, 109, 110, 111, 112, 52, 65, 66, 67, 68, 195, 196, 197, 198, 130, 199, 200, 201, 202, 35, 203, 168, 169, 170, 153, 154, 155, 156, 157, 158, 204, 205, 206, 207, 121, 122, 123, 124, 34, 125, 126, 127, 128, 129, 208, 209, 210, 24, 211, 43, 135, 136, 137, 212, 213, 214, 215, 216, 217, 218, 219, 220, 221, 59, 222, 143, 144, 145, 146, 147, 148, 149, 150, 151, 119, 50, 120, 152, 159, 160, 161, 162, 163, 164, 165, 166, 167, 175, 176, 177, 178, 223, 224, 225, 226, 171, 172, 173, 174, 179, 180, 181, 182, 183, 184, 185, 186, 61, 62, 63, 64, 398, 399, 400, 401, 402, 244, 245, 246, 247, 248, 249, 250, 251, 252, 253, 406, 407, 408, 403, 404, 405, 409, 410, 411, 413, 414, 415, 412] (by decide +kernel) (by decide +kernel)) (goodIn_sub (fun _ h => List.mem_append_left _ (List.mem_append_left _ (List.mem_append_right _ h))) (by decide +kernel))) (goodIn_sub (fun _ h => List.mem_append_right _ h) (by decide +kernel))
set_option maxRecDepth 20000 in
theorem gL_law_L_polled : GoodIn wsL_law (va_wsS RL 105 yL_polled wsL_polled) := goodIn_app (goodIn_of _ (by decide +kernel)) ggL_law_L_polled
