set_option maxRecDepth 20000 in
theorem gX1_seekNearest_X5_isAbove : GoodIn wsX1_seekNearest (wsV RX1 103 RX5 yX5_isAbove wsX5_isAbove) := goodIn_app (goodIn_of _ (by decide +kernel)) ggX1_seekNearest_X5_isAbove
set_option maxRecDepth 20000 in
theorem ggX1_seekNearest_X5_low : GoodIn wsX1_seekNearest wsX5_low := goodIn_ca (goodIn_r _ [87, 32, 33, 34, 11, 35, 13, 36, 23, 139, 140] (by decide +kernel) (by decide +kernel)) (goodIn_sub (fun _ h => List.mem_cons_of_mem _ (List.mem_append_right _ h)) (by decide +kernel))
set_option maxRecDepth 20000 in
theorem gX1_seekNearest_X5_low : GoodIn wsX1_seekNearest (wsV RX1 107 RX5 yX5_low wsX5_low) := goodIn_app (goodIn_of _ (by decide +kernel)) ggX1_seekNearest_X5_low
set_option maxRecDepth 20000 in
theorem ggX1_seekNearest_X1_choose : GoodIn wsX1_seekNearest wsX1_choose := goodIn_ca (goodIn_r _ [92, 18, 7, 93, 94, 95, 96, 97, 5, 98, 99, 100, 101, 102, 103, 104, 105, 11, 106, 65, 66, 67, 68, 36, 69, 70, 71, 72, 57, 58, 59, 60, 73, 74, 75, 13, 107, 108, 109, 110, 24, 25, 26, 27, 111, 112, 113, 114, 32, 33, 34, 35, 23, 115, 116, 117, 118, 119, 29, 30, 31, 120, 121, 122, 123, 124, 125, 126, 127, 128, 129, 130, 131, 132, 133, 134, 135, 136, 137, 138, 139, 140] (by decide +kernel) (by decide +kernel)) (goodIn_sub (fun _ h => List.mem_cons_of_mem _ (List.mem_append_right _ h)) (by decide +kernel))
set_option maxRecDepth 20000 in
theorem gX1_seekNearest_X1_choose : GoodIn wsX1_seekNearest (wsV RX1 111 RX1 yX1_choose wsX1_choose) := goodIn_app (goodIn_of _ (by decide +kernel)) ggX1_seekNearest_X1_choose
theorem dX1_seekNearest_0 : decode cX1_seekNearest 0 = .ok (.lconst 0, 1) := by decide +kernel
theorem dX1_seekNearest_1 : decode cX1_seekNearest 1 = .ok (.lstore 4, 2) := by decide +kernel
theorem dX1_seekNearest_3 : decode cX1_seekNearest 3 = .ok (.lconst 1, 1) := by decide +kernel
theorem dX1_seekNearest_4 : decode cX1_seekNearest 4 = .ok (.lstore 6, 2) := by decide +kernel
theorem dX1_seekNearest_6 : decode cX1_seekNearest 6 = .ok (.lconst 1, 1) := by decide +kernel
theorem dX1_seekNearest_7 : decode cX1_seekNearest 7 = .ok (.lstore 8, 2) := by decide +kernel
theorem dX1_seekNearest_9 : decode cX1_seekNearest 9 = .ok (.lconst 0, 1) := by decide +kernel
theorem dX1_seekNearest_10 : decode cX1_seekNearest 10 = .ok (.lstore 10, 2) := by decide +kernel
theorem dX1_seekNearest_12 : decode cX1_seekNearest 12 = .ok (.lconst 0, 1) := by decide +kernel
theorem dX1_seekNearest_13 : decode cX1_seekNearest 13 = .ok (.lstore 12, 2) := by decide +kernel
theorem dX1_seekNearest_15 : decode cX1_seekNearest 15 = .ok (.iconst 0, 1) := by decide +kernel
theorem dX1_seekNearest_16 : decode cX1_seekNearest 16 = .ok (.istore 14, 2) := by decide +kernel
theorem dX1_seekNearest_18 : decode cX1_seekNearest 18 = .ok (.iload 14, 2) := by decide +kernel
theorem dX1_seekNearest_20 : decode cX1_seekNearest 20 = .ok (.sipush 4000, 3) := by decide +kernel
theorem dX1_seekNearest_23 : decode cX1_seekNearest 23 = .ok (.if_icmp .ge 97, 3) := by decide +kernel
theorem dX1_seekNearest_26 : decode cX1_seekNearest 26 = .ok (.aload_n 0, 1) := by decide +kernel
theorem dX1_seekNearest_27 : decode cX1_seekNearest 27 = .ok (.invokevirtual 77, 3) := by decide +kernel
theorem dX1_seekNearest_30 : decode cX1_seekNearest 30 = .ok (.ifCond .eq 90, 3) := by decide +kernel
theorem dX1_seekNearest_33 : decode cX1_seekNearest 33 = .ok (.lload 6, 2) := by decide +kernel
theorem dX1_seekNearest_35 : decode cX1_seekNearest 35 = .ok (.lconst 0, 1) := by decide +kernel
theorem dX1_seekNearest_36 : decode cX1_seekNearest 36 = .ok (.lcmp, 1) := by decide +kernel
theorem dX1_seekNearest_37 : decode cX1_seekNearest 37 = .ok (.ifCond .le 83, 3) := by decide +kernel
theorem dX1_seekNearest_40 : decode cX1_seekNearest 40 = .ok (.aload_n 0, 1) := by decide +kernel
theorem dX1_seekNearest_41 : decode cX1_seekNearest 41 = .ok (.invokevirtual 80, 3) := by decide +kernel
theorem dX1_seekNearest_44 : decode cX1_seekNearest 44 = .ok (.lload_n 2, 1) := by decide +kernel
theorem dX1_seekNearest_45 : decode cX1_seekNearest 45 = .ok (.lload 10, 2) := by decide +kernel
theorem dX1_seekNearest_47 : decode cX1_seekNearest 47 = .ok (.lsub, 1) := by decide +kernel
theorem dX1_seekNearest_48 : decode cX1_seekNearest 48 = .ok (.lload 6, 2) := by decide +kernel
theorem dX1_seekNearest_50 : decode cX1_seekNearest 50 = .ok (.ldiv, 1) := by decide +kernel
theorem dX1_seekNearest_51 : decode cX1_seekNearest 51 = .ok (.lstore 12, 2) := by decide +kernel
theorem dX1_seekNearest_53 : decode cX1_seekNearest 53 = .ok (.aload_n 0, 1) := by decide +kernel
theorem dX1_seekNearest_54 : decode cX1_seekNearest 54 = .ok (.getfield 23, 3) := by decide +kernel
theorem dX1_seekNearest_57 : decode cX1_seekNearest 57 = .ok (.lload 12, 2) := by decide +kernel
theorem dX1_seekNearest_59 : decode cX1_seekNearest 59 = .ok (.invokevirtual 103, 3) := by decide +kernel
theorem dX1_seekNearest_62 : decode cX1_seekNearest 62 = .ok (.ifCond .eq 6, 3) := by decide +kernel
theorem dX1_seekNearest_65 : decode cX1_seekNearest 65 = .ok (.goto 55, 3) := by decide +kernel
theorem dX1_seekNearest_68 : decode cX1_seekNearest 68 = .ok (.aload_n 0, 1) := by decide +kernel
theorem dX1_seekNearest_69 : decode cX1_seekNearest 69 = .ok (.getfield 23, 3) := by decide +kernel
theorem dX1_seekNearest_72 : decode cX1_seekNearest 72 = .ok (.invokevirtual 107, 3) := by decide +kernel
theorem dX1_seekNearest_75 : decode cX1_seekNearest 75 = .ok (.lload 4, 2) := by decide +kernel
theorem dX1_seekNearest_77 : decode cX1_seekNearest 77 = .ok (.lmul, 1) := by decide +kernel
theorem dX1_seekNearest_78 : decode cX1_seekNearest 78 = .ok (.lload 8, 2) := by decide +kernel
theorem dX1_seekNearest_80 : decode cX1_seekNearest 80 = .ok (.ladd, 1) := by decide +kernel
theorem dX1_seekNearest_81 : decode cX1_seekNearest 81 = .ok (.lstore 15, 2) := by decide +kernel
theorem dX1_seekNearest_83 : decode cX1_seekNearest 83 = .ok (.aload_n 0, 1) := by decide +kernel
theorem dX1_seekNearest_84 : decode cX1_seekNearest 84 = .ok (.getfield 23, 3) := by decide +kernel
theorem dX1_seekNearest_87 : decode cX1_seekNearest 87 = .ok (.invokevirtual 107, 3) := by decide +kernel
theorem dX1_seekNearest_90 : decode cX1_seekNearest 90 = .ok (.lload 6, 2) := by decide +kernel
theorem dX1_seekNearest_92 : decode cX1_seekNearest 92 = .ok (.lmul, 1) := by decide +kernel
theorem dX1_seekNearest_93 : decode cX1_seekNearest 93 = .ok (.lload 10, 2) := by decide +kernel
theorem dX1_seekNearest_95 : decode cX1_seekNearest 95 = .ok (.ladd, 1) := by decide +kernel
theorem dX1_seekNearest_96 : decode cX1_seekNearest 96 = .ok (.lstore 17, 2) := by decide +kernel
theorem dX1_seekNearest_98 : decode cX1_seekNearest 98 = .ok (.lload 4, 2) := by decide +kernel
theorem dX1_seekNearest_100 : decode cX1_seekNearest 100 = .ok (.lstore 8, 2) := by decide +kernel
theorem dX1_seekNearest_102 : decode cX1_seekNearest 102 = .ok (.lload 6, 2) := by decide +kernel
theorem dX1_seekNearest_104 : decode cX1_seekNearest 104 = .ok (.lstore 10, 2) := by decide +kernel
theorem dX1_seekNearest_106 : decode cX1_seekNearest 106 = .ok (.lload 15, 2) := by decide +kernel
theorem dX1_seekNearest_108 : decode cX1_seekNearest 108 = .ok (.lstore 4, 2) := by decide +kernel
theorem dX1_seekNearest_110 : decode cX1_seekNearest 110 = .ok (.lload 17, 2) := by decide +kernel
theorem dX1_seekNearest_112 : decode cX1_seekNearest 112 = .ok (.lstore 6, 2) := by decide +kernel
theorem dX1_seekNearest_114 : decode cX1_seekNearest 114 = .ok (.iinc 14 1, 3) := by decide +kernel
theorem dX1_seekNearest_117 : decode cX1_seekNearest 117 = .ok (.goto (-99), 3) := by decide +kernel
theorem dX1_seekNearest_120 : decode cX1_seekNearest 120 = .ok (.aload_n 0, 1) := by decide +kernel
theorem dX1_seekNearest_121 : decode cX1_seekNearest 121 = .ok (.aload_n 1, 1) := by decide +kernel
theorem dX1_seekNearest_122 : decode cX1_seekNearest 122 = .ok (.lload 4, 2) := by decide +kernel
theorem dX1_seekNearest_124 : decode cX1_seekNearest 124 = .ok (.lload 6, 2) := by decide +kernel
theorem dX1_seekNearest_126 : decode cX1_seekNearest 126 = .ok (.lload 8, 2) := by decide +kernel
theorem dX1_seekNearest_128 : decode cX1_seekNearest 128 = .ok (.lload 12, 2) := by decide +kernel
theorem dX1_seekNearest_130 : decode cX1_seekNearest 130 = .ok (.lload 4, 2) := by decide +kernel
theorem dX1_seekNearest_132 : decode cX1_seekNearest 132 = .ok (.lmul, 1) := by decide +kernel
theorem dX1_seekNearest_133 : decode cX1_seekNearest 133 = .ok (.ladd, 1) := by decide +kernel
theorem dX1_seekNearest_134 : decode cX1_seekNearest 134 = .ok (.lload 10, 2) := by decide +kernel
theorem dX1_seekNearest_136 : decode cX1_seekNearest 136 = .ok (.lload 12, 2) := by decide +kernel
theorem dX1_seekNearest_138 : decode cX1_seekNearest 138 = .ok (.lload 6, 2) := by decide +kernel
theorem dX1_seekNearest_140 : decode cX1_seekNearest 140 = .ok (.lmul, 1) := by decide +kernel
theorem dX1_seekNearest_141 : decode cX1_seekNearest 141 = .ok (.ladd, 1) := by decide +kernel
theorem dX1_seekNearest_142 : decode cX1_seekNearest 142 = .ok (.invokevirtual 111, 3) := by decide +kernel
theorem dX1_seekNearest_145 : decode cX1_seekNearest 145 = .ok (.return_, 1) := by decide +kernel
set_option maxRecDepth 20000 in
theorem ggX1_choose_X1_gap : GoodIn wsX1_choose wsX1_gap := goodIn_ca (goodIn_r _ [9, 10, 11, 12, 13, 14, 15, 16, 17, 18, 19, 20, 21, 22, 23, 24, 25, 26, 27, 28, 29, 30, 31, 32, 33, 34, 35, 36, 37, 38, 39, 40, 41, 42, 43, 44, 45, 46, 47, 48, 49, 50, 51, 52, 53, 54, 55, 56, 57, 58, 59, 60, 61, 62, 63, 64, 69, 70, 71, 72, 73, 74, 75, 76, 77, 78, 79, 80, 81] (by decide +kernel) (by decide +kernel)) (goodIn_sub (fun _ h => List.mem_cons_of_mem _ (List.mem_append_right _ h)) (by decide +kernel))
set_option maxRecDepth 20000 in
theorem gX1_choose_X1_gap : GoodIn wsX1_choose (wsV RX1 115 RX1 yX1_gap wsX1_gap) := goodIn_app (goodIn_of _ (by decide +kernel)) ggX1_choose_X1_gap
set_option maxRecDepth 20000 in
theorem ggX1_choose_X5_order : GoodIn wsX1_choose wsX5_order := goodIn_ca (goodIn_r _ [60, 35, 48, 49, 50, 17, 51, 23, 52, 80, 81] (by decide +kernel) (by decide +kernel)) (goodIn_sub (fun _ h => List.mem_cons_of_mem _ (List.mem_append_right _ h)) (by decide +kernel))
set_option maxRecDepth 20000 in
theorem gX1_choose_X5_order : GoodIn wsX1_choose (wsV RX1 119 RX5 yX5_order wsX5_order) := goodIn_app (goodIn_of _ (by decide +kernel)) ggX1_choose_X5_order
set_option maxRecDepth 20000 in
theorem ggX1_choose_J13_compare_74951 : GoodIn wsX1_choose wsJ13_compare_74951 := goodIn_r _ [68] (by decide +kernel) (by decide +kernel)
set_option maxRecDepth 20000 in
theorem gX1_choose_J13_compare_74951 : GoodIn wsX1_choose (va_wsS RX1 123 yJ13_compare_74951 wsJ13_compare_74951) := goodIn_app (goodIn_of _ (by decide +kernel)) ggX1_choose_J13_compare_74951
set_option maxRecDepth 20000 in
theorem ggX1_choose_X5_become : GoodIn wsX1_choose wsX5_become := goodIn_ca (goodIn_r _ [18, 19, 20, 21, 17, 22, 23, 24, 25, 26, 27, 28, 29, 30, 31, 32, 33, 34, 35, 80, 81] (by decide +kernel) (by decide +kernel)) (goodIn_sub (fun _ h => List.mem_cons_of_mem _ (List.mem_append_right _ h)) (by decide +kernel))
set_option maxRecDepth 20000 in
theorem gX1_choose_X5_become : GoodIn wsX1_choose (wsV RX1 86 RX5 yX5_become wsX5_become) := goodIn_app (goodIn_of _ (by decide +kernel)) ggX1_choose_X5_become
theorem dX1_choose_0 : decode cX1_choose 0 = .ok (.aload_n 0, 1) := by decide +kernel
theorem dX1_choose_1 : decode cX1_choose 1 = .ok (.aload_n 0, 1) := by decide +kernel
theorem dX1_choose_2 : decode cX1_choose 2 = .ok (.getfield 26, 3) := by decide +kernel
theorem dX1_choose_5 : decode cX1_choose 5 = .ok (.aload_n 1, 1) := by decide +kernel
theorem dX1_choose_6 : decode cX1_choose 6 = .ok (.lload_n 2, 1) := by decide +kernel
theorem dX1_choose_7 : decode cX1_choose 7 = .ok (.lload 4, 2) := by decide +kernel
theorem dX1_choose_9 : decode cX1_choose 9 = .ok (.lload 8, 2) := by decide +kernel
theorem dX1_choose_11 : decode cX1_choose 11 = .ok (.invokevirtual 115, 3) := by decide +kernel
theorem dX1_choose_14 : decode cX1_choose 14 = .ok (.aload_n 0, 1) := by decide +kernel
theorem dX1_choose_15 : decode cX1_choose 15 = .ok (.aload_n 0, 1) := by decide +kernel
theorem dX1_choose_16 : decode cX1_choose 16 = .ok (.getfield 29, 3) := by decide +kernel
theorem dX1_choose_19 : decode cX1_choose 19 = .ok (.aload_n 1, 1) := by decide +kernel
theorem dX1_choose_20 : decode cX1_choose 20 = .ok (.lload 6, 2) := by decide +kernel
theorem dX1_choose_22 : decode cX1_choose 22 = .ok (.lload 8, 2) := by decide +kernel
theorem dX1_choose_24 : decode cX1_choose 24 = .ok (.lload 4, 2) := by decide +kernel
theorem dX1_choose_26 : decode cX1_choose 26 = .ok (.invokevirtual 115, 3) := by decide +kernel
theorem dX1_choose_29 : decode cX1_choose 29 = .ok (.aload_n 0, 1) := by decide +kernel
theorem dX1_choose_30 : decode cX1_choose 30 = .ok (.getfield 26, 3) := by decide +kernel
theorem dX1_choose_33 : decode cX1_choose 33 = .ok (.aload_n 0, 1) := by decide +kernel
theorem dX1_choose_34 : decode cX1_choose 34 = .ok (.getfield 29, 3) := by decide +kernel
theorem dX1_choose_37 : decode cX1_choose 37 = .ok (.invokevirtual 119, 3) := by decide +kernel
theorem dX1_choose_40 : decode cX1_choose 40 = .ok (.istore 10, 2) := by decide +kernel
theorem dX1_choose_42 : decode cX1_choose 42 = .ok (.iload 10, 2) := by decide +kernel
theorem dX1_choose_44 : decode cX1_choose 44 = .ok (.ifCond .ne 29, 3) := by decide +kernel
theorem dX1_choose_47 : decode cX1_choose 47 = .ok (.lload 4, 2) := by decide +kernel
theorem dX1_choose_49 : decode cX1_choose 49 = .ok (.lload 8, 2) := by decide +kernel
theorem dX1_choose_51 : decode cX1_choose 51 = .ok (.lcmp, 1) := by decide +kernel
theorem dX1_choose_52 : decode cX1_choose 52 = .ok (.ifCond .ne 12, 3) := by decide +kernel
theorem dX1_choose_55 : decode cX1_choose 55 = .ok (.lload_n 2, 1) := by decide +kernel
theorem dX1_choose_56 : decode cX1_choose 56 = .ok (.lload 6, 2) := by decide +kernel
theorem dX1_choose_58 : decode cX1_choose 58 = .ok (.invokestatic 123, 3) := by decide +kernel
theorem dX1_choose_61 : decode cX1_choose 61 = .ok (.goto 10, 3) := by decide +kernel
theorem dX1_choose_64 : decode cX1_choose 64 = .ok (.lload 4, 2) := by decide +kernel
theorem dX1_choose_66 : decode cX1_choose 66 = .ok (.lload 8, 2) := by decide +kernel
theorem dX1_choose_68 : decode cX1_choose 68 = .ok (.invokestatic 123, 3) := by decide +kernel
theorem dX1_choose_71 : decode cX1_choose 71 = .ok (.istore 10, 2) := by decide +kernel
theorem dX1_choose_73 : decode cX1_choose 73 = .ok (.aload_n 0, 1) := by decide +kernel
theorem dX1_choose_74 : decode cX1_choose 74 = .ok (.getfield 32, 3) := by decide +kernel
theorem dX1_choose_77 : decode cX1_choose 77 = .ok (.iload 10, 2) := by decide +kernel
theorem dX1_choose_79 : decode cX1_choose 79 = .ok (.ifCond .gt 7, 3) := by decide +kernel
theorem dX1_choose_82 : decode cX1_choose 82 = .ok (.lload_n 2, 1) := by decide +kernel
theorem dX1_choose_83 : decode cX1_choose 83 = .ok (.goto 5, 3) := by decide +kernel
theorem dX1_choose_86 : decode cX1_choose 86 = .ok (.lload 6, 2) := by decide +kernel
theorem dX1_choose_88 : decode cX1_choose 88 = .ok (.invokevirtual 86, 3) := by decide +kernel
theorem dX1_choose_91 : decode cX1_choose 91 = .ok (.aload_n 0, 1) := by decide +kernel
theorem dX1_choose_92 : decode cX1_choose 92 = .ok (.getfield 35, 3) := by decide +kernel
theorem dX1_choose_95 : decode cX1_choose 95 = .ok (.iload 10, 2) := by decide +kernel
theorem dX1_choose_97 : decode cX1_choose 97 = .ok (.ifCond .gt 8, 3) := by decide +kernel
theorem dX1_choose_100 : decode cX1_choose 100 = .ok (.lload 4, 2) := by decide +kernel
theorem dX1_choose_102 : decode cX1_choose 102 = .ok (.goto 5, 3) := by decide +kernel
theorem dX1_choose_105 : decode cX1_choose 105 = .ok (.lload 8, 2) := by decide +kernel
theorem dX1_choose_107 : decode cX1_choose 107 = .ok (.invokevirtual 86, 3) := by decide +kernel
theorem dX1_choose_110 : decode cX1_choose 110 = .ok (.return_, 1) := by decide +kernel
set_option maxRecDepth 20000 in
theorem ggX1_gap_X5_become : GoodIn wsX1_gap wsX5_become := goodIn_ca (goodIn_r _ [9, 10, 11, 12, 8, 13, 14, 15, 16, 17, 18, 19, 20, 21, 22, 23, 24, 25, 26, 67, 68] (by decide +kernel) (by decide +kernel)) (goodIn_sub (fun _ h => List.mem_cons_of_mem _ (List.mem_append_right _ h)) (by decide +kernel))
set_option maxRecDepth 20000 in
theorem gX1_gap_X5_become : GoodIn wsX1_gap (wsV RX1 86 RX5 yX5_become wsX5_become) := goodIn_app (goodIn_of _ (by decide +kernel)) ggX1_gap_X5_become
set_option maxRecDepth 20000 in
theorem ggX1_gap_X5_multiply : GoodIn wsX1_gap wsX5_multiply := goodIn_ca (goodIn_r _ [30, 31, 32, 33, 8, 34, 26, 35, 36, 37, 38, 23, 24, 21, 25, 14, 19, 20, 22, 10, 11, 12, 13, 39, 40, 41, 42, 43, 44, 45, 46, 47, 15, 16, 17, 18, 67, 68] (by decide +kernel) (by decide +kernel)) (goodIn_sub (fun _ h => List.mem_cons_of_mem _ (List.mem_append_right _ h)) (by decide +kernel))
set_option maxRecDepth 20000 in
theorem gX1_gap_X5_multiply : GoodIn wsX1_gap (wsV RX1 96 RX5 yX5_multiply wsX5_multiply) := goodIn_app (goodIn_of _ (by decide +kernel)) ggX1_gap_X5_multiply
set_option maxRecDepth 20000 in
theorem ggX1_gap_X5_order : GoodIn wsX1_gap wsX5_order := goodIn_ca (goodIn_r _ [51, 26, 39, 40, 41, 8, 42, 14, 43, 67, 68] (by decide +kernel) (by decide +kernel)) (goodIn_sub (fun _ h => List.mem_cons_of_mem _ (List.mem_append_right _ h)) (by decide +kernel))
set_option maxRecDepth 20000 in
theorem gX1_gap_X5_order : GoodIn wsX1_gap (wsV RX1 119 RX5 yX5_order wsX5_order) := goodIn_app (goodIn_of _ (by decide +kernel)) ggX1_gap_X5_order
set_option maxRecDepth 20000 in
theorem ggX1_gap_X5_subtract : GoodIn wsX1_gap wsX5_subtract := goodIn_ca (goodIn_r _ [55, 26, 39, 40, 41, 8, 42, 14, 43, 10, 11, 12, 13, 15, 16, 17, 18, 19, 20, 21, 22, 23, 24, 25, 67, 68] (by decide +kernel) (by decide +kernel)) (goodIn_sub (fun _ h => List.mem_cons_of_mem _ (List.mem_append_right _ h)) (by decide +kernel))
set_option maxRecDepth 20000 in
theorem gX1_gap_X5_subtract : GoodIn wsX1_gap (wsV RX1 74 RX5 yX5_subtract wsX5_subtract) := goodIn_app (goodIn_of _ (by decide +kernel)) ggX1_gap_X5_subtract
theorem dX1_gap_0 : decode cX1_gap 0 = .ok (.aload_n 0, 1) := by decide +kernel
theorem dX1_gap_1 : decode cX1_gap 1 = .ok (.getfield 44, 3) := by decide +kernel
theorem dX1_gap_4 : decode cX1_gap 4 = .ok (.lload 5, 2) := by decide +kernel
theorem dX1_gap_6 : decode cX1_gap 6 = .ok (.invokevirtual 86, 3) := by decide +kernel
theorem dX1_gap_9 : decode cX1_gap 9 = .ok (.aload_n 0, 1) := by decide +kernel
theorem dX1_gap_10 : decode cX1_gap 10 = .ok (.getfield 38, 3) := by decide +kernel
theorem dX1_gap_13 : decode cX1_gap 13 = .ok (.aload_n 0, 1) := by decide +kernel
theorem dX1_gap_14 : decode cX1_gap 14 = .ok (.getfield 20, 3) := by decide +kernel
theorem dX1_gap_17 : decode cX1_gap 17 = .ok (.aload_n 0, 1) := by decide +kernel
theorem dX1_gap_18 : decode cX1_gap 18 = .ok (.getfield 44, 3) := by decide +kernel
theorem dX1_gap_21 : decode cX1_gap 21 = .ok (.invokevirtual 96, 3) := by decide +kernel
theorem dX1_gap_24 : decode cX1_gap 24 = .ok (.aload_n 0, 1) := by decide +kernel
theorem dX1_gap_25 : decode cX1_gap 25 = .ok (.getfield 44, 3) := by decide +kernel
theorem dX1_gap_28 : decode cX1_gap 28 = .ok (.lload_n 3, 1) := by decide +kernel
theorem dX1_gap_29 : decode cX1_gap 29 = .ok (.invokevirtual 86, 3) := by decide +kernel
theorem dX1_gap_32 : decode cX1_gap 32 = .ok (.aload_n 0, 1) := by decide +kernel
theorem dX1_gap_33 : decode cX1_gap 33 = .ok (.getfield 41, 3) := by decide +kernel
theorem dX1_gap_36 : decode cX1_gap 36 = .ok (.aload_n 2, 1) := by decide +kernel
theorem dX1_gap_37 : decode cX1_gap 37 = .ok (.aload_n 0, 1) := by decide +kernel
theorem dX1_gap_38 : decode cX1_gap 38 = .ok (.getfield 44, 3) := by decide +kernel
theorem dX1_gap_41 : decode cX1_gap 41 = .ok (.invokevirtual 96, 3) := by decide +kernel
theorem dX1_gap_44 : decode cX1_gap 44 = .ok (.aload_n 0, 1) := by decide +kernel
theorem dX1_gap_45 : decode cX1_gap 45 = .ok (.getfield 38, 3) := by decide +kernel
theorem dX1_gap_48 : decode cX1_gap 48 = .ok (.aload_n 0, 1) := by decide +kernel
theorem dX1_gap_49 : decode cX1_gap 49 = .ok (.getfield 41, 3) := by decide +kernel
theorem dX1_gap_52 : decode cX1_gap 52 = .ok (.invokevirtual 119, 3) := by decide +kernel
theorem dX1_gap_55 : decode cX1_gap 55 = .ok (.ifCond .lt 21, 3) := by decide +kernel
theorem dX1_gap_58 : decode cX1_gap 58 = .ok (.aload_n 0, 1) := by decide +kernel
theorem dX1_gap_59 : decode cX1_gap 59 = .ok (.getfield 38, 3) := by decide +kernel
theorem dX1_gap_62 : decode cX1_gap 62 = .ok (.aload_n 0, 1) := by decide +kernel
theorem dX1_gap_63 : decode cX1_gap 63 = .ok (.getfield 38, 3) := by decide +kernel
theorem dX1_gap_66 : decode cX1_gap 66 = .ok (.aload_n 0, 1) := by decide +kernel
theorem dX1_gap_67 : decode cX1_gap 67 = .ok (.getfield 41, 3) := by decide +kernel
theorem dX1_gap_70 : decode cX1_gap 70 = .ok (.invokevirtual 74, 3) := by decide +kernel
theorem dX1_gap_73 : decode cX1_gap 73 = .ok (.goto 18, 3) := by decide +kernel
theorem dX1_gap_76 : decode cX1_gap 76 = .ok (.aload_n 0, 1) := by decide +kernel
theorem dX1_gap_77 : decode cX1_gap 77 = .ok (.getfield 38, 3) := by decide +kernel
theorem dX1_gap_80 : decode cX1_gap 80 = .ok (.aload_n 0, 1) := by decide +kernel
theorem dX1_gap_81 : decode cX1_gap 81 = .ok (.getfield 41, 3) := by decide +kernel
theorem dX1_gap_84 : decode cX1_gap 84 = .ok (.aload_n 0, 1) := by decide +kernel
theorem dX1_gap_85 : decode cX1_gap 85 = .ok (.getfield 38, 3) := by decide +kernel
theorem dX1_gap_88 : decode cX1_gap 88 = .ok (.invokevirtual 74, 3) := by decide +kernel
theorem dX1_gap_91 : decode cX1_gap 91 = .ok (.aload_n 0, 1) := by decide +kernel
theorem dX1_gap_92 : decode cX1_gap 92 = .ok (.getfield 44, 3) := by decide +kernel
theorem dX1_gap_95 : decode cX1_gap 95 = .ok (.lload 7, 2) := by decide +kernel
theorem dX1_gap_97 : decode cX1_gap 97 = .ok (.invokevirtual 86, 3) := by decide +kernel
theorem dX1_gap_100 : decode cX1_gap 100 = .ok (.aload_n 1, 1) := by decide +kernel
theorem dX1_gap_101 : decode cX1_gap 101 = .ok (.aload_n 0, 1) := by decide +kernel
theorem dX1_gap_102 : decode cX1_gap 102 = .ok (.getfield 38, 3) := by decide +kernel
theorem dX1_gap_105 : decode cX1_gap 105 = .ok (.aload_n 0, 1) := by decide +kernel
theorem dX1_gap_106 : decode cX1_gap 106 = .ok (.getfield 44, 3) := by decide +kernel
theorem dX1_gap_109 : decode cX1_gap 109 = .ok (.invokevirtual 96, 3) := by decide +kernel
theorem dX1_gap_112 : decode cX1_gap 112 = .ok (.return_, 1) := by decide +kernel
set_option maxRecDepth 20000 in
theorem ggX2_init_X5_init : GoodIn wsX2_init wsX5_init := goodIn_ca (goodIn_r _ [12, 13, 2, 3, 14, 15, 16, 17, 18, 19, 20, 24, 25] (by decide +kernel) (by decide +kernel)) (goodIn_sub (fun _ h => List.mem_cons_of_mem _ (List.mem_append_right _ h)) (by decide +kernel))
set_option maxRecDepth 20000 in
theorem gX2_init_X5_init : GoodIn wsX2_init (wsX5_init) := ggX2_init_X5_init
theorem dX2_init_0 : decode cX2_init 0 = .ok (.aload_n 0, 1) := by decide +kernel
theorem dX2_init_1 : decode cX2_init 1 = .ok (.invokespecial 3, 3) := by decide +kernel
theorem dX2_init_4 : decode cX2_init 4 = .ok (.aload_n 0, 1) := by decide +kernel
theorem dX2_init_5 : decode cX2_init 5 = .ok (.iconst 0, 1) := by decide +kernel
theorem dX2_init_6 : decode cX2_init 6 = .ok (.putfield 9, 3) := by decide +kernel
theorem dX2_init_9 : decode cX2_init 9 = .ok (.aload_n 0, 1) := by decide +kernel
theorem dX2_init_10 : decode cX2_init 10 = .ok (.new 15, 3) := by decide +kernel
theorem dX2_init_13 : decode cX2_init 13 = .ok (.dup, 1) := by decide +kernel
theorem dX2_init_14 : decode cX2_init 14 = .ok (.iload_n 1, 1) := by decide +kernel
theorem dX2_init_15 : decode cX2_init 15 = .ok (.invokespecial 17, 3) := by decide +kernel
theorem dX2_init_18 : decode cX2_init 18 = .ok (.putfield 20, 3) := by decide +kernel
theorem dX2_init_21 : decode cX2_init 21 = .ok (.aload_n 0, 1) := by decide +kernel
theorem dX2_init_22 : decode cX2_init 22 = .ok (.new 15, 3) := by decide +kernel
theorem dX2_init_25 : decode cX2_init 25 = .ok (.dup, 1) := by decide +kernel
theorem dX2_init_26 : decode cX2_init 26 = .ok (.iload_n 1, 1) := by decide +kernel
theorem dX2_init_27 : decode cX2_init 27 = .ok (.invokespecial 17, 3) := by decide +kernel
theorem dX2_init_30 : decode cX2_init 30 = .ok (.putfield 24, 3) := by decide +kernel
theorem dX2_init_33 : decode cX2_init 33 = .ok (.return_, 1) := by decide +kernel
set_option maxRecDepth 20000 in
theorem ggX2_copy_X5_copy : GoodIn wsX2_copy wsX5_copy := goodIn_ca (goodIn_r _ [8, 9, 10, 11, 12, 13, 14, 15, 16, 17, 18, 19, 20, 21, 7, 22, 23, 24, 25, 29, 30] (by decide +kernel) (by decide +kernel)) (goodIn_sub (fun _ h => List.mem_cons_of_mem _ (List.mem_append_right _ h)) (by decide +kernel))
set_option maxRecDepth 20000 in
theorem gX2_copy_X5_copy : GoodIn wsX2_copy (wsV RX2 27 RX5 yX5_copy wsX5_copy) := goodIn_app (goodIn_of _ (by decide +kernel)) ggX2_copy_X5_copy
theorem dX2_copy_0 : decode cX2_copy 0 = .ok (.aload_n 0, 1) := by decide +kernel
theorem dX2_copy_1 : decode cX2_copy 1 = .ok (.aload_n 1, 1) := by decide +kernel
theorem dX2_copy_2 : decode cX2_copy 2 = .ok (.getfield 9, 3) := by decide +kernel
theorem dX2_copy_5 : decode cX2_copy 5 = .ok (.putfield 9, 3) := by decide +kernel
theorem dX2_copy_8 : decode cX2_copy 8 = .ok (.aload_n 0, 1) := by decide +kernel
theorem dX2_copy_9 : decode cX2_copy 9 = .ok (.getfield 20, 3) := by decide +kernel
theorem dX2_copy_12 : decode cX2_copy 12 = .ok (.aload_n 1, 1) := by decide +kernel
theorem dX2_copy_13 : decode cX2_copy 13 = .ok (.getfield 20, 3) := by decide +kernel
theorem dX2_copy_16 : decode cX2_copy 16 = .ok (.invokevirtual 27, 3) := by decide +kernel
theorem dX2_copy_19 : decode cX2_copy 19 = .ok (.aload_n 0, 1) := by decide +kernel
theorem dX2_copy_20 : decode cX2_copy 20 = .ok (.getfield 24, 3) := by decide +kernel
theorem dX2_copy_23 : decode cX2_copy 23 = .ok (.aload_n 1, 1) := by decide +kernel
theorem dX2_copy_24 : decode cX2_copy 24 = .ok (.getfield 24, 3) := by decide +kernel
theorem dX2_copy_27 : decode cX2_copy 27 = .ok (.invokevirtual 27, 3) := by decide +kernel
theorem dX2_copy_30 : decode cX2_copy 30 = .ok (.return_, 1) := by decide +kernel
set_option maxRecDepth 20000 in
theorem ggX2_become_X5_become : GoodIn wsX2_become wsX5_become := goodIn_ca (goodIn_r _ [8, 9, 10, 11, 7, 12, 13, 14, 15, 16, 17, 18, 19, 20, 21, 22, 23, 24, 25, 29, 30] (by decide +kernel) (by decide +kernel)) (goodIn_sub (fun _ h => List.mem_cons_of_mem _ (List.mem_append_right _ h)) (by decide +kernel))
set_option maxRecDepth 20000 in
theorem gX2_become_X5_become : GoodIn wsX2_become (wsV RX2 31 RX5 yX5_become wsX5_become) := goodIn_app (goodIn_of _ (by decide +kernel)) ggX2_become_X5_become
theorem dX2_become_0 : decode cX2_become 0 = .ok (.aload_n 0, 1) := by decide +kernel
theorem dX2_become_1 : decode cX2_become 1 = .ok (.iload_n 1, 1) := by decide +kernel
theorem dX2_become_2 : decode cX2_become 2 = .ok (.putfield 9, 3) := by decide +kernel
theorem dX2_become_5 : decode cX2_become 5 = .ok (.aload_n 0, 1) := by decide +kernel
theorem dX2_become_6 : decode cX2_become 6 = .ok (.getfield 20, 3) := by decide +kernel
theorem dX2_become_9 : decode cX2_become 9 = .ok (.lload_n 2, 1) := by decide +kernel
theorem dX2_become_10 : decode cX2_become 10 = .ok (.invokevirtual 31, 3) := by decide +kernel
theorem dX2_become_13 : decode cX2_become 13 = .ok (.aload_n 0, 1) := by decide +kernel
theorem dX2_become_14 : decode cX2_become 14 = .ok (.getfield 24, 3) := by decide +kernel
theorem dX2_become_17 : decode cX2_become 17 = .ok (.lconst 1, 1) := by decide +kernel
theorem dX2_become_18 : decode cX2_become 18 = .ok (.invokevirtual 31, 3) := by decide +kernel
theorem dX2_become_21 : decode cX2_become 21 = .ok (.return_, 1) := by decide +kernel
set_option maxRecDepth 20000 in
theorem ggX2_becomeWhole_X5_copy : GoodIn wsX2_becomeWhole wsX5_copy := goodIn_ca (goodIn_r _ [8, 9, 10, 11, 12, 13, 14, 15, 16, 17, 18, 19, 20, 21, 7, 22, 23, 24, 25, 37, 38] (by decide +kernel) (by decide +kernel)) (goodIn_sub (fun _ h => List.mem_cons_of_mem _ (List.mem_append_right _ h)) (by decide +kernel))
set_option maxRecDepth 20000 in
theorem gX2_becomeWhole_X5_copy : GoodIn wsX2_becomeWhole (wsV RX2 27 RX5 yX5_copy wsX5_copy) := goodIn_app (goodIn_of _ (by decide +kernel)) ggX2_becomeWhole_X5_copy
set_option maxRecDepth 20000 in
theorem ggX2_becomeWhole_X5_become : GoodIn wsX2_becomeWhole wsX5_become := goodIn_ca (goodIn_r _ [29, 30, 31, 32, 7, 33, 10, 19, 20, 21, 22, 11, 12, 13, 14, 23, 24, 25, 9, 37, 38] (by decide +kernel) (by decide +kernel)) (goodIn_sub (fun _ h => List.mem_cons_of_mem _ (List.mem_append_right _ h)) (by decide +kernel))
set_option maxRecDepth 20000 in
theorem gX2_becomeWhole_X5_become : GoodIn wsX2_becomeWhole (wsV RX2 31 RX5 yX5_become wsX5_become) := goodIn_app (goodIn_of _ (by decide +kernel)) ggX2_becomeWhole_X5_become
theorem dX2_becomeWhole_0 : decode cX2_becomeWhole 0 = .ok (.aload_n 0, 1) := by decide +kernel
theorem dX2_becomeWhole_1 : decode cX2_becomeWhole 1 = .ok (.iload_n 1, 1) := by decide +kernel
theorem dX2_becomeWhole_2 : decode cX2_becomeWhole 2 = .ok (.putfield 9, 3) := by decide +kernel
theorem dX2_becomeWhole_5 : decode cX2_becomeWhole 5 = .ok (.aload_n 0, 1) := by decide +kernel
theorem dX2_becomeWhole_6 : decode cX2_becomeWhole 6 = .ok (.getfield 20, 3) := by decide +kernel
theorem dX2_becomeWhole_9 : decode cX2_becomeWhole 9 = .ok (.aload_n 2, 1) := by decide +kernel
theorem dX2_becomeWhole_10 : decode cX2_becomeWhole 10 = .ok (.invokevirtual 27, 3) := by decide +kernel
theorem dX2_becomeWhole_13 : decode cX2_becomeWhole 13 = .ok (.aload_n 0, 1) := by decide +kernel
theorem dX2_becomeWhole_14 : decode cX2_becomeWhole 14 = .ok (.getfield 24, 3) := by decide +kernel
theorem dX2_becomeWhole_17 : decode cX2_becomeWhole 17 = .ok (.lconst 1, 1) := by decide +kernel
theorem dX2_becomeWhole_18 : decode cX2_becomeWhole 18 = .ok (.invokevirtual 31, 3) := by decide +kernel
theorem dX2_becomeWhole_21 : decode cX2_becomeWhole 21 = .ok (.return_, 1) := by decide +kernel
set_option maxRecDepth 20000 in
theorem ggX2_isWhole_X5_isOne : GoodIn wsX2_isWhole wsX5_isOne := goodIn_ca (goodIn_r _ [6, 7, 8, 9, 10, 5, 11, 12, 13, 17, 18] (by decide +kernel) (by decide +kernel)) (goodIn_sub (fun _ h => List.mem_cons_of_mem _ (List.mem_append_right _ h)) (by decide +kernel))
set_option maxRecDepth 20000 in
theorem gX2_isWhole_X5_isOne : GoodIn wsX2_isWhole (wsV RX2 35 RX5 yX5_isOne wsX5_isOne) := goodIn_app (goodIn_of _ (by decide +kernel)) ggX2_isWhole_X5_isOne
theorem dX2_isWhole_0 : decode cX2_isWhole 0 = .ok (.aload_n 0, 1) := by decide +kernel
theorem dX2_isWhole_1 : decode cX2_isWhole 1 = .ok (.getfield 24, 3) := by decide +kernel
theorem dX2_isWhole_4 : decode cX2_isWhole 4 = .ok (.invokevirtual 35, 3) := by decide +kernel
theorem dX2_isWhole_7 : decode cX2_isWhole 7 = .ok (.ireturn, 1) := by decide +kernel
set_option maxRecDepth 20000 in
theorem ggX2_isWide_X5_bits : GoodIn wsX2_isWide wsX5_bits := goodIn_ca (goodIn_r _ [7, 8, 9, 10, 11, 6, 12, 13, 14, 15, 16, 17, 18, 19, 23, 24] (by decide +kernel) (by decide +kernel)) (goodIn_sub (fun _ h => List.mem_cons_of_mem _ (List.mem_append_right _ h)) (by decide +kernel))
set_option maxRecDepth 20000 in
theorem gX2_isWide_X5_bits : GoodIn wsX2_isWide (wsV RX2 39 RX5 yX5_bits wsX5_bits) := goodIn_app (goodIn_of _ (by decide +kernel)) ggX2_isWide_X5_bits
theorem dX2_isWide_0 : decode cX2_isWide 0 = .ok (.aload_n 0, 1) := by decide +kernel
theorem dX2_isWide_1 : decode cX2_isWide 1 = .ok (.getfield 20, 3) := by decide +kernel
theorem dX2_isWide_4 : decode cX2_isWide 4 = .ok (.invokevirtual 39, 3) := by decide +kernel
theorem dX2_isWide_7 : decode cX2_isWide 7 = .ok (.sipush 512, 3) := by decide +kernel
theorem dX2_isWide_10 : decode cX2_isWide 10 = .ok (.if_icmp .gt 16, 3) := by decide +kernel
theorem dX2_isWide_13 : decode cX2_isWide 13 = .ok (.aload_n 0, 1) := by decide +kernel
theorem dX2_isWide_14 : decode cX2_isWide 14 = .ok (.getfield 24, 3) := by decide +kernel
theorem dX2_isWide_17 : decode cX2_isWide 17 = .ok (.invokevirtual 39, 3) := by decide +kernel
theorem dX2_isWide_20 : decode cX2_isWide 20 = .ok (.sipush 512, 3) := by decide +kernel
theorem dX2_isWide_23 : decode cX2_isWide 23 = .ok (.if_icmp .le 7, 3) := by decide +kernel
theorem dX2_isWide_26 : decode cX2_isWide 26 = .ok (.iconst 1, 1) := by decide +kernel
theorem dX2_isWide_27 : decode cX2_isWide 27 = .ok (.goto 4, 3) := by decide +kernel
theorem dX2_isWide_30 : decode cX2_isWide 30 = .ok (.iconst 0, 1) := by decide +kernel
theorem dX2_isWide_31 : decode cX2_isWide 31 = .ok (.ireturn, 1) := by decide +kernel
set_option maxRecDepth 20000 in
theorem ggX2_fitsLong_X5_bits : GoodIn wsX2_fitsLong wsX5_bits := goodIn_ca (goodIn_r _ [8, 9, 10, 11, 12, 7, 13, 14, 15, 16, 17, 18, 19, 20, 28, 29] (by decide +kernel) (by decide +kernel)) (goodIn_sub (fun _ h => List.mem_cons_of_mem _ (List.mem_append_right _ h)) (by decide +kernel))
set_option maxRecDepth 20000 in
theorem gX2_fitsLong_X5_bits : GoodIn wsX2_fitsLong (wsV RX2 39 RX5 yX5_bits wsX5_bits) := goodIn_app (goodIn_of _ (by decide +kernel)) ggX2_fitsLong_X5_bits
set_option maxRecDepth 20000 in
theorem ggX2_fitsLong_X5_low : GoodIn wsX2_fitsLong wsX5_low := goodIn_ca (goodIn_r _ [24, 10, 11, 12, 7, 13, 9, 14, 15, 28, 29] (by decide +kernel) (by decide +kernel)) (goodIn_sub (fun _ h => List.mem_cons_of_mem _ (List.mem_append_right _ h)) (by decide +kernel))
set_option maxRecDepth 20000 in
theorem gX2_fitsLong_X5_low : GoodIn wsX2_fitsLong (wsV RX2 43 RX5 yX5_low wsX5_low) := goodIn_app (goodIn_of _ (by decide +kernel)) ggX2_fitsLong_X5_low
theorem dX2_fitsLong_0 : decode cX2_fitsLong 0 = .ok (.aload_n 0, 1) := by decide +kernel
theorem dX2_fitsLong_1 : decode cX2_fitsLong 1 = .ok (.getfield 20, 3) := by decide +kernel
theorem dX2_fitsLong_4 : decode cX2_fitsLong 4 = .ok (.invokevirtual 39, 3) := by decide +kernel
theorem dX2_fitsLong_7 : decode cX2_fitsLong 7 = .ok (.bipush 64, 2) := by decide +kernel
theorem dX2_fitsLong_9 : decode cX2_fitsLong 9 = .ok (.if_icmp .lt 36, 3) := by decide +kernel
theorem dX2_fitsLong_12 : decode cX2_fitsLong 12 = .ok (.aload_n 0, 1) := by decide +kernel
theorem dX2_fitsLong_13 : decode cX2_fitsLong 13 = .ok (.getfield 9, 3) := by decide +kernel
theorem dX2_fitsLong_16 : decode cX2_fitsLong 16 = .ok (.ifCond .ge 33, 3) := by decide +kernel
theorem dX2_fitsLong_19 : decode cX2_fitsLong 19 = .ok (.aload_n 0, 1) := by decide +kernel
theorem dX2_fitsLong_20 : decode cX2_fitsLong 20 = .ok (.getfield 20, 3) := by decide +kernel
theorem dX2_fitsLong_23 : decode cX2_fitsLong 23 = .ok (.invokevirtual 39, 3) := by decide +kernel
theorem dX2_fitsLong_26 : decode cX2_fitsLong 26 = .ok (.bipush 64, 2) := by decide +kernel
theorem dX2_fitsLong_28 : decode cX2_fitsLong 28 = .ok (.if_icmp .ne 21, 3) := by decide +kernel
theorem dX2_fitsLong_31 : decode cX2_fitsLong 31 = .ok (.aload_n 0, 1) := by decide +kernel
theorem dX2_fitsLong_32 : decode cX2_fitsLong 32 = .ok (.getfield 20, 3) := by decide +kernel
theorem dX2_fitsLong_35 : decode cX2_fitsLong 35 = .ok (.invokevirtual 43, 3) := by decide +kernel
theorem dX2_fitsLong_38 : decode cX2_fitsLong 38 = .ok (.ldc2_w 47, 3) := by decide +kernel
theorem dX2_fitsLong_41 : decode cX2_fitsLong 41 = .ok (.lcmp, 1) := by decide +kernel
theorem dX2_fitsLong_42 : decode cX2_fitsLong 42 = .ok (.ifCond .ne 7, 3) := by decide +kernel
theorem dX2_fitsLong_45 : decode cX2_fitsLong 45 = .ok (.iconst 1, 1) := by decide +kernel
theorem dX2_fitsLong_46 : decode cX2_fitsLong 46 = .ok (.goto 4, 3) := by decide +kernel
theorem dX2_fitsLong_49 : decode cX2_fitsLong 49 = .ok (.iconst 0, 1) := by decide +kernel
theorem dX2_fitsLong_50 : decode cX2_fitsLong 50 = .ok (.ireturn, 1) := by decide +kernel
set_option maxRecDepth 20000 in
theorem ggX2_addToTop_X5_isZero : GoodIn wsX2_addToTop wsX5_isZero := goodIn_r _ [7, 8, 53, 54] (by decide +kernel) (by decide +kernel)
set_option maxRecDepth 20000 in
theorem gX2_addToTop_X5_isZero : GoodIn wsX2_addToTop (wsV RX2 49 RX5 yX5_isZero wsX5_isZero) := goodIn_app (goodIn_of _ (by decide +kernel)) ggX2_addToTop_X5_isZero
set_option maxRecDepth 20000 in
theorem ggX2_addToTop_X5_copy : GoodIn wsX2_addToTop wsX5_copy := goodIn_ca (goodIn_r _ [12, 8, 13, 14, 15, 16, 17, 18, 19, 20, 21, 22, 23, 24, 6, 25, 26, 27, 28, 53, 54] (by decide +kernel) (by decide +kernel)) (goodIn_sub (fun _ h => List.mem_cons_of_mem _ (List.mem_append_right _ h)) (by decide +kernel))
set_option maxRecDepth 20000 in
theorem gX2_addToTop_X5_copy : GoodIn wsX2_addToTop (wsV RX2 27 RX5 yX5_copy wsX5_copy) := goodIn_app (goodIn_of _ (by decide +kernel)) ggX2_addToTop_X5_copy
set_option maxRecDepth 20000 in
theorem ggX2_addToTop_X5_add : GoodIn wsX2_addToTop wsX5_add := goodIn_ca (goodIn_r _ [32, 8, 26, 27, 16, 28, 13, 14, 15, 17, 33, 34, 35, 6, 36, 37, 38, 39, 40, 41, 22, 23, 24, 25, 53, 54] (by decide +kernel) (by decide +kernel)) (goodIn_sub (fun _ h => List.mem_cons_of_mem _ (List.mem_append_right _ h)) (by decide +kernel))
set_option maxRecDepth 20000 in
theorem gX2_addToTop_X5_add : GoodIn wsX2_addToTop (wsV RX2 52 RX5 yX5_add wsX5_add) := goodIn_app (goodIn_of _ (by decide +kernel)) ggX2_addToTop_X5_add
set_option maxRecDepth 20000 in
theorem ggX2_addToTop_X5_order : GoodIn wsX2_addToTop wsX5_order := goodIn_ca (goodIn_r _ [45, 8, 33, 34, 35, 6, 36, 13, 37, 53, 54] (by decide +kernel) (by decide +kernel)) (goodIn_sub (fun _ h => List.mem_cons_of_mem _ (List.mem_append_right _ h)) (by decide +kernel))
set_option maxRecDepth 20000 in
theorem gX2_addToTop_X5_order : GoodIn wsX2_addToTop (wsV RX2 55 RX5 yX5_order wsX5_order) := goodIn_app (goodIn_of _ (by decide +kernel)) ggX2_addToTop_X5_order
set_option maxRecDepth 20000 in
theorem ggX2_addToTop_X5_subtract : GoodIn wsX2_addToTop wsX5_subtract := goodIn_ca (goodIn_r _ [49, 8, 33, 34, 35, 6, 36, 13, 37, 38, 39, 40, 41, 22, 23, 24, 25, 14, 15, 16, 17, 26, 27, 28, 53, 54] (by decide +kernel) (by decide +kernel)) (goodIn_sub (fun _ h => List.mem_cons_of_mem _ (List.mem_append_right _ h)) (by decide +kernel))
set_option maxRecDepth 20000 in
theorem gX2_addToTop_X5_subtract : GoodIn wsX2_addToTop (wsV RX2 59 RX5 yX5_subtract wsX5_subtract) := goodIn_app (goodIn_of _ (by decide +kernel)) ggX2_addToTop_X5_subtract
theorem dX2_addToTop_0 : decode cX2_addToTop 0 = .ok (.aload_n 0, 1) := by decide +kernel
theorem dX2_addToTop_1 : decode cX2_addToTop 1 = .ok (.getfield 20, 3) := by decide +kernel
theorem dX2_addToTop_4 : decode cX2_addToTop 4 = .ok (.invokevirtual 49, 3) := by decide +kernel
theorem dX2_addToTop_7 : decode cX2_addToTop 7 = .ok (.ifCond .eq 19, 3) := by decide +kernel
theorem dX2_addToTop_10 : decode cX2_addToTop 10 = .ok (.aload_n 0, 1) := by decide +kernel
theorem dX2_addToTop_11 : decode cX2_addToTop 11 = .ok (.iload_n 1, 1) := by decide +kernel
theorem dX2_addToTop_12 : decode cX2_addToTop 12 = .ok (.putfield 9, 3) := by decide +kernel
theorem dX2_addToTop_15 : decode cX2_addToTop 15 = .ok (.aload_n 0, 1) := by decide +kernel
theorem dX2_addToTop_16 : decode cX2_addToTop 16 = .ok (.getfield 20, 3) := by decide +kernel
theorem dX2_addToTop_19 : decode cX2_addToTop 19 = .ok (.aload_n 2, 1) := by decide +kernel
theorem dX2_addToTop_20 : decode cX2_addToTop 20 = .ok (.invokevirtual 27, 3) := by decide +kernel
theorem dX2_addToTop_23 : decode cX2_addToTop 23 = .ok (.goto 65, 3) := by decide +kernel
theorem dX2_addToTop_26 : decode cX2_addToTop 26 = .ok (.aload_n 0, 1) := by decide +kernel
theorem dX2_addToTop_27 : decode cX2_addToTop 27 = .ok (.getfield 9, 3) := by decide +kernel
theorem dX2_addToTop_30 : decode cX2_addToTop 30 = .ok (.iload_n 1, 1) := by decide +kernel
theorem dX2_addToTop_31 : decode cX2_addToTop 31 = .ok (.if_icmp .ne 14, 3) := by decide +kernel
theorem dX2_addToTop_34 : decode cX2_addToTop 34 = .ok (.aload_n 0, 1) := by decide +kernel
theorem dX2_addToTop_35 : decode cX2_addToTop 35 = .ok (.getfield 20, 3) := by decide +kernel
theorem dX2_addToTop_38 : decode cX2_addToTop 38 = .ok (.aload_n 2, 1) := by decide +kernel
theorem dX2_addToTop_39 : decode cX2_addToTop 39 = .ok (.invokevirtual 52, 3) := by decide +kernel
theorem dX2_addToTop_42 : decode cX2_addToTop 42 = .ok (.goto 46, 3) := by decide +kernel
theorem dX2_addToTop_45 : decode cX2_addToTop 45 = .ok (.aload_n 0, 1) := by decide +kernel
theorem dX2_addToTop_46 : decode cX2_addToTop 46 = .ok (.getfield 20, 3) := by decide +kernel
theorem dX2_addToTop_49 : decode cX2_addToTop 49 = .ok (.aload_n 2, 1) := by decide +kernel
theorem dX2_addToTop_50 : decode cX2_addToTop 50 = .ok (.invokevirtual 55, 3) := by decide +kernel
theorem dX2_addToTop_53 : decode cX2_addToTop 53 = .ok (.ifCond .lt 18, 3) := by decide +kernel
theorem dX2_addToTop_56 : decode cX2_addToTop 56 = .ok (.aload_n 0, 1) := by decide +kernel
theorem dX2_addToTop_57 : decode cX2_addToTop 57 = .ok (.getfield 20, 3) := by decide +kernel
theorem dX2_addToTop_60 : decode cX2_addToTop 60 = .ok (.aload_n 0, 1) := by decide +kernel
theorem dX2_addToTop_61 : decode cX2_addToTop 61 = .ok (.getfield 20, 3) := by decide +kernel
theorem dX2_addToTop_64 : decode cX2_addToTop 64 = .ok (.aload_n 2, 1) := by decide +kernel
theorem dX2_addToTop_65 : decode cX2_addToTop 65 = .ok (.invokevirtual 59, 3) := by decide +kernel
theorem dX2_addToTop_68 : decode cX2_addToTop 68 = .ok (.goto 20, 3) := by decide +kernel
theorem dX2_addToTop_71 : decode cX2_addToTop 71 = .ok (.aload_n 0, 1) := by decide +kernel
theorem dX2_addToTop_72 : decode cX2_addToTop 72 = .ok (.iload_n 1, 1) := by decide +kernel
theorem dX2_addToTop_73 : decode cX2_addToTop 73 = .ok (.putfield 9, 3) := by decide +kernel
theorem dX2_addToTop_76 : decode cX2_addToTop 76 = .ok (.aload_n 0, 1) := by decide +kernel
theorem dX2_addToTop_77 : decode cX2_addToTop 77 = .ok (.getfield 20, 3) := by decide +kernel
theorem dX2_addToTop_80 : decode cX2_addToTop 80 = .ok (.aload_n 2, 1) := by decide +kernel
theorem dX2_addToTop_81 : decode cX2_addToTop 81 = .ok (.aload_n 0, 1) := by decide +kernel
theorem dX2_addToTop_82 : decode cX2_addToTop 82 = .ok (.getfield 20, 3) := by decide +kernel
theorem dX2_addToTop_85 : decode cX2_addToTop 85 = .ok (.invokevirtual 59, 3) := by decide +kernel
theorem dX2_addToTop_88 : decode cX2_addToTop 88 = .ok (.return_, 1) := by decide +kernel
set_option maxRecDepth 20000 in
theorem ggX3_init_X5_init : GoodIn wsX3_init wsX5_init := goodIn_ca (goodIn_r _ [15, 16, 2, 3, 17, 18, 19, 20, 21, 22, 23, 29, 30] (by decide +kernel) (by decide +kernel)) (goodIn_sub (fun _ h => List.mem_cons_of_mem _ (List.mem_append_right _ h)) (by decide +kernel))
set_option maxRecDepth 20000 in
theorem gX3_init_X5_init : GoodIn wsX3_init (wsX5_init) := ggX3_init_X5_init
theorem dX3_init_0 : decode cX3_init 0 = .ok (.aload_n 0, 1) := by decide +kernel
theorem dX3_init_1 : decode cX3_init 1 = .ok (.invokespecial 3, 3) := by decide +kernel
theorem dX3_init_4 : decode cX3_init 4 = .ok (.aload_n 0, 1) := by decide +kernel
theorem dX3_init_5 : decode cX3_init 5 = .ok (.sipush 320, 3) := by decide +kernel
theorem dX3_init_8 : decode cX3_init 8 = .ok (.newarray .byte, 2) := by decide +kernel
theorem dX3_init_10 : decode cX3_init 10 = .ok (.putfield 9, 3) := by decide +kernel
theorem dX3_init_13 : decode cX3_init 13 = .ok (.aload_n 0, 1) := by decide +kernel
theorem dX3_init_14 : decode cX3_init 14 = .ok (.iconst 0, 1) := by decide +kernel
theorem dX3_init_15 : decode cX3_init 15 = .ok (.putfield 15, 3) := by decide +kernel
theorem dX3_init_18 : decode cX3_init 18 = .ok (.aload_n 0, 1) := by decide +kernel
theorem dX3_init_19 : decode cX3_init 19 = .ok (.new 19, 3) := by decide +kernel
theorem dX3_init_22 : decode cX3_init 22 = .ok (.dup, 1) := by decide +kernel
theorem dX3_init_23 : decode cX3_init 23 = .ok (.bipush 36, 2) := by decide +kernel
theorem dX3_init_25 : decode cX3_init 25 = .ok (.invokespecial 21, 3) := by decide +kernel
theorem dX3_init_28 : decode cX3_init 28 = .ok (.putfield 24, 3) := by decide +kernel
theorem dX3_init_31 : decode cX3_init 31 = .ok (.aload_n 0, 1) := by decide +kernel
theorem dX3_init_32 : decode cX3_init 32 = .ok (.new 19, 3) := by decide +kernel
theorem dX3_init_35 : decode cX3_init 35 = .ok (.dup, 1) := by decide +kernel
theorem dX3_init_36 : decode cX3_init 36 = .ok (.bipush 36, 2) := by decide +kernel
theorem dX3_init_38 : decode cX3_init 38 = .ok (.invokespecial 21, 3) := by decide +kernel
theorem dX3_init_41 : decode cX3_init 41 = .ok (.putfield 28, 3) := by decide +kernel
theorem dX3_init_44 : decode cX3_init 44 = .ok (.aload_n 0, 1) := by decide +kernel
theorem dX3_init_45 : decode cX3_init 45 = .ok (.new 19, 3) := by decide +kernel
theorem dX3_init_48 : decode cX3_init 48 = .ok (.dup, 1) := by decide +kernel
theorem dX3_init_49 : decode cX3_init 49 = .ok (.bipush 36, 2) := by decide +kernel
theorem dX3_init_51 : decode cX3_init 51 = .ok (.invokespecial 21, 3) := by decide +kernel
theorem dX3_init_54 : decode cX3_init 54 = .ok (.putfield 31, 3) := by decide +kernel
theorem dX3_init_57 : decode cX3_init 57 = .ok (.return_, 1) := by decide +kernel
set_option maxRecDepth 20000 in
theorem ggX3_begin_X3_add : GoodIn wsX3_begin wsX3_add := goodIn_ca (goodIn_r _ [6, 1, 7, 8, 9, 10, 11, 12] (by decide +kernel) (by decide +kernel)) (goodIn_sub (fun _ h => List.mem_cons_of_mem _ (List.mem_append_right _ h)) (by decide +kernel))
set_option maxRecDepth 20000 in
theorem gX3_begin_X3_add : GoodIn wsX3_begin (wsV RX3 34 RX3 yX3_add wsX3_add) := goodIn_app (goodIn_of _ (by decide +kernel)) ggX3_begin_X3_add
theorem dX3_begin_0 : decode cX3_begin 0 = .ok (.aload_n 0, 1) := by decide +kernel
theorem dX3_begin_1 : decode cX3_begin 1 = .ok (.iconst 0, 1) := by decide +kernel
theorem dX3_begin_2 : decode cX3_begin 2 = .ok (.putfield 15, 3) := by decide +kernel
theorem dX3_begin_5 : decode cX3_begin 5 = .ok (.iload_n 1, 1) := by decide +kernel
theorem dX3_begin_6 : decode cX3_begin 6 = .ok (.ifCond .eq 9, 3) := by decide +kernel
theorem dX3_begin_9 : decode cX3_begin 9 = .ok (.aload_n 0, 1) := by decide +kernel
theorem dX3_begin_10 : decode cX3_begin 10 = .ok (.bipush 45, 2) := by decide +kernel
theorem dX3_begin_12 : decode cX3_begin 12 = .ok (.invokevirtual 34, 3) := by decide +kernel
theorem dX3_begin_15 : decode cX3_begin 15 = .ok (.return_, 1) := by decide +kernel
theorem dX3_add_0 : decode cX3_add 0 = .ok (.aload_n 0, 1) := by decide +kernel
theorem dX3_add_1 : decode cX3_add 1 = .ok (.getfield 15, 3) := by decide +kernel
theorem dX3_add_4 : decode cX3_add 4 = .ok (.sipush 320, 3) := by decide +kernel
theorem dX3_add_7 : decode cX3_add 7 = .ok (.if_icmp .ge 24, 3) := by decide +kernel
theorem dX3_add_10 : decode cX3_add 10 = .ok (.aload_n 0, 1) := by decide +kernel
theorem dX3_add_11 : decode cX3_add 11 = .ok (.getfield 9, 3) := by decide +kernel
theorem dX3_add_14 : decode cX3_add 14 = .ok (.aload_n 0, 1) := by decide +kernel
theorem dX3_add_15 : decode cX3_add 15 = .ok (.getfield 15, 3) := by decide +kernel
theorem dX3_add_18 : decode cX3_add 18 = .ok (.iload_n 1, 1) := by decide +kernel
theorem dX3_add_19 : decode cX3_add 19 = .ok (.i2b, 1) := by decide +kernel
theorem dX3_add_20 : decode cX3_add 20 = .ok (.bastore, 1) := by decide +kernel
theorem dX3_add_21 : decode cX3_add 21 = .ok (.aload_n 0, 1) := by decide +kernel
theorem dX3_add_22 : decode cX3_add 22 = .ok (.dup, 1) := by decide +kernel
theorem dX3_add_23 : decode cX3_add 23 = .ok (.getfield 15, 3) := by decide +kernel
theorem dX3_add_26 : decode cX3_add 26 = .ok (.iconst 1, 1) := by decide +kernel
theorem dX3_add_27 : decode cX3_add 27 = .ok (.iadd, 1) := by decide +kernel
theorem dX3_add_28 : decode cX3_add 28 = .ok (.putfield 15, 3) := by decide +kernel
theorem dX3_add_31 : decode cX3_add 31 = .ok (.return_, 1) := by decide +kernel
theorem dX3_at_0 : decode cX3_at 0 = .ok (.iload_n 1, 1) := by decide +kernel
theorem dX3_at_1 : decode cX3_at 1 = .ok (.ifCond .lt 24, 3) := by decide +kernel
theorem dX3_at_4 : decode cX3_at 4 = .ok (.iload_n 1, 1) := by decide +kernel
theorem dX3_at_5 : decode cX3_at 5 = .ok (.aload_n 0, 1) := by decide +kernel
theorem dX3_at_6 : decode cX3_at 6 = .ok (.getfield 15, 3) := by decide +kernel
theorem dX3_at_9 : decode cX3_at 9 = .ok (.if_icmp .ge 16, 3) := by decide +kernel
theorem dX3_at_12 : decode cX3_at 12 = .ok (.aload_n 0, 1) := by decide +kernel
theorem dX3_at_13 : decode cX3_at 13 = .ok (.getfield 9, 3) := by decide +kernel
theorem dX3_at_16 : decode cX3_at 16 = .ok (.iload_n 1, 1) := by decide +kernel
theorem dX3_at_17 : decode cX3_at 17 = .ok (.baload, 1) := by decide +kernel
theorem dX3_at_18 : decode cX3_at 18 = .ok (.sipush 255, 3) := by decide +kernel
theorem dX3_at_21 : decode cX3_at 21 = .ok (.iand, 1) := by decide +kernel
theorem dX3_at_22 : decode cX3_at 22 = .ok (.goto 5, 3) := by decide +kernel
theorem dX3_at_25 : decode cX3_at 25 = .ok (.bipush (-5), 2) := by decide +kernel
theorem dX3_at_27 : decode cX3_at 27 = .ok (.ireturn, 1) := by decide +kernel
set_option maxRecDepth 20000 in
theorem ggX3_addSize_X5_copy : GoodIn wsX3_addSize wsX5_copy := goodIn_ca (goodIn_r _ [7, 8, 9, 10, 11, 12, 13, 14, 15, 16, 17, 18, 19, 20, 6, 21, 22, 23, 24, 57, 58] (by decide +kernel) (by decide +kernel)) (goodIn_sub (fun _ h => List.mem_cons_of_mem _ (List.mem_append_left _ (List.mem_append_right _ h))) (by decide +kernel))
set_option maxRecDepth 20000 in
theorem gX3_addSize_X5_copy : GoodIn wsX3_addSize (wsV RX3 37 RX5 yX5_copy wsX5_copy) := goodIn_app (goodIn_of _ (by decide +kernel)) ggX3_addSize_X5_copy
set_option maxRecDepth 20000 in
theorem ggX3_addSize_X5_divideBy : GoodIn wsX3_addSize wsX5_divideBy := goodIn_ca (goodIn_ca (goodIn_r _ [28, 8, 29, 30, 31, 6, 32, 9, 33, 34, 35, 36, 37, 18, 19, 20, 21, 10, 11, 12, 13, 22, 23, 24, 57, 58] (by decide +kernel) (by decide +kernel)) (goodIn_sub (fun _ h => List.mem_cons_of_mem _ (List.mem_append_right _ h)) (by decide +kernel))) (goodIn_sub (fun _ h => List.mem_cons_of_mem _ (List.mem_append_left _ (List.mem_append_right _ h))) (by decide +kernel))
set_option maxRecDepth 20000 in
theorem gX3_addSize_X5_divideBy : GoodIn wsX3_addSize (wsV RX3 41 RX5 yX5_divideBy wsX5_divideBy) := goodIn_app (goodIn_of _ (by decide +kernel)) ggX3_addSize_X5_divideBy
set_option maxRecDepth 20000 in
theorem ggX3_addSize_X3_add : GoodIn wsX3_addSize wsX3_add := goodIn_ca (goodIn_r _ [42, 1, 43, 52, 53, 54, 55, 56] (by decide +kernel) (by decide +kernel)) (goodIn_sub (fun _ h => List.mem_cons_of_mem _ (List.mem_append_left _ (List.mem_append_right _ h))) (by decide +kernel))
set_option maxRecDepth 20000 in
theorem gX3_addSize_X3_add : GoodIn wsX3_addSize (wsV RX3 34 RX3 yX3_add wsX3_add) := goodIn_app (goodIn_of _ (by decide +kernel)) ggX3_addSize_X3_add
set_option maxRecDepth 20000 in
theorem ggX3_addSize_X5_isZero : GoodIn wsX3_addSize wsX5_isZero := goodIn_r _ [47, 8, 57, 58] (by decide +kernel) (by decide +kernel)
set_option maxRecDepth 20000 in
theorem gX3_addSize_X5_isZero : GoodIn wsX3_addSize (wsV RX3 45 RX5 yX5_isZero wsX5_isZero) := goodIn_app (goodIn_of _ (by decide +kernel)) ggX3_addSize_X5_isZero
set_option maxRecDepth 20000 in
theorem ggX3_addSize_X3_turnRound : GoodIn wsX3_addSize wsX3_turnRound := goodIn_ca (goodIn_r _ [51, 1, 43, 52, 53, 54, 55, 56] (by decide +kernel) (by decide +kernel)) (goodIn_sub (fun _ h => List.mem_cons_of_mem _ (List.mem_append_left _ (List.mem_append_right _ h))) (by decide +kernel))
set_option maxRecDepth 20000 in
theorem gX3_addSize_X3_turnRound : GoodIn wsX3_addSize (wsV RX3 49 RX3 yX3_turnRound wsX3_turnRound) := goodIn_app (goodIn_of _ (by decide +kernel)) ggX3_addSize_X3_turnRound
theorem dX3_addSize_0 : decode cX3_addSize 0 = .ok (.aload_n 0, 1) := by decide +kernel
theorem dX3_addSize_1 : decode cX3_addSize 1 = .ok (.getfield 15, 3) := by decide +kernel
theorem dX3_addSize_4 : decode cX3_addSize 4 = .ok (.istore_n 2, 1) := by decide +kernel
theorem dX3_addSize_5 : decode cX3_addSize 5 = .ok (.aload_n 0, 1) := by decide +kernel
theorem dX3_addSize_6 : decode cX3_addSize 6 = .ok (.getfield 24, 3) := by decide +kernel
theorem dX3_addSize_9 : decode cX3_addSize 9 = .ok (.aload_n 1, 1) := by decide +kernel
theorem dX3_addSize_10 : decode cX3_addSize 10 = .ok (.invokevirtual 37, 3) := by decide +kernel
theorem dX3_addSize_13 : decode cX3_addSize 13 = .ok (.aload_n 0, 1) := by decide +kernel
theorem dX3_addSize_14 : decode cX3_addSize 14 = .ok (.bipush 48, 2) := by decide +kernel
theorem dX3_addSize_16 : decode cX3_addSize 16 = .ok (.aload_n 0, 1) := by decide +kernel
theorem dX3_addSize_17 : decode cX3_addSize 17 = .ok (.getfield 24, 3) := by decide +kernel
theorem dX3_addSize_20 : decode cX3_addSize 20 = .ok (.bipush 10, 2) := by decide +kernel
theorem dX3_addSize_22 : decode cX3_addSize 22 = .ok (.invokevirtual 41, 3) := by decide +kernel
theorem dX3_addSize_25 : decode cX3_addSize 25 = .ok (.iadd, 1) := by decide +kernel
theorem dX3_addSize_26 : decode cX3_addSize 26 = .ok (.invokevirtual 34, 3) := by decide +kernel
theorem dX3_addSize_29 : decode cX3_addSize 29 = .ok (.iconst 0, 1) := by decide +kernel
theorem dX3_addSize_30 : decode cX3_addSize 30 = .ok (.istore_n 3, 1) := by decide +kernel
theorem dX3_addSize_31 : decode cX3_addSize 31 = .ok (.iload_n 3, 1) := by decide +kernel
theorem dX3_addSize_32 : decode cX3_addSize 32 = .ok (.sipush 200, 3) := by decide +kernel
theorem dX3_addSize_35 : decode cX3_addSize 35 = .ok (.if_icmp .ge 35, 3) := by decide +kernel
theorem dX3_addSize_38 : decode cX3_addSize 38 = .ok (.aload_n 0, 1) := by decide +kernel
theorem dX3_addSize_39 : decode cX3_addSize 39 = .ok (.getfield 24, 3) := by decide +kernel
theorem dX3_addSize_42 : decode cX3_addSize 42 = .ok (.invokevirtual 45, 3) := by decide +kernel
theorem dX3_addSize_45 : decode cX3_addSize 45 = .ok (.ifCond .ne 25, 3) := by decide +kernel
theorem dX3_addSize_48 : decode cX3_addSize 48 = .ok (.aload_n 0, 1) := by decide +kernel
theorem dX3_addSize_49 : decode cX3_addSize 49 = .ok (.bipush 48, 2) := by decide +kernel
theorem dX3_addSize_51 : decode cX3_addSize 51 = .ok (.aload_n 0, 1) := by decide +kernel
theorem dX3_addSize_52 : decode cX3_addSize 52 = .ok (.getfield 24, 3) := by decide +kernel
theorem dX3_addSize_55 : decode cX3_addSize 55 = .ok (.bipush 10, 2) := by decide +kernel
theorem dX3_addSize_57 : decode cX3_addSize 57 = .ok (.invokevirtual 41, 3) := by decide +kernel
theorem dX3_addSize_60 : decode cX3_addSize 60 = .ok (.iadd, 1) := by decide +kernel
theorem dX3_addSize_61 : decode cX3_addSize 61 = .ok (.invokevirtual 34, 3) := by decide +kernel
theorem dX3_addSize_64 : decode cX3_addSize 64 = .ok (.iinc 3 1, 3) := by decide +kernel
theorem dX3_addSize_67 : decode cX3_addSize 67 = .ok (.goto (-36), 3) := by decide +kernel
theorem dX3_addSize_70 : decode cX3_addSize 70 = .ok (.aload_n 0, 1) := by decide +kernel
theorem dX3_addSize_71 : decode cX3_addSize 71 = .ok (.iload_n 2, 1) := by decide +kernel
theorem dX3_addSize_72 : decode cX3_addSize 72 = .ok (.invokevirtual 49, 3) := by decide +kernel
theorem dX3_addSize_75 : decode cX3_addSize 75 = .ok (.return_, 1) := by decide +kernel
theorem dX3_turnRound_0 : decode cX3_turnRound 0 = .ok (.iload_n 1, 1) := by decide +kernel
theorem dX3_turnRound_1 : decode cX3_turnRound 1 = .ok (.istore_n 2, 1) := by decide +kernel
theorem dX3_turnRound_2 : decode cX3_turnRound 2 = .ok (.aload_n 0, 1) := by decide +kernel
theorem dX3_turnRound_3 : decode cX3_turnRound 3 = .ok (.getfield 15, 3) := by decide +kernel
theorem dX3_turnRound_6 : decode cX3_turnRound 6 = .ok (.iconst 1, 1) := by decide +kernel
theorem dX3_turnRound_7 : decode cX3_turnRound 7 = .ok (.isub, 1) := by decide +kernel
theorem dX3_turnRound_8 : decode cX3_turnRound 8 = .ok (.istore_n 3, 1) := by decide +kernel
theorem dX3_turnRound_9 : decode cX3_turnRound 9 = .ok (.iload_n 2, 1) := by decide +kernel
theorem dX3_turnRound_10 : decode cX3_turnRound 10 = .ok (.ifCond .lt 52, 3) := by decide +kernel
theorem dX3_turnRound_13 : decode cX3_turnRound 13 = .ok (.iload_n 2, 1) := by decide +kernel
theorem dX3_turnRound_14 : decode cX3_turnRound 14 = .ok (.iload_n 3, 1) := by decide +kernel
theorem dX3_turnRound_15 : decode cX3_turnRound 15 = .ok (.if_icmp .ge 47, 3) := by decide +kernel
theorem dX3_turnRound_18 : decode cX3_turnRound 18 = .ok (.iload_n 3, 1) := by decide +kernel
theorem dX3_turnRound_19 : decode cX3_turnRound 19 = .ok (.sipush 320, 3) := by decide +kernel
theorem dX3_turnRound_22 : decode cX3_turnRound 22 = .ok (.if_icmp .ge 40, 3) := by decide +kernel
theorem dX3_turnRound_25 : decode cX3_turnRound 25 = .ok (.aload_n 0, 1) := by decide +kernel
theorem dX3_turnRound_26 : decode cX3_turnRound 26 = .ok (.getfield 9, 3) := by decide +kernel
theorem dX3_turnRound_29 : decode cX3_turnRound 29 = .ok (.iload_n 2, 1) := by decide +kernel
theorem dX3_turnRound_30 : decode cX3_turnRound 30 = .ok (.baload, 1) := by decide +kernel
theorem dX3_turnRound_31 : decode cX3_turnRound 31 = .ok (.istore 4, 2) := by decide +kernel
theorem dX3_turnRound_33 : decode cX3_turnRound 33 = .ok (.aload_n 0, 1) := by decide +kernel
theorem dX3_turnRound_34 : decode cX3_turnRound 34 = .ok (.getfield 9, 3) := by decide +kernel
theorem dX3_turnRound_37 : decode cX3_turnRound 37 = .ok (.iload_n 2, 1) := by decide +kernel
theorem dX3_turnRound_38 : decode cX3_turnRound 38 = .ok (.aload_n 0, 1) := by decide +kernel
theorem dX3_turnRound_39 : decode cX3_turnRound 39 = .ok (.getfield 9, 3) := by decide +kernel
theorem dX3_turnRound_42 : decode cX3_turnRound 42 = .ok (.iload_n 3, 1) := by decide +kernel
theorem dX3_turnRound_43 : decode cX3_turnRound 43 = .ok (.baload, 1) := by decide +kernel
theorem dX3_turnRound_44 : decode cX3_turnRound 44 = .ok (.bastore, 1) := by decide +kernel
theorem dX3_turnRound_45 : decode cX3_turnRound 45 = .ok (.aload_n 0, 1) := by decide +kernel
theorem dX3_turnRound_46 : decode cX3_turnRound 46 = .ok (.getfield 9, 3) := by decide +kernel
theorem dX3_turnRound_49 : decode cX3_turnRound 49 = .ok (.iload_n 3, 1) := by decide +kernel
theorem dX3_turnRound_50 : decode cX3_turnRound 50 = .ok (.iload 4, 2) := by decide +kernel
theorem dX3_turnRound_52 : decode cX3_turnRound 52 = .ok (.bastore, 1) := by decide +kernel
theorem dX3_turnRound_53 : decode cX3_turnRound 53 = .ok (.iinc 2 1, 3) := by decide +kernel
theorem dX3_turnRound_56 : decode cX3_turnRound 56 = .ok (.iinc 3 (-1), 3) := by decide +kernel
theorem dX3_turnRound_59 : decode cX3_turnRound 59 = .ok (.goto (-50), 3) := by decide +kernel
theorem dX3_turnRound_62 : decode cX3_turnRound 62 = .ok (.return_, 1) := by decide +kernel
set_option maxRecDepth 20000 in
theorem ggX3_addCut_X5_copy : GoodIn wsX3_addCut wsX5_copy := goodIn_ca (goodIn_r _ [7, 8, 9, 10, 11, 12, 13, 14, 15, 16, 17, 18, 19, 20, 6, 21, 22, 23, 24, 110, 111] (by decide +kernel) (by decide +kernel)) (goodIn_sub (fun _ h => List.mem_cons_of_mem _ (List.mem_append_left _ (List.mem_append_right _ h))) (by decide +kernel))
set_option maxRecDepth 20000 in
theorem gX3_addCut_X5_copy : GoodIn wsX3_addCut (wsV RX3 37 RX5 yX5_copy wsX5_copy) := goodIn_app (goodIn_of _ (by decide +kernel)) ggX3_addCut_X5_copy
set_option maxRecDepth 20000 in
theorem ggX3_addCut_X5_divide : GoodIn wsX3_addCut wsX5_divide := goodIn_ca (goodIn_ca (goodIn_r _ [28, 8, 29, 30, 31, 32, 6, 33, 34, 35, 36, 37, 38, 39, 40, 41, 9, 42, 43, 44, 45, 46, 47, 48, 49, 50, 51, 52, 53, 54, 55, 56, 57, 58, 59, 60, 61, 10, 11, 12, 13, 62, 63, 64, 65, 66, 67, 68, 69, 18, 19, 20, 21, 22, 23, 24, 110, 111] (by decide +kernel) (by decide +kernel)) (goodIn_sub (fun _ h => List.mem_cons_of_mem _ (List.mem_append_left _ (List.mem_append_right _ h))) (by decide +kernel))) (goodIn_sub (fun _ h => List.mem_cons_of_mem _ (List.mem_append_right _ h)) (by decide +kernel))
set_option maxRecDepth 20000 in
theorem gX3_addCut_X5_divide : GoodIn wsX3_addCut (wsV RX3 60 RX5 yX5_divide wsX5_divide) := goodIn_app (goodIn_of _ (by decide +kernel)) ggX3_addCut_X5_divide
set_option maxRecDepth 20000 in
theorem ggX3_addCut_X3_addSize : GoodIn wsX3_addCut wsX3_addSize := goodIn_ca (goodIn_ca (goodIn_r _ [74, 75, 76, 3, 4, 5, 6, 7, 8, 9, 10, 11, 12, 13, 14, 15, 16, 17, 18, 19, 20, 21, 22, 23, 24, 77, 78, 79, 80, 38, 39, 40, 41, 29, 66, 67, 68, 69, 81, 82, 83, 73, 84, 85, 86, 87, 88, 89, 90, 91, 92, 93, 102, 103, 104, 105, 106, 110, 111] (by decide +kernel) (by decide +kernel)) (goodIn_sub (fun _ h => List.mem_cons_of_mem _ (List.mem_append_left _ (List.mem_append_right _ h))) (by decide +kernel))) (goodIn_sub (fun _ h => List.mem_cons_of_mem _ (List.mem_append_right _ h)) (by decide +kernel))
set_option maxRecDepth 20000 in
theorem gX3_addCut_X3_addSize : GoodIn wsX3_addCut (wsV RX3 64 RX3 yX3_addSize wsX3_addSize) := goodIn_app (goodIn_of _ (by decide +kernel)) ggX3_addCut_X3_addSize
set_option maxRecDepth 20000 in
theorem ggX3_addCut_X3_add : GoodIn wsX3_addCut wsX3_add := goodIn_ca (goodIn_r _ [84, 75, 85, 102, 103, 104, 105, 106] (by decide +kernel) (by decide +kernel)) (goodIn_sub (fun _ h => List.mem_cons_of_mem _ (List.mem_append_left _ (List.mem_append_right _ h))) (by decide +kernel))
set_option maxRecDepth 20000 in
theorem gX3_addCut_X3_add : GoodIn wsX3_addCut (wsV RX3 34 RX3 yX3_add wsX3_add) := goodIn_app (goodIn_of _ (by decide +kernel)) ggX3_addCut_X3_add
set_option maxRecDepth 20000 in
theorem ggX3_addCut_X5_timesPlus : GoodIn wsX3_addCut wsX5_timesPlus := goodIn_ca (goodIn_r _ [97, 8, 9, 10, 11, 12, 13, 38, 39, 40, 6, 41, 29, 66, 67, 68, 69, 18, 19, 20, 21, 22, 23, 24, 110, 111] (by decide +kernel) (by decide +kernel)) (goodIn_sub (fun _ h => List.mem_cons_of_mem _ (List.mem_append_left _ (List.mem_append_right _ h))) (by decide +kernel))
set_option maxRecDepth 20000 in
theorem gX3_addCut_X5_timesPlus : GoodIn wsX3_addCut (wsV RX3 67 RX5 yX5_timesPlus wsX5_timesPlus) := goodIn_app (goodIn_of _ (by decide +kernel)) ggX3_addCut_X5_timesPlus
set_option maxRecDepth 20000 in
theorem ggX3_addCut_X5_low : GoodIn wsX3_addCut wsX5_low := goodIn_ca (goodIn_r _ [101, 38, 39, 40, 6, 41, 8, 9, 29, 110, 111] (by decide +kernel) (by decide +kernel)) (goodIn_sub (fun _ h => List.mem_cons_of_mem _ (List.mem_append_left _ (List.mem_append_right _ h))) (by decide +kernel))
set_option maxRecDepth 20000 in
theorem gX3_addCut_X5_low : GoodIn wsX3_addCut (wsV RX3 71 RX5 yX5_low wsX5_low) := goodIn_app (goodIn_of _ (by decide +kernel)) ggX3_addCut_X5_low
theorem dX3_addCut_0 : decode cX3_addCut 0 = .ok (.aload_n 0, 1) := by decide +kernel
theorem dX3_addCut_1 : decode cX3_addCut 1 = .ok (.getfield 28, 3) := by decide +kernel
theorem dX3_addCut_4 : decode cX3_addCut 4 = .ok (.aload_n 1, 1) := by decide +kernel
theorem dX3_addCut_5 : decode cX3_addCut 5 = .ok (.getfield 52, 3) := by decide +kernel
theorem dX3_addCut_8 : decode cX3_addCut 8 = .ok (.invokevirtual 37, 3) := by decide +kernel
theorem dX3_addCut_11 : decode cX3_addCut 11 = .ok (.aload_n 0, 1) := by decide +kernel
theorem dX3_addCut_12 : decode cX3_addCut 12 = .ok (.getfield 28, 3) := by decide +kernel
theorem dX3_addCut_15 : decode cX3_addCut 15 = .ok (.aload_n 1, 1) := by decide +kernel
theorem dX3_addCut_16 : decode cX3_addCut 16 = .ok (.getfield 57, 3) := by decide +kernel
theorem dX3_addCut_19 : decode cX3_addCut 19 = .ok (.aload_n 0, 1) := by decide +kernel
theorem dX3_addCut_20 : decode cX3_addCut 20 = .ok (.getfield 31, 3) := by decide +kernel
theorem dX3_addCut_23 : decode cX3_addCut 23 = .ok (.invokevirtual 60, 3) := by decide +kernel
theorem dX3_addCut_26 : decode cX3_addCut 26 = .ok (.aload_n 0, 1) := by decide +kernel
theorem dX3_addCut_27 : decode cX3_addCut 27 = .ok (.aload_n 0, 1) := by decide +kernel
theorem dX3_addCut_28 : decode cX3_addCut 28 = .ok (.getfield 31, 3) := by decide +kernel
theorem dX3_addCut_31 : decode cX3_addCut 31 = .ok (.invokevirtual 64, 3) := by decide +kernel
theorem dX3_addCut_34 : decode cX3_addCut 34 = .ok (.iload_n 2, 1) := by decide +kernel
theorem dX3_addCut_35 : decode cX3_addCut 35 = .ok (.ifCond .le 9, 3) := by decide +kernel
theorem dX3_addCut_38 : decode cX3_addCut 38 = .ok (.aload_n 0, 1) := by decide +kernel
theorem dX3_addCut_39 : decode cX3_addCut 39 = .ok (.bipush 46, 2) := by decide +kernel
theorem dX3_addCut_41 : decode cX3_addCut 41 = .ok (.invokevirtual 34, 3) := by decide +kernel
theorem dX3_addCut_44 : decode cX3_addCut 44 = .ok (.iconst 0, 1) := by decide +kernel
theorem dX3_addCut_45 : decode cX3_addCut 45 = .ok (.istore_n 3, 1) := by decide +kernel
theorem dX3_addCut_46 : decode cX3_addCut 46 = .ok (.iload_n 3, 1) := by decide +kernel
theorem dX3_addCut_47 : decode cX3_addCut 47 = .ok (.iload_n 2, 1) := by decide +kernel
theorem dX3_addCut_48 : decode cX3_addCut 48 = .ok (.if_icmp .ge 49, 3) := by decide +kernel
theorem dX3_addCut_51 : decode cX3_addCut 51 = .ok (.aload_n 0, 1) := by decide +kernel
theorem dX3_addCut_52 : decode cX3_addCut 52 = .ok (.getfield 28, 3) := by decide +kernel
theorem dX3_addCut_55 : decode cX3_addCut 55 = .ok (.bipush 10, 2) := by decide +kernel
theorem dX3_addCut_57 : decode cX3_addCut 57 = .ok (.iconst 0, 1) := by decide +kernel
theorem dX3_addCut_58 : decode cX3_addCut 58 = .ok (.invokevirtual 67, 3) := by decide +kernel
theorem dX3_addCut_61 : decode cX3_addCut 61 = .ok (.aload_n 0, 1) := by decide +kernel
theorem dX3_addCut_62 : decode cX3_addCut 62 = .ok (.getfield 28, 3) := by decide +kernel
theorem dX3_addCut_65 : decode cX3_addCut 65 = .ok (.aload_n 1, 1) := by decide +kernel
theorem dX3_addCut_66 : decode cX3_addCut 66 = .ok (.getfield 57, 3) := by decide +kernel
theorem dX3_addCut_69 : decode cX3_addCut 69 = .ok (.aload_n 0, 1) := by decide +kernel
theorem dX3_addCut_70 : decode cX3_addCut 70 = .ok (.getfield 31, 3) := by decide +kernel
theorem dX3_addCut_73 : decode cX3_addCut 73 = .ok (.invokevirtual 60, 3) := by decide +kernel
theorem dX3_addCut_76 : decode cX3_addCut 76 = .ok (.aload_n 0, 1) := by decide +kernel
theorem dX3_addCut_77 : decode cX3_addCut 77 = .ok (.bipush 48, 2) := by decide +kernel
theorem dX3_addCut_79 : decode cX3_addCut 79 = .ok (.aload_n 0, 1) := by decide +kernel
theorem dX3_addCut_80 : decode cX3_addCut 80 = .ok (.getfield 31, 3) := by decide +kernel
theorem dX3_addCut_83 : decode cX3_addCut 83 = .ok (.invokevirtual 71, 3) := by decide +kernel
theorem dX3_addCut_86 : decode cX3_addCut 86 = .ok (.l2i, 1) := by decide +kernel
theorem dX3_addCut_87 : decode cX3_addCut 87 = .ok (.iadd, 1) := by decide +kernel
theorem dX3_addCut_88 : decode cX3_addCut 88 = .ok (.invokevirtual 34, 3) := by decide +kernel
theorem dX3_addCut_91 : decode cX3_addCut 91 = .ok (.iinc 3 1, 3) := by decide +kernel
theorem dX3_addCut_94 : decode cX3_addCut 94 = .ok (.goto (-48), 3) := by decide +kernel
theorem dX3_addCut_97 : decode cX3_addCut 97 = .ok (.return_, 1) := by decide +kernel
theorem dX4_init_0 : decode cX4_init 0 = .ok (.aload_n 0, 1) := by decide +kernel
theorem dX4_init_1 : decode cX4_init 1 = .ok (.invokespecial 3, 3) := by decide +kernel
theorem dX4_init_4 : decode cX4_init 4 = .ok (.aload_n 0, 1) := by decide +kernel
theorem dX4_init_5 : decode cX4_init 5 = .ok (.sipush 400, 3) := by decide +kernel
theorem dX4_init_8 : decode cX4_init 8 = .ok (.newarray .byte, 2) := by decide +kernel
theorem dX4_init_10 : decode cX4_init 10 = .ok (.putfield 9, 3) := by decide +kernel
theorem dX4_init_13 : decode cX4_init 13 = .ok (.aload_n 0, 1) := by decide +kernel
theorem dX4_init_14 : decode cX4_init 14 = .ok (.iconst 0, 1) := by decide +kernel
theorem dX4_init_15 : decode cX4_init 15 = .ok (.putfield 15, 3) := by decide +kernel
theorem dX4_init_18 : decode cX4_init 18 = .ok (.aload_n 0, 1) := by decide +kernel
theorem dX4_init_19 : decode cX4_init 19 = .ok (.iconst 0, 1) := by decide +kernel
theorem dX4_init_20 : decode cX4_init 20 = .ok (.putfield 19, 3) := by decide +kernel
theorem dX4_init_23 : decode cX4_init 23 = .ok (.aload_n 0, 1) := by decide +kernel
theorem dX4_init_24 : decode cX4_init 24 = .ok (.iconst 0, 1) := by decide +kernel
theorem dX4_init_25 : decode cX4_init 25 = .ok (.putfield 22, 3) := by decide +kernel
theorem dX4_init_28 : decode cX4_init 28 = .ok (.aload_n 0, 1) := by decide +kernel
theorem dX4_init_29 : decode cX4_init 29 = .ok (.iconst 0, 1) := by decide +kernel
theorem dX4_init_30 : decode cX4_init 30 = .ok (.putfield 25, 3) := by decide +kernel
theorem dX4_init_33 : decode cX4_init 33 = .ok (.return_, 1) := by decide +kernel
theorem dX4_add_0 : decode cX4_add 0 = .ok (.aload_n 0, 1) := by decide +kernel
theorem dX4_add_1 : decode cX4_add 1 = .ok (.getfield 15, 3) := by decide +kernel
theorem dX4_add_4 : decode cX4_add 4 = .ok (.sipush 400, 3) := by decide +kernel
theorem dX4_add_7 : decode cX4_add 7 = .ok (.if_icmp .lt 5, 3) := by decide +kernel
theorem dX4_add_10 : decode cX4_add 10 = .ok (.iconst 0, 1) := by decide +kernel
theorem dX4_add_11 : decode cX4_add 11 = .ok (.ireturn, 1) := by decide +kernel
theorem dX4_add_12 : decode cX4_add 12 = .ok (.aload_n 0, 1) := by decide +kernel
theorem dX4_add_13 : decode cX4_add 13 = .ok (.getfield 9, 3) := by decide +kernel
theorem dX4_add_16 : decode cX4_add 16 = .ok (.aload_n 0, 1) := by decide +kernel
theorem dX4_add_17 : decode cX4_add 17 = .ok (.getfield 15, 3) := by decide +kernel
theorem dX4_add_20 : decode cX4_add 20 = .ok (.iload_n 1, 1) := by decide +kernel
theorem dX4_add_21 : decode cX4_add 21 = .ok (.i2b, 1) := by decide +kernel
theorem dX4_add_22 : decode cX4_add 22 = .ok (.bastore, 1) := by decide +kernel
theorem dX4_add_23 : decode cX4_add 23 = .ok (.aload_n 0, 1) := by decide +kernel
theorem dX4_add_24 : decode cX4_add 24 = .ok (.dup, 1) := by decide +kernel
theorem dX4_add_25 : decode cX4_add 25 = .ok (.getfield 15, 3) := by decide +kernel
theorem dX4_add_28 : decode cX4_add 28 = .ok (.iconst 1, 1) := by decide +kernel
theorem dX4_add_29 : decode cX4_add 29 = .ok (.iadd, 1) := by decide +kernel
theorem dX4_add_30 : decode cX4_add 30 = .ok (.putfield 15, 3) := by decide +kernel
theorem dX4_add_33 : decode cX4_add 33 = .ok (.iconst 1, 1) := by decide +kernel
theorem dX4_add_34 : decode cX4_add 34 = .ok (.ireturn, 1) := by decide +kernel
theorem dX4_clear_0 : decode cX4_clear 0 = .ok (.aload_n 0, 1) := by decide +kernel
theorem dX4_clear_1 : decode cX4_clear 1 = .ok (.iconst 0, 1) := by decide +kernel
theorem dX4_clear_2 : decode cX4_clear 2 = .ok (.putfield 15, 3) := by decide +kernel
theorem dX4_clear_5 : decode cX4_clear 5 = .ok (.return_, 1) := by decide +kernel
theorem dX4_at_0 : decode cX4_at 0 = .ok (.iload_n 1, 1) := by decide +kernel
theorem dX4_at_1 : decode cX4_at 1 = .ok (.ifCond .lt 24, 3) := by decide +kernel
theorem dX4_at_4 : decode cX4_at 4 = .ok (.iload_n 1, 1) := by decide +kernel
theorem dX4_at_5 : decode cX4_at 5 = .ok (.aload_n 0, 1) := by decide +kernel
theorem dX4_at_6 : decode cX4_at 6 = .ok (.getfield 15, 3) := by decide +kernel
theorem dX4_at_9 : decode cX4_at 9 = .ok (.if_icmp .ge 16, 3) := by decide +kernel
theorem dX4_at_12 : decode cX4_at 12 = .ok (.aload_n 0, 1) := by decide +kernel
theorem dX4_at_13 : decode cX4_at 13 = .ok (.getfield 9, 3) := by decide +kernel
theorem dX4_at_16 : decode cX4_at 16 = .ok (.iload_n 1, 1) := by decide +kernel
theorem dX4_at_17 : decode cX4_at 17 = .ok (.baload, 1) := by decide +kernel
theorem dX4_at_18 : decode cX4_at 18 = .ok (.sipush 255, 3) := by decide +kernel
theorem dX4_at_21 : decode cX4_at 21 = .ok (.iand, 1) := by decide +kernel
theorem dX4_at_22 : decode cX4_at 22 = .ok (.goto 4, 3) := by decide +kernel
theorem dX4_at_25 : decode cX4_at 25 = .ok (.iconst (-1), 1) := by decide +kernel
theorem dX4_at_26 : decode cX4_at 26 = .ok (.ireturn, 1) := by decide +kernel
set_option maxRecDepth 20000 in
theorem ggX4_isFigure_X4_at : GoodIn wsX4_isFigure wsX4_at := goodIn_ca (goodIn_r _ [5, 6, 7, 8, 9, 10, 11, 12] (by decide +kernel) (by decide +kernel)) (goodIn_sub (fun _ h => List.mem_cons_of_mem _ (List.mem_append_right _ h)) (by decide +kernel))
set_option maxRecDepth 20000 in
theorem gX4_isFigure_X4_at : GoodIn wsX4_isFigure (wsV RX4 28 RX4 yX4_at wsX4_at) := goodIn_app (goodIn_of _ (by decide +kernel)) ggX4_isFigure_X4_at
theorem dX4_isFigure_0 : decode cX4_isFigure 0 = .ok (.aload_n 0, 1) := by decide +kernel
theorem dX4_isFigure_1 : decode cX4_isFigure 1 = .ok (.iload_n 1, 1) := by decide +kernel
theorem dX4_isFigure_2 : decode cX4_isFigure 2 = .ok (.invokevirtual 28, 3) := by decide +kernel
theorem dX4_isFigure_5 : decode cX4_isFigure 5 = .ok (.bipush 48, 2) := by decide +kernel
theorem dX4_isFigure_7 : decode cX4_isFigure 7 = .ok (.if_icmp .lt 17, 3) := by decide +kernel
theorem dX4_isFigure_10 : decode cX4_isFigure 10 = .ok (.aload_n 0, 1) := by decide +kernel
theorem dX4_isFigure_11 : decode cX4_isFigure 11 = .ok (.iload_n 1, 1) := by decide +kernel
theorem dX4_isFigure_12 : decode cX4_isFigure 12 = .ok (.invokevirtual 28, 3) := by decide +kernel
theorem dX4_isFigure_15 : decode cX4_isFigure 15 = .ok (.bipush 57, 2) := by decide +kernel
theorem dX4_isFigure_17 : decode cX4_isFigure 17 = .ok (.if_icmp .gt 7, 3) := by decide +kernel
theorem dX4_isFigure_20 : decode cX4_isFigure 20 = .ok (.iconst 1, 1) := by decide +kernel
theorem dX4_isFigure_21 : decode cX4_isFigure 21 = .ok (.goto 4, 3) := by decide +kernel
theorem dX4_isFigure_24 : decode cX4_isFigure 24 = .ok (.iconst 0, 1) := by decide +kernel
theorem dX4_isFigure_25 : decode cX4_isFigure 25 = .ok (.ireturn, 1) := by decide +kernel
set_option maxRecDepth 20000 in
theorem ggX4_endOfFigures_X4_isFigure : GoodIn wsX4_endOfFigures wsX4_isFigure := goodIn_ca (goodIn_r _ [5, 6, 7, 8, 4, 9, 10, 11, 12, 13, 14, 15, 16] (by decide +kernel) (by decide +kernel)) (goodIn_sub (fun _ h => List.mem_cons_of_mem _ (List.mem_append_right _ h)) (by decide +kernel))
set_option maxRecDepth 20000 in
theorem gX4_endOfFigures_X4_isFigure : GoodIn wsX4_endOfFigures (wsV RX4 32 RX4 yX4_isFigure wsX4_isFigure) := goodIn_app (goodIn_of _ (by decide +kernel)) ggX4_endOfFigures_X4_isFigure
theorem dX4_endOfFigures_0 : decode cX4_endOfFigures 0 = .ok (.iload_n 1, 1) := by decide +kernel
theorem dX4_endOfFigures_1 : decode cX4_endOfFigures 1 = .ok (.istore_n 3, 1) := by decide +kernel
theorem dX4_endOfFigures_2 : decode cX4_endOfFigures 2 = .ok (.iload_n 3, 1) := by decide +kernel
theorem dX4_endOfFigures_3 : decode cX4_endOfFigures 3 = .ok (.iload_n 1, 1) := by decide +kernel
theorem dX4_endOfFigures_4 : decode cX4_endOfFigures 4 = .ok (.isub, 1) := by decide +kernel
theorem dX4_endOfFigures_5 : decode cX4_endOfFigures 5 = .ok (.iload_n 2, 1) := by decide +kernel
theorem dX4_endOfFigures_6 : decode cX4_endOfFigures 6 = .ok (.if_icmp .ge 17, 3) := by decide +kernel
theorem dX4_endOfFigures_9 : decode cX4_endOfFigures 9 = .ok (.aload_n 0, 1) := by decide +kernel
theorem dX4_endOfFigures_10 : decode cX4_endOfFigures 10 = .ok (.iload_n 3, 1) := by decide +kernel
theorem dX4_endOfFigures_11 : decode cX4_endOfFigures 11 = .ok (.invokevirtual 32, 3) := by decide +kernel
theorem dX4_endOfFigures_14 : decode cX4_endOfFigures 14 = .ok (.ifCond .eq 9, 3) := by decide +kernel
theorem dX4_endOfFigures_17 : decode cX4_endOfFigures 17 = .ok (.iinc 3 1, 3) := by decide +kernel
theorem dX4_endOfFigures_20 : decode cX4_endOfFigures 20 = .ok (.goto (-18), 3) := by decide +kernel
theorem dX4_endOfFigures_23 : decode cX4_endOfFigures 23 = .ok (.iload_n 3, 1) := by decide +kernel
theorem dX4_endOfFigures_24 : decode cX4_endOfFigures 24 = .ok (.ireturn, 1) := by decide +kernel
set_option maxRecDepth 20000 in
theorem ggX4_findFault_X4_at : GoodIn wsX4_findFault wsX4_at := goodIn_ca (goodIn_r _ [9, 4, 10, 19, 20, 21, 22, 23] (by decide +kernel) (by decide +kernel)) (goodIn_sub (fun _ h => List.mem_cons_of_mem _ (List.mem_append_right _ h)) (by decide +kernel))
set_option maxRecDepth 20000 in
theorem gX4_findFault_X4_at : GoodIn wsX4_findFault (wsV RX4 28 RX4 yX4_at wsX4_at) := goodIn_app (goodIn_of _ (by decide +kernel)) ggX4_findFault_X4_at
set_option maxRecDepth 20000 in
theorem ggX4_findFault_X4_endOfFigures : GoodIn wsX4_findFault wsX4_endOfFigures := goodIn_ca (goodIn_r _ [14, 15, 16, 17, 8, 18, 5, 6, 7, 9, 4, 10, 19, 20, 21, 22, 23] (by decide +kernel) (by decide +kernel)) (goodIn_sub (fun _ h => List.mem_cons_of_mem _ (List.mem_append_right _ h)) (by decide +kernel))
set_option maxRecDepth 20000 in
theorem gX4_findFault_X4_endOfFigures : GoodIn wsX4_findFault (wsV RX4 36 RX4 yX4_endOfFigures wsX4_endOfFigures) := goodIn_app (goodIn_of _ (by decide +kernel)) ggX4_findFault_X4_endOfFigures
theorem dX4_findFault_0 : decode cX4_findFault 0 = .ok (.aload_n 0, 1) := by decide +kernel
theorem dX4_findFault_1 : decode cX4_findFault 1 = .ok (.aload_n 0, 1) := by decide +kernel
theorem dX4_findFault_2 : decode cX4_findFault 2 = .ok (.iconst 0, 1) := by decide +kernel
theorem dX4_findFault_3 : decode cX4_findFault 3 = .ok (.invokevirtual 28, 3) := by decide +kernel
theorem dX4_findFault_6 : decode cX4_findFault 6 = .ok (.bipush 45, 2) := by decide +kernel
theorem dX4_findFault_8 : decode cX4_findFault 8 = .ok (.if_icmp .ne 7, 3) := by decide +kernel
theorem dX4_findFault_11 : decode cX4_findFault 11 = .ok (.iconst 1, 1) := by decide +kernel
theorem dX4_findFault_12 : decode cX4_findFault 12 = .ok (.goto 4, 3) := by decide +kernel
theorem dX4_findFault_15 : decode cX4_findFault 15 = .ok (.iconst 0, 1) := by decide +kernel
theorem dX4_findFault_16 : decode cX4_findFault 16 = .ok (.putfield 19, 3) := by decide +kernel
theorem dX4_findFault_19 : decode cX4_findFault 19 = .ok (.aload_n 0, 1) := by decide +kernel
theorem dX4_findFault_20 : decode cX4_findFault 20 = .ok (.aload_n 0, 1) := by decide +kernel
theorem dX4_findFault_21 : decode cX4_findFault 21 = .ok (.aload_n 0, 1) := by decide +kernel
theorem dX4_findFault_22 : decode cX4_findFault 22 = .ok (.getfield 19, 3) := by decide +kernel
theorem dX4_findFault_25 : decode cX4_findFault 25 = .ok (.sipush 160, 3) := by decide +kernel
theorem dX4_findFault_28 : decode cX4_findFault 28 = .ok (.invokevirtual 36, 3) := by decide +kernel
theorem dX4_findFault_31 : decode cX4_findFault 31 = .ok (.putfield 22, 3) := by decide +kernel
theorem dX4_findFault_34 : decode cX4_findFault 34 = .ok (.aload_n 0, 1) := by decide +kernel
theorem dX4_findFault_35 : decode cX4_findFault 35 = .ok (.aload_n 0, 1) := by decide +kernel
theorem dX4_findFault_36 : decode cX4_findFault 36 = .ok (.getfield 22, 3) := by decide +kernel
theorem dX4_findFault_39 : decode cX4_findFault 39 = .ok (.putfield 25, 3) := by decide +kernel
theorem dX4_findFault_42 : decode cX4_findFault 42 = .ok (.aload_n 0, 1) := by decide +kernel
theorem dX4_findFault_43 : decode cX4_findFault 43 = .ok (.getfield 22, 3) := by decide +kernel
theorem dX4_findFault_46 : decode cX4_findFault 46 = .ok (.aload_n 0, 1) := by decide +kernel
theorem dX4_findFault_47 : decode cX4_findFault 47 = .ok (.getfield 19, 3) := by decide +kernel
theorem dX4_findFault_50 : decode cX4_findFault 50 = .ok (.if_icmp .ne 8, 3) := by decide +kernel
theorem dX4_findFault_53 : decode cX4_findFault 53 = .ok (.aload_n 0, 1) := by decide +kernel
theorem dX4_findFault_54 : decode cX4_findFault 54 = .ok (.getfield 19, 3) := by decide +kernel
theorem dX4_findFault_57 : decode cX4_findFault 57 = .ok (.ireturn, 1) := by decide +kernel
theorem dX4_findFault_58 : decode cX4_findFault 58 = .ok (.aload_n 0, 1) := by decide +kernel
theorem dX4_findFault_59 : decode cX4_findFault 59 = .ok (.aload_n 0, 1) := by decide +kernel
theorem dX4_findFault_60 : decode cX4_findFault 60 = .ok (.getfield 22, 3) := by decide +kernel
theorem dX4_findFault_63 : decode cX4_findFault 63 = .ok (.invokevirtual 28, 3) := by decide +kernel
theorem dX4_findFault_66 : decode cX4_findFault 66 = .ok (.istore_n 1, 1) := by decide +kernel
theorem dX4_findFault_67 : decode cX4_findFault 67 = .ok (.iload_n 1, 1) := by decide +kernel
theorem dX4_findFault_68 : decode cX4_findFault 68 = .ok (.bipush 47, 2) := by decide +kernel
theorem dX4_findFault_70 : decode cX4_findFault 70 = .ok (.if_icmp .eq 9, 3) := by decide +kernel
theorem dX4_findFault_73 : decode cX4_findFault 73 = .ok (.iload_n 1, 1) := by decide +kernel
theorem dX4_findFault_74 : decode cX4_findFault 74 = .ok (.bipush 46, 2) := by decide +kernel
theorem dX4_findFault_76 : decode cX4_findFault 76 = .ok (.if_icmp .ne 62, 3) := by decide +kernel
theorem dX4_findFault_79 : decode cX4_findFault 79 = .ok (.iload_n 1, 1) := by decide +kernel
theorem dX4_findFault_80 : decode cX4_findFault 80 = .ok (.bipush 47, 2) := by decide +kernel
theorem dX4_findFault_82 : decode cX4_findFault 82 = .ok (.if_icmp .ne 9, 3) := by decide +kernel
theorem dX4_findFault_85 : decode cX4_findFault 85 = .ok (.sipush 160, 3) := by decide +kernel
theorem dX4_findFault_88 : decode cX4_findFault 88 = .ok (.goto 16, 3) := by decide +kernel
theorem dX4_findFault_91 : decode cX4_findFault 91 = .ok (.sipush 160, 3) := by decide +kernel
theorem dX4_findFault_94 : decode cX4_findFault 94 = .ok (.aload_n 0, 1) := by decide +kernel
theorem dX4_findFault_95 : decode cX4_findFault 95 = .ok (.getfield 22, 3) := by decide +kernel
theorem dX4_findFault_98 : decode cX4_findFault 98 = .ok (.aload_n 0, 1) := by decide +kernel
theorem dX4_findFault_99 : decode cX4_findFault 99 = .ok (.getfield 19, 3) := by decide +kernel
theorem dX4_findFault_102 : decode cX4_findFault 102 = .ok (.isub, 1) := by decide +kernel
theorem dX4_findFault_103 : decode cX4_findFault 103 = .ok (.isub, 1) := by decide +kernel
theorem dX4_findFault_104 : decode cX4_findFault 104 = .ok (.istore_n 2, 1) := by decide +kernel
theorem dX4_findFault_105 : decode cX4_findFault 105 = .ok (.aload_n 0, 1) := by decide +kernel
theorem dX4_findFault_106 : decode cX4_findFault 106 = .ok (.aload_n 0, 1) := by decide +kernel
theorem dX4_findFault_107 : decode cX4_findFault 107 = .ok (.aload_n 0, 1) := by decide +kernel
theorem dX4_findFault_108 : decode cX4_findFault 108 = .ok (.getfield 22, 3) := by decide +kernel
theorem dX4_findFault_111 : decode cX4_findFault 111 = .ok (.iconst 1, 1) := by decide +kernel
theorem dX4_findFault_112 : decode cX4_findFault 112 = .ok (.iadd, 1) := by decide +kernel
theorem dX4_findFault_113 : decode cX4_findFault 113 = .ok (.iload_n 2, 1) := by decide +kernel
theorem dX4_findFault_114 : decode cX4_findFault 114 = .ok (.invokevirtual 36, 3) := by decide +kernel
theorem dX4_findFault_117 : decode cX4_findFault 117 = .ok (.putfield 25, 3) := by decide +kernel
theorem dX4_findFault_120 : decode cX4_findFault 120 = .ok (.aload_n 0, 1) := by decide +kernel
theorem dX4_findFault_121 : decode cX4_findFault 121 = .ok (.getfield 25, 3) := by decide +kernel
theorem dX4_findFault_124 : decode cX4_findFault 124 = .ok (.aload_n 0, 1) := by decide +kernel
theorem dX4_findFault_125 : decode cX4_findFault 125 = .ok (.getfield 22, 3) := by decide +kernel
theorem dX4_findFault_128 : decode cX4_findFault 128 = .ok (.iconst 1, 1) := by decide +kernel
theorem dX4_findFault_129 : decode cX4_findFault 129 = .ok (.iadd, 1) := by decide +kernel
theorem dX4_findFault_130 : decode cX4_findFault 130 = .ok (.if_icmp .ne 8, 3) := by decide +kernel
theorem dX4_findFault_133 : decode cX4_findFault 133 = .ok (.aload_n 0, 1) := by decide +kernel
theorem dX4_findFault_134 : decode cX4_findFault 134 = .ok (.getfield 25, 3) := by decide +kernel
theorem dX4_findFault_137 : decode cX4_findFault 137 = .ok (.ireturn, 1) := by decide +kernel
theorem dX4_findFault_138 : decode cX4_findFault 138 = .ok (.aload_n 0, 1) := by decide +kernel
theorem dX4_findFault_139 : decode cX4_findFault 139 = .ok (.getfield 25, 3) := by decide +kernel
theorem dX4_findFault_142 : decode cX4_findFault 142 = .ok (.aload_n 0, 1) := by decide +kernel
theorem dX4_findFault_143 : decode cX4_findFault 143 = .ok (.getfield 15, 3) := by decide +kernel
theorem dX4_findFault_146 : decode cX4_findFault 146 = .ok (.if_icmp .ge 10, 3) := by decide +kernel
theorem dX4_findFault_149 : decode cX4_findFault 149 = .ok (.aload_n 0, 1) := by decide +kernel
theorem dX4_findFault_150 : decode cX4_findFault 150 = .ok (.getfield 25, 3) := by decide +kernel
theorem dX4_findFault_153 : decode cX4_findFault 153 = .ok (.goto 4, 3) := by decide +kernel
theorem dX4_findFault_156 : decode cX4_findFault 156 = .ok (.iconst (-1), 1) := by decide +kernel
theorem dX4_findFault_157 : decode cX4_findFault 157 = .ok (.ireturn, 1) := by decide +kernel
set_option maxRecDepth 20000 in
theorem ggX4_tell_X2_become : GoodIn wsX4_tell wsX2_become := goodIn_ca (goodIn_r _ [8, 9, 10, 11, 12, 13, 14, 15, 16, 17, 18, 19, 20, 21, 22, 23, 24, 25, 26, 27, 28, 29, 30, 31, 32, 33, 63, 64, 65, 66, 67] (by decide +kernel) (by decide +kernel)) (goodIn_sub (fun _ h => List.mem_cons_of_mem _ (List.mem_append_right _ h)) (by decide +kernel))
set_option maxRecDepth 20000 in
theorem gX4_tell_X2_become : GoodIn wsX4_tell (wsV RX4 40 RX2 yX2_become wsX2_become) := goodIn_app (goodIn_of _ (by decide +kernel)) ggX4_tell_X2_become
set_option maxRecDepth 20000 in
theorem ggX4_tell_X4_addFigures : GoodIn wsX4_tell wsX4_addFigures := goodIn_ca (goodIn_r _ [38, 39, 40, 41, 37, 42, 43, 44, 45, 46, 47, 15, 48, 33, 21, 26, 27, 28, 29, 49, 50, 51, 52, 53, 17, 18, 19, 20, 22, 23, 24, 25, 30, 31, 32, 58, 59, 60, 61, 62, 66, 67] (by decide +kernel) (by decide +kernel)) (goodIn_sub (fun _ h => List.mem_cons_of_mem _ (List.mem_append_right _ h)) (by decide +kernel))
set_option maxRecDepth 20000 in
theorem gX4_tell_X4_addFigures : GoodIn wsX4_tell (wsV RX4 50 RX4 yX4_addFigures wsX4_addFigures) := goodIn_app (goodIn_of _ (by decide +kernel)) ggX4_tell_X4_addFigures
set_option maxRecDepth 20000 in
theorem ggX4_tell_X4_at : GoodIn wsX4_tell wsX4_at := goodIn_ca (goodIn_r _ [42, 43, 44, 58, 59, 60, 61, 62] (by decide +kernel) (by decide +kernel)) (goodIn_sub (fun _ h => List.mem_cons_of_mem _ (List.mem_append_right _ h)) (by decide +kernel))
set_option maxRecDepth 20000 in
theorem gX4_tell_X4_at : GoodIn wsX4_tell (wsV RX4 28 RX4 yX4_at wsX4_at) := goodIn_app (goodIn_of _ (by decide +kernel)) ggX4_tell_X4_at
set_option maxRecDepth 20000 in
theorem ggX4_tell_X5_clear : GoodIn wsX4_tell wsX5_clear := goodIn_r _ [57, 33, 66, 67] (by decide +kernel) (by decide +kernel)
set_option maxRecDepth 20000 in
theorem gX4_tell_X5_clear : GoodIn wsX4_tell (wsV RX4 57 RX5 yX5_clear wsX5_clear) := goodIn_app (goodIn_of _ (by decide +kernel)) ggX4_tell_X5_clear
set_option maxRecDepth 20000 in
theorem ggX4_tell_X5_timesPlus : GoodIn wsX4_tell wsX5_timesPlus := goodIn_ca (goodIn_r _ [48, 33, 21, 26, 27, 28, 29, 49, 50, 51, 15, 52, 53, 17, 18, 19, 20, 22, 23, 24, 25, 30, 31, 32, 66, 67] (by decide +kernel) (by decide +kernel)) (goodIn_sub (fun _ h => List.mem_cons_of_mem _ (List.mem_append_right _ h)) (by decide +kernel))
set_option maxRecDepth 20000 in
theorem gX4_tell_X5_timesPlus : GoodIn wsX4_tell (wsV RX4 62 RX5 yX5_timesPlus wsX5_timesPlus) := goodIn_app (goodIn_of _ (by decide +kernel)) ggX4_tell_X5_timesPlus
theorem dX4_tell_0 : decode cX4_tell 0 = .ok (.aload_n 1, 1) := by decide +kernel
theorem dX4_tell_1 : decode cX4_tell 1 = .ok (.aload_n 0, 1) := by decide +kernel
theorem dX4_tell_2 : decode cX4_tell 2 = .ok (.getfield 19, 3) := by decide +kernel
theorem dX4_tell_5 : decode cX4_tell 5 = .ok (.iconst 1, 1) := by decide +kernel
theorem dX4_tell_6 : decode cX4_tell 6 = .ok (.if_icmp .ne 7, 3) := by decide +kernel
theorem dX4_tell_9 : decode cX4_tell 9 = .ok (.iconst (-1), 1) := by decide +kernel
theorem dX4_tell_10 : decode cX4_tell 10 = .ok (.goto 4, 3) := by decide +kernel
theorem dX4_tell_13 : decode cX4_tell 13 = .ok (.iconst 1, 1) := by decide +kernel
theorem dX4_tell_14 : decode cX4_tell 14 = .ok (.lconst 0, 1) := by decide +kernel
theorem dX4_tell_15 : decode cX4_tell 15 = .ok (.invokevirtual 40, 3) := by decide +kernel
theorem dX4_tell_18 : decode cX4_tell 18 = .ok (.aload_n 0, 1) := by decide +kernel
theorem dX4_tell_19 : decode cX4_tell 19 = .ok (.aload_n 1, 1) := by decide +kernel
theorem dX4_tell_20 : decode cX4_tell 20 = .ok (.getfield 46, 3) := by decide +kernel
theorem dX4_tell_23 : decode cX4_tell 23 = .ok (.aload_n 0, 1) := by decide +kernel
theorem dX4_tell_24 : decode cX4_tell 24 = .ok (.getfield 19, 3) := by decide +kernel
theorem dX4_tell_27 : decode cX4_tell 27 = .ok (.aload_n 0, 1) := by decide +kernel
theorem dX4_tell_28 : decode cX4_tell 28 = .ok (.getfield 22, 3) := by decide +kernel
theorem dX4_tell_31 : decode cX4_tell 31 = .ok (.invokevirtual 50, 3) := by decide +kernel
theorem dX4_tell_34 : decode cX4_tell 34 = .ok (.aload_n 0, 1) := by decide +kernel
theorem dX4_tell_35 : decode cX4_tell 35 = .ok (.aload_n 0, 1) := by decide +kernel
theorem dX4_tell_36 : decode cX4_tell 36 = .ok (.getfield 22, 3) := by decide +kernel
theorem dX4_tell_39 : decode cX4_tell 39 = .ok (.invokevirtual 28, 3) := by decide +kernel
theorem dX4_tell_42 : decode cX4_tell 42 = .ok (.istore_n 2, 1) := by decide +kernel
theorem dX4_tell_43 : decode cX4_tell 43 = .ok (.iload_n 2, 1) := by decide +kernel
theorem dX4_tell_44 : decode cX4_tell 44 = .ok (.bipush 47, 2) := by decide +kernel
theorem dX4_tell_46 : decode cX4_tell 46 = .ok (.if_icmp .ne 31, 3) := by decide +kernel
theorem dX4_tell_49 : decode cX4_tell 49 = .ok (.aload_n 1, 1) := by decide +kernel
theorem dX4_tell_50 : decode cX4_tell 50 = .ok (.getfield 54, 3) := by decide +kernel
theorem dX4_tell_53 : decode cX4_tell 53 = .ok (.invokevirtual 57, 3) := by decide +kernel
theorem dX4_tell_56 : decode cX4_tell 56 = .ok (.aload_n 0, 1) := by decide +kernel
theorem dX4_tell_57 : decode cX4_tell 57 = .ok (.aload_n 1, 1) := by decide +kernel
theorem dX4_tell_58 : decode cX4_tell 58 = .ok (.getfield 54, 3) := by decide +kernel
theorem dX4_tell_61 : decode cX4_tell 61 = .ok (.aload_n 0, 1) := by decide +kernel
theorem dX4_tell_62 : decode cX4_tell 62 = .ok (.getfield 22, 3) := by decide +kernel
theorem dX4_tell_65 : decode cX4_tell 65 = .ok (.iconst 1, 1) := by decide +kernel
theorem dX4_tell_66 : decode cX4_tell 66 = .ok (.iadd, 1) := by decide +kernel
theorem dX4_tell_67 : decode cX4_tell 67 = .ok (.aload_n 0, 1) := by decide +kernel
theorem dX4_tell_68 : decode cX4_tell 68 = .ok (.getfield 25, 3) := by decide +kernel
theorem dX4_tell_71 : decode cX4_tell 71 = .ok (.invokevirtual 50, 3) := by decide +kernel
theorem dX4_tell_74 : decode cX4_tell 74 = .ok (.goto 58, 3) := by decide +kernel
theorem dX4_tell_77 : decode cX4_tell 77 = .ok (.iload_n 2, 1) := by decide +kernel
theorem dX4_tell_78 : decode cX4_tell 78 = .ok (.bipush 46, 2) := by decide +kernel
theorem dX4_tell_80 : decode cX4_tell 80 = .ok (.if_icmp .ne 52, 3) := by decide +kernel
theorem dX4_tell_83 : decode cX4_tell 83 = .ok (.aload_n 0, 1) := by decide +kernel
theorem dX4_tell_84 : decode cX4_tell 84 = .ok (.aload_n 1, 1) := by decide +kernel
theorem dX4_tell_85 : decode cX4_tell 85 = .ok (.getfield 46, 3) := by decide +kernel
theorem dX4_tell_88 : decode cX4_tell 88 = .ok (.aload_n 0, 1) := by decide +kernel
theorem dX4_tell_89 : decode cX4_tell 89 = .ok (.getfield 22, 3) := by decide +kernel
theorem dX4_tell_92 : decode cX4_tell 92 = .ok (.iconst 1, 1) := by decide +kernel
theorem dX4_tell_93 : decode cX4_tell 93 = .ok (.iadd, 1) := by decide +kernel
theorem dX4_tell_94 : decode cX4_tell 94 = .ok (.aload_n 0, 1) := by decide +kernel
theorem dX4_tell_95 : decode cX4_tell 95 = .ok (.getfield 25, 3) := by decide +kernel
theorem dX4_tell_98 : decode cX4_tell 98 = .ok (.invokevirtual 50, 3) := by decide +kernel
theorem dX4_tell_101 : decode cX4_tell 101 = .ok (.aload_n 0, 1) := by decide +kernel
theorem dX4_tell_102 : decode cX4_tell 102 = .ok (.getfield 22, 3) := by decide +kernel
theorem dX4_tell_105 : decode cX4_tell 105 = .ok (.iconst 1, 1) := by decide +kernel
theorem dX4_tell_106 : decode cX4_tell 106 = .ok (.iadd, 1) := by decide +kernel
theorem dX4_tell_107 : decode cX4_tell 107 = .ok (.istore_n 3, 1) := by decide +kernel
theorem dX4_tell_108 : decode cX4_tell 108 = .ok (.iload_n 3, 1) := by decide +kernel
theorem dX4_tell_109 : decode cX4_tell 109 = .ok (.aload_n 0, 1) := by decide +kernel
theorem dX4_tell_110 : decode cX4_tell 110 = .ok (.getfield 25, 3) := by decide +kernel
theorem dX4_tell_113 : decode cX4_tell 113 = .ok (.if_icmp .ge 19, 3) := by decide +kernel
theorem dX4_tell_116 : decode cX4_tell 116 = .ok (.aload_n 1, 1) := by decide +kernel
theorem dX4_tell_117 : decode cX4_tell 117 = .ok (.getfield 54, 3) := by decide +kernel
theorem dX4_tell_120 : decode cX4_tell 120 = .ok (.bipush 10, 2) := by decide +kernel
theorem dX4_tell_122 : decode cX4_tell 122 = .ok (.iconst 0, 1) := by decide +kernel
theorem dX4_tell_123 : decode cX4_tell 123 = .ok (.invokevirtual 62, 3) := by decide +kernel
theorem dX4_tell_126 : decode cX4_tell 126 = .ok (.iinc 3 1, 3) := by decide +kernel
theorem dX4_tell_129 : decode cX4_tell 129 = .ok (.goto (-21), 3) := by decide +kernel
theorem dX4_tell_132 : decode cX4_tell 132 = .ok (.return_, 1) := by decide +kernel
set_option maxRecDepth 20000 in
theorem ggX4_addFigures_X4_at : GoodIn wsX4_addFigures wsX4_at := goodIn_ca (goodIn_r _ [5, 6, 7, 35, 36, 37, 38, 39] (by decide +kernel) (by decide +kernel)) (goodIn_sub (fun _ h => List.mem_cons_of_mem _ (List.mem_append_right _ h)) (by decide +kernel))
set_option maxRecDepth 20000 in
theorem gX4_addFigures_X4_at : GoodIn wsX4_addFigures (wsV RX4 28 RX4 yX4_at wsX4_at) := goodIn_app (goodIn_of _ (by decide +kernel)) ggX4_addFigures_X4_at
set_option maxRecDepth 20000 in
theorem ggX4_addFigures_X5_timesPlus : GoodIn wsX4_addFigures wsX5_timesPlus := goodIn_ca (goodIn_r _ [12, 13, 14, 15, 16, 17, 18, 19, 20, 21, 11, 22, 23, 24, 25, 26, 27, 28, 29, 30, 31, 32, 33, 34, 40, 41] (by decide +kernel) (by decide +kernel)) (goodIn_sub (fun _ h => List.mem_cons_of_mem _ (List.mem_append_right _ h)) (by decide +kernel))
set_option maxRecDepth 20000 in
theorem gX4_addFigures_X5_timesPlus : GoodIn wsX4_addFigures (wsV RX4 62 RX5 yX5_timesPlus wsX5_timesPlus) := goodIn_app (goodIn_of _ (by decide +kernel)) ggX4_addFigures_X5_timesPlus
theorem dX4_addFigures_0 : decode cX4_addFigures 0 = .ok (.iload_n 2, 1) := by decide +kernel
theorem dX4_addFigures_1 : decode cX4_addFigures 1 = .ok (.istore 4, 2) := by decide +kernel
theorem dX4_addFigures_3 : decode cX4_addFigures 3 = .ok (.iload 4, 2) := by decide +kernel
theorem dX4_addFigures_5 : decode cX4_addFigures 5 = .ok (.iload_n 3, 1) := by decide +kernel
theorem dX4_addFigures_6 : decode cX4_addFigures 6 = .ok (.if_icmp .ge 24, 3) := by decide +kernel
theorem dX4_addFigures_9 : decode cX4_addFigures 9 = .ok (.aload_n 1, 1) := by decide +kernel
theorem dX4_addFigures_10 : decode cX4_addFigures 10 = .ok (.bipush 10, 2) := by decide +kernel
theorem dX4_addFigures_12 : decode cX4_addFigures 12 = .ok (.aload_n 0, 1) := by decide +kernel
theorem dX4_addFigures_13 : decode cX4_addFigures 13 = .ok (.iload 4, 2) := by decide +kernel
theorem dX4_addFigures_15 : decode cX4_addFigures 15 = .ok (.invokevirtual 28, 3) := by decide +kernel
theorem dX4_addFigures_18 : decode cX4_addFigures 18 = .ok (.bipush 48, 2) := by decide +kernel
theorem dX4_addFigures_20 : decode cX4_addFigures 20 = .ok (.isub, 1) := by decide +kernel
theorem dX4_addFigures_21 : decode cX4_addFigures 21 = .ok (.invokevirtual 62, 3) := by decide +kernel
theorem dX4_addFigures_24 : decode cX4_addFigures 24 = .ok (.iinc 4 1, 3) := by decide +kernel
theorem dX4_addFigures_27 : decode cX4_addFigures 27 = .ok (.goto (-24), 3) := by decide +kernel
theorem dX4_addFigures_30 : decode cX4_addFigures 30 = .ok (.return_, 1) := by decide +kernel
theorem dX5_init_0 : decode cX5_init 0 = .ok (.aload_n 0, 1) := by decide +kernel
theorem dX5_init_1 : decode cX5_init 1 = .ok (.invokespecial 3, 3) := by decide +kernel
theorem dX5_init_4 : decode cX5_init 4 = .ok (.aload_n 0, 1) := by decide +kernel
theorem dX5_init_5 : decode cX5_init 5 = .ok (.iload_n 1, 1) := by decide +kernel
theorem dX5_init_6 : decode cX5_init 6 = .ok (.iconst 2, 1) := by decide +kernel
theorem dX5_init_7 : decode cX5_init 7 = .ok (.invokestatic 9, 3) := by decide +kernel
theorem dX5_init_10 : decode cX5_init 10 = .ok (.newarray .int, 2) := by decide +kernel
theorem dX5_init_12 : decode cX5_init 12 = .ok (.putfield 15, 3) := by decide +kernel
theorem dX5_init_15 : decode cX5_init 15 = .ok (.aload_n 0, 1) := by decide +kernel
theorem dX5_init_16 : decode cX5_init 16 = .ok (.iconst 0, 1) := by decide +kernel
theorem dX5_init_17 : decode cX5_init 17 = .ok (.putfield 21, 3) := by decide +kernel
theorem dX5_init_20 : decode cX5_init 20 = .ok (.return_, 1) := by decide +kernel
theorem dX5_limbAt_0 : decode cX5_limbAt 0 = .ok (.iload_n 1, 1) := by decide +kernel
theorem dX5_limbAt_1 : decode cX5_limbAt 1 = .ok (.ifCond .lt 34, 3) := by decide +kernel
theorem dX5_limbAt_4 : decode cX5_limbAt 4 = .ok (.iload_n 1, 1) := by decide +kernel
theorem dX5_limbAt_5 : decode cX5_limbAt 5 = .ok (.aload_n 0, 1) := by decide +kernel
theorem dX5_limbAt_6 : decode cX5_limbAt 6 = .ok (.getfield 21, 3) := by decide +kernel
theorem dX5_limbAt_9 : decode cX5_limbAt 9 = .ok (.if_icmp .ge 26, 3) := by decide +kernel
theorem dX5_limbAt_12 : decode cX5_limbAt 12 = .ok (.iload_n 1, 1) := by decide +kernel
theorem dX5_limbAt_13 : decode cX5_limbAt 13 = .ok (.aload_n 0, 1) := by decide +kernel
theorem dX5_limbAt_14 : decode cX5_limbAt 14 = .ok (.getfield 15, 3) := by decide +kernel
theorem dX5_limbAt_17 : decode cX5_limbAt 17 = .ok (.arraylength, 1) := by decide +kernel
theorem dX5_limbAt_18 : decode cX5_limbAt 18 = .ok (.if_icmp .ge 17, 3) := by decide +kernel
theorem dX5_limbAt_21 : decode cX5_limbAt 21 = .ok (.aload_n 0, 1) := by decide +kernel
theorem dX5_limbAt_22 : decode cX5_limbAt 22 = .ok (.getfield 15, 3) := by decide +kernel
theorem dX5_limbAt_25 : decode cX5_limbAt 25 = .ok (.iload_n 1, 1) := by decide +kernel
theorem dX5_limbAt_26 : decode cX5_limbAt 26 = .ok (.iaload, 1) := by decide +kernel
theorem dX5_limbAt_27 : decode cX5_limbAt 27 = .ok (.i2l, 1) := by decide +kernel
theorem dX5_limbAt_28 : decode cX5_limbAt 28 = .ok (.ldc2_w 25, 3) := by decide +kernel
theorem dX5_limbAt_31 : decode cX5_limbAt 31 = .ok (.land, 1) := by decide +kernel
theorem dX5_limbAt_32 : decode cX5_limbAt 32 = .ok (.goto 4, 3) := by decide +kernel
theorem dX5_limbAt_35 : decode cX5_limbAt 35 = .ok (.lconst 0, 1) := by decide +kernel
theorem dX5_limbAt_36 : decode cX5_limbAt 36 = .ok (.lreturn, 1) := by decide +kernel
theorem dX5_put_0 : decode cX5_put 0 = .ok (.iload_n 1, 1) := by decide +kernel
theorem dX5_put_1 : decode cX5_put 1 = .ok (.ifCond .lt 20, 3) := by decide +kernel
theorem dX5_put_4 : decode cX5_put 4 = .ok (.iload_n 1, 1) := by decide +kernel
theorem dX5_put_5 : decode cX5_put 5 = .ok (.aload_n 0, 1) := by decide +kernel
theorem dX5_put_6 : decode cX5_put 6 = .ok (.getfield 15, 3) := by decide +kernel
theorem dX5_put_9 : decode cX5_put 9 = .ok (.arraylength, 1) := by decide +kernel
theorem dX5_put_10 : decode cX5_put 10 = .ok (.if_icmp .ge 11, 3) := by decide +kernel
theorem dX5_put_13 : decode cX5_put 13 = .ok (.aload_n 0, 1) := by decide +kernel
theorem dX5_put_14 : decode cX5_put 14 = .ok (.getfield 15, 3) := by decide +kernel
theorem dX5_put_17 : decode cX5_put 17 = .ok (.iload_n 1, 1) := by decide +kernel
theorem dX5_put_18 : decode cX5_put 18 = .ok (.lload_n 2, 1) := by decide +kernel
theorem dX5_put_19 : decode cX5_put 19 = .ok (.l2i, 1) := by decide +kernel
theorem dX5_put_20 : decode cX5_put 20 = .ok (.iastore, 1) := by decide +kernel
theorem dX5_put_21 : decode cX5_put 21 = .ok (.return_, 1) := by decide +kernel
theorem dX5_trim_0 : decode cX5_trim 0 = .ok (.iconst 0, 1) := by decide +kernel
theorem dX5_trim_1 : decode cX5_trim 1 = .ok (.iload_n 1, 1) := by decide +kernel
theorem dX5_trim_2 : decode cX5_trim 2 = .ok (.aload_n 0, 1) := by decide +kernel
theorem dX5_trim_3 : decode cX5_trim 3 = .ok (.getfield 15, 3) := by decide +kernel
theorem dX5_trim_6 : decode cX5_trim 6 = .ok (.arraylength, 1) := by decide +kernel
theorem dX5_trim_7 : decode cX5_trim 7 = .ok (.invokestatic 27, 3) := by decide +kernel
theorem dX5_trim_10 : decode cX5_trim 10 = .ok (.invokestatic 9, 3) := by decide +kernel
theorem dX5_trim_13 : decode cX5_trim 13 = .ok (.istore_n 2, 1) := by decide +kernel
theorem dX5_trim_14 : decode cX5_trim 14 = .ok (.iload_n 2, 1) := by decide +kernel
theorem dX5_trim_15 : decode cX5_trim 15 = .ok (.ifCond .le 20, 3) := by decide +kernel
theorem dX5_trim_18 : decode cX5_trim 18 = .ok (.aload_n 0, 1) := by decide +kernel
theorem dX5_trim_19 : decode cX5_trim 19 = .ok (.getfield 15, 3) := by decide +kernel
theorem dX5_trim_22 : decode cX5_trim 22 = .ok (.iload_n 2, 1) := by decide +kernel
theorem dX5_trim_23 : decode cX5_trim 23 = .ok (.iconst 1, 1) := by decide +kernel
theorem dX5_trim_24 : decode cX5_trim 24 = .ok (.isub, 1) := by decide +kernel
theorem dX5_trim_25 : decode cX5_trim 25 = .ok (.iaload, 1) := by decide +kernel
theorem dX5_trim_26 : decode cX5_trim 26 = .ok (.ifCond .ne 9, 3) := by decide +kernel
theorem dX5_trim_29 : decode cX5_trim 29 = .ok (.iinc 2 (-1), 3) := by decide +kernel
theorem dX5_trim_32 : decode cX5_trim 32 = .ok (.goto (-18), 3) := by decide +kernel
theorem dX5_trim_35 : decode cX5_trim 35 = .ok (.aload_n 0, 1) := by decide +kernel
theorem dX5_trim_36 : decode cX5_trim 36 = .ok (.iload_n 2, 1) := by decide +kernel
theorem dX5_trim_37 : decode cX5_trim 37 = .ok (.putfield 21, 3) := by decide +kernel
theorem dX5_trim_40 : decode cX5_trim 40 = .ok (.return_, 1) := by decide +kernel
theorem dX5_clear_0 : decode cX5_clear 0 = .ok (.aload_n 0, 1) := by decide +kernel
theorem dX5_clear_1 : decode cX5_clear 1 = .ok (.iconst 0, 1) := by decide +kernel
theorem dX5_clear_2 : decode cX5_clear 2 = .ok (.putfield 21, 3) := by decide +kernel
theorem dX5_clear_5 : decode cX5_clear 5 = .ok (.return_, 1) := by decide +kernel
set_option maxRecDepth 20000 in
theorem ggX5_become_X5_put : GoodIn wsX5_become wsX5_put := goodIn_ca (goodIn_r _ [5, 6, 19, 20] (by decide +kernel) (by decide +kernel)) (goodIn_sub (fun _ h => List.mem_cons_of_mem _ (List.mem_append_right _ h)) (by decide +kernel))
set_option maxRecDepth 20000 in
theorem gX5_become_X5_put : GoodIn wsX5_become (wsV RX5 30 RX5 yX5_put wsX5_put) := goodIn_app (goodIn_of _ (by decide +kernel)) ggX5_become_X5_put
set_option maxRecDepth 20000 in
theorem ggX5_become_X5_trim : GoodIn wsX5_become wsX5_trim := goodIn_ca (goodIn_r _ [10, 6, 11, 12, 13, 14, 15, 16, 17, 18, 19, 20] (by decide +kernel) (by decide +kernel)) (goodIn_sub (fun _ h => List.mem_cons_of_mem _ (List.mem_append_right _ h)) (by decide +kernel))
set_option maxRecDepth 20000 in
theorem gX5_become_X5_trim : GoodIn wsX5_become (wsV RX5 34 RX5 yX5_trim wsX5_trim) := goodIn_app (goodIn_of _ (by decide +kernel)) ggX5_become_X5_trim
theorem dX5_become_0 : decode cX5_become 0 = .ok (.aload_n 0, 1) := by decide +kernel
theorem dX5_become_1 : decode cX5_become 1 = .ok (.iconst 0, 1) := by decide +kernel
theorem dX5_become_2 : decode cX5_become 2 = .ok (.lload_n 1, 1) := by decide +kernel
theorem dX5_become_3 : decode cX5_become 3 = .ok (.invokevirtual 30, 3) := by decide +kernel
theorem dX5_become_6 : decode cX5_become 6 = .ok (.aload_n 0, 1) := by decide +kernel
theorem dX5_become_7 : decode cX5_become 7 = .ok (.iconst 1, 1) := by decide +kernel
theorem dX5_become_8 : decode cX5_become 8 = .ok (.lload_n 1, 1) := by decide +kernel
theorem dX5_become_9 : decode cX5_become 9 = .ok (.bipush 32, 2) := by decide +kernel
theorem dX5_become_11 : decode cX5_become 11 = .ok (.lushr, 1) := by decide +kernel
theorem dX5_become_12 : decode cX5_become 12 = .ok (.invokevirtual 30, 3) := by decide +kernel
theorem dX5_become_15 : decode cX5_become 15 = .ok (.aload_n 0, 1) := by decide +kernel
theorem dX5_become_16 : decode cX5_become 16 = .ok (.iconst 2, 1) := by decide +kernel
theorem dX5_become_17 : decode cX5_become 17 = .ok (.invokevirtual 34, 3) := by decide +kernel
theorem dX5_become_20 : decode cX5_become 20 = .ok (.return_, 1) := by decide +kernel
set_option maxRecDepth 20000 in
theorem ggX5_copy_X5_trim : GoodIn wsX5_copy wsX5_trim := goodIn_ca (goodIn_r _ [15, 2, 3, 4, 5, 6, 16, 17, 18, 1, 19, 20] (by decide +kernel) (by decide +kernel)) (goodIn_sub (fun _ h => List.mem_cons_of_mem _ (List.mem_append_right _ h)) (by decide +kernel))
set_option maxRecDepth 20000 in
theorem gX5_copy_X5_trim : GoodIn wsX5_copy (wsV RX5 34 RX5 yX5_trim wsX5_trim) := goodIn_app (goodIn_of _ (by decide +kernel)) ggX5_copy_X5_trim
theorem dX5_copy_0 : decode cX5_copy 0 = .ok (.aload_n 1, 1) := by decide +kernel
theorem dX5_copy_1 : decode cX5_copy 1 = .ok (.getfield 21, 3) := by decide +kernel
theorem dX5_copy_4 : decode cX5_copy 4 = .ok (.aload_n 0, 1) := by decide +kernel
theorem dX5_copy_5 : decode cX5_copy 5 = .ok (.getfield 15, 3) := by decide +kernel
theorem dX5_copy_8 : decode cX5_copy 8 = .ok (.arraylength, 1) := by decide +kernel
theorem dX5_copy_9 : decode cX5_copy 9 = .ok (.invokestatic 27, 3) := by decide +kernel
theorem dX5_copy_12 : decode cX5_copy 12 = .ok (.istore_n 2, 1) := by decide +kernel
theorem dX5_copy_13 : decode cX5_copy 13 = .ok (.aload_n 1, 1) := by decide +kernel
theorem dX5_copy_14 : decode cX5_copy 14 = .ok (.getfield 15, 3) := by decide +kernel
theorem dX5_copy_17 : decode cX5_copy 17 = .ok (.iconst 0, 1) := by decide +kernel
theorem dX5_copy_18 : decode cX5_copy 18 = .ok (.aload_n 0, 1) := by decide +kernel
theorem dX5_copy_19 : decode cX5_copy 19 = .ok (.getfield 15, 3) := by decide +kernel
theorem dX5_copy_22 : decode cX5_copy 22 = .ok (.iconst 0, 1) := by decide +kernel
theorem dX5_copy_23 : decode cX5_copy 23 = .ok (.iload_n 2, 1) := by decide +kernel
theorem dX5_copy_24 : decode cX5_copy 24 = .ok (.invokestatic 38, 3) := by decide +kernel
theorem dX5_copy_27 : decode cX5_copy 27 = .ok (.aload_n 0, 1) := by decide +kernel
theorem dX5_copy_28 : decode cX5_copy 28 = .ok (.iload_n 2, 1) := by decide +kernel
theorem dX5_copy_29 : decode cX5_copy 29 = .ok (.invokevirtual 34, 3) := by decide +kernel
theorem dX5_copy_32 : decode cX5_copy 32 = .ok (.return_, 1) := by decide +kernel
theorem dX5_isZero_0 : decode cX5_isZero 0 = .ok (.aload_n 0, 1) := by decide +kernel
theorem dX5_isZero_1 : decode cX5_isZero 1 = .ok (.getfield 21, 3) := by decide +kernel
theorem dX5_isZero_4 : decode cX5_isZero 4 = .ok (.ifCond .ne 7, 3) := by decide +kernel
theorem dX5_isZero_7 : decode cX5_isZero 7 = .ok (.iconst 1, 1) := by decide +kernel
theorem dX5_isZero_8 : decode cX5_isZero 8 = .ok (.goto 4, 3) := by decide +kernel
theorem dX5_isZero_11 : decode cX5_isZero 11 = .ok (.iconst 0, 1) := by decide +kernel
theorem dX5_isZero_12 : decode cX5_isZero 12 = .ok (.ireturn, 1) := by decide +kernel
set_option maxRecDepth 20000 in
theorem ggX5_isOne_X5_limbAt : GoodIn wsX5_isOne wsX5_limbAt := goodIn_ca (goodIn_r _ [6, 1, 7, 8, 9, 10] (by decide +kernel) (by decide +kernel)) (goodIn_sub (fun _ h => List.mem_cons_of_mem _ (List.mem_append_right _ h)) (by decide +kernel))
set_option maxRecDepth 20000 in
theorem gX5_isOne_X5_limbAt : GoodIn wsX5_isOne (wsV RX5 44 RX5 yX5_limbAt wsX5_limbAt) := goodIn_app (goodIn_of _ (by decide +kernel)) ggX5_isOne_X5_limbAt
theorem dX5_isOne_0 : decode cX5_isOne 0 = .ok (.aload_n 0, 1) := by decide +kernel
theorem dX5_isOne_1 : decode cX5_isOne 1 = .ok (.getfield 21, 3) := by decide +kernel
theorem dX5_isOne_4 : decode cX5_isOne 4 = .ok (.iconst 1, 1) := by decide +kernel
theorem dX5_isOne_5 : decode cX5_isOne 5 = .ok (.if_icmp .ne 17, 3) := by decide +kernel
theorem dX5_isOne_8 : decode cX5_isOne 8 = .ok (.aload_n 0, 1) := by decide +kernel
theorem dX5_isOne_9 : decode cX5_isOne 9 = .ok (.iconst 0, 1) := by decide +kernel
theorem dX5_isOne_10 : decode cX5_isOne 10 = .ok (.invokevirtual 44, 3) := by decide +kernel
theorem dX5_isOne_13 : decode cX5_isOne 13 = .ok (.lconst 1, 1) := by decide +kernel
theorem dX5_isOne_14 : decode cX5_isOne 14 = .ok (.lcmp, 1) := by decide +kernel
theorem dX5_isOne_15 : decode cX5_isOne 15 = .ok (.ifCond .ne 7, 3) := by decide +kernel
theorem dX5_isOne_18 : decode cX5_isOne 18 = .ok (.iconst 1, 1) := by decide +kernel
theorem dX5_isOne_19 : decode cX5_isOne 19 = .ok (.goto 4, 3) := by decide +kernel
theorem dX5_isOne_22 : decode cX5_isOne 22 = .ok (.iconst 0, 1) := by decide +kernel
theorem dX5_isOne_23 : decode cX5_isOne 23 = .ok (.ireturn, 1) := by decide +kernel
set_option maxRecDepth 20000 in
theorem ggX5_isOdd_X5_limbAt : GoodIn wsX5_isOdd wsX5_limbAt := goodIn_ca (goodIn_r _ [5, 6, 7, 8, 9, 10] (by decide +kernel) (by decide +kernel)) (goodIn_sub (fun _ h => List.mem_cons_of_mem _ (List.mem_append_right _ h)) (by decide +kernel))
set_option maxRecDepth 20000 in
theorem gX5_isOdd_X5_limbAt : GoodIn wsX5_isOdd (wsV RX5 44 RX5 yX5_limbAt wsX5_limbAt) := goodIn_app (goodIn_of _ (by decide +kernel)) ggX5_isOdd_X5_limbAt
theorem dX5_isOdd_0 : decode cX5_isOdd 0 = .ok (.aload_n 0, 1) := by decide +kernel
theorem dX5_isOdd_1 : decode cX5_isOdd 1 = .ok (.iconst 0, 1) := by decide +kernel
theorem dX5_isOdd_2 : decode cX5_isOdd 2 = .ok (.invokevirtual 44, 3) := by decide +kernel
theorem dX5_isOdd_5 : decode cX5_isOdd 5 = .ok (.lconst 1, 1) := by decide +kernel
theorem dX5_isOdd_6 : decode cX5_isOdd 6 = .ok (.land, 1) := by decide +kernel
theorem dX5_isOdd_7 : decode cX5_isOdd 7 = .ok (.lconst 1, 1) := by decide +kernel
theorem dX5_isOdd_8 : decode cX5_isOdd 8 = .ok (.lcmp, 1) := by decide +kernel
theorem dX5_isOdd_9 : decode cX5_isOdd 9 = .ok (.ifCond .ne 7, 3) := by decide +kernel
theorem dX5_isOdd_12 : decode cX5_isOdd 12 = .ok (.iconst 1, 1) := by decide +kernel
theorem dX5_isOdd_13 : decode cX5_isOdd 13 = .ok (.goto 4, 3) := by decide +kernel
theorem dX5_isOdd_16 : decode cX5_isOdd 16 = .ok (.iconst 0, 1) := by decide +kernel
theorem dX5_isOdd_17 : decode cX5_isOdd 17 = .ok (.ireturn, 1) := by decide +kernel
set_option maxRecDepth 20000 in
theorem ggX5_isAbove_X5_bits : GoodIn wsX5_isAbove wsX5_bits := goodIn_ca (goodIn_r _ [5, 6, 7, 8, 9, 4, 10, 11, 12, 13, 14, 15, 16, 17, 22, 23] (by decide +kernel) (by decide +kernel)) (goodIn_sub (fun _ h => List.mem_cons_of_mem _ (List.mem_append_right _ h)) (by decide +kernel))
set_option maxRecDepth 20000 in
theorem gX5_isAbove_X5_bits : GoodIn wsX5_isAbove (wsV RX5 48 RX5 yX5_bits wsX5_bits) := goodIn_app (goodIn_of _ (by decide +kernel)) ggX5_isAbove_X5_bits
set_option maxRecDepth 20000 in
theorem ggX5_isAbove_X5_low : GoodIn wsX5_isAbove wsX5_low := goodIn_ca (goodIn_r _ [21, 7, 8, 9, 4, 10, 6, 11, 12, 22, 23] (by decide +kernel) (by decide +kernel)) (goodIn_sub (fun _ h => List.mem_cons_of_mem _ (List.mem_append_right _ h)) (by decide +kernel))
set_option maxRecDepth 20000 in
theorem gX5_isAbove_X5_low : GoodIn wsX5_isAbove (wsV RX5 52 RX5 yX5_low wsX5_low) := goodIn_app (goodIn_of _ (by decide +kernel)) ggX5_isAbove_X5_low
theorem dX5_isAbove_0 : decode cX5_isAbove 0 = .ok (.aload_n 0, 1) := by decide +kernel
theorem dX5_isAbove_1 : decode cX5_isAbove 1 = .ok (.invokevirtual 48, 3) := by decide +kernel
theorem dX5_isAbove_4 : decode cX5_isAbove 4 = .ok (.bipush 63, 2) := by decide +kernel
theorem dX5_isAbove_6 : decode cX5_isAbove 6 = .ok (.if_icmp .gt 12, 3) := by decide +kernel
theorem dX5_isAbove_9 : decode cX5_isAbove 9 = .ok (.aload_n 0, 1) := by decide +kernel
theorem dX5_isAbove_10 : decode cX5_isAbove 10 = .ok (.invokevirtual 52, 3) := by decide +kernel
theorem dX5_isAbove_13 : decode cX5_isAbove 13 = .ok (.lload_n 1, 1) := by decide +kernel
theorem dX5_isAbove_14 : decode cX5_isAbove 14 = .ok (.lcmp, 1) := by decide +kernel
theorem dX5_isAbove_15 : decode cX5_isAbove 15 = .ok (.ifCond .le 7, 3) := by decide +kernel
theorem dX5_isAbove_18 : decode cX5_isAbove 18 = .ok (.iconst 1, 1) := by decide +kernel
theorem dX5_isAbove_19 : decode cX5_isAbove 19 = .ok (.goto 4, 3) := by decide +kernel
theorem dX5_isAbove_22 : decode cX5_isAbove 22 = .ok (.iconst 0, 1) := by decide +kernel
theorem dX5_isAbove_23 : decode cX5_isAbove 23 = .ok (.ireturn, 1) := by decide +kernel
