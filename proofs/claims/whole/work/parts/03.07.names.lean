theorem dX7_near_44 : decode cX7_near 44 = .ok (.istore_n 3, 1) := by decide +kernel
theorem dX7_near_45 : decode cX7_near 45 = .ok (.iload_n 2, 1) := by decide +kernel
theorem dX7_near_46 : decode cX7_near 46 = .ok (.iconst 1, 1) := by decide +kernel
theorem dX7_near_47 : decode cX7_near 47 = .ok (.if_icmp .ne 13, 3) := by decide +kernel
theorem dX7_near_50 : decode cX7_near 50 = .ok (.aload_n 0, 1) := by decide +kernel
theorem dX7_near_51 : decode cX7_near 51 = .ok (.getfield 33, 3) := by decide +kernel
theorem dX7_near_54 : decode cX7_near 54 = .ok (.bipush 12, 2) := by decide +kernel
theorem dX7_near_56 : decode cX7_near 56 = .ok (.iaload, 1) := by decide +kernel
theorem dX7_near_57 : decode cX7_near 57 = .ok (.ifCond .gt 27, 3) := by decide +kernel
theorem dX7_near_60 : decode cX7_near 60 = .ok (.iload_n 2, 1) := by decide +kernel
theorem dX7_near_61 : decode cX7_near 61 = .ok (.iconst 3, 1) := by decide +kernel
theorem dX7_near_62 : decode cX7_near 62 = .ok (.if_icmp .ne 26, 3) := by decide +kernel
theorem dX7_near_65 : decode cX7_near 65 = .ok (.aload_n 0, 1) := by decide +kernel
theorem dX7_near_66 : decode cX7_near 66 = .ok (.getfield 13, 3) := by decide +kernel
theorem dX7_near_69 : decode cX7_near 69 = .ok (.iload_n 1, 1) := by decide +kernel
theorem dX7_near_70 : decode cX7_near 70 = .ok (.iaload, 1) := by decide +kernel
theorem dX7_near_71 : decode cX7_near 71 = .ok (.ifCond .ge 17, 3) := by decide +kernel
theorem dX7_near_74 : decode cX7_near 74 = .ok (.aload_n 0, 1) := by decide +kernel
theorem dX7_near_75 : decode cX7_near 75 = .ok (.getfield 33, 3) := by decide +kernel
theorem dX7_near_78 : decode cX7_near 78 = .ok (.bipush 12, 2) := by decide +kernel
theorem dX7_near_80 : decode cX7_near 80 = .ok (.iaload, 1) := by decide +kernel
theorem dX7_near_81 : decode cX7_near 81 = .ok (.ifCond .le 7, 3) := by decide +kernel
theorem dX7_near_84 : decode cX7_near 84 = .ok (.iconst 1, 1) := by decide +kernel
theorem dX7_near_85 : decode cX7_near 85 = .ok (.goto 4, 3) := by decide +kernel
theorem dX7_near_88 : decode cX7_near 88 = .ok (.iconst 0, 1) := by decide +kernel
theorem dX7_near_89 : decode cX7_near 89 = .ok (.istore 4, 2) := by decide +kernel
theorem dX7_near_91 : decode cX7_near 91 = .ok (.iload_n 2, 1) := by decide +kernel
theorem dX7_near_92 : decode cX7_near 92 = .ok (.iconst 2, 1) := by decide +kernel
theorem dX7_near_93 : decode cX7_near 93 = .ok (.if_icmp .ne 46, 3) := by decide +kernel
theorem dX7_near_96 : decode cX7_near 96 = .ok (.aload_n 0, 1) := by decide +kernel
theorem dX7_near_97 : decode cX7_near 97 = .ok (.bipush 12, 2) := by decide +kernel
theorem dX7_near_99 : decode cX7_near 99 = .ok (.lconst 0, 1) := by decide +kernel
theorem dX7_near_100 : decode cX7_near 100 = .ok (.invokevirtual 54, 3) := by decide +kernel
theorem dX7_near_103 : decode cX7_near 103 = .ok (.aload_n 0, 1) := by decide +kernel
theorem dX7_near_104 : decode cX7_near 104 = .ok (.bipush 12, 2) := by decide +kernel
theorem dX7_near_106 : decode cX7_near 106 = .ok (.bipush 11, 2) := by decide +kernel
theorem dX7_near_108 : decode cX7_near 108 = .ok (.invokevirtual 58, 3) := by decide +kernel
theorem dX7_near_111 : decode cX7_near 111 = .ok (.istore 5, 2) := by decide +kernel
theorem dX7_near_113 : decode cX7_near 113 = .ok (.iload 5, 2) := by decide +kernel
theorem dX7_near_115 : decode cX7_near 115 = .ok (.ifCond .gt 17, 3) := by decide +kernel
theorem dX7_near_118 : decode cX7_near 118 = .ok (.iload 5, 2) := by decide +kernel
theorem dX7_near_120 : decode cX7_near 120 = .ok (.ifCond .ne 16, 3) := by decide +kernel
theorem dX7_near_123 : decode cX7_near 123 = .ok (.aload_n 0, 1) := by decide +kernel
theorem dX7_near_124 : decode cX7_near 124 = .ok (.bipush 10, 2) := by decide +kernel
theorem dX7_near_126 : decode cX7_near 126 = .ok (.invokevirtual 69, 3) := by decide +kernel
theorem dX7_near_129 : decode cX7_near 129 = .ok (.ifCond .eq 7, 3) := by decide +kernel
theorem dX7_near_132 : decode cX7_near 132 = .ok (.iconst 1, 1) := by decide +kernel
theorem dX7_near_133 : decode cX7_near 133 = .ok (.goto 4, 3) := by decide +kernel
theorem dX7_near_136 : decode cX7_near 136 = .ok (.iconst 0, 1) := by decide +kernel
theorem dX7_near_137 : decode cX7_near 137 = .ok (.istore 4, 2) := by decide +kernel
theorem dX7_near_139 : decode cX7_near 139 = .ok (.iload 4, 2) := by decide +kernel
theorem dX7_near_141 : decode cX7_near 141 = .ok (.ifCond .eq 33, 3) := by decide +kernel
theorem dX7_near_144 : decode cX7_near 144 = .ok (.aload_n 0, 1) := by decide +kernel
theorem dX7_near_145 : decode cX7_near 145 = .ok (.bipush 14, 2) := by decide +kernel
theorem dX7_near_147 : decode cX7_near 147 = .ok (.lconst 1, 1) := by decide +kernel
theorem dX7_near_148 : decode cX7_near 148 = .ok (.invokevirtual 103, 3) := by decide +kernel
theorem dX7_near_151 : decode cX7_near 151 = .ok (.iload_n 3, 1) := by decide +kernel
theorem dX7_near_152 : decode cX7_near 152 = .ok (.ifCond .ge 14, 3) := by decide +kernel
theorem dX7_near_155 : decode cX7_near 155 = .ok (.aload_n 0, 1) := by decide +kernel
theorem dX7_near_156 : decode cX7_near 156 = .ok (.bipush 10, 2) := by decide +kernel
theorem dX7_near_158 : decode cX7_near 158 = .ok (.bipush 14, 2) := by decide +kernel
theorem dX7_near_160 : decode cX7_near 160 = .ok (.invokevirtual 62, 3) := by decide +kernel
theorem dX7_near_163 : decode cX7_near 163 = .ok (.goto 11, 3) := by decide +kernel
theorem dX7_near_166 : decode cX7_near 166 = .ok (.aload_n 0, 1) := by decide +kernel
theorem dX7_near_167 : decode cX7_near 167 = .ok (.bipush 10, 2) := by decide +kernel
theorem dX7_near_169 : decode cX7_near 169 = .ok (.bipush 14, 2) := by decide +kernel
theorem dX7_near_171 : decode cX7_near 171 = .ok (.invokevirtual 122, 3) := by decide +kernel
theorem dX7_near_174 : decode cX7_near 174 = .ok (.aload_n 0, 1) := by decide +kernel
theorem dX7_near_175 : decode cX7_near 175 = .ok (.bipush 10, 2) := by decide +kernel
theorem dX7_near_177 : decode cX7_near 177 = .ok (.iload_n 3, 1) := by decide +kernel
theorem dX7_near_178 : decode cX7_near 178 = .ok (.invokevirtual 106, 3) := by decide +kernel
theorem dX7_near_181 : decode cX7_near 181 = .ok (.ireturn, 1) := by decide +kernel
theorem dX7_isWhole_0 : decode cX7_isWhole 0 = .ok (.aload_n 0, 1) := by decide +kernel
theorem dX7_isWhole_1 : decode cX7_isWhole 1 = .ok (.getfield 21, 3) := by decide +kernel
theorem dX7_isWhole_4 : decode cX7_isWhole 4 = .ok (.iconst 2, 1) := by decide +kernel
theorem dX7_isWhole_5 : decode cX7_isWhole 5 = .ok (.iload_n 1, 1) := by decide +kernel
theorem dX7_isWhole_6 : decode cX7_isWhole 6 = .ok (.imul, 1) := by decide +kernel
theorem dX7_isWhole_7 : decode cX7_isWhole 7 = .ok (.iconst 1, 1) := by decide +kernel
theorem dX7_isWhole_8 : decode cX7_isWhole 8 = .ok (.iadd, 1) := by decide +kernel
theorem dX7_isWhole_9 : decode cX7_isWhole 9 = .ok (.iaload, 1) := by decide +kernel
theorem dX7_isWhole_10 : decode cX7_isWhole 10 = .ok (.iconst 1, 1) := by decide +kernel
theorem dX7_isWhole_11 : decode cX7_isWhole 11 = .ok (.if_icmp .ne 25, 3) := by decide +kernel
theorem dX7_isWhole_14 : decode cX7_isWhole 14 = .ok (.aload_n 0, 1) := by decide +kernel
theorem dX7_isWhole_15 : decode cX7_isWhole 15 = .ok (.getfield 17, 3) := by decide +kernel
theorem dX7_isWhole_18 : decode cX7_isWhole 18 = .ok (.bipush 16, 2) := by decide +kernel
theorem dX7_isWhole_20 : decode cX7_isWhole 20 = .ok (.iconst 2, 1) := by decide +kernel
theorem dX7_isWhole_21 : decode cX7_isWhole 21 = .ok (.iload_n 1, 1) := by decide +kernel
theorem dX7_isWhole_22 : decode cX7_isWhole 22 = .ok (.imul, 1) := by decide +kernel
theorem dX7_isWhole_23 : decode cX7_isWhole 23 = .ok (.iconst 1, 1) := by decide +kernel
theorem dX7_isWhole_24 : decode cX7_isWhole 24 = .ok (.iadd, 1) := by decide +kernel
theorem dX7_isWhole_25 : decode cX7_isWhole 25 = .ok (.imul, 1) := by decide +kernel
theorem dX7_isWhole_26 : decode cX7_isWhole 26 = .ok (.laload, 1) := by decide +kernel
theorem dX7_isWhole_27 : decode cX7_isWhole 27 = .ok (.lconst 1, 1) := by decide +kernel
theorem dX7_isWhole_28 : decode cX7_isWhole 28 = .ok (.lcmp, 1) := by decide +kernel
theorem dX7_isWhole_29 : decode cX7_isWhole 29 = .ok (.ifCond .ne 7, 3) := by decide +kernel
theorem dX7_isWhole_32 : decode cX7_isWhole 32 = .ok (.iconst 1, 1) := by decide +kernel
theorem dX7_isWhole_33 : decode cX7_isWhole 33 = .ok (.goto 4, 3) := by decide +kernel
theorem dX7_isWhole_36 : decode cX7_isWhole 36 = .ok (.iconst 0, 1) := by decide +kernel
theorem dX7_isWhole_37 : decode cX7_isWhole 37 = .ok (.ireturn, 1) := by decide +kernel
set_option maxRecDepth 20000 in
theorem ggX7_common_X7_isNumber : GoodIn wsX7_common wsX7_isNumber := goodIn_ca (goodIn_r _ [6, 7, 8, 9, 10, 5, 11, 83, 84, 85, 86, 87, 88, 89, 90, 91, 92, 93, 94, 95, 96] (by decide +kernel) (by decide +kernel)) (goodIn_sub (fun _ h => List.mem_cons_of_mem _ (List.mem_append_right _ h)) (by decide +kernel))
set_option maxRecDepth 20000 in
theorem gX7_common_X7_isNumber : GoodIn wsX7_common (wsV RX7 109 RX7 yX7_isNumber wsX7_isNumber) := goodIn_app (goodIn_of _ (by decide +kernel)) ggX7_common_X7_isNumber
set_option maxRecDepth 20000 in
theorem ggX7_common_X7_isWhole : GoodIn wsX7_common wsX7_isWhole := goodIn_ca (goodIn_r _ [15, 16, 17, 83, 84, 85, 86, 87, 88, 89, 90, 91, 92, 93, 94, 95, 96] (by decide +kernel) (by decide +kernel)) (goodIn_sub (fun _ h => List.mem_cons_of_mem _ (List.mem_append_right _ h)) (by decide +kernel))
set_option maxRecDepth 20000 in
theorem gX7_common_X7_isWhole : GoodIn wsX7_common (wsV RX7 138 RX7 yX7_isWhole wsX7_isWhole) := goodIn_app (goodIn_of _ (by decide +kernel)) ggX7_common_X7_isWhole
set_option maxRecDepth 20000 in
theorem ggX7_common_X7_free : GoodIn wsX7_common wsX7_free := goodIn_ca (goodIn_r _ [21, 8, 83, 84, 85, 86, 87, 88, 89, 90, 91, 92, 93, 94, 95, 96] (by decide +kernel) (by decide +kernel)) (goodIn_sub (fun _ h => List.mem_cons_of_mem _ (List.mem_append_right _ h)) (by decide +kernel))
set_option maxRecDepth 20000 in
theorem gX7_common_X7_free : GoodIn wsX7_common (wsV RX7 89 RX7 yX7_free wsX7_free) := goodIn_app (goodIn_of _ (by decide +kernel)) ggX7_common_X7_free
set_option maxRecDepth 20000 in
theorem ggX7_common_X7_take : GoodIn wsX7_common wsX7_take := goodIn_ca (goodIn_r _ [25, 26, 16, 27, 17, 83, 84, 85, 86, 87, 88, 89, 90, 91, 92, 93, 94, 95, 96] (by decide +kernel) (by decide +kernel)) (goodIn_sub (fun _ h => List.mem_cons_of_mem _ (List.mem_append_right _ h)) (by decide +kernel))
set_option maxRecDepth 20000 in
theorem gX7_common_X7_take : GoodIn wsX7_common (wsV RX7 112 RX7 yX7_take wsX7_take) := goodIn_app (goodIn_of _ (by decide +kernel)) ggX7_common_X7_take
set_option maxRecDepth 20000 in
theorem ggX7_common_X7_divisor : GoodIn wsX7_common wsX7_divisor := goodIn_ca (goodIn_r _ [31, 26, 32, 33, 34, 5, 35, 27, 36, 37, 38, 39, 40, 41, 42, 43, 44, 45, 46, 47, 48, 49, 50, 51, 52, 53, 54, 55, 56, 57, 58, 59, 60, 61, 62, 63, 64, 83, 84, 85, 86, 87, 88, 89, 90, 91, 92, 93, 94, 95, 96] (by decide +kernel) (by decide +kernel)) (goodIn_sub (fun _ h => List.mem_cons_of_mem _ (List.mem_append_right _ h)) (by decide +kernel))
set_option maxRecDepth 20000 in
theorem gX7_common_X7_divisor : GoodIn wsX7_common (wsV RX7 93 RX7 yX7_divisor wsX7_divisor) := goodIn_app (goodIn_of _ (by decide +kernel)) ggX7_common_X7_divisor
set_option maxRecDepth 20000 in
theorem ggX7_common_X7_keepWhole : GoodIn wsX7_common wsX7_keepWhole := goodIn_ca (goodIn_r _ [68, 32, 33, 34, 5, 35, 26, 27, 69, 70, 71, 72, 44, 45, 46, 47, 48, 73, 74, 75, 76, 8, 77, 16, 17, 78, 79, 80, 81, 82, 18, 19, 20, 21, 83, 84, 85, 86, 87, 88, 89, 90, 91, 92, 93, 94, 95, 96] (by decide +kernel) (by decide +kernel)) (goodIn_sub (fun _ h => List.mem_cons_of_mem _ (List.mem_append_right _ h)) (by decide +kernel))
set_option maxRecDepth 20000 in
theorem gX7_common_X7_keepWhole : GoodIn wsX7_common (wsV RX7 106 RX7 yX7_keepWhole wsX7_keepWhole) := goodIn_app (goodIn_of _ (by decide +kernel)) ggX7_common_X7_keepWhole
theorem dX7_common_0 : decode cX7_common 0 = .ok (.aload_n 0, 1) := by decide +kernel
theorem dX7_common_1 : decode cX7_common 1 = .ok (.iconst 0, 1) := by decide +kernel
theorem dX7_common_2 : decode cX7_common 2 = .ok (.putfield 43, 3) := by decide +kernel
theorem dX7_common_5 : decode cX7_common 5 = .ok (.aload_n 0, 1) := by decide +kernel
theorem dX7_common_6 : decode cX7_common 6 = .ok (.iload_n 1, 1) := by decide +kernel
theorem dX7_common_7 : decode cX7_common 7 = .ok (.invokevirtual 109, 3) := by decide +kernel
theorem dX7_common_10 : decode cX7_common 10 = .ok (.ifCond .eq 11, 3) := by decide +kernel
theorem dX7_common_13 : decode cX7_common 13 = .ok (.aload_n 0, 1) := by decide +kernel
theorem dX7_common_14 : decode cX7_common 14 = .ok (.iload_n 2, 1) := by decide +kernel
theorem dX7_common_15 : decode cX7_common 15 = .ok (.invokevirtual 109, 3) := by decide +kernel
theorem dX7_common_18 : decode cX7_common 18 = .ok (.ifCond .ne 5, 3) := by decide +kernel
theorem dX7_common_21 : decode cX7_common 21 = .ok (.iconst (-1), 1) := by decide +kernel
theorem dX7_common_22 : decode cX7_common 22 = .ok (.ireturn, 1) := by decide +kernel
theorem dX7_common_23 : decode cX7_common 23 = .ok (.aload_n 0, 1) := by decide +kernel
theorem dX7_common_24 : decode cX7_common 24 = .ok (.iload_n 1, 1) := by decide +kernel
theorem dX7_common_25 : decode cX7_common 25 = .ok (.invokevirtual 138, 3) := by decide +kernel
theorem dX7_common_28 : decode cX7_common 28 = .ok (.ifCond .eq 11, 3) := by decide +kernel
theorem dX7_common_31 : decode cX7_common 31 = .ok (.aload_n 0, 1) := by decide +kernel
theorem dX7_common_32 : decode cX7_common 32 = .ok (.iload_n 2, 1) := by decide +kernel
theorem dX7_common_33 : decode cX7_common 33 = .ok (.invokevirtual 138, 3) := by decide +kernel
theorem dX7_common_36 : decode cX7_common 36 = .ok (.ifCond .ne 6, 3) := by decide +kernel
theorem dX7_common_39 : decode cX7_common 39 = .ok (.bipush (-2), 2) := by decide +kernel
theorem dX7_common_41 : decode cX7_common 41 = .ok (.ireturn, 1) := by decide +kernel
theorem dX7_common_42 : decode cX7_common 42 = .ok (.aload_n 0, 1) := by decide +kernel
theorem dX7_common_43 : decode cX7_common 43 = .ok (.invokevirtual 89, 3) := by decide +kernel
theorem dX7_common_46 : decode cX7_common 46 = .ok (.bipush (-3), 2) := by decide +kernel
theorem dX7_common_48 : decode cX7_common 48 = .ok (.if_icmp .ne 6, 3) := by decide +kernel
theorem dX7_common_51 : decode cX7_common 51 = .ok (.bipush (-3), 2) := by decide +kernel
theorem dX7_common_53 : decode cX7_common 53 = .ok (.ireturn, 1) := by decide +kernel
theorem dX7_common_54 : decode cX7_common 54 = .ok (.aload_n 0, 1) := by decide +kernel
theorem dX7_common_55 : decode cX7_common 55 = .ok (.iconst 2, 1) := by decide +kernel
theorem dX7_common_56 : decode cX7_common 56 = .ok (.iload_n 1, 1) := by decide +kernel
theorem dX7_common_57 : decode cX7_common 57 = .ok (.iconst 0, 1) := by decide +kernel
theorem dX7_common_58 : decode cX7_common 58 = .ok (.invokevirtual 112, 3) := by decide +kernel
theorem dX7_common_61 : decode cX7_common 61 = .ok (.aload_n 0, 1) := by decide +kernel
theorem dX7_common_62 : decode cX7_common 62 = .ok (.iconst 3, 1) := by decide +kernel
theorem dX7_common_63 : decode cX7_common 63 = .ok (.iload_n 2, 1) := by decide +kernel
theorem dX7_common_64 : decode cX7_common 64 = .ok (.iconst 0, 1) := by decide +kernel
theorem dX7_common_65 : decode cX7_common 65 = .ok (.invokevirtual 112, 3) := by decide +kernel
theorem dX7_common_68 : decode cX7_common 68 = .ok (.aload_n 0, 1) := by decide +kernel
theorem dX7_common_69 : decode cX7_common 69 = .ok (.iconst 2, 1) := by decide +kernel
theorem dX7_common_70 : decode cX7_common 70 = .ok (.iconst 3, 1) := by decide +kernel
theorem dX7_common_71 : decode cX7_common 71 = .ok (.invokevirtual 93, 3) := by decide +kernel
theorem dX7_common_74 : decode cX7_common 74 = .ok (.aload_n 0, 1) := by decide +kernel
theorem dX7_common_75 : decode cX7_common 75 = .ok (.iconst 2, 1) := by decide +kernel
theorem dX7_common_76 : decode cX7_common 76 = .ok (.iconst 1, 1) := by decide +kernel
theorem dX7_common_77 : decode cX7_common 77 = .ok (.invokevirtual 106, 3) := by decide +kernel
theorem dX7_common_80 : decode cX7_common 80 = .ok (.ireturn, 1) := by decide +kernel
set_option maxRecDepth 20000 in
theorem ggX7_drop_X7_isNumber : GoodIn wsX7_drop wsX7_isNumber := goodIn_ca (goodIn_r _ [7, 8, 2, 9, 10, 6, 11, 16, 17, 18, 19, 20, 21, 22, 23, 24, 25, 26, 27, 28, 29] (by decide +kernel) (by decide +kernel)) (goodIn_sub (fun _ h => List.mem_cons_of_mem _ (List.mem_append_right _ h)) (by decide +kernel))
set_option maxRecDepth 20000 in
theorem gX7_drop_X7_isNumber : GoodIn wsX7_drop (wsV RX7 109 RX7 yX7_isNumber wsX7_isNumber) := goodIn_app (goodIn_of _ (by decide +kernel)) ggX7_drop_X7_isNumber
set_option maxRecDepth 20000 in
theorem ggX7_drop_X7_many : GoodIn wsX7_drop wsX7_many := goodIn_ca (goodIn_r _ [15, 2, 16, 17, 18, 19, 20, 21, 22, 23, 24, 25, 26, 27, 28, 29] (by decide +kernel) (by decide +kernel)) (goodIn_sub (fun _ h => List.mem_cons_of_mem _ (List.mem_append_right _ h)) (by decide +kernel))
set_option maxRecDepth 20000 in
theorem gX7_drop_X7_many : GoodIn wsX7_drop (wsV RX7 141 RX7 yX7_many wsX7_many) := goodIn_app (goodIn_of _ (by decide +kernel)) ggX7_drop_X7_many
theorem dX7_drop_0 : decode cX7_drop 0 = .ok (.aload_n 0, 1) := by decide +kernel
theorem dX7_drop_1 : decode cX7_drop 1 = .ok (.iconst 0, 1) := by decide +kernel
theorem dX7_drop_2 : decode cX7_drop 2 = .ok (.putfield 43, 3) := by decide +kernel
theorem dX7_drop_5 : decode cX7_drop 5 = .ok (.aload_n 0, 1) := by decide +kernel
theorem dX7_drop_6 : decode cX7_drop 6 = .ok (.iload_n 1, 1) := by decide +kernel
theorem dX7_drop_7 : decode cX7_drop 7 = .ok (.invokevirtual 109, 3) := by decide +kernel
theorem dX7_drop_10 : decode cX7_drop 10 = .ok (.ifCond .ne 5, 3) := by decide +kernel
theorem dX7_drop_13 : decode cX7_drop 13 = .ok (.iconst (-1), 1) := by decide +kernel
theorem dX7_drop_14 : decode cX7_drop 14 = .ok (.ireturn, 1) := by decide +kernel
theorem dX7_drop_15 : decode cX7_drop 15 = .ok (.aload_n 0, 1) := by decide +kernel
theorem dX7_drop_16 : decode cX7_drop 16 = .ok (.getfield 7, 3) := by decide +kernel
theorem dX7_drop_19 : decode cX7_drop 19 = .ok (.iload_n 1, 1) := by decide +kernel
theorem dX7_drop_20 : decode cX7_drop 20 = .ok (.iconst 0, 1) := by decide +kernel
theorem dX7_drop_21 : decode cX7_drop 21 = .ok (.bastore, 1) := by decide +kernel
theorem dX7_drop_22 : decode cX7_drop 22 = .ok (.aload_n 0, 1) := by decide +kernel
theorem dX7_drop_23 : decode cX7_drop 23 = .ok (.invokevirtual 141, 3) := by decide +kernel
theorem dX7_drop_26 : decode cX7_drop 26 = .ok (.ireturn, 1) := by decide +kernel
theorem dX7_many_0 : decode cX7_many 0 = .ok (.iconst 0, 1) := by decide +kernel
theorem dX7_many_1 : decode cX7_many 1 = .ok (.istore_n 1, 1) := by decide +kernel
theorem dX7_many_2 : decode cX7_many 2 = .ok (.iconst 0, 1) := by decide +kernel
theorem dX7_many_3 : decode cX7_many 3 = .ok (.istore_n 2, 1) := by decide +kernel
theorem dX7_many_4 : decode cX7_many 4 = .ok (.iload_n 2, 1) := by decide +kernel
theorem dX7_many_5 : decode cX7_many 5 = .ok (.bipush 24, 2) := by decide +kernel
theorem dX7_many_7 : decode cX7_many 7 = .ok (.if_icmp .ge 26, 3) := by decide +kernel
theorem dX7_many_10 : decode cX7_many 10 = .ok (.iload_n 1, 1) := by decide +kernel
theorem dX7_many_11 : decode cX7_many 11 = .ok (.aload_n 0, 1) := by decide +kernel
theorem dX7_many_12 : decode cX7_many 12 = .ok (.getfield 7, 3) := by decide +kernel
theorem dX7_many_15 : decode cX7_many 15 = .ok (.iload_n 2, 1) := by decide +kernel
theorem dX7_many_16 : decode cX7_many 16 = .ok (.baload, 1) := by decide +kernel
theorem dX7_many_17 : decode cX7_many 17 = .ok (.ifCond .eq 7, 3) := by decide +kernel
theorem dX7_many_20 : decode cX7_many 20 = .ok (.iconst 1, 1) := by decide +kernel
theorem dX7_many_21 : decode cX7_many 21 = .ok (.goto 4, 3) := by decide +kernel
theorem dX7_many_24 : decode cX7_many 24 = .ok (.iconst 0, 1) := by decide +kernel
theorem dX7_many_25 : decode cX7_many 25 = .ok (.iadd, 1) := by decide +kernel
theorem dX7_many_26 : decode cX7_many 26 = .ok (.istore_n 1, 1) := by decide +kernel
theorem dX7_many_27 : decode cX7_many 27 = .ok (.iinc 2 1, 3) := by decide +kernel
theorem dX7_many_30 : decode cX7_many 30 = .ok (.goto (-26), 3) := by decide +kernel
theorem dX7_many_33 : decode cX7_many 33 = .ok (.iload_n 1, 1) := by decide +kernel
theorem dX7_many_34 : decode cX7_many 34 = .ok (.ireturn, 1) := by decide +kernel
set_option maxRecDepth 20000 in
theorem ggX7_count_X7_many : GoodIn wsX7_count wsX7_many := goodIn_ca (goodIn_r _ [6, 7, 8, 9, 10, 11, 12, 13, 14, 15, 16, 17, 18, 19, 20, 21] (by decide +kernel) (by decide +kernel)) (goodIn_sub (fun _ h => List.mem_cons_of_mem _ (List.mem_append_right _ h)) (by decide +kernel))
set_option maxRecDepth 20000 in
theorem gX7_count_X7_many : GoodIn wsX7_count (wsV RX7 141 RX7 yX7_many wsX7_many) := goodIn_app (goodIn_of _ (by decide +kernel)) ggX7_count_X7_many
theorem dX7_count_0 : decode cX7_count 0 = .ok (.aload_n 0, 1) := by decide +kernel
theorem dX7_count_1 : decode cX7_count 1 = .ok (.iconst 0, 1) := by decide +kernel
theorem dX7_count_2 : decode cX7_count 2 = .ok (.putfield 43, 3) := by decide +kernel
theorem dX7_count_5 : decode cX7_count 5 = .ok (.aload_n 0, 1) := by decide +kernel
theorem dX7_count_6 : decode cX7_count 6 = .ok (.invokevirtual 141, 3) := by decide +kernel
theorem dX7_count_9 : decode cX7_count 9 = .ok (.ireturn, 1) := by decide +kernel
set_option maxRecDepth 20000 in
theorem ggX7_compare_X7_isNumber : GoodIn wsX7_compare wsX7_isNumber := goodIn_ca (goodIn_r _ [7, 8, 9, 10, 11, 6, 12, 34, 35, 36, 37, 38, 39, 40, 41, 42, 43, 44, 45, 46, 47] (by decide +kernel) (by decide +kernel)) (goodIn_sub (fun _ h => List.mem_cons_of_mem _ (List.mem_append_right _ h)) (by decide +kernel))
set_option maxRecDepth 20000 in
theorem gX7_compare_X7_isNumber : GoodIn wsX7_compare (wsV RX7 109 RX7 yX7_isNumber wsX7_isNumber) := goodIn_app (goodIn_of _ (by decide +kernel)) ggX7_compare_X7_isNumber
set_option maxRecDepth 20000 in
theorem ggX7_compare_X7_take : GoodIn wsX7_compare wsX7_take := goodIn_ca (goodIn_r _ [16, 17, 18, 19, 20, 34, 35, 36, 37, 38, 39, 40, 41, 42, 43, 44, 45, 46, 47] (by decide +kernel) (by decide +kernel)) (goodIn_sub (fun _ h => List.mem_cons_of_mem _ (List.mem_append_right _ h)) (by decide +kernel))
set_option maxRecDepth 20000 in
theorem gX7_compare_X7_take : GoodIn wsX7_compare (wsV RX7 112 RX7 yX7_take wsX7_take) := goodIn_app (goodIn_of _ (by decide +kernel)) ggX7_compare_X7_take
set_option maxRecDepth 20000 in
theorem ggX7_compare_X7_times : GoodIn wsX7_compare wsX7_times := goodIn_ca (goodIn_r _ [24, 17, 19, 25, 26, 27, 28, 6, 29, 34, 35, 36, 37, 38, 39, 40, 41, 42, 43, 44, 45, 46, 47] (by decide +kernel) (by decide +kernel)) (goodIn_sub (fun _ h => List.mem_cons_of_mem _ (List.mem_append_right _ h)) (by decide +kernel))
set_option maxRecDepth 20000 in
theorem gX7_compare_X7_times : GoodIn wsX7_compare (wsV RX7 116 RX7 yX7_times wsX7_times) := goodIn_app (goodIn_of _ (by decide +kernel)) ggX7_compare_X7_times
set_option maxRecDepth 20000 in
theorem ggX7_compare_X7_compared : GoodIn wsX7_compare wsX7_compared := goodIn_ca (goodIn_r _ [33, 17, 19, 34, 35, 36, 37, 38, 39, 40, 41, 42, 43, 44, 45, 46, 47] (by decide +kernel) (by decide +kernel)) (goodIn_sub (fun _ h => List.mem_cons_of_mem _ (List.mem_append_right _ h)) (by decide +kernel))
set_option maxRecDepth 20000 in
theorem gX7_compare_X7_compared : GoodIn wsX7_compare (wsV RX7 58 RX7 yX7_compared wsX7_compared) := goodIn_app (goodIn_of _ (by decide +kernel)) ggX7_compare_X7_compared
theorem dX7_compare_0 : decode cX7_compare 0 = .ok (.aload_n 0, 1) := by decide +kernel
theorem dX7_compare_1 : decode cX7_compare 1 = .ok (.iconst 0, 1) := by decide +kernel
theorem dX7_compare_2 : decode cX7_compare 2 = .ok (.putfield 43, 3) := by decide +kernel
theorem dX7_compare_5 : decode cX7_compare 5 = .ok (.aload_n 0, 1) := by decide +kernel
theorem dX7_compare_6 : decode cX7_compare 6 = .ok (.iload_n 1, 1) := by decide +kernel
theorem dX7_compare_7 : decode cX7_compare 7 = .ok (.invokevirtual 109, 3) := by decide +kernel
theorem dX7_compare_10 : decode cX7_compare 10 = .ok (.ifCond .eq 11, 3) := by decide +kernel
theorem dX7_compare_13 : decode cX7_compare 13 = .ok (.aload_n 0, 1) := by decide +kernel
theorem dX7_compare_14 : decode cX7_compare 14 = .ok (.iload_n 2, 1) := by decide +kernel
theorem dX7_compare_15 : decode cX7_compare 15 = .ok (.invokevirtual 109, 3) := by decide +kernel
theorem dX7_compare_18 : decode cX7_compare 18 = .ok (.ifCond .ne 5, 3) := by decide +kernel
theorem dX7_compare_21 : decode cX7_compare 21 = .ok (.iconst (-1), 1) := by decide +kernel
theorem dX7_compare_22 : decode cX7_compare 22 = .ok (.ireturn, 1) := by decide +kernel
theorem dX7_compare_23 : decode cX7_compare 23 = .ok (.aload_n 0, 1) := by decide +kernel
theorem dX7_compare_24 : decode cX7_compare 24 = .ok (.getfield 13, 3) := by decide +kernel
theorem dX7_compare_27 : decode cX7_compare 27 = .ok (.iload_n 1, 1) := by decide +kernel
theorem dX7_compare_28 : decode cX7_compare 28 = .ok (.iaload, 1) := by decide +kernel
theorem dX7_compare_29 : decode cX7_compare 29 = .ok (.aload_n 0, 1) := by decide +kernel
theorem dX7_compare_30 : decode cX7_compare 30 = .ok (.getfield 13, 3) := by decide +kernel
theorem dX7_compare_33 : decode cX7_compare 33 = .ok (.iload_n 2, 1) := by decide +kernel
theorem dX7_compare_34 : decode cX7_compare 34 = .ok (.iaload, 1) := by decide +kernel
theorem dX7_compare_35 : decode cX7_compare 35 = .ok (.if_icmp .eq 24, 3) := by decide +kernel
theorem dX7_compare_38 : decode cX7_compare 38 = .ok (.aload_n 0, 1) := by decide +kernel
theorem dX7_compare_39 : decode cX7_compare 39 = .ok (.getfield 13, 3) := by decide +kernel
theorem dX7_compare_42 : decode cX7_compare 42 = .ok (.iload_n 1, 1) := by decide +kernel
theorem dX7_compare_43 : decode cX7_compare 43 = .ok (.iaload, 1) := by decide +kernel
theorem dX7_compare_44 : decode cX7_compare 44 = .ok (.aload_n 0, 1) := by decide +kernel
theorem dX7_compare_45 : decode cX7_compare 45 = .ok (.getfield 13, 3) := by decide +kernel
theorem dX7_compare_48 : decode cX7_compare 48 = .ok (.iload_n 2, 1) := by decide +kernel
theorem dX7_compare_49 : decode cX7_compare 49 = .ok (.iaload, 1) := by decide +kernel
theorem dX7_compare_50 : decode cX7_compare 50 = .ok (.if_icmp .ge 7, 3) := by decide +kernel
theorem dX7_compare_53 : decode cX7_compare 53 = .ok (.iconst (-1), 1) := by decide +kernel
theorem dX7_compare_54 : decode cX7_compare 54 = .ok (.goto 4, 3) := by decide +kernel
theorem dX7_compare_57 : decode cX7_compare 57 = .ok (.iconst 1, 1) := by decide +kernel
theorem dX7_compare_58 : decode cX7_compare 58 = .ok (.ireturn, 1) := by decide +kernel
theorem dX7_compare_59 : decode cX7_compare 59 = .ok (.aload_n 0, 1) := by decide +kernel
theorem dX7_compare_60 : decode cX7_compare 60 = .ok (.iconst 2, 1) := by decide +kernel
theorem dX7_compare_61 : decode cX7_compare 61 = .ok (.iload_n 1, 1) := by decide +kernel
theorem dX7_compare_62 : decode cX7_compare 62 = .ok (.iconst 0, 1) := by decide +kernel
theorem dX7_compare_63 : decode cX7_compare 63 = .ok (.invokevirtual 112, 3) := by decide +kernel
theorem dX7_compare_66 : decode cX7_compare 66 = .ok (.aload_n 0, 1) := by decide +kernel
theorem dX7_compare_67 : decode cX7_compare 67 = .ok (.iconst 3, 1) := by decide +kernel
theorem dX7_compare_68 : decode cX7_compare 68 = .ok (.iload_n 2, 1) := by decide +kernel
theorem dX7_compare_69 : decode cX7_compare 69 = .ok (.iconst 1, 1) := by decide +kernel
theorem dX7_compare_70 : decode cX7_compare 70 = .ok (.invokevirtual 112, 3) := by decide +kernel
theorem dX7_compare_73 : decode cX7_compare 73 = .ok (.aload_n 0, 1) := by decide +kernel
theorem dX7_compare_74 : decode cX7_compare 74 = .ok (.iconst 4, 1) := by decide +kernel
theorem dX7_compare_75 : decode cX7_compare 75 = .ok (.iconst 2, 1) := by decide +kernel
theorem dX7_compare_76 : decode cX7_compare 76 = .ok (.iconst 3, 1) := by decide +kernel
theorem dX7_compare_77 : decode cX7_compare 77 = .ok (.invokevirtual 116, 3) := by decide +kernel
theorem dX7_compare_80 : decode cX7_compare 80 = .ok (.aload_n 0, 1) := by decide +kernel
theorem dX7_compare_81 : decode cX7_compare 81 = .ok (.iconst 2, 1) := by decide +kernel
theorem dX7_compare_82 : decode cX7_compare 82 = .ok (.iload_n 2, 1) := by decide +kernel
theorem dX7_compare_83 : decode cX7_compare 83 = .ok (.iconst 0, 1) := by decide +kernel
theorem dX7_compare_84 : decode cX7_compare 84 = .ok (.invokevirtual 112, 3) := by decide +kernel
theorem dX7_compare_87 : decode cX7_compare 87 = .ok (.aload_n 0, 1) := by decide +kernel
theorem dX7_compare_88 : decode cX7_compare 88 = .ok (.iconst 3, 1) := by decide +kernel
theorem dX7_compare_89 : decode cX7_compare 89 = .ok (.iload_n 1, 1) := by decide +kernel
theorem dX7_compare_90 : decode cX7_compare 90 = .ok (.iconst 1, 1) := by decide +kernel
theorem dX7_compare_91 : decode cX7_compare 91 = .ok (.invokevirtual 112, 3) := by decide +kernel
theorem dX7_compare_94 : decode cX7_compare 94 = .ok (.aload_n 0, 1) := by decide +kernel
theorem dX7_compare_95 : decode cX7_compare 95 = .ok (.iconst 5, 1) := by decide +kernel
theorem dX7_compare_96 : decode cX7_compare 96 = .ok (.iconst 2, 1) := by decide +kernel
theorem dX7_compare_97 : decode cX7_compare 97 = .ok (.iconst 3, 1) := by decide +kernel
theorem dX7_compare_98 : decode cX7_compare 98 = .ok (.invokevirtual 116, 3) := by decide +kernel
theorem dX7_compare_101 : decode cX7_compare 101 = .ok (.aload_n 0, 1) := by decide +kernel
theorem dX7_compare_102 : decode cX7_compare 102 = .ok (.iconst 4, 1) := by decide +kernel
theorem dX7_compare_103 : decode cX7_compare 103 = .ok (.iconst 5, 1) := by decide +kernel
theorem dX7_compare_104 : decode cX7_compare 104 = .ok (.invokevirtual 58, 3) := by decide +kernel
theorem dX7_compare_107 : decode cX7_compare 107 = .ok (.aload_n 0, 1) := by decide +kernel
theorem dX7_compare_108 : decode cX7_compare 108 = .ok (.getfield 13, 3) := by decide +kernel
theorem dX7_compare_111 : decode cX7_compare 111 = .ok (.iload_n 1, 1) := by decide +kernel
theorem dX7_compare_112 : decode cX7_compare 112 = .ok (.iaload, 1) := by decide +kernel
theorem dX7_compare_113 : decode cX7_compare 113 = .ok (.ifCond .ge 7, 3) := by decide +kernel
theorem dX7_compare_116 : decode cX7_compare 116 = .ok (.iconst (-1), 1) := by decide +kernel
theorem dX7_compare_117 : decode cX7_compare 117 = .ok (.goto 4, 3) := by decide +kernel
theorem dX7_compare_120 : decode cX7_compare 120 = .ok (.iconst 1, 1) := by decide +kernel
theorem dX7_compare_121 : decode cX7_compare 121 = .ok (.imul, 1) := by decide +kernel
theorem dX7_compare_122 : decode cX7_compare 122 = .ok (.ireturn, 1) := by decide +kernel
set_option maxRecDepth 20000 in
theorem ggX7_of_X7_isNumber : GoodIn wsX7_of wsX7_isNumber := goodIn_ca (goodIn_r _ [8, 9, 10, 11, 12, 7, 13, 31, 32, 33, 34, 35, 36, 37, 38, 39, 40, 41, 42, 43, 44] (by decide +kernel) (by decide +kernel)) (goodIn_sub (fun _ h => List.mem_cons_of_mem _ (List.mem_append_right _ h)) (by decide +kernel))
set_option maxRecDepth 20000 in
theorem gX7_of_X7_isNumber : GoodIn wsX7_of (wsV RX7 109 RX7 yX7_isNumber wsX7_isNumber) := goodIn_app (goodIn_of _ (by decide +kernel)) ggX7_of_X7_isNumber
set_option maxRecDepth 20000 in
theorem ggX7_of_X7_in : GoodIn wsX7_of wsX7_in := goodIn_r _ [13] (by decide +kernel) (by decide +kernel)
set_option maxRecDepth 20000 in
theorem gX7_of_X7_in : GoodIn wsX7_of (va_wsS RX7 81 yX7_in wsX7_in) := goodIn_app (goodIn_of _ (by decide +kernel)) ggX7_of_X7_in
set_option maxRecDepth 20000 in
theorem ggX7_of_X7_isWhole : GoodIn wsX7_of wsX7_isWhole := goodIn_ca (goodIn_r _ [17, 18, 19, 31, 32, 33, 34, 35, 36, 37, 38, 39, 40, 41, 42, 43, 44] (by decide +kernel) (by decide +kernel)) (goodIn_sub (fun _ h => List.mem_cons_of_mem _ (List.mem_append_right _ h)) (by decide +kernel))
set_option maxRecDepth 20000 in
theorem gX7_of_X7_isWhole : GoodIn wsX7_of (wsV RX7 138 RX7 yX7_isWhole wsX7_isWhole) := goodIn_app (goodIn_of _ (by decide +kernel)) ggX7_of_X7_isWhole
set_option maxRecDepth 20000 in
theorem ggX7_of_X7_take : GoodIn wsX7_of wsX7_take := goodIn_ca (goodIn_r _ [23, 24, 18, 25, 19, 31, 32, 33, 34, 35, 36, 37, 38, 39, 40, 41, 42, 43, 44] (by decide +kernel) (by decide +kernel)) (goodIn_sub (fun _ h => List.mem_cons_of_mem _ (List.mem_append_right _ h)) (by decide +kernel))
set_option maxRecDepth 20000 in
theorem gX7_of_X7_take : GoodIn wsX7_of (wsV RX7 112 RX7 yX7_take wsX7_take) := goodIn_app (goodIn_of _ (by decide +kernel)) ggX7_of_X7_take
set_option maxRecDepth 20000 in
theorem ggX7_of_X7_bits : GoodIn wsX7_of wsX7_bits := goodIn_ca (goodIn_r _ [29, 24, 30, 25, 31, 32, 33, 34, 35, 36, 37, 38, 39, 40, 41, 42, 43, 44] (by decide +kernel) (by decide +kernel)) (goodIn_sub (fun _ h => List.mem_cons_of_mem _ (List.mem_append_right _ h)) (by decide +kernel))
set_option maxRecDepth 20000 in
theorem gX7_of_X7_bits : GoodIn wsX7_of (wsV RX7 85 RX7 yX7_bits wsX7_bits) := goodIn_app (goodIn_of _ (by decide +kernel)) ggX7_of_X7_bits
theorem dX7_of_0 : decode cX7_of 0 = .ok (.aload_n 0, 1) := by decide +kernel
theorem dX7_of_1 : decode cX7_of 1 = .ok (.iconst 0, 1) := by decide +kernel
theorem dX7_of_2 : decode cX7_of 2 = .ok (.putfield 43, 3) := by decide +kernel
theorem dX7_of_5 : decode cX7_of 5 = .ok (.aload_n 0, 1) := by decide +kernel
theorem dX7_of_6 : decode cX7_of 6 = .ok (.iload_n 1, 1) := by decide +kernel
theorem dX7_of_7 : decode cX7_of 7 = .ok (.invokevirtual 109, 3) := by decide +kernel
theorem dX7_of_10 : decode cX7_of 10 = .ok (.ifCond .eq 15, 3) := by decide +kernel
theorem dX7_of_13 : decode cX7_of 13 = .ok (.iload_n 2, 1) := by decide +kernel
theorem dX7_of_14 : decode cX7_of 14 = .ok (.i2l, 1) := by decide +kernel
theorem dX7_of_15 : decode cX7_of 15 = .ok (.lconst 0, 1) := by decide +kernel
theorem dX7_of_16 : decode cX7_of 16 = .ok (.ldc2_w 125, 3) := by decide +kernel
theorem dX7_of_19 : decode cX7_of 19 = .ok (.invokestatic 81, 3) := by decide +kernel
theorem dX7_of_22 : decode cX7_of 22 = .ok (.ifCond .ne 5, 3) := by decide +kernel
theorem dX7_of_25 : decode cX7_of 25 = .ok (.iconst (-1), 1) := by decide +kernel
theorem dX7_of_26 : decode cX7_of 26 = .ok (.ireturn, 1) := by decide +kernel
theorem dX7_of_27 : decode cX7_of 27 = .ok (.iload_n 2, 1) := by decide +kernel
theorem dX7_of_28 : decode cX7_of 28 = .ok (.iconst 2, 1) := by decide +kernel
theorem dX7_of_29 : decode cX7_of 29 = .ok (.if_icmp .ge 30, 3) := by decide +kernel
theorem dX7_of_32 : decode cX7_of 32 = .ok (.iload_n 2, 1) := by decide +kernel
theorem dX7_of_33 : decode cX7_of 33 = .ok (.ifCond .ne 12, 3) := by decide +kernel
theorem dX7_of_36 : decode cX7_of 36 = .ok (.aload_n 0, 1) := by decide +kernel
theorem dX7_of_37 : decode cX7_of 37 = .ok (.getfield 13, 3) := by decide +kernel
theorem dX7_of_40 : decode cX7_of 40 = .ok (.iload_n 1, 1) := by decide +kernel
theorem dX7_of_41 : decode cX7_of 41 = .ok (.iaload, 1) := by decide +kernel
theorem dX7_of_42 : decode cX7_of 42 = .ok (.goto 16, 3) := by decide +kernel
theorem dX7_of_45 : decode cX7_of 45 = .ok (.aload_n 0, 1) := by decide +kernel
theorem dX7_of_46 : decode cX7_of 46 = .ok (.iload_n 1, 1) := by decide +kernel
theorem dX7_of_47 : decode cX7_of 47 = .ok (.invokevirtual 138, 3) := by decide +kernel
theorem dX7_of_50 : decode cX7_of 50 = .ok (.ifCond .eq 7, 3) := by decide +kernel
theorem dX7_of_53 : decode cX7_of 53 = .ok (.iconst 1, 1) := by decide +kernel
theorem dX7_of_54 : decode cX7_of 54 = .ok (.goto 4, 3) := by decide +kernel
theorem dX7_of_57 : decode cX7_of 57 = .ok (.iconst 0, 1) := by decide +kernel
theorem dX7_of_58 : decode cX7_of 58 = .ok (.ireturn, 1) := by decide +kernel
theorem dX7_of_59 : decode cX7_of 59 = .ok (.aload_n 0, 1) := by decide +kernel
theorem dX7_of_60 : decode cX7_of 60 = .ok (.iconst 2, 1) := by decide +kernel
theorem dX7_of_61 : decode cX7_of 61 = .ok (.iload_n 1, 1) := by decide +kernel
theorem dX7_of_62 : decode cX7_of 62 = .ok (.iload_n 2, 1) := by decide +kernel
theorem dX7_of_63 : decode cX7_of 63 = .ok (.iconst 2, 1) := by decide +kernel
theorem dX7_of_64 : decode cX7_of 64 = .ok (.isub, 1) := by decide +kernel
theorem dX7_of_65 : decode cX7_of 65 = .ok (.invokevirtual 112, 3) := by decide +kernel
theorem dX7_of_68 : decode cX7_of 68 = .ok (.aload_n 0, 1) := by decide +kernel
theorem dX7_of_69 : decode cX7_of 69 = .ok (.iconst 2, 1) := by decide +kernel
theorem dX7_of_70 : decode cX7_of 70 = .ok (.invokevirtual 85, 3) := by decide +kernel
theorem dX7_of_73 : decode cX7_of 73 = .ok (.ireturn, 1) := by decide +kernel
set_option maxRecDepth 20000 in
theorem ggX7_limb_X7_isNumber : GoodIn wsX7_limb wsX7_isNumber := goodIn_ca (goodIn_r _ [8, 9, 10, 11, 12, 7, 13, 14, 15, 16, 17, 18, 19, 20, 21, 22, 23, 24, 25, 26, 27] (by decide +kernel) (by decide +kernel)) (goodIn_sub (fun _ h => List.mem_cons_of_mem _ (List.mem_append_right _ h)) (by decide +kernel))
set_option maxRecDepth 20000 in
theorem gX7_limb_X7_isNumber : GoodIn wsX7_limb (wsV RX7 109 RX7 yX7_isNumber wsX7_isNumber) := goodIn_app (goodIn_of _ (by decide +kernel)) ggX7_limb_X7_isNumber
set_option maxRecDepth 20000 in
theorem ggX7_limb_X7_in : GoodIn wsX7_limb wsX7_in := goodIn_r _ [13] (by decide +kernel) (by decide +kernel)
set_option maxRecDepth 20000 in
theorem gX7_limb_X7_in : GoodIn wsX7_limb (va_wsS RX7 81 yX7_in wsX7_in) := goodIn_app (goodIn_of _ (by decide +kernel)) ggX7_limb_X7_in
theorem dX7_limb_0 : decode cX7_limb 0 = .ok (.aload_n 0, 1) := by decide +kernel
theorem dX7_limb_1 : decode cX7_limb 1 = .ok (.iconst 0, 1) := by decide +kernel
theorem dX7_limb_2 : decode cX7_limb 2 = .ok (.putfield 43, 3) := by decide +kernel
theorem dX7_limb_5 : decode cX7_limb 5 = .ok (.aload_n 0, 1) := by decide +kernel
theorem dX7_limb_6 : decode cX7_limb 6 = .ok (.iload_n 1, 1) := by decide +kernel
theorem dX7_limb_7 : decode cX7_limb 7 = .ok (.invokevirtual 109, 3) := by decide +kernel
theorem dX7_limb_10 : decode cX7_limb 10 = .ok (.ifCond .eq 13, 3) := by decide +kernel
theorem dX7_limb_13 : decode cX7_limb 13 = .ok (.iload_n 2, 1) := by decide +kernel
theorem dX7_limb_14 : decode cX7_limb 14 = .ok (.i2l, 1) := by decide +kernel
theorem dX7_limb_15 : decode cX7_limb 15 = .ok (.lconst 0, 1) := by decide +kernel
theorem dX7_limb_16 : decode cX7_limb 16 = .ok (.lconst 1, 1) := by decide +kernel
theorem dX7_limb_17 : decode cX7_limb 17 = .ok (.invokestatic 81, 3) := by decide +kernel
theorem dX7_limb_20 : decode cX7_limb 20 = .ok (.ifCond .ne 5, 3) := by decide +kernel
theorem dX7_limb_23 : decode cX7_limb 23 = .ok (.iconst (-1), 1) := by decide +kernel
theorem dX7_limb_24 : decode cX7_limb 24 = .ok (.ireturn, 1) := by decide +kernel
theorem dX7_limb_25 : decode cX7_limb 25 = .ok (.iload_n 3, 1) := by decide +kernel
theorem dX7_limb_26 : decode cX7_limb 26 = .ok (.i2l, 1) := by decide +kernel
theorem dX7_limb_27 : decode cX7_limb 27 = .ok (.lconst 0, 1) := by decide +kernel
theorem dX7_limb_28 : decode cX7_limb 28 = .ok (.aload_n 0, 1) := by decide +kernel
theorem dX7_limb_29 : decode cX7_limb 29 = .ok (.getfield 21, 3) := by decide +kernel
theorem dX7_limb_32 : decode cX7_limb 32 = .ok (.iconst 2, 1) := by decide +kernel
theorem dX7_limb_33 : decode cX7_limb 33 = .ok (.iload_n 1, 1) := by decide +kernel
theorem dX7_limb_34 : decode cX7_limb 34 = .ok (.imul, 1) := by decide +kernel
theorem dX7_limb_35 : decode cX7_limb 35 = .ok (.iload_n 2, 1) := by decide +kernel
theorem dX7_limb_36 : decode cX7_limb 36 = .ok (.iadd, 1) := by decide +kernel
theorem dX7_limb_37 : decode cX7_limb 37 = .ok (.iaload, 1) := by decide +kernel
theorem dX7_limb_38 : decode cX7_limb 38 = .ok (.iconst 1, 1) := by decide +kernel
theorem dX7_limb_39 : decode cX7_limb 39 = .ok (.isub, 1) := by decide +kernel
theorem dX7_limb_40 : decode cX7_limb 40 = .ok (.i2l, 1) := by decide +kernel
theorem dX7_limb_41 : decode cX7_limb 41 = .ok (.invokestatic 81, 3) := by decide +kernel
theorem dX7_limb_44 : decode cX7_limb 44 = .ok (.ifCond .ne 10, 3) := by decide +kernel
theorem dX7_limb_47 : decode cX7_limb 47 = .ok (.aload_n 0, 1) := by decide +kernel
theorem dX7_limb_48 : decode cX7_limb 48 = .ok (.iconst 1, 1) := by decide +kernel
theorem dX7_limb_49 : decode cX7_limb 49 = .ok (.putfield 43, 3) := by decide +kernel
theorem dX7_limb_52 : decode cX7_limb 52 = .ok (.iconst 0, 1) := by decide +kernel
theorem dX7_limb_53 : decode cX7_limb 53 = .ok (.ireturn, 1) := by decide +kernel
theorem dX7_limb_54 : decode cX7_limb 54 = .ok (.aload_n 0, 1) := by decide +kernel
theorem dX7_limb_55 : decode cX7_limb 55 = .ok (.getfield 17, 3) := by decide +kernel
theorem dX7_limb_58 : decode cX7_limb 58 = .ok (.bipush 16, 2) := by decide +kernel
theorem dX7_limb_60 : decode cX7_limb 60 = .ok (.iconst 2, 1) := by decide +kernel
theorem dX7_limb_61 : decode cX7_limb 61 = .ok (.iload_n 1, 1) := by decide +kernel
theorem dX7_limb_62 : decode cX7_limb 62 = .ok (.imul, 1) := by decide +kernel
theorem dX7_limb_63 : decode cX7_limb 63 = .ok (.iload_n 2, 1) := by decide +kernel
theorem dX7_limb_64 : decode cX7_limb 64 = .ok (.iadd, 1) := by decide +kernel
theorem dX7_limb_65 : decode cX7_limb 65 = .ok (.imul, 1) := by decide +kernel
theorem dX7_limb_66 : decode cX7_limb 66 = .ok (.iload_n 3, 1) := by decide +kernel
theorem dX7_limb_67 : decode cX7_limb 67 = .ok (.iadd, 1) := by decide +kernel
theorem dX7_limb_68 : decode cX7_limb 68 = .ok (.laload, 1) := by decide +kernel
theorem dX7_limb_69 : decode cX7_limb 69 = .ok (.l2i, 1) := by decide +kernel
theorem dX7_limb_70 : decode cX7_limb 70 = .ok (.ireturn, 1) := by decide +kernel
set_option maxRecDepth 20000 in
theorem ggX7_nextTerm_X7_divide : GoodIn wsX7_nextTerm wsX7_divide := goodIn_ca (goodIn_r _ [5, 6, 7, 8, 9, 10, 4, 11, 12, 13, 14, 15, 16, 17, 18, 19, 20, 21, 22, 23, 24, 29, 30, 31, 32, 33, 34, 35, 36, 37, 38, 39, 40, 41, 42] (by decide +kernel) (by decide +kernel)) (goodIn_sub (fun _ h => List.mem_cons_of_mem _ (List.mem_append_right _ h)) (by decide +kernel))
set_option maxRecDepth 20000 in
theorem gX7_nextTerm_X7_divide : GoodIn wsX7_nextTerm (wsV RX7 96 RX7 yX7_divide wsX7_divide) := goodIn_app (goodIn_of _ (by decide +kernel)) ggX7_nextTerm_X7_divide
set_option maxRecDepth 20000 in
theorem ggX7_nextTerm_X7_copy : GoodIn wsX7_nextTerm wsX7_copy := goodIn_ca (goodIn_r _ [28, 6, 7, 29, 30, 31, 32, 33, 34, 35, 36, 37, 38, 39, 40, 41, 42] (by decide +kernel) (by decide +kernel)) (goodIn_sub (fun _ h => List.mem_cons_of_mem _ (List.mem_append_right _ h)) (by decide +kernel))
set_option maxRecDepth 20000 in
theorem gX7_nextTerm_X7_copy : GoodIn wsX7_nextTerm (wsV RX7 66 RX7 yX7_copy wsX7_copy) := goodIn_app (goodIn_of _ (by decide +kernel)) ggX7_nextTerm_X7_copy
theorem dX7_nextTerm_0 : decode cX7_nextTerm 0 = .ok (.aload_n 0, 1) := by decide +kernel
theorem dX7_nextTerm_1 : decode cX7_nextTerm 1 = .ok (.bipush 10, 2) := by decide +kernel
theorem dX7_nextTerm_3 : decode cX7_nextTerm 3 = .ok (.bipush 13, 2) := by decide +kernel
theorem dX7_nextTerm_5 : decode cX7_nextTerm 5 = .ok (.bipush 11, 2) := by decide +kernel
theorem dX7_nextTerm_7 : decode cX7_nextTerm 7 = .ok (.bipush 12, 2) := by decide +kernel
theorem dX7_nextTerm_9 : decode cX7_nextTerm 9 = .ok (.invokevirtual 96, 3) := by decide +kernel
theorem dX7_nextTerm_12 : decode cX7_nextTerm 12 = .ok (.aload_n 0, 1) := by decide +kernel
theorem dX7_nextTerm_13 : decode cX7_nextTerm 13 = .ok (.bipush 11, 2) := by decide +kernel
theorem dX7_nextTerm_15 : decode cX7_nextTerm 15 = .ok (.bipush 12, 2) := by decide +kernel
theorem dX7_nextTerm_17 : decode cX7_nextTerm 17 = .ok (.invokevirtual 66, 3) := by decide +kernel
theorem dX7_nextTerm_20 : decode cX7_nextTerm 20 = .ok (.aload_n 0, 1) := by decide +kernel
theorem dX7_nextTerm_21 : decode cX7_nextTerm 21 = .ok (.bipush 12, 2) := by decide +kernel
theorem dX7_nextTerm_23 : decode cX7_nextTerm 23 = .ok (.bipush 13, 2) := by decide +kernel
theorem dX7_nextTerm_25 : decode cX7_nextTerm 25 = .ok (.invokevirtual 66, 3) := by decide +kernel
theorem dX7_nextTerm_28 : decode cX7_nextTerm 28 = .ok (.return_, 1) := by decide +kernel
set_option maxRecDepth 20000 in
theorem ggX7_terms_X7_isNumber : GoodIn wsX7_terms wsX7_isNumber := goodIn_ca (goodIn_r _ [7, 8, 9, 10, 11, 6, 12, 62, 63, 64, 65, 66, 67, 68, 69, 70, 71, 72, 73, 74, 75] (by decide +kernel) (by decide +kernel)) (goodIn_sub (fun _ h => List.mem_cons_of_mem _ (List.mem_append_right _ h)) (by decide +kernel))
set_option maxRecDepth 20000 in
theorem gX7_terms_X7_isNumber : GoodIn wsX7_terms (wsV RX7 109 RX7 yX7_isNumber wsX7_isNumber) := goodIn_app (goodIn_of _ (by decide +kernel)) ggX7_terms_X7_isNumber
set_option maxRecDepth 20000 in
theorem ggX7_terms_X7_floor : GoodIn wsX7_terms wsX7_floor := goodIn_ca (goodIn_r _ [16, 17, 2, 18, 19, 20, 6, 21, 22, 23, 24, 25, 26, 27, 28, 29, 30, 31, 32, 33, 34, 35, 36, 37, 38, 39, 40, 41, 42, 43, 44, 45, 46, 47, 48, 49, 50, 51, 52, 53, 54, 55, 56, 57, 62, 63, 64, 65, 66, 67, 68, 69, 70, 71, 72, 73, 74, 75] (by decide +kernel) (by decide +kernel)) (goodIn_sub (fun _ h => List.mem_cons_of_mem _ (List.mem_append_right _ h)) (by decide +kernel))
set_option maxRecDepth 20000 in
theorem gX7_terms_X7_floor : GoodIn wsX7_terms (wsV RX7 135 RX7 yX7_floor wsX7_floor) := goodIn_app (goodIn_of _ (by decide +kernel)) ggX7_terms_X7_floor
set_option maxRecDepth 20000 in
theorem ggX7_terms_X7_nextTerm : GoodIn wsX7_terms wsX7_nextTerm := goodIn_ca (goodIn_r _ [61, 25, 26, 27, 6, 28, 2, 23, 29, 30, 31, 32, 33, 34, 35, 36, 37, 38, 39, 40, 41, 42, 43, 44, 45, 54, 55, 56, 57, 62, 63, 64, 65, 66, 67, 68, 69, 70, 71, 72, 73, 74, 75] (by decide +kernel) (by decide +kernel)) (goodIn_sub (fun _ h => List.mem_cons_of_mem _ (List.mem_append_right _ h)) (by decide +kernel))
set_option maxRecDepth 20000 in
theorem gX7_terms_X7_nextTerm : GoodIn wsX7_terms (wsV RX7 144 RX7 yX7_nextTerm wsX7_nextTerm) := goodIn_app (goodIn_of _ (by decide +kernel)) ggX7_terms_X7_nextTerm
theorem dX7_terms_0 : decode cX7_terms 0 = .ok (.aload_n 0, 1) := by decide +kernel
theorem dX7_terms_1 : decode cX7_terms 1 = .ok (.iconst 0, 1) := by decide +kernel
theorem dX7_terms_2 : decode cX7_terms 2 = .ok (.putfield 43, 3) := by decide +kernel
theorem dX7_terms_5 : decode cX7_terms 5 = .ok (.aload_n 0, 1) := by decide +kernel
theorem dX7_terms_6 : decode cX7_terms 6 = .ok (.iload_n 1, 1) := by decide +kernel
theorem dX7_terms_7 : decode cX7_terms 7 = .ok (.invokevirtual 109, 3) := by decide +kernel
theorem dX7_terms_10 : decode cX7_terms 10 = .ok (.ifCond .ne 5, 3) := by decide +kernel
theorem dX7_terms_13 : decode cX7_terms 13 = .ok (.iconst (-1), 1) := by decide +kernel
theorem dX7_terms_14 : decode cX7_terms 14 = .ok (.ireturn, 1) := by decide +kernel
theorem dX7_terms_15 : decode cX7_terms 15 = .ok (.aload_n 0, 1) := by decide +kernel
theorem dX7_terms_16 : decode cX7_terms 16 = .ok (.iload_n 1, 1) := by decide +kernel
theorem dX7_terms_17 : decode cX7_terms 17 = .ok (.invokevirtual 135, 3) := by decide +kernel
theorem dX7_terms_20 : decode cX7_terms 20 = .ok (.istore_n 2, 1) := by decide +kernel
theorem dX7_terms_21 : decode cX7_terms 21 = .ok (.iconst 1, 1) := by decide +kernel
theorem dX7_terms_22 : decode cX7_terms 22 = .ok (.istore_n 3, 1) := by decide +kernel
theorem dX7_terms_23 : decode cX7_terms 23 = .ok (.aload_n 0, 1) := by decide +kernel
theorem dX7_terms_24 : decode cX7_terms 24 = .ok (.getfield 33, 3) := by decide +kernel
theorem dX7_terms_27 : decode cX7_terms 27 = .ok (.bipush 12, 2) := by decide +kernel
theorem dX7_terms_29 : decode cX7_terms 29 = .ok (.iaload, 1) := by decide +kernel
theorem dX7_terms_30 : decode cX7_terms 30 = .ok (.ifCond .le 13, 3) := by decide +kernel
theorem dX7_terms_33 : decode cX7_terms 33 = .ok (.aload_n 0, 1) := by decide +kernel
theorem dX7_terms_34 : decode cX7_terms 34 = .ok (.invokevirtual 144, 3) := by decide +kernel
theorem dX7_terms_37 : decode cX7_terms 37 = .ok (.iinc 3 1, 3) := by decide +kernel
theorem dX7_terms_40 : decode cX7_terms 40 = .ok (.goto (-17), 3) := by decide +kernel
theorem dX7_terms_43 : decode cX7_terms 43 = .ok (.iload_n 2, 1) := by decide +kernel
theorem dX7_terms_44 : decode cX7_terms 44 = .ok (.ifCond .ne 7, 3) := by decide +kernel
theorem dX7_terms_47 : decode cX7_terms 47 = .ok (.iconst (-1), 1) := by decide +kernel
theorem dX7_terms_48 : decode cX7_terms 48 = .ok (.goto 4, 3) := by decide +kernel
theorem dX7_terms_51 : decode cX7_terms 51 = .ok (.iload_n 3, 1) := by decide +kernel
theorem dX7_terms_52 : decode cX7_terms 52 = .ok (.ireturn, 1) := by decide +kernel
set_option maxRecDepth 20000 in
theorem ggX7_term_X7_isNumber : GoodIn wsX7_term wsX7_isNumber := goodIn_ca (goodIn_r _ [7, 8, 9, 10, 11, 6, 12, 79, 80, 81, 82, 83, 84, 85, 86, 87, 88, 89, 90, 91, 92] (by decide +kernel) (by decide +kernel)) (goodIn_sub (fun _ h => List.mem_cons_of_mem _ (List.mem_append_right _ h)) (by decide +kernel))
set_option maxRecDepth 20000 in
theorem gX7_term_X7_isNumber : GoodIn wsX7_term (wsV RX7 109 RX7 yX7_isNumber wsX7_isNumber) := goodIn_app (goodIn_of _ (by decide +kernel)) ggX7_term_X7_isNumber
set_option maxRecDepth 20000 in
theorem ggX7_term_X7_floor : GoodIn wsX7_term wsX7_floor := goodIn_ca (goodIn_r _ [16, 17, 2, 18, 19, 20, 6, 21, 22, 23, 24, 25, 26, 27, 28, 29, 30, 31, 32, 33, 34, 35, 36, 37, 38, 39, 40, 41, 42, 43, 44, 45, 46, 47, 48, 49, 50, 51, 52, 53, 54, 55, 56, 57, 79, 80, 81, 82, 83, 84, 85, 86, 87, 88, 89, 90, 91, 92] (by decide +kernel) (by decide +kernel)) (goodIn_sub (fun _ h => List.mem_cons_of_mem _ (List.mem_append_right _ h)) (by decide +kernel))
set_option maxRecDepth 20000 in
theorem gX7_term_X7_floor : GoodIn wsX7_term (wsV RX7 135 RX7 yX7_floor wsX7_floor) := goodIn_app (goodIn_of _ (by decide +kernel)) ggX7_term_X7_floor
set_option maxRecDepth 20000 in
theorem ggX7_term_X7_nextTerm : GoodIn wsX7_term wsX7_nextTerm := goodIn_ca (goodIn_r _ [61, 25, 26, 27, 6, 28, 2, 23, 29, 30, 31, 32, 33, 34, 35, 36, 37, 38, 39, 40, 41, 42, 43, 44, 45, 54, 55, 56, 57, 79, 80, 81, 82, 83, 84, 85, 86, 87, 88, 89, 90, 91, 92] (by decide +kernel) (by decide +kernel)) (goodIn_sub (fun _ h => List.mem_cons_of_mem _ (List.mem_append_right _ h)) (by decide +kernel))
set_option maxRecDepth 20000 in
theorem gX7_term_X7_nextTerm : GoodIn wsX7_term (wsV RX7 144 RX7 yX7_nextTerm wsX7_nextTerm) := goodIn_app (goodIn_of _ (by decide +kernel)) ggX7_term_X7_nextTerm
set_option maxRecDepth 20000 in
theorem ggX7_term_X7_free : GoodIn wsX7_term wsX7_free := goodIn_ca (goodIn_r _ [65, 9, 79, 80, 81, 82, 83, 84, 85, 86, 87, 88, 89, 90, 91, 92] (by decide +kernel) (by decide +kernel)) (goodIn_sub (fun _ h => List.mem_cons_of_mem _ (List.mem_append_right _ h)) (by decide +kernel))
set_option maxRecDepth 20000 in
theorem gX7_term_X7_free : GoodIn wsX7_term (wsV RX7 89 RX7 yX7_free wsX7_free) := goodIn_app (goodIn_of _ (by decide +kernel)) ggX7_term_X7_free
set_option maxRecDepth 20000 in
theorem ggX7_term_X7_keepWhole : GoodIn wsX7_term wsX7_keepWhole := goodIn_ca (goodIn_r _ [69, 54, 55, 56, 6, 57, 2, 23, 46, 47, 48, 49, 33, 34, 35, 36, 37, 70, 71, 72, 73, 9, 17, 22, 24, 74, 75, 76, 77, 78, 62, 63, 64, 65, 79, 80, 81, 82, 83, 84, 85, 86, 87, 88, 89, 90, 91, 92] (by decide +kernel) (by decide +kernel)) (goodIn_sub (fun _ h => List.mem_cons_of_mem _ (List.mem_append_right _ h)) (by decide +kernel))
set_option maxRecDepth 20000 in
theorem gX7_term_X7_keepWhole : GoodIn wsX7_term (wsV RX7 106 RX7 yX7_keepWhole wsX7_keepWhole) := goodIn_app (goodIn_of _ (by decide +kernel)) ggX7_term_X7_keepWhole
theorem dX7_term_0 : decode cX7_term 0 = .ok (.aload_n 0, 1) := by decide +kernel
theorem dX7_term_1 : decode cX7_term 1 = .ok (.iconst 0, 1) := by decide +kernel
theorem dX7_term_2 : decode cX7_term 2 = .ok (.putfield 43, 3) := by decide +kernel
theorem dX7_term_5 : decode cX7_term 5 = .ok (.aload_n 0, 1) := by decide +kernel
theorem dX7_term_6 : decode cX7_term 6 = .ok (.iload_n 1, 1) := by decide +kernel
theorem dX7_term_7 : decode cX7_term 7 = .ok (.invokevirtual 109, 3) := by decide +kernel
theorem dX7_term_10 : decode cX7_term 10 = .ok (.ifCond .eq 7, 3) := by decide +kernel
theorem dX7_term_13 : decode cX7_term 13 = .ok (.iload_n 2, 1) := by decide +kernel
theorem dX7_term_14 : decode cX7_term 14 = .ok (.ifCond .ge 5, 3) := by decide +kernel
theorem dX7_term_17 : decode cX7_term 17 = .ok (.iconst (-1), 1) := by decide +kernel
theorem dX7_term_18 : decode cX7_term 18 = .ok (.ireturn, 1) := by decide +kernel
theorem dX7_term_19 : decode cX7_term 19 = .ok (.aload_n 0, 1) := by decide +kernel
theorem dX7_term_20 : decode cX7_term 20 = .ok (.iload_n 1, 1) := by decide +kernel
theorem dX7_term_21 : decode cX7_term 21 = .ok (.invokevirtual 135, 3) := by decide +kernel
theorem dX7_term_24 : decode cX7_term 24 = .ok (.istore_n 3, 1) := by decide +kernel
theorem dX7_term_25 : decode cX7_term 25 = .ok (.iconst 0, 1) := by decide +kernel
theorem dX7_term_26 : decode cX7_term 26 = .ok (.istore 4, 2) := by decide +kernel
theorem dX7_term_28 : decode cX7_term 28 = .ok (.iload 4, 2) := by decide +kernel
theorem dX7_term_30 : decode cX7_term 30 = .ok (.iload_n 2, 1) := by decide +kernel
theorem dX7_term_31 : decode cX7_term 31 = .ok (.if_icmp .ge 27, 3) := by decide +kernel
theorem dX7_term_34 : decode cX7_term 34 = .ok (.aload_n 0, 1) := by decide +kernel
theorem dX7_term_35 : decode cX7_term 35 = .ok (.getfield 33, 3) := by decide +kernel
theorem dX7_term_38 : decode cX7_term 38 = .ok (.bipush 12, 2) := by decide +kernel
theorem dX7_term_40 : decode cX7_term 40 = .ok (.iaload, 1) := by decide +kernel
theorem dX7_term_41 : decode cX7_term 41 = .ok (.ifCond .ne 5, 3) := by decide +kernel
theorem dX7_term_44 : decode cX7_term 44 = .ok (.iconst (-1), 1) := by decide +kernel
theorem dX7_term_45 : decode cX7_term 45 = .ok (.ireturn, 1) := by decide +kernel
theorem dX7_term_46 : decode cX7_term 46 = .ok (.aload_n 0, 1) := by decide +kernel
theorem dX7_term_47 : decode cX7_term 47 = .ok (.invokevirtual 144, 3) := by decide +kernel
theorem dX7_term_50 : decode cX7_term 50 = .ok (.iconst 1, 1) := by decide +kernel
theorem dX7_term_51 : decode cX7_term 51 = .ok (.istore_n 3, 1) := by decide +kernel
theorem dX7_term_52 : decode cX7_term 52 = .ok (.iinc 4 1, 3) := by decide +kernel
theorem dX7_term_55 : decode cX7_term 55 = .ok (.goto (-27), 3) := by decide +kernel
theorem dX7_term_58 : decode cX7_term 58 = .ok (.aload_n 0, 1) := by decide +kernel
theorem dX7_term_59 : decode cX7_term 59 = .ok (.invokevirtual 89, 3) := by decide +kernel
theorem dX7_term_62 : decode cX7_term 62 = .ok (.bipush (-3), 2) := by decide +kernel
theorem dX7_term_64 : decode cX7_term 64 = .ok (.if_icmp .ne 8, 3) := by decide +kernel
theorem dX7_term_67 : decode cX7_term 67 = .ok (.bipush (-3), 2) := by decide +kernel
theorem dX7_term_69 : decode cX7_term 69 = .ok (.goto 10, 3) := by decide +kernel
theorem dX7_term_72 : decode cX7_term 72 = .ok (.aload_n 0, 1) := by decide +kernel
theorem dX7_term_73 : decode cX7_term 73 = .ok (.bipush 10, 2) := by decide +kernel
theorem dX7_term_75 : decode cX7_term 75 = .ok (.iload_n 3, 1) := by decide +kernel
theorem dX7_term_76 : decode cX7_term 76 = .ok (.invokevirtual 106, 3) := by decide +kernel
theorem dX7_term_79 : decode cX7_term 79 = .ok (.ireturn, 1) := by decide +kernel
set_option maxRecDepth 20000 in
theorem ggX7_keepMixed_X7_times : GoodIn wsX7_keepMixed wsX7_times := goodIn_ca (goodIn_r _ [6, 1, 7, 8, 9, 10, 11, 5, 12, 42, 43, 44, 45, 46, 47, 48, 49, 50, 51, 52, 53, 54, 55] (by decide +kernel) (by decide +kernel)) (goodIn_sub (fun _ h => List.mem_cons_of_mem _ (List.mem_append_right _ h)) (by decide +kernel))
set_option maxRecDepth 20000 in
theorem gX7_keepMixed_X7_times : GoodIn wsX7_keepMixed (wsV RX7 116 RX7 yX7_times wsX7_times) := goodIn_app (goodIn_of _ (by decide +kernel)) ggX7_keepMixed_X7_times
set_option maxRecDepth 20000 in
theorem ggX7_keepMixed_X7_copy : GoodIn wsX7_keepMixed wsX7_copy := goodIn_ca (goodIn_r _ [16, 1, 7, 42, 43, 44, 45, 46, 47, 48, 49, 50, 51, 52, 53, 54, 55] (by decide +kernel) (by decide +kernel)) (goodIn_sub (fun _ h => List.mem_cons_of_mem _ (List.mem_append_right _ h)) (by decide +kernel))
set_option maxRecDepth 20000 in
theorem gX7_keepMixed_X7_copy : GoodIn wsX7_keepMixed (wsV RX7 66 RX7 yX7_copy wsX7_copy) := goodIn_app (goodIn_of _ (by decide +kernel)) ggX7_keepMixed_X7_copy
set_option maxRecDepth 20000 in
theorem ggX7_keepMixed_X7_less : GoodIn wsX7_keepMixed wsX7_less := goodIn_ca (goodIn_r _ [20, 1, 7, 8, 9, 10, 11, 5, 12, 42, 43, 44, 45, 46, 47, 48, 49, 50, 51, 52, 53, 54, 55] (by decide +kernel) (by decide +kernel)) (goodIn_sub (fun _ h => List.mem_cons_of_mem _ (List.mem_append_right _ h)) (by decide +kernel))
set_option maxRecDepth 20000 in
theorem gX7_keepMixed_X7_less : GoodIn wsX7_keepMixed (wsV RX7 62 RX7 yX7_less wsX7_less) := goodIn_app (goodIn_of _ (by decide +kernel)) ggX7_keepMixed_X7_less
set_option maxRecDepth 20000 in
theorem ggX7_keepMixed_X7_add : GoodIn wsX7_keepMixed wsX7_add := goodIn_ca (goodIn_r _ [24, 1, 7, 8, 9, 10, 11, 5, 12, 42, 43, 44, 45, 46, 47, 48, 49, 50, 51, 52, 53, 54, 55] (by decide +kernel) (by decide +kernel)) (goodIn_sub (fun _ h => List.mem_cons_of_mem _ (List.mem_append_right _ h)) (by decide +kernel))
set_option maxRecDepth 20000 in
theorem gX7_keepMixed_X7_add : GoodIn wsX7_keepMixed (wsV RX7 122 RX7 yX7_add wsX7_add) := goodIn_app (goodIn_of _ (by decide +kernel)) ggX7_keepMixed_X7_add
set_option maxRecDepth 20000 in
theorem ggX7_keepMixed_X7_keep : GoodIn wsX7_keepMixed wsX7_keep := goodIn_ca (goodIn_r _ [28, 29, 30, 1, 31, 32, 7, 33, 34, 35, 5, 36, 37, 38, 39, 40, 41, 42, 43, 44, 45, 46, 47, 48, 49, 50, 51, 52, 53, 54, 55] (by decide +kernel) (by decide +kernel)) (goodIn_sub (fun _ h => List.mem_cons_of_mem _ (List.mem_append_right _ h)) (by decide +kernel))
set_option maxRecDepth 20000 in
theorem gX7_keepMixed_X7_keep : GoodIn wsX7_keepMixed (wsV RX7 100 RX7 yX7_keep wsX7_keep) := goodIn_app (goodIn_of _ (by decide +kernel)) ggX7_keepMixed_X7_keep
theorem dX7_keepMixed_0 : decode cX7_keepMixed 0 = .ok (.aload_n 0, 1) := by decide +kernel
theorem dX7_keepMixed_1 : decode cX7_keepMixed 1 = .ok (.iconst 0, 1) := by decide +kernel
theorem dX7_keepMixed_2 : decode cX7_keepMixed 2 = .ok (.bipush 15, 2) := by decide +kernel
theorem dX7_keepMixed_4 : decode cX7_keepMixed 4 = .ok (.iconst 3, 1) := by decide +kernel
theorem dX7_keepMixed_5 : decode cX7_keepMixed 5 = .ok (.invokevirtual 116, 3) := by decide +kernel
theorem dX7_keepMixed_8 : decode cX7_keepMixed 8 = .ok (.aload_n 0, 1) := by decide +kernel
theorem dX7_keepMixed_9 : decode cX7_keepMixed 9 = .ok (.iconst 1, 1) := by decide +kernel
theorem dX7_keepMixed_10 : decode cX7_keepMixed 10 = .ok (.iconst 3, 1) := by decide +kernel
theorem dX7_keepMixed_11 : decode cX7_keepMixed 11 = .ok (.invokevirtual 66, 3) := by decide +kernel
theorem dX7_keepMixed_14 : decode cX7_keepMixed 14 = .ok (.iload_n 1, 1) := by decide +kernel
theorem dX7_keepMixed_15 : decode cX7_keepMixed 15 = .ok (.istore_n 2, 1) := by decide +kernel
theorem dX7_keepMixed_16 : decode cX7_keepMixed 16 = .ok (.iload_n 1, 1) := by decide +kernel
theorem dX7_keepMixed_17 : decode cX7_keepMixed 17 = .ok (.ifCond .ge 22, 3) := by decide +kernel
theorem dX7_keepMixed_20 : decode cX7_keepMixed 20 = .ok (.aload_n 0, 1) := by decide +kernel
theorem dX7_keepMixed_21 : decode cX7_keepMixed 21 = .ok (.getfield 33, 3) := by decide +kernel
theorem dX7_keepMixed_24 : decode cX7_keepMixed 24 = .ok (.bipush 15, 2) := by decide +kernel
theorem dX7_keepMixed_26 : decode cX7_keepMixed 26 = .ok (.iaload, 1) := by decide +kernel
theorem dX7_keepMixed_27 : decode cX7_keepMixed 27 = .ok (.ifCond .le 12, 3) := by decide +kernel
theorem dX7_keepMixed_30 : decode cX7_keepMixed 30 = .ok (.aload_n 0, 1) := by decide +kernel
theorem dX7_keepMixed_31 : decode cX7_keepMixed 31 = .ok (.iconst 0, 1) := by decide +kernel
theorem dX7_keepMixed_32 : decode cX7_keepMixed 32 = .ok (.iconst 2, 1) := by decide +kernel
theorem dX7_keepMixed_33 : decode cX7_keepMixed 33 = .ok (.invokevirtual 62, 3) := by decide +kernel
theorem dX7_keepMixed_36 : decode cX7_keepMixed 36 = .ok (.goto 11, 3) := by decide +kernel
theorem dX7_keepMixed_39 : decode cX7_keepMixed 39 = .ok (.aload_n 0, 1) := by decide +kernel
theorem dX7_keepMixed_40 : decode cX7_keepMixed 40 = .ok (.iconst 0, 1) := by decide +kernel
theorem dX7_keepMixed_41 : decode cX7_keepMixed 41 = .ok (.iconst 2, 1) := by decide +kernel
theorem dX7_keepMixed_42 : decode cX7_keepMixed 42 = .ok (.invokevirtual 122, 3) := by decide +kernel
theorem dX7_keepMixed_45 : decode cX7_keepMixed 45 = .ok (.iconst 1, 1) := by decide +kernel
theorem dX7_keepMixed_46 : decode cX7_keepMixed 46 = .ok (.istore_n 2, 1) := by decide +kernel
theorem dX7_keepMixed_47 : decode cX7_keepMixed 47 = .ok (.aload_n 0, 1) := by decide +kernel
theorem dX7_keepMixed_48 : decode cX7_keepMixed 48 = .ok (.iload_n 2, 1) := by decide +kernel
theorem dX7_keepMixed_49 : decode cX7_keepMixed 49 = .ok (.invokevirtual 100, 3) := by decide +kernel
theorem dX7_keepMixed_52 : decode cX7_keepMixed 52 = .ok (.ireturn, 1) := by decide +kernel
set_option maxRecDepth 20000 in
theorem ggX7_part_X7_isNumber : GoodIn wsX7_part wsX7_isNumber := goodIn_ca (goodIn_r _ [7, 8, 9, 10, 11, 6, 12, 87, 88, 89, 90, 91, 92, 93, 94, 95, 96, 97, 98, 99, 100] (by decide +kernel) (by decide +kernel)) (goodIn_sub (fun _ h => List.mem_cons_of_mem _ (List.mem_append_right _ h)) (by decide +kernel))
set_option maxRecDepth 20000 in
theorem gX7_part_X7_isNumber : GoodIn wsX7_part (wsV RX7 109 RX7 yX7_isNumber wsX7_isNumber) := goodIn_app (goodIn_of _ (by decide +kernel)) ggX7_part_X7_isNumber
set_option maxRecDepth 20000 in
theorem ggX7_part_X7_floor : GoodIn wsX7_part wsX7_floor := goodIn_ca (goodIn_r _ [16, 17, 2, 18, 19, 20, 6, 21, 22, 23, 24, 25, 26, 27, 28, 29, 30, 31, 32, 33, 34, 35, 36, 37, 38, 39, 40, 41, 42, 43, 44, 45, 46, 47, 48, 49, 50, 51, 52, 53, 54, 55, 56, 57, 87, 88, 89, 90, 91, 92, 93, 94, 95, 96, 97, 98, 99, 100] (by decide +kernel) (by decide +kernel)) (goodIn_sub (fun _ h => List.mem_cons_of_mem _ (List.mem_append_right _ h)) (by decide +kernel))
set_option maxRecDepth 20000 in
theorem gX7_part_X7_floor : GoodIn wsX7_part (wsV RX7 135 RX7 yX7_floor wsX7_floor) := goodIn_app (goodIn_of _ (by decide +kernel)) ggX7_part_X7_floor
set_option maxRecDepth 20000 in
theorem ggX7_part_X7_copy : GoodIn wsX7_part wsX7_copy := goodIn_ca (goodIn_r _ [57, 2, 23, 87, 88, 89, 90, 91, 92, 93, 94, 95, 96, 97, 98, 99, 100] (by decide +kernel) (by decide +kernel)) (goodIn_sub (fun _ h => List.mem_cons_of_mem _ (List.mem_append_right _ h)) (by decide +kernel))
set_option maxRecDepth 20000 in
theorem gX7_part_X7_copy : GoodIn wsX7_part (wsV RX7 66 RX7 yX7_copy wsX7_copy) := goodIn_app (goodIn_of _ (by decide +kernel)) ggX7_part_X7_copy
set_option maxRecDepth 20000 in
theorem ggX7_part_X7_small : GoodIn wsX7_part wsX7_small := goodIn_ca (goodIn_r _ [49, 23, 33, 2, 34, 35, 36, 6, 37, 87, 88, 89, 90, 91, 92, 93, 94, 95, 96, 97, 98, 99, 100] (by decide +kernel) (by decide +kernel)) (goodIn_sub (fun _ h => List.mem_cons_of_mem _ (List.mem_append_right _ h)) (by decide +kernel))
set_option maxRecDepth 20000 in
theorem gX7_part_X7_small : GoodIn wsX7_part (wsV RX7 103 RX7 yX7_small wsX7_small) := goodIn_app (goodIn_of _ (by decide +kernel)) ggX7_part_X7_small
set_option maxRecDepth 20000 in
theorem ggX7_part_X7_nextTerm : GoodIn wsX7_part wsX7_nextTerm := goodIn_ca (goodIn_r _ [61, 25, 26, 27, 6, 28, 2, 23, 29, 30, 31, 32, 33, 34, 35, 36, 37, 38, 39, 40, 41, 42, 43, 44, 45, 54, 55, 56, 57, 87, 88, 89, 90, 91, 92, 93, 94, 95, 96, 97, 98, 99, 100] (by decide +kernel) (by decide +kernel)) (goodIn_sub (fun _ h => List.mem_cons_of_mem _ (List.mem_append_right _ h)) (by decide +kernel))
set_option maxRecDepth 20000 in
theorem gX7_part_X7_nextTerm : GoodIn wsX7_part (wsV RX7 144 RX7 yX7_nextTerm wsX7_nextTerm) := goodIn_app (goodIn_of _ (by decide +kernel)) ggX7_part_X7_nextTerm
set_option maxRecDepth 20000 in
theorem ggX7_part_X7_step : GoodIn wsX7_part wsX7_step := goodIn_ca (goodIn_r _ [65, 66, 67, 68, 6, 69, 2, 23, 33, 34, 35, 36, 37, 50, 51, 52, 53, 54, 55, 56, 57, 87, 88, 89, 90, 91, 92, 93, 94, 95, 96, 97, 98, 99, 100] (by decide +kernel) (by decide +kernel)) (goodIn_sub (fun _ h => List.mem_cons_of_mem _ (List.mem_append_right _ h)) (by decide +kernel))
set_option maxRecDepth 20000 in
theorem gX7_part_X7_step : GoodIn wsX7_part (wsV RX7 147 RX7 yX7_step wsX7_step) := goodIn_app (goodIn_of _ (by decide +kernel)) ggX7_part_X7_step
set_option maxRecDepth 20000 in
theorem ggX7_part_X7_free : GoodIn wsX7_part wsX7_free := goodIn_ca (goodIn_r _ [73, 9, 87, 88, 89, 90, 91, 92, 93, 94, 95, 96, 97, 98, 99, 100] (by decide +kernel) (by decide +kernel)) (goodIn_sub (fun _ h => List.mem_cons_of_mem _ (List.mem_append_right _ h)) (by decide +kernel))
set_option maxRecDepth 20000 in
theorem gX7_part_X7_free : GoodIn wsX7_part (wsV RX7 89 RX7 yX7_free wsX7_free) := goodIn_app (goodIn_of _ (by decide +kernel)) ggX7_part_X7_free
set_option maxRecDepth 20000 in
theorem ggX7_part_X7_keepMixed : GoodIn wsX7_part wsX7_keepMixed := goodIn_ca (goodIn_r _ [77, 2, 66, 67, 68, 6, 69, 23, 33, 34, 35, 36, 37, 54, 55, 56, 57, 42, 43, 44, 45, 50, 51, 52, 53, 78, 79, 80, 81, 9, 17, 22, 24, 82, 83, 84, 85, 86, 70, 71, 72, 73, 87, 88, 89, 90, 91, 92, 93, 94, 95, 96, 97, 98, 99, 100] (by decide +kernel) (by decide +kernel)) (goodIn_sub (fun _ h => List.mem_cons_of_mem _ (List.mem_append_right _ h)) (by decide +kernel))
set_option maxRecDepth 20000 in
theorem gX7_part_X7_keepMixed : GoodIn wsX7_part (wsV RX7 150 RX7 yX7_keepMixed wsX7_keepMixed) := goodIn_app (goodIn_of _ (by decide +kernel)) ggX7_part_X7_keepMixed
theorem dX7_part_0 : decode cX7_part 0 = .ok (.aload_n 0, 1) := by decide +kernel
theorem dX7_part_1 : decode cX7_part 1 = .ok (.iconst 0, 1) := by decide +kernel
theorem dX7_part_2 : decode cX7_part 2 = .ok (.putfield 43, 3) := by decide +kernel
theorem dX7_part_5 : decode cX7_part 5 = .ok (.aload_n 0, 1) := by decide +kernel
theorem dX7_part_6 : decode cX7_part 6 = .ok (.iload_n 1, 1) := by decide +kernel
theorem dX7_part_7 : decode cX7_part 7 = .ok (.invokevirtual 109, 3) := by decide +kernel
theorem dX7_part_10 : decode cX7_part 10 = .ok (.ifCond .eq 8, 3) := by decide +kernel
theorem dX7_part_13 : decode cX7_part 13 = .ok (.iload_n 2, 1) := by decide +kernel
theorem dX7_part_14 : decode cX7_part 14 = .ok (.iconst 1, 1) := by decide +kernel
theorem dX7_part_15 : decode cX7_part 15 = .ok (.if_icmp .ge 5, 3) := by decide +kernel
theorem dX7_part_18 : decode cX7_part 18 = .ok (.iconst (-1), 1) := by decide +kernel
theorem dX7_part_19 : decode cX7_part 19 = .ok (.ireturn, 1) := by decide +kernel
theorem dX7_part_20 : decode cX7_part 20 = .ok (.aload_n 0, 1) := by decide +kernel
theorem dX7_part_21 : decode cX7_part 21 = .ok (.iload_n 1, 1) := by decide +kernel
theorem dX7_part_22 : decode cX7_part 22 = .ok (.invokevirtual 135, 3) := by decide +kernel
theorem dX7_part_25 : decode cX7_part 25 = .ok (.istore_n 3, 1) := by decide +kernel
theorem dX7_part_26 : decode cX7_part 26 = .ok (.aload_n 0, 1) := by decide +kernel
theorem dX7_part_27 : decode cX7_part 27 = .ok (.bipush 15, 2) := by decide +kernel
theorem dX7_part_29 : decode cX7_part 29 = .ok (.bipush 10, 2) := by decide +kernel
theorem dX7_part_31 : decode cX7_part 31 = .ok (.invokevirtual 66, 3) := by decide +kernel
theorem dX7_part_34 : decode cX7_part 34 = .ok (.aload_n 0, 1) := by decide +kernel
theorem dX7_part_35 : decode cX7_part 35 = .ok (.iconst 2, 1) := by decide +kernel
theorem dX7_part_36 : decode cX7_part 36 = .ok (.lconst 0, 1) := by decide +kernel
theorem dX7_part_37 : decode cX7_part 37 = .ok (.invokevirtual 103, 3) := by decide +kernel
theorem dX7_part_40 : decode cX7_part 40 = .ok (.aload_n 0, 1) := by decide +kernel
theorem dX7_part_41 : decode cX7_part 41 = .ok (.iconst 3, 1) := by decide +kernel
theorem dX7_part_42 : decode cX7_part 42 = .ok (.lconst 1, 1) := by decide +kernel
theorem dX7_part_43 : decode cX7_part 43 = .ok (.invokevirtual 103, 3) := by decide +kernel
theorem dX7_part_46 : decode cX7_part 46 = .ok (.aload_n 0, 1) := by decide +kernel
theorem dX7_part_47 : decode cX7_part 47 = .ok (.iconst 4, 1) := by decide +kernel
theorem dX7_part_48 : decode cX7_part 48 = .ok (.lconst 1, 1) := by decide +kernel
theorem dX7_part_49 : decode cX7_part 49 = .ok (.invokevirtual 103, 3) := by decide +kernel
theorem dX7_part_52 : decode cX7_part 52 = .ok (.aload_n 0, 1) := by decide +kernel
theorem dX7_part_53 : decode cX7_part 53 = .ok (.iconst 5, 1) := by decide +kernel
theorem dX7_part_54 : decode cX7_part 54 = .ok (.lconst 0, 1) := by decide +kernel
theorem dX7_part_55 : decode cX7_part 55 = .ok (.invokevirtual 103, 3) := by decide +kernel
theorem dX7_part_58 : decode cX7_part 58 = .ok (.iconst 1, 1) := by decide +kernel
theorem dX7_part_59 : decode cX7_part 59 = .ok (.istore 4, 2) := by decide +kernel
theorem dX7_part_61 : decode cX7_part 61 = .ok (.iload 4, 2) := by decide +kernel
theorem dX7_part_63 : decode cX7_part 63 = .ok (.iload_n 2, 1) := by decide +kernel
theorem dX7_part_64 : decode cX7_part 64 = .ok (.if_icmp .ge 37, 3) := by decide +kernel
theorem dX7_part_67 : decode cX7_part 67 = .ok (.aload_n 0, 1) := by decide +kernel
theorem dX7_part_68 : decode cX7_part 68 = .ok (.getfield 33, 3) := by decide +kernel
theorem dX7_part_71 : decode cX7_part 71 = .ok (.bipush 12, 2) := by decide +kernel
theorem dX7_part_73 : decode cX7_part 73 = .ok (.iaload, 1) := by decide +kernel
theorem dX7_part_74 : decode cX7_part 74 = .ok (.ifCond .ne 5, 3) := by decide +kernel
theorem dX7_part_77 : decode cX7_part 77 = .ok (.iconst (-1), 1) := by decide +kernel
theorem dX7_part_78 : decode cX7_part 78 = .ok (.ireturn, 1) := by decide +kernel
theorem dX7_part_79 : decode cX7_part 79 = .ok (.aload_n 0, 1) := by decide +kernel
theorem dX7_part_80 : decode cX7_part 80 = .ok (.invokevirtual 144, 3) := by decide +kernel
theorem dX7_part_83 : decode cX7_part 83 = .ok (.aload_n 0, 1) := by decide +kernel
theorem dX7_part_84 : decode cX7_part 84 = .ok (.iconst 2, 1) := by decide +kernel
theorem dX7_part_85 : decode cX7_part 85 = .ok (.iconst 4, 1) := by decide +kernel
theorem dX7_part_86 : decode cX7_part 86 = .ok (.invokevirtual 147, 3) := by decide +kernel
theorem dX7_part_89 : decode cX7_part 89 = .ok (.aload_n 0, 1) := by decide +kernel
theorem dX7_part_90 : decode cX7_part 90 = .ok (.iconst 3, 1) := by decide +kernel
theorem dX7_part_91 : decode cX7_part 91 = .ok (.iconst 5, 1) := by decide +kernel
theorem dX7_part_92 : decode cX7_part 92 = .ok (.invokevirtual 147, 3) := by decide +kernel
theorem dX7_part_95 : decode cX7_part 95 = .ok (.iinc 4 1, 3) := by decide +kernel
theorem dX7_part_98 : decode cX7_part 98 = .ok (.goto (-37), 3) := by decide +kernel
theorem dX7_part_101 : decode cX7_part 101 = .ok (.aload_n 0, 1) := by decide +kernel
theorem dX7_part_102 : decode cX7_part 102 = .ok (.invokevirtual 89, 3) := by decide +kernel
theorem dX7_part_105 : decode cX7_part 105 = .ok (.bipush (-3), 2) := by decide +kernel
theorem dX7_part_107 : decode cX7_part 107 = .ok (.if_icmp .ne 8, 3) := by decide +kernel
theorem dX7_part_110 : decode cX7_part 110 = .ok (.bipush (-3), 2) := by decide +kernel
theorem dX7_part_112 : decode cX7_part 112 = .ok (.goto 8, 3) := by decide +kernel
theorem dX7_part_115 : decode cX7_part 115 = .ok (.aload_n 0, 1) := by decide +kernel
theorem dX7_part_116 : decode cX7_part 116 = .ok (.iload_n 3, 1) := by decide +kernel
theorem dX7_part_117 : decode cX7_part 117 = .ok (.invokevirtual 150, 3) := by decide +kernel
theorem dX7_part_120 : decode cX7_part 120 = .ok (.ireturn, 1) := by decide +kernel
set_option maxRecDepth 20000 in
theorem ggX7_step_X7_times : GoodIn wsX7_step wsX7_times := goodIn_ca (goodIn_r _ [5, 6, 7, 8, 9, 10, 11, 4, 12, 21, 22, 23, 24, 25, 26, 27, 28, 29, 30, 31, 32, 33, 34] (by decide +kernel) (by decide +kernel)) (goodIn_sub (fun _ h => List.mem_cons_of_mem _ (List.mem_append_right _ h)) (by decide +kernel))
set_option maxRecDepth 20000 in
theorem gX7_step_X7_times : GoodIn wsX7_step (wsV RX7 116 RX7 yX7_times wsX7_times) := goodIn_app (goodIn_of _ (by decide +kernel)) ggX7_step_X7_times
set_option maxRecDepth 20000 in
theorem ggX7_step_X7_add : GoodIn wsX7_step wsX7_add := goodIn_ca (goodIn_r _ [16, 6, 7, 8, 9, 10, 11, 4, 12, 21, 22, 23, 24, 25, 26, 27, 28, 29, 30, 31, 32, 33, 34] (by decide +kernel) (by decide +kernel)) (goodIn_sub (fun _ h => List.mem_cons_of_mem _ (List.mem_append_right _ h)) (by decide +kernel))
set_option maxRecDepth 20000 in
theorem gX7_step_X7_add : GoodIn wsX7_step (wsV RX7 122 RX7 yX7_add wsX7_add) := goodIn_app (goodIn_of _ (by decide +kernel)) ggX7_step_X7_add
set_option maxRecDepth 20000 in
theorem ggX7_step_X7_copy : GoodIn wsX7_step wsX7_copy := goodIn_ca (goodIn_r _ [20, 6, 7, 21, 22, 23, 24, 25, 26, 27, 28, 29, 30, 31, 32, 33, 34] (by decide +kernel) (by decide +kernel)) (goodIn_sub (fun _ h => List.mem_cons_of_mem _ (List.mem_append_right _ h)) (by decide +kernel))
set_option maxRecDepth 20000 in
theorem gX7_step_X7_copy : GoodIn wsX7_step (wsV RX7 66 RX7 yX7_copy wsX7_copy) := goodIn_app (goodIn_of _ (by decide +kernel)) ggX7_step_X7_copy
theorem dX7_step_0 : decode cX7_step 0 = .ok (.aload_n 0, 1) := by decide +kernel
theorem dX7_step_1 : decode cX7_step 1 = .ok (.bipush 6, 2) := by decide +kernel
theorem dX7_step_3 : decode cX7_step 3 = .ok (.iload_n 1, 1) := by decide +kernel
theorem dX7_step_4 : decode cX7_step 4 = .ok (.bipush 10, 2) := by decide +kernel
theorem dX7_step_6 : decode cX7_step 6 = .ok (.invokevirtual 116, 3) := by decide +kernel
theorem dX7_step_9 : decode cX7_step 9 = .ok (.aload_n 0, 1) := by decide +kernel
theorem dX7_step_10 : decode cX7_step 10 = .ok (.bipush 6, 2) := by decide +kernel
theorem dX7_step_12 : decode cX7_step 12 = .ok (.iload_n 2, 1) := by decide +kernel
theorem dX7_step_13 : decode cX7_step 13 = .ok (.invokevirtual 122, 3) := by decide +kernel
theorem dX7_step_16 : decode cX7_step 16 = .ok (.aload_n 0, 1) := by decide +kernel
theorem dX7_step_17 : decode cX7_step 17 = .ok (.iload_n 2, 1) := by decide +kernel
theorem dX7_step_18 : decode cX7_step 18 = .ok (.iload_n 1, 1) := by decide +kernel
theorem dX7_step_19 : decode cX7_step 19 = .ok (.invokevirtual 66, 3) := by decide +kernel
theorem dX7_step_22 : decode cX7_step 22 = .ok (.aload_n 0, 1) := by decide +kernel
theorem dX7_step_23 : decode cX7_step 23 = .ok (.iload_n 1, 1) := by decide +kernel
theorem dX7_step_24 : decode cX7_step 24 = .ok (.bipush 6, 2) := by decide +kernel
theorem dX7_step_26 : decode cX7_step 26 = .ok (.invokevirtual 66, 3) := by decide +kernel
theorem dX7_step_29 : decode cX7_step 29 = .ok (.return_, 1) := by decide +kernel
theorem dX7_asLong_0 : decode cX7_asLong 0 = .ok (.aload_n 0, 1) := by decide +kernel
theorem dX7_asLong_1 : decode cX7_asLong 1 = .ok (.getfield 33, 3) := by decide +kernel
theorem dX7_asLong_4 : decode cX7_asLong 4 = .ok (.iload_n 1, 1) := by decide +kernel
theorem dX7_asLong_5 : decode cX7_asLong 5 = .ok (.iaload, 1) := by decide +kernel
theorem dX7_asLong_6 : decode cX7_asLong 6 = .ok (.ifCond .ne 7, 3) := by decide +kernel
theorem dX7_asLong_9 : decode cX7_asLong 9 = .ok (.lconst 0, 1) := by decide +kernel
theorem dX7_asLong_10 : decode cX7_asLong 10 = .ok (.goto 49, 3) := by decide +kernel
theorem dX7_asLong_13 : decode cX7_asLong 13 = .ok (.aload_n 0, 1) := by decide +kernel
theorem dX7_asLong_14 : decode cX7_asLong 14 = .ok (.getfield 33, 3) := by decide +kernel
theorem dX7_asLong_17 : decode cX7_asLong 17 = .ok (.iload_n 1, 1) := by decide +kernel
theorem dX7_asLong_18 : decode cX7_asLong 18 = .ok (.iaload, 1) := by decide +kernel
theorem dX7_asLong_19 : decode cX7_asLong 19 = .ok (.iconst 1, 1) := by decide +kernel
theorem dX7_asLong_20 : decode cX7_asLong 20 = .ok (.if_icmp .ne 15, 3) := by decide +kernel
theorem dX7_asLong_23 : decode cX7_asLong 23 = .ok (.aload_n 0, 1) := by decide +kernel
theorem dX7_asLong_24 : decode cX7_asLong 24 = .ok (.getfield 30, 3) := by decide +kernel
theorem dX7_asLong_27 : decode cX7_asLong 27 = .ok (.bipush 72, 2) := by decide +kernel
theorem dX7_asLong_29 : decode cX7_asLong 29 = .ok (.iload_n 1, 1) := by decide +kernel
theorem dX7_asLong_30 : decode cX7_asLong 30 = .ok (.imul, 1) := by decide +kernel
theorem dX7_asLong_31 : decode cX7_asLong 31 = .ok (.laload, 1) := by decide +kernel
theorem dX7_asLong_32 : decode cX7_asLong 32 = .ok (.goto 27, 3) := by decide +kernel
theorem dX7_asLong_35 : decode cX7_asLong 35 = .ok (.aload_n 0, 1) := by decide +kernel
theorem dX7_asLong_36 : decode cX7_asLong 36 = .ok (.getfield 30, 3) := by decide +kernel
theorem dX7_asLong_39 : decode cX7_asLong 39 = .ok (.bipush 72, 2) := by decide +kernel
theorem dX7_asLong_41 : decode cX7_asLong 41 = .ok (.iload_n 1, 1) := by decide +kernel
theorem dX7_asLong_42 : decode cX7_asLong 42 = .ok (.imul, 1) := by decide +kernel
theorem dX7_asLong_43 : decode cX7_asLong 43 = .ok (.iconst 1, 1) := by decide +kernel
theorem dX7_asLong_44 : decode cX7_asLong 44 = .ok (.iadd, 1) := by decide +kernel
theorem dX7_asLong_45 : decode cX7_asLong 45 = .ok (.laload, 1) := by decide +kernel
theorem dX7_asLong_46 : decode cX7_asLong 46 = .ok (.bipush 32, 2) := by decide +kernel
theorem dX7_asLong_48 : decode cX7_asLong 48 = .ok (.lshl, 1) := by decide +kernel
theorem dX7_asLong_49 : decode cX7_asLong 49 = .ok (.aload_n 0, 1) := by decide +kernel
theorem dX7_asLong_50 : decode cX7_asLong 50 = .ok (.getfield 30, 3) := by decide +kernel
theorem dX7_asLong_53 : decode cX7_asLong 53 = .ok (.bipush 72, 2) := by decide +kernel
theorem dX7_asLong_55 : decode cX7_asLong 55 = .ok (.iload_n 1, 1) := by decide +kernel
theorem dX7_asLong_56 : decode cX7_asLong 56 = .ok (.imul, 1) := by decide +kernel
theorem dX7_asLong_57 : decode cX7_asLong 57 = .ok (.laload, 1) := by decide +kernel
theorem dX7_asLong_58 : decode cX7_asLong 58 = .ok (.lor, 1) := by decide +kernel
theorem dX7_asLong_59 : decode cX7_asLong 59 = .ok (.lreturn, 1) := by decide +kernel
set_option maxRecDepth 20000 in
theorem ggX7_best_X7_isNumber : GoodIn wsX7_best wsX7_isNumber := goodIn_ca (goodIn_r _ [7, 8, 9, 10, 11, 6, 12, 95, 96, 97, 98, 99, 100, 101, 102, 103, 104, 105, 106, 107, 108] (by decide +kernel) (by decide +kernel)) (goodIn_sub (fun _ h => List.mem_cons_of_mem _ (List.mem_append_left _ (List.mem_append_right _ h))) (by decide +kernel))
set_option maxRecDepth 20000 in
theorem gX7_best_X7_isNumber : GoodIn wsX7_best (wsV RX7 109 RX7 yX7_isNumber wsX7_isNumber) := goodIn_app (goodIn_of _ (by decide +kernel)) ggX7_best_X7_isNumber
set_option maxRecDepth 20000 in
theorem ggX7_best_X7_free : GoodIn wsX7_best wsX7_free := goodIn_ca (goodIn_r _ [16, 9, 95, 96, 97, 98, 99, 100, 101, 102, 103, 104, 105, 106, 107, 108] (by decide +kernel) (by decide +kernel)) (goodIn_sub (fun _ h => List.mem_cons_of_mem _ (List.mem_append_left _ (List.mem_append_right _ h))) (by decide +kernel))
set_option maxRecDepth 20000 in
theorem gX7_best_X7_free : GoodIn wsX7_best (wsV RX7 89 RX7 yX7_free wsX7_free) := goodIn_app (goodIn_of _ (by decide +kernel)) ggX7_best_X7_free
set_option maxRecDepth 20000 in
theorem ggX7_best_X7_floor : GoodIn wsX7_best wsX7_floor := goodIn_ca (goodIn_r _ [20, 21, 2, 22, 23, 24, 6, 25, 26, 27, 28, 29, 30, 31, 32, 33, 34, 35, 36, 37, 38, 39, 40, 41, 42, 43, 44, 45, 46, 47, 48, 49, 50, 51, 52, 53, 54, 55, 56, 57, 58, 59, 60, 61, 95, 96, 97, 98, 99, 100, 101, 102, 103, 104, 105, 106, 107, 108] (by decide +kernel) (by decide +kernel)) (goodIn_sub (fun _ h => List.mem_cons_of_mem _ (List.mem_append_left _ (List.mem_append_right _ h))) (by decide +kernel))
set_option maxRecDepth 20000 in
theorem gX7_best_X7_floor : GoodIn wsX7_best (wsV RX7 135 RX7 yX7_floor wsX7_floor) := goodIn_app (goodIn_of _ (by decide +kernel)) ggX7_best_X7_floor
set_option maxRecDepth 20000 in
theorem ggX7_best_X7_copy : GoodIn wsX7_best wsX7_copy := goodIn_ca (goodIn_r _ [61, 2, 27, 95, 96, 97, 98, 99, 100, 101, 102, 103, 104, 105, 106, 107, 108] (by decide +kernel) (by decide +kernel)) (goodIn_sub (fun _ h => List.mem_cons_of_mem _ (List.mem_append_left _ (List.mem_append_right _ h))) (by decide +kernel))
set_option maxRecDepth 20000 in
theorem gX7_best_X7_copy : GoodIn wsX7_best (wsV RX7 66 RX7 yX7_copy wsX7_copy) := goodIn_app (goodIn_of _ (by decide +kernel)) ggX7_best_X7_copy
set_option maxRecDepth 20000 in
theorem ggX7_best_X7_nextTerm : GoodIn wsX7_best wsX7_nextTerm := goodIn_ca (goodIn_r _ [65, 29, 30, 31, 6, 32, 2, 27, 33, 34, 35, 36, 37, 38, 39, 40, 41, 42, 43, 44, 45, 46, 47, 48, 49, 58, 59, 60, 61, 95, 96, 97, 98, 99, 100, 101, 102, 103, 104, 105, 106, 107, 108] (by decide +kernel) (by decide +kernel)) (goodIn_sub (fun _ h => List.mem_cons_of_mem _ (List.mem_append_left _ (List.mem_append_right _ h))) (by decide +kernel))
set_option maxRecDepth 20000 in
theorem gX7_best_X7_nextTerm : GoodIn wsX7_best (wsV RX7 144 RX7 yX7_nextTerm wsX7_nextTerm) := goodIn_app (goodIn_of _ (by decide +kernel)) ggX7_best_X7_nextTerm
set_option maxRecDepth 20000 in
theorem ggX7_best_X7_bits : GoodIn wsX7_best wsX7_bits := goodIn_ca (goodIn_r _ [69, 2, 70, 27, 95, 96, 97, 98, 99, 100, 101, 102, 103, 104, 105, 106, 107, 108] (by decide +kernel) (by decide +kernel)) (goodIn_sub (fun _ h => List.mem_cons_of_mem _ (List.mem_append_left _ (List.mem_append_right _ h))) (by decide +kernel))
set_option maxRecDepth 20000 in
theorem gX7_best_X7_bits : GoodIn wsX7_best (wsV RX7 85 RX7 yX7_bits wsX7_bits) := goodIn_app (goodIn_of _ (by decide +kernel)) ggX7_best_X7_bits
set_option maxRecDepth 20000 in
theorem ggX7_best_X7_asLong : GoodIn wsX7_best wsX7_asLong := goodIn_ca (goodIn_r _ [74, 2, 27, 95, 96, 97, 98, 99, 100, 101, 102, 103, 104, 105, 106, 107, 108] (by decide +kernel) (by decide +kernel)) (goodIn_sub (fun _ h => List.mem_cons_of_mem _ (List.mem_append_left _ (List.mem_append_right _ h))) (by decide +kernel))
set_option maxRecDepth 20000 in
theorem gX7_best_X7_asLong : GoodIn wsX7_best (wsV RX7 153 RX7 yX7_asLong wsX7_asLong) := goodIn_app (goodIn_of _ (by decide +kernel)) ggX7_best_X7_asLong
set_option maxRecDepth 20000 in
theorem ggX7_best_X7_nearer : GoodIn wsX7_best wsX7_nearer := goodIn_ca (goodIn_r _ [78, 79, 80, 81, 6, 82, 50, 51, 52, 53, 27, 37, 2, 38, 39, 40, 41, 83, 84, 85, 86, 42, 43, 44, 45, 46, 47, 48, 49, 58, 59, 60, 61, 87, 88, 89, 90, 54, 55, 56, 57, 91, 92, 93, 94, 9, 21, 26, 28, 66, 67, 68, 69, 70, 13, 14, 15, 16, 95, 96, 97, 98, 99, 100, 101, 102, 103, 104, 105, 106, 107, 108] (by decide +kernel) (by decide +kernel)) (goodIn_sub (fun _ h => List.mem_cons_of_mem _ (List.mem_append_left _ (List.mem_append_right _ h))) (by decide +kernel))
set_option maxRecDepth 20000 in
theorem gX7_best_X7_nearer : GoodIn wsX7_best (wsV RX7 157 RX7 yX7_nearer wsX7_nearer) := goodIn_app (goodIn_of _ (by decide +kernel)) ggX7_best_X7_nearer
set_option maxRecDepth 20000 in
theorem ggX7_best_X7_small : GoodIn wsX7_best wsX7_small := goodIn_ca (goodIn_r _ [53, 27, 37, 2, 38, 39, 40, 6, 41, 95, 96, 97, 98, 99, 100, 101, 102, 103, 104, 105, 106, 107, 108] (by decide +kernel) (by decide +kernel)) (goodIn_sub (fun _ h => List.mem_cons_of_mem _ (List.mem_append_left _ (List.mem_append_right _ h))) (by decide +kernel))
set_option maxRecDepth 20000 in
theorem gX7_best_X7_small : GoodIn wsX7_best (wsV RX7 103 RX7 yX7_small wsX7_small) := goodIn_app (goodIn_of _ (by decide +kernel)) ggX7_best_X7_small
set_option maxRecDepth 20000 in
theorem ggX7_best_X7_keepMixed : GoodIn wsX7_best wsX7_keepMixed := goodIn_ca (goodIn_r _ [90, 2, 83, 84, 85, 6, 86, 27, 37, 38, 39, 40, 41, 58, 59, 60, 61, 46, 47, 48, 49, 54, 55, 56, 57, 91, 92, 93, 94, 9, 21, 26, 28, 66, 67, 68, 69, 70, 13, 14, 15, 16, 95, 96, 97, 98, 99, 100, 101, 102, 103, 104, 105, 106, 107, 108] (by decide +kernel) (by decide +kernel)) (goodIn_sub (fun _ h => List.mem_cons_of_mem _ (List.mem_append_left _ (List.mem_append_right _ h))) (by decide +kernel))
set_option maxRecDepth 20000 in
theorem gX7_best_X7_keepMixed : GoodIn wsX7_best (wsV RX7 150 RX7 yX7_keepMixed wsX7_keepMixed) := goodIn_app (goodIn_of _ (by decide +kernel)) ggX7_best_X7_keepMixed
theorem dX7_best_0 : decode cX7_best 0 = .ok (.aload_n 0, 1) := by decide +kernel
theorem dX7_best_1 : decode cX7_best 1 = .ok (.iconst 0, 1) := by decide +kernel
theorem dX7_best_2 : decode cX7_best 2 = .ok (.putfield 43, 3) := by decide +kernel
theorem dX7_best_5 : decode cX7_best 5 = .ok (.aload_n 0, 1) := by decide +kernel
theorem dX7_best_6 : decode cX7_best 6 = .ok (.iload_n 1, 1) := by decide +kernel
theorem dX7_best_7 : decode cX7_best 7 = .ok (.invokevirtual 109, 3) := by decide +kernel
theorem dX7_best_10 : decode cX7_best 10 = .ok (.ifCond .eq 9, 3) := by decide +kernel
theorem dX7_best_13 : decode cX7_best 13 = .ok (.lload_n 2, 1) := by decide +kernel
theorem dX7_best_14 : decode cX7_best 14 = .ok (.lconst 1, 1) := by decide +kernel
theorem dX7_best_15 : decode cX7_best 15 = .ok (.lcmp, 1) := by decide +kernel
theorem dX7_best_16 : decode cX7_best 16 = .ok (.ifCond .ge 5, 3) := by decide +kernel
theorem dX7_best_19 : decode cX7_best 19 = .ok (.iconst (-1), 1) := by decide +kernel
theorem dX7_best_20 : decode cX7_best 20 = .ok (.ireturn, 1) := by decide +kernel
theorem dX7_best_21 : decode cX7_best 21 = .ok (.aload_n 0, 1) := by decide +kernel
theorem dX7_best_22 : decode cX7_best 22 = .ok (.invokevirtual 89, 3) := by decide +kernel
theorem dX7_best_25 : decode cX7_best 25 = .ok (.bipush (-3), 2) := by decide +kernel
theorem dX7_best_27 : decode cX7_best 27 = .ok (.if_icmp .ne 6, 3) := by decide +kernel
theorem dX7_best_30 : decode cX7_best 30 = .ok (.bipush (-3), 2) := by decide +kernel
theorem dX7_best_32 : decode cX7_best 32 = .ok (.ireturn, 1) := by decide +kernel
theorem dX7_best_33 : decode cX7_best 33 = .ok (.aload_n 0, 1) := by decide +kernel
theorem dX7_best_34 : decode cX7_best 34 = .ok (.iload_n 1, 1) := by decide +kernel
theorem dX7_best_35 : decode cX7_best 35 = .ok (.invokevirtual 135, 3) := by decide +kernel
theorem dX7_best_38 : decode cX7_best 38 = .ok (.istore 4, 2) := by decide +kernel
theorem dX7_best_40 : decode cX7_best 40 = .ok (.aload_n 0, 1) := by decide +kernel
theorem dX7_best_41 : decode cX7_best 41 = .ok (.bipush 15, 2) := by decide +kernel
theorem dX7_best_43 : decode cX7_best 43 = .ok (.bipush 10, 2) := by decide +kernel
theorem dX7_best_45 : decode cX7_best 45 = .ok (.invokevirtual 66, 3) := by decide +kernel
theorem dX7_best_48 : decode cX7_best 48 = .ok (.aload_n 0, 1) := by decide +kernel
theorem dX7_best_49 : decode cX7_best 49 = .ok (.bipush 21, 2) := by decide +kernel
theorem dX7_best_51 : decode cX7_best 51 = .ok (.bipush 12, 2) := by decide +kernel
theorem dX7_best_53 : decode cX7_best 53 = .ok (.invokevirtual 66, 3) := by decide +kernel
theorem dX7_best_56 : decode cX7_best 56 = .ok (.aload_n 0, 1) := by decide +kernel
theorem dX7_best_57 : decode cX7_best 57 = .ok (.bipush 22, 2) := by decide +kernel
theorem dX7_best_59 : decode cX7_best 59 = .ok (.bipush 11, 2) := by decide +kernel
theorem dX7_best_61 : decode cX7_best 61 = .ok (.invokevirtual 66, 3) := by decide +kernel
theorem dX7_best_64 : decode cX7_best 64 = .ok (.lconst 0, 1) := by decide +kernel
theorem dX7_best_65 : decode cX7_best 65 = .ok (.lstore 5, 2) := by decide +kernel
theorem dX7_best_67 : decode cX7_best 67 = .ok (.lconst 1, 1) := by decide +kernel
theorem dX7_best_68 : decode cX7_best 68 = .ok (.lstore 7, 2) := by decide +kernel
theorem dX7_best_70 : decode cX7_best 70 = .ok (.lconst 1, 1) := by decide +kernel
theorem dX7_best_71 : decode cX7_best 71 = .ok (.lstore 9, 2) := by decide +kernel
theorem dX7_best_73 : decode cX7_best 73 = .ok (.lconst 0, 1) := by decide +kernel
theorem dX7_best_74 : decode cX7_best 74 = .ok (.lstore 11, 2) := by decide +kernel
theorem dX7_best_76 : decode cX7_best 76 = .ok (.aload_n 0, 1) := by decide +kernel
theorem dX7_best_77 : decode cX7_best 77 = .ok (.getfield 33, 3) := by decide +kernel
theorem dX7_best_80 : decode cX7_best 80 = .ok (.bipush 12, 2) := by decide +kernel
theorem dX7_best_82 : decode cX7_best 82 = .ok (.iaload, 1) := by decide +kernel
theorem dX7_best_83 : decode cX7_best 83 = .ok (.ifCond .le 113, 3) := by decide +kernel
theorem dX7_best_86 : decode cX7_best 86 = .ok (.aload_n 0, 1) := by decide +kernel
theorem dX7_best_87 : decode cX7_best 87 = .ok (.invokevirtual 144, 3) := by decide +kernel
theorem dX7_best_90 : decode cX7_best 90 = .ok (.lload_n 2, 1) := by decide +kernel
theorem dX7_best_91 : decode cX7_best 91 = .ok (.lload 11, 2) := by decide +kernel
theorem dX7_best_93 : decode cX7_best 93 = .ok (.lsub, 1) := by decide +kernel
theorem dX7_best_94 : decode cX7_best 94 = .ok (.lload 7, 2) := by decide +kernel
theorem dX7_best_96 : decode cX7_best 96 = .ok (.ldiv, 1) := by decide +kernel
theorem dX7_best_97 : decode cX7_best 97 = .ok (.lstore 13, 2) := by decide +kernel
theorem dX7_best_99 : decode cX7_best 99 = .ok (.aload_n 0, 1) := by decide +kernel
theorem dX7_best_100 : decode cX7_best 100 = .ok (.bipush 10, 2) := by decide +kernel
theorem dX7_best_102 : decode cX7_best 102 = .ok (.invokevirtual 85, 3) := by decide +kernel
theorem dX7_best_105 : decode cX7_best 105 = .ok (.bipush 63, 2) := by decide +kernel
theorem dX7_best_107 : decode cX7_best 107 = .ok (.if_icmp .gt 15, 3) := by decide +kernel
theorem dX7_best_110 : decode cX7_best 110 = .ok (.aload_n 0, 1) := by decide +kernel
theorem dX7_best_111 : decode cX7_best 111 = .ok (.bipush 10, 2) := by decide +kernel
theorem dX7_best_113 : decode cX7_best 113 = .ok (.invokevirtual 153, 3) := by decide +kernel
theorem dX7_best_116 : decode cX7_best 116 = .ok (.lload 13, 2) := by decide +kernel
theorem dX7_best_118 : decode cX7_best 118 = .ok (.lcmp, 1) := by decide +kernel
theorem dX7_best_119 : decode cX7_best 119 = .ok (.ifCond .le 30, 3) := by decide +kernel
theorem dX7_best_122 : decode cX7_best 122 = .ok (.aload_n 0, 1) := by decide +kernel
theorem dX7_best_123 : decode cX7_best 123 = .ok (.iload 4, 2) := by decide +kernel
theorem dX7_best_125 : decode cX7_best 125 = .ok (.lload 5, 2) := by decide +kernel
theorem dX7_best_127 : decode cX7_best 127 = .ok (.lload 7, 2) := by decide +kernel
theorem dX7_best_129 : decode cX7_best 129 = .ok (.lload 9, 2) := by decide +kernel
theorem dX7_best_131 : decode cX7_best 131 = .ok (.lload 13, 2) := by decide +kernel
theorem dX7_best_133 : decode cX7_best 133 = .ok (.lload 5, 2) := by decide +kernel
theorem dX7_best_135 : decode cX7_best 135 = .ok (.lmul, 1) := by decide +kernel
theorem dX7_best_136 : decode cX7_best 136 = .ok (.ladd, 1) := by decide +kernel
theorem dX7_best_137 : decode cX7_best 137 = .ok (.lload 11, 2) := by decide +kernel
theorem dX7_best_139 : decode cX7_best 139 = .ok (.lload 13, 2) := by decide +kernel
theorem dX7_best_141 : decode cX7_best 141 = .ok (.lload 7, 2) := by decide +kernel
theorem dX7_best_143 : decode cX7_best 143 = .ok (.lmul, 1) := by decide +kernel
theorem dX7_best_144 : decode cX7_best 144 = .ok (.ladd, 1) := by decide +kernel
theorem dX7_best_145 : decode cX7_best 145 = .ok (.invokevirtual 157, 3) := by decide +kernel
theorem dX7_best_148 : decode cX7_best 148 = .ok (.ireturn, 1) := by decide +kernel
theorem dX7_best_149 : decode cX7_best 149 = .ok (.aload_n 0, 1) := by decide +kernel
theorem dX7_best_150 : decode cX7_best 150 = .ok (.bipush 10, 2) := by decide +kernel
theorem dX7_best_152 : decode cX7_best 152 = .ok (.invokevirtual 153, 3) := by decide +kernel
theorem dX7_best_155 : decode cX7_best 155 = .ok (.lstore 15, 2) := by decide +kernel
theorem dX7_best_157 : decode cX7_best 157 = .ok (.lload 9, 2) := by decide +kernel
theorem dX7_best_159 : decode cX7_best 159 = .ok (.lload 15, 2) := by decide +kernel
theorem dX7_best_161 : decode cX7_best 161 = .ok (.lload 5, 2) := by decide +kernel
theorem dX7_best_163 : decode cX7_best 163 = .ok (.lmul, 1) := by decide +kernel
theorem dX7_best_164 : decode cX7_best 164 = .ok (.ladd, 1) := by decide +kernel
theorem dX7_best_165 : decode cX7_best 165 = .ok (.lstore 17, 2) := by decide +kernel
theorem dX7_best_167 : decode cX7_best 167 = .ok (.lload 11, 2) := by decide +kernel
theorem dX7_best_169 : decode cX7_best 169 = .ok (.lload 15, 2) := by decide +kernel
theorem dX7_best_171 : decode cX7_best 171 = .ok (.lload 7, 2) := by decide +kernel
theorem dX7_best_173 : decode cX7_best 173 = .ok (.lmul, 1) := by decide +kernel
theorem dX7_best_174 : decode cX7_best 174 = .ok (.ladd, 1) := by decide +kernel
theorem dX7_best_175 : decode cX7_best 175 = .ok (.lstore 19, 2) := by decide +kernel
theorem dX7_best_177 : decode cX7_best 177 = .ok (.lload 5, 2) := by decide +kernel
theorem dX7_best_179 : decode cX7_best 179 = .ok (.lstore 9, 2) := by decide +kernel
theorem dX7_best_181 : decode cX7_best 181 = .ok (.lload 7, 2) := by decide +kernel
theorem dX7_best_183 : decode cX7_best 183 = .ok (.lstore 11, 2) := by decide +kernel
theorem dX7_best_185 : decode cX7_best 185 = .ok (.lload 17, 2) := by decide +kernel
theorem dX7_best_187 : decode cX7_best 187 = .ok (.lstore 5, 2) := by decide +kernel
theorem dX7_best_189 : decode cX7_best 189 = .ok (.lload 19, 2) := by decide +kernel
theorem dX7_best_191 : decode cX7_best 191 = .ok (.lstore 7, 2) := by decide +kernel
theorem dX7_best_193 : decode cX7_best 193 = .ok (.goto (-117), 3) := by decide +kernel
theorem dX7_best_196 : decode cX7_best 196 = .ok (.aload_n 0, 1) := by decide +kernel
theorem dX7_best_197 : decode cX7_best 197 = .ok (.iconst 2, 1) := by decide +kernel
theorem dX7_best_198 : decode cX7_best 198 = .ok (.lload 5, 2) := by decide +kernel
theorem dX7_best_200 : decode cX7_best 200 = .ok (.invokevirtual 103, 3) := by decide +kernel
theorem dX7_best_203 : decode cX7_best 203 = .ok (.aload_n 0, 1) := by decide +kernel
theorem dX7_best_204 : decode cX7_best 204 = .ok (.iconst 3, 1) := by decide +kernel
theorem dX7_best_205 : decode cX7_best 205 = .ok (.lload 7, 2) := by decide +kernel
theorem dX7_best_207 : decode cX7_best 207 = .ok (.invokevirtual 103, 3) := by decide +kernel
theorem dX7_best_210 : decode cX7_best 210 = .ok (.aload_n 0, 1) := by decide +kernel
theorem dX7_best_211 : decode cX7_best 211 = .ok (.iload 4, 2) := by decide +kernel
theorem dX7_best_213 : decode cX7_best 213 = .ok (.invokevirtual 150, 3) := by decide +kernel
theorem dX7_best_216 : decode cX7_best 216 = .ok (.ireturn, 1) := by decide +kernel
set_option maxRecDepth 20000 in
theorem ggX7_distance_X7_small : GoodIn wsX7_distance wsX7_small := goodIn_ca (goodIn_r _ [5, 6, 7, 8, 9, 10, 11, 4, 12, 29, 30, 31, 32, 33, 34, 35, 36, 37, 38, 39, 40, 41, 42] (by decide +kernel) (by decide +kernel)) (goodIn_sub (fun _ h => List.mem_cons_of_mem _ (List.mem_append_right _ h)) (by decide +kernel))
set_option maxRecDepth 20000 in
theorem gX7_distance_X7_small : GoodIn wsX7_distance (wsV RX7 103 RX7 yX7_small wsX7_small) := goodIn_app (goodIn_of _ (by decide +kernel)) ggX7_distance_X7_small
set_option maxRecDepth 20000 in
theorem ggX7_distance_X7_times : GoodIn wsX7_distance wsX7_times := goodIn_ca (goodIn_r _ [16, 8, 6, 7, 9, 10, 11, 4, 12, 29, 30, 31, 32, 33, 34, 35, 36, 37, 38, 39, 40, 41, 42] (by decide +kernel) (by decide +kernel)) (goodIn_sub (fun _ h => List.mem_cons_of_mem _ (List.mem_append_right _ h)) (by decide +kernel))
set_option maxRecDepth 20000 in
theorem gX7_distance_X7_times : GoodIn wsX7_distance (wsV RX7 116 RX7 yX7_times wsX7_times) := goodIn_app (goodIn_of _ (by decide +kernel)) ggX7_distance_X7_times
set_option maxRecDepth 20000 in
theorem ggX7_distance_X7_compared : GoodIn wsX7_distance wsX7_compared := goodIn_ca (goodIn_r _ [20, 8, 6, 29, 30, 31, 32, 33, 34, 35, 36, 37, 38, 39, 40, 41, 42] (by decide +kernel) (by decide +kernel)) (goodIn_sub (fun _ h => List.mem_cons_of_mem _ (List.mem_append_right _ h)) (by decide +kernel))
set_option maxRecDepth 20000 in
theorem gX7_distance_X7_compared : GoodIn wsX7_distance (wsV RX7 58 RX7 yX7_compared wsX7_compared) := goodIn_app (goodIn_of _ (by decide +kernel)) ggX7_distance_X7_compared
set_option maxRecDepth 20000 in
theorem ggX7_distance_X7_less : GoodIn wsX7_distance wsX7_less := goodIn_ca (goodIn_r _ [24, 8, 6, 7, 9, 10, 11, 4, 12, 29, 30, 31, 32, 33, 34, 35, 36, 37, 38, 39, 40, 41, 42] (by decide +kernel) (by decide +kernel)) (goodIn_sub (fun _ h => List.mem_cons_of_mem _ (List.mem_append_right _ h)) (by decide +kernel))
set_option maxRecDepth 20000 in
theorem gX7_distance_X7_less : GoodIn wsX7_distance (wsV RX7 62 RX7 yX7_less wsX7_less) := goodIn_app (goodIn_of _ (by decide +kernel)) ggX7_distance_X7_less
set_option maxRecDepth 20000 in
theorem ggX7_distance_X7_copy : GoodIn wsX7_distance wsX7_copy := goodIn_ca (goodIn_r _ [28, 8, 6, 29, 30, 31, 32, 33, 34, 35, 36, 37, 38, 39, 40, 41, 42] (by decide +kernel) (by decide +kernel)) (goodIn_sub (fun _ h => List.mem_cons_of_mem _ (List.mem_append_right _ h)) (by decide +kernel))
set_option maxRecDepth 20000 in
theorem gX7_distance_X7_copy : GoodIn wsX7_distance (wsV RX7 66 RX7 yX7_copy wsX7_copy) := goodIn_app (goodIn_of _ (by decide +kernel)) ggX7_distance_X7_copy
theorem dX7_distance_0 : decode cX7_distance 0 = .ok (.aload_n 0, 1) := by decide +kernel
theorem dX7_distance_1 : decode cX7_distance 1 = .ok (.iconst 4, 1) := by decide +kernel
theorem dX7_distance_2 : decode cX7_distance 2 = .ok (.lload 4, 2) := by decide +kernel
theorem dX7_distance_4 : decode cX7_distance 4 = .ok (.invokevirtual 103, 3) := by decide +kernel
theorem dX7_distance_7 : decode cX7_distance 7 = .ok (.aload_n 0, 1) := by decide +kernel
theorem dX7_distance_8 : decode cX7_distance 8 = .ok (.iload_n 1, 1) := by decide +kernel
theorem dX7_distance_9 : decode cX7_distance 9 = .ok (.bipush 21, 2) := by decide +kernel
theorem dX7_distance_11 : decode cX7_distance 11 = .ok (.iconst 4, 1) := by decide +kernel
theorem dX7_distance_12 : decode cX7_distance 12 = .ok (.invokevirtual 116, 3) := by decide +kernel
theorem dX7_distance_15 : decode cX7_distance 15 = .ok (.aload_n 0, 1) := by decide +kernel
theorem dX7_distance_16 : decode cX7_distance 16 = .ok (.iconst 4, 1) := by decide +kernel
theorem dX7_distance_17 : decode cX7_distance 17 = .ok (.lload_n 2, 1) := by decide +kernel
theorem dX7_distance_18 : decode cX7_distance 18 = .ok (.invokevirtual 103, 3) := by decide +kernel
theorem dX7_distance_21 : decode cX7_distance 21 = .ok (.aload_n 0, 1) := by decide +kernel
theorem dX7_distance_22 : decode cX7_distance 22 = .ok (.iconst 5, 1) := by decide +kernel
theorem dX7_distance_23 : decode cX7_distance 23 = .ok (.bipush 22, 2) := by decide +kernel
theorem dX7_distance_25 : decode cX7_distance 25 = .ok (.iconst 4, 1) := by decide +kernel
theorem dX7_distance_26 : decode cX7_distance 26 = .ok (.invokevirtual 116, 3) := by decide +kernel
theorem dX7_distance_29 : decode cX7_distance 29 = .ok (.aload_n 0, 1) := by decide +kernel
theorem dX7_distance_30 : decode cX7_distance 30 = .ok (.iload_n 1, 1) := by decide +kernel
theorem dX7_distance_31 : decode cX7_distance 31 = .ok (.iconst 5, 1) := by decide +kernel
theorem dX7_distance_32 : decode cX7_distance 32 = .ok (.invokevirtual 58, 3) := by decide +kernel
theorem dX7_distance_35 : decode cX7_distance 35 = .ok (.ifCond .lt 12, 3) := by decide +kernel
theorem dX7_distance_38 : decode cX7_distance 38 = .ok (.aload_n 0, 1) := by decide +kernel
theorem dX7_distance_39 : decode cX7_distance 39 = .ok (.iload_n 1, 1) := by decide +kernel
theorem dX7_distance_40 : decode cX7_distance 40 = .ok (.iconst 5, 1) := by decide +kernel
theorem dX7_distance_41 : decode cX7_distance 41 = .ok (.invokevirtual 62, 3) := by decide +kernel
theorem dX7_distance_44 : decode cX7_distance 44 = .ok (.goto 15, 3) := by decide +kernel
theorem dX7_distance_47 : decode cX7_distance 47 = .ok (.aload_n 0, 1) := by decide +kernel
theorem dX7_distance_48 : decode cX7_distance 48 = .ok (.iconst 5, 1) := by decide +kernel
theorem dX7_distance_49 : decode cX7_distance 49 = .ok (.iload_n 1, 1) := by decide +kernel
theorem dX7_distance_50 : decode cX7_distance 50 = .ok (.invokevirtual 62, 3) := by decide +kernel
theorem dX7_distance_53 : decode cX7_distance 53 = .ok (.aload_n 0, 1) := by decide +kernel
theorem dX7_distance_54 : decode cX7_distance 54 = .ok (.iload_n 1, 1) := by decide +kernel
theorem dX7_distance_55 : decode cX7_distance 55 = .ok (.iconst 5, 1) := by decide +kernel
theorem dX7_distance_56 : decode cX7_distance 56 = .ok (.invokevirtual 66, 3) := by decide +kernel
theorem dX7_distance_59 : decode cX7_distance 59 = .ok (.return_, 1) := by decide +kernel
set_option maxRecDepth 20000 in
theorem ggX7_nearer_X7_distance : GoodIn wsX7_nearer wsX7_distance := goodIn_ca (goodIn_r _ [5, 6, 7, 8, 4, 9, 10, 11, 12, 13, 14, 15, 16, 17, 18, 19, 20, 21, 22, 23, 24, 25, 26, 27, 28, 29, 30, 31, 32, 58, 59, 60, 61, 62, 63, 64, 65, 66, 67, 68, 69, 70, 71] (by decide +kernel) (by decide +kernel)) (goodIn_sub (fun _ h => List.mem_cons_of_mem _ (List.mem_append_right _ h)) (by decide +kernel))
set_option maxRecDepth 20000 in
theorem gX7_nearer_X7_distance : GoodIn wsX7_nearer (wsV RX7 161 RX7 yX7_distance wsX7_distance) := goodIn_app (goodIn_of _ (by decide +kernel)) ggX7_nearer_X7_distance
set_option maxRecDepth 20000 in
theorem ggX7_nearer_X7_small : GoodIn wsX7_nearer wsX7_small := goodIn_ca (goodIn_r _ [9, 10, 11, 12, 13, 14, 15, 4, 16, 58, 59, 60, 61, 62, 63, 64, 65, 66, 67, 68, 69, 70, 71] (by decide +kernel) (by decide +kernel)) (goodIn_sub (fun _ h => List.mem_cons_of_mem _ (List.mem_append_right _ h)) (by decide +kernel))
set_option maxRecDepth 20000 in
theorem gX7_nearer_X7_small : GoodIn wsX7_nearer (wsV RX7 103 RX7 yX7_small wsX7_small) := goodIn_app (goodIn_of _ (by decide +kernel)) ggX7_nearer_X7_small
set_option maxRecDepth 20000 in
theorem ggX7_nearer_X7_times : GoodIn wsX7_nearer wsX7_times := goodIn_ca (goodIn_r _ [20, 12, 10, 11, 13, 14, 15, 4, 16, 58, 59, 60, 61, 62, 63, 64, 65, 66, 67, 68, 69, 70, 71] (by decide +kernel) (by decide +kernel)) (goodIn_sub (fun _ h => List.mem_cons_of_mem _ (List.mem_append_right _ h)) (by decide +kernel))
set_option maxRecDepth 20000 in
theorem gX7_nearer_X7_times : GoodIn wsX7_nearer (wsV RX7 116 RX7 yX7_times wsX7_times) := goodIn_app (goodIn_of _ (by decide +kernel)) ggX7_nearer_X7_times
set_option maxRecDepth 20000 in
theorem ggX7_nearer_X7_compared : GoodIn wsX7_nearer wsX7_compared := goodIn_ca (goodIn_r _ [24, 12, 10, 58, 59, 60, 61, 62, 63, 64, 65, 66, 67, 68, 69, 70, 71] (by decide +kernel) (by decide +kernel)) (goodIn_sub (fun _ h => List.mem_cons_of_mem _ (List.mem_append_right _ h)) (by decide +kernel))
set_option maxRecDepth 20000 in
theorem gX7_nearer_X7_compared : GoodIn wsX7_nearer (wsV RX7 58 RX7 yX7_compared wsX7_compared) := goodIn_app (goodIn_of _ (by decide +kernel)) ggX7_nearer_X7_compared
set_option maxRecDepth 20000 in
theorem ggX7_nearer_X7_keepMixed : GoodIn wsX7_nearer wsX7_keepMixed := goodIn_ca (goodIn_r _ [36, 12, 17, 18, 19, 4, 20, 10, 11, 13, 14, 15, 16, 29, 30, 31, 32, 25, 26, 27, 28, 37, 38, 39, 40, 41, 42, 43, 44, 45, 46, 47, 48, 49, 50, 51, 52, 53, 54, 55, 56, 57, 58, 59, 60, 61, 62, 63, 64, 65, 66, 67, 68, 69, 70, 71] (by decide +kernel) (by decide +kernel)) (goodIn_sub (fun _ h => List.mem_cons_of_mem _ (List.mem_append_right _ h)) (by decide +kernel))
set_option maxRecDepth 20000 in
theorem gX7_nearer_X7_keepMixed : GoodIn wsX7_nearer (wsV RX7 150 RX7 yX7_keepMixed wsX7_keepMixed) := goodIn_app (goodIn_of _ (by decide +kernel)) ggX7_nearer_X7_keepMixed
theorem dX7_nearer_0 : decode cX7_nearer 0 = .ok (.aload_n 0, 1) := by decide +kernel
theorem dX7_nearer_1 : decode cX7_nearer 1 = .ok (.bipush 6, 2) := by decide +kernel
theorem dX7_nearer_3 : decode cX7_nearer 3 = .ok (.lload_n 2, 1) := by decide +kernel
theorem dX7_nearer_4 : decode cX7_nearer 4 = .ok (.lload 4, 2) := by decide +kernel
theorem dX7_nearer_6 : decode cX7_nearer 6 = .ok (.invokevirtual 161, 3) := by decide +kernel
theorem dX7_nearer_9 : decode cX7_nearer 9 = .ok (.aload_n 0, 1) := by decide +kernel
theorem dX7_nearer_10 : decode cX7_nearer 10 = .ok (.iconst 4, 1) := by decide +kernel
theorem dX7_nearer_11 : decode cX7_nearer 11 = .ok (.lload 8, 2) := by decide +kernel
theorem dX7_nearer_13 : decode cX7_nearer 13 = .ok (.invokevirtual 103, 3) := by decide +kernel
theorem dX7_nearer_16 : decode cX7_nearer 16 = .ok (.aload_n 0, 1) := by decide +kernel
theorem dX7_nearer_17 : decode cX7_nearer 17 = .ok (.bipush 7, 2) := by decide +kernel
theorem dX7_nearer_19 : decode cX7_nearer 19 = .ok (.bipush 6, 2) := by decide +kernel
theorem dX7_nearer_21 : decode cX7_nearer 21 = .ok (.iconst 4, 1) := by decide +kernel
theorem dX7_nearer_22 : decode cX7_nearer 22 = .ok (.invokevirtual 116, 3) := by decide +kernel
theorem dX7_nearer_25 : decode cX7_nearer 25 = .ok (.aload_n 0, 1) := by decide +kernel
theorem dX7_nearer_26 : decode cX7_nearer 26 = .ok (.bipush 6, 2) := by decide +kernel
theorem dX7_nearer_28 : decode cX7_nearer 28 = .ok (.lload 6, 2) := by decide +kernel
theorem dX7_nearer_30 : decode cX7_nearer 30 = .ok (.lload 8, 2) := by decide +kernel
theorem dX7_nearer_32 : decode cX7_nearer 32 = .ok (.invokevirtual 161, 3) := by decide +kernel
theorem dX7_nearer_35 : decode cX7_nearer 35 = .ok (.aload_n 0, 1) := by decide +kernel
theorem dX7_nearer_36 : decode cX7_nearer 36 = .ok (.iconst 4, 1) := by decide +kernel
theorem dX7_nearer_37 : decode cX7_nearer 37 = .ok (.lload 4, 2) := by decide +kernel
theorem dX7_nearer_39 : decode cX7_nearer 39 = .ok (.invokevirtual 103, 3) := by decide +kernel
theorem dX7_nearer_42 : decode cX7_nearer 42 = .ok (.aload_n 0, 1) := by decide +kernel
theorem dX7_nearer_43 : decode cX7_nearer 43 = .ok (.bipush 8, 2) := by decide +kernel
theorem dX7_nearer_45 : decode cX7_nearer 45 = .ok (.bipush 6, 2) := by decide +kernel
theorem dX7_nearer_47 : decode cX7_nearer 47 = .ok (.iconst 4, 1) := by decide +kernel
theorem dX7_nearer_48 : decode cX7_nearer 48 = .ok (.invokevirtual 116, 3) := by decide +kernel
theorem dX7_nearer_51 : decode cX7_nearer 51 = .ok (.aload_n 0, 1) := by decide +kernel
theorem dX7_nearer_52 : decode cX7_nearer 52 = .ok (.bipush 7, 2) := by decide +kernel
theorem dX7_nearer_54 : decode cX7_nearer 54 = .ok (.bipush 8, 2) := by decide +kernel
theorem dX7_nearer_56 : decode cX7_nearer 56 = .ok (.invokevirtual 58, 3) := by decide +kernel
theorem dX7_nearer_59 : decode cX7_nearer 59 = .ok (.istore 10, 2) := by decide +kernel
theorem dX7_nearer_61 : decode cX7_nearer 61 = .ok (.iload 10, 2) := by decide +kernel
theorem dX7_nearer_63 : decode cX7_nearer 63 = .ok (.ifCond .lt 31, 3) := by decide +kernel
theorem dX7_nearer_66 : decode cX7_nearer 66 = .ok (.iload 10, 2) := by decide +kernel
theorem dX7_nearer_68 : decode cX7_nearer 68 = .ok (.ifCond .ne 30, 3) := by decide +kernel
theorem dX7_nearer_71 : decode cX7_nearer 71 = .ok (.lload 4, 2) := by decide +kernel
theorem dX7_nearer_73 : decode cX7_nearer 73 = .ok (.lload 8, 2) := by decide +kernel
theorem dX7_nearer_75 : decode cX7_nearer 75 = .ok (.lcmp, 1) := by decide +kernel
theorem dX7_nearer_76 : decode cX7_nearer 76 = .ok (.ifCond .lt 18, 3) := by decide +kernel
theorem dX7_nearer_79 : decode cX7_nearer 79 = .ok (.lload 4, 2) := by decide +kernel
theorem dX7_nearer_81 : decode cX7_nearer 81 = .ok (.lload 8, 2) := by decide +kernel
theorem dX7_nearer_83 : decode cX7_nearer 83 = .ok (.lcmp, 1) := by decide +kernel
theorem dX7_nearer_84 : decode cX7_nearer 84 = .ok (.ifCond .ne 14, 3) := by decide +kernel
theorem dX7_nearer_87 : decode cX7_nearer 87 = .ok (.lload_n 2, 1) := by decide +kernel
theorem dX7_nearer_88 : decode cX7_nearer 88 = .ok (.lload 6, 2) := by decide +kernel
theorem dX7_nearer_90 : decode cX7_nearer 90 = .ok (.lcmp, 1) := by decide +kernel
theorem dX7_nearer_91 : decode cX7_nearer 91 = .ok (.ifCond .ge 7, 3) := by decide +kernel
theorem dX7_nearer_94 : decode cX7_nearer 94 = .ok (.iconst 1, 1) := by decide +kernel
theorem dX7_nearer_95 : decode cX7_nearer 95 = .ok (.goto 4, 3) := by decide +kernel
theorem dX7_nearer_98 : decode cX7_nearer 98 = .ok (.iconst 0, 1) := by decide +kernel
theorem dX7_nearer_99 : decode cX7_nearer 99 = .ok (.istore 11, 2) := by decide +kernel
theorem dX7_nearer_101 : decode cX7_nearer 101 = .ok (.aload_n 0, 1) := by decide +kernel
theorem dX7_nearer_102 : decode cX7_nearer 102 = .ok (.iconst 2, 1) := by decide +kernel
theorem dX7_nearer_103 : decode cX7_nearer 103 = .ok (.iload 11, 2) := by decide +kernel
theorem dX7_nearer_105 : decode cX7_nearer 105 = .ok (.ifCond .eq 7, 3) := by decide +kernel
theorem dX7_nearer_108 : decode cX7_nearer 108 = .ok (.lload_n 2, 1) := by decide +kernel
theorem dX7_nearer_109 : decode cX7_nearer 109 = .ok (.goto 5, 3) := by decide +kernel
theorem dX7_nearer_112 : decode cX7_nearer 112 = .ok (.lload 6, 2) := by decide +kernel
theorem dX7_nearer_114 : decode cX7_nearer 114 = .ok (.invokevirtual 103, 3) := by decide +kernel
theorem dX7_nearer_117 : decode cX7_nearer 117 = .ok (.aload_n 0, 1) := by decide +kernel
theorem dX7_nearer_118 : decode cX7_nearer 118 = .ok (.iconst 3, 1) := by decide +kernel
theorem dX7_nearer_119 : decode cX7_nearer 119 = .ok (.iload 11, 2) := by decide +kernel
theorem dX7_nearer_121 : decode cX7_nearer 121 = .ok (.ifCond .eq 8, 3) := by decide +kernel
theorem dX7_nearer_124 : decode cX7_nearer 124 = .ok (.lload 4, 2) := by decide +kernel
theorem dX7_nearer_126 : decode cX7_nearer 126 = .ok (.goto 5, 3) := by decide +kernel
theorem dX7_nearer_129 : decode cX7_nearer 129 = .ok (.lload 8, 2) := by decide +kernel
theorem dX7_nearer_131 : decode cX7_nearer 131 = .ok (.invokevirtual 103, 3) := by decide +kernel
theorem dX7_nearer_134 : decode cX7_nearer 134 = .ok (.aload_n 0, 1) := by decide +kernel
theorem dX7_nearer_135 : decode cX7_nearer 135 = .ok (.iload_n 1, 1) := by decide +kernel
theorem dX7_nearer_136 : decode cX7_nearer 136 = .ok (.invokevirtual 150, 3) := by decide +kernel
theorem dX7_nearer_139 : decode cX7_nearer 139 = .ok (.ireturn, 1) := by decide +kernel
set_option maxRecDepth 20000 in
theorem ggX7_exact_X7_isNumber : GoodIn wsX7_exact wsX7_isNumber := goodIn_ca (goodIn_r _ [10, 11, 12, 13, 14, 9, 15, 37, 38, 39, 40, 41, 42, 43, 44, 45, 46, 47, 48, 49, 50] (by decide +kernel) (by decide +kernel)) (goodIn_sub (fun _ h => List.mem_cons_of_mem _ (List.mem_append_right _ h)) (by decide +kernel))
set_option maxRecDepth 20000 in
theorem gX7_exact_X7_isNumber : GoodIn wsX7_exact (wsV RX7 109 RX7 yX7_isNumber wsX7_isNumber) := goodIn_app (goodIn_of _ (by decide +kernel)) ggX7_exact_X7_isNumber
set_option maxRecDepth 20000 in
theorem ggX7_exact_X7_in : GoodIn wsX7_exact wsX7_in := goodIn_r _ [15] (by decide +kernel) (by decide +kernel)
set_option maxRecDepth 20000 in
theorem gX7_exact_X7_in : GoodIn wsX7_exact (va_wsS RX7 81 yX7_in wsX7_in) := goodIn_app (goodIn_of _ (by decide +kernel)) ggX7_exact_X7_in
set_option maxRecDepth 20000 in
theorem ggX7_exact_X7_take : GoodIn wsX7_exact wsX7_take := goodIn_ca (goodIn_r _ [19, 20, 21, 22, 23, 37, 38, 39, 40, 41, 42, 43, 44, 45, 46, 47, 48, 49, 50] (by decide +kernel) (by decide +kernel)) (goodIn_sub (fun _ h => List.mem_cons_of_mem _ (List.mem_append_right _ h)) (by decide +kernel))
set_option maxRecDepth 20000 in
theorem gX7_exact_X7_take : GoodIn wsX7_exact (wsV RX7 112 RX7 yX7_take wsX7_take) := goodIn_app (goodIn_of _ (by decide +kernel)) ggX7_exact_X7_take
set_option maxRecDepth 20000 in
theorem ggX7_exact_X7_bits : GoodIn wsX7_exact wsX7_bits := goodIn_ca (goodIn_r _ [27, 20, 28, 22, 37, 38, 39, 40, 41, 42, 43, 44, 45, 46, 47, 48, 49, 50] (by decide +kernel) (by decide +kernel)) (goodIn_sub (fun _ h => List.mem_cons_of_mem _ (List.mem_append_right _ h)) (by decide +kernel))
set_option maxRecDepth 20000 in
theorem gX7_exact_X7_bits : GoodIn wsX7_exact (wsV RX7 85 RX7 yX7_bits wsX7_bits) := goodIn_app (goodIn_of _ (by decide +kernel)) ggX7_exact_X7_bits
set_option maxRecDepth 20000 in
theorem ggX7_exact_X7_isWhole : GoodIn wsX7_exact wsX7_isWhole := goodIn_ca (goodIn_r _ [32, 21, 23, 37, 38, 39, 40, 41, 42, 43, 44, 45, 46, 47, 48, 49, 50] (by decide +kernel) (by decide +kernel)) (goodIn_sub (fun _ h => List.mem_cons_of_mem _ (List.mem_append_right _ h)) (by decide +kernel))
set_option maxRecDepth 20000 in
theorem gX7_exact_X7_isWhole : GoodIn wsX7_exact (wsV RX7 138 RX7 yX7_isWhole wsX7_isWhole) := goodIn_app (goodIn_of _ (by decide +kernel)) ggX7_exact_X7_isWhole
set_option maxRecDepth 20000 in
theorem ggX7_exact_X7_asLong : GoodIn wsX7_exact wsX7_asLong := goodIn_ca (goodIn_r _ [36, 20, 22, 37, 38, 39, 40, 41, 42, 43, 44, 45, 46, 47, 48, 49, 50] (by decide +kernel) (by decide +kernel)) (goodIn_sub (fun _ h => List.mem_cons_of_mem _ (List.mem_append_right _ h)) (by decide +kernel))
set_option maxRecDepth 20000 in
theorem gX7_exact_X7_asLong : GoodIn wsX7_exact (wsV RX7 153 RX7 yX7_asLong wsX7_asLong) := goodIn_app (goodIn_of _ (by decide +kernel)) ggX7_exact_X7_asLong
theorem dX7_exact_0 : decode cX7_exact 0 = .ok (.aload_n 0, 1) := by decide +kernel
theorem dX7_exact_1 : decode cX7_exact 1 = .ok (.iconst 0, 1) := by decide +kernel
theorem dX7_exact_2 : decode cX7_exact 2 = .ok (.putfield 43, 3) := by decide +kernel
theorem dX7_exact_5 : decode cX7_exact 5 = .ok (.aload_n 0, 1) := by decide +kernel
theorem dX7_exact_6 : decode cX7_exact 6 = .ok (.iload_n 1, 1) := by decide +kernel
theorem dX7_exact_7 : decode cX7_exact 7 = .ok (.invokevirtual 109, 3) := by decide +kernel
theorem dX7_exact_10 : decode cX7_exact 10 = .ok (.ifCond .eq 15, 3) := by decide +kernel
theorem dX7_exact_13 : decode cX7_exact 13 = .ok (.iload_n 2, 1) := by decide +kernel
theorem dX7_exact_14 : decode cX7_exact 14 = .ok (.i2l, 1) := by decide +kernel
theorem dX7_exact_15 : decode cX7_exact 15 = .ok (.lconst 0, 1) := by decide +kernel
theorem dX7_exact_16 : decode cX7_exact 16 = .ok (.ldc2_w 165, 3) := by decide +kernel
theorem dX7_exact_19 : decode cX7_exact 19 = .ok (.invokestatic 81, 3) := by decide +kernel
theorem dX7_exact_22 : decode cX7_exact 22 = .ok (.ifCond .ne 7, 3) := by decide +kernel
theorem dX7_exact_25 : decode cX7_exact 25 = .ok (.ldc2_w 167, 3) := by decide +kernel
theorem dX7_exact_28 : decode cX7_exact 28 = .ok (.lreturn, 1) := by decide +kernel
theorem dX7_exact_29 : decode cX7_exact 29 = .ok (.aload_n 0, 1) := by decide +kernel
theorem dX7_exact_30 : decode cX7_exact 30 = .ok (.iconst 2, 1) := by decide +kernel
theorem dX7_exact_31 : decode cX7_exact 31 = .ok (.iload_n 1, 1) := by decide +kernel
theorem dX7_exact_32 : decode cX7_exact 32 = .ok (.iconst 0, 1) := by decide +kernel
