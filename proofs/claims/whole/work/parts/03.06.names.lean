theorem dX7_divisor_102 : decode cX7_divisor 102 = .ok (.ifCond .ne 11, 3) := by decide +kernel
theorem dX7_divisor_105 : decode cX7_divisor 105 = .ok (.aload_n 0, 1) := by decide +kernel
theorem dX7_divisor_106 : decode cX7_divisor 106 = .ok (.iload_n 2, 1) := by decide +kernel
theorem dX7_divisor_107 : decode cX7_divisor 107 = .ok (.invokevirtual 73, 3) := by decide +kernel
theorem dX7_divisor_110 : decode cX7_divisor 110 = .ok (.goto (-13), 3) := by decide +kernel
theorem dX7_divisor_113 : decode cX7_divisor 113 = .ok (.aload_n 0, 1) := by decide +kernel
theorem dX7_divisor_114 : decode cX7_divisor 114 = .ok (.iload_n 1, 1) := by decide +kernel
theorem dX7_divisor_115 : decode cX7_divisor 115 = .ok (.iload_n 2, 1) := by decide +kernel
theorem dX7_divisor_116 : decode cX7_divisor 116 = .ok (.invokevirtual 58, 3) := by decide +kernel
theorem dX7_divisor_119 : decode cX7_divisor 119 = .ok (.ifCond .le 23, 3) := by decide +kernel
theorem dX7_divisor_122 : decode cX7_divisor 122 = .ok (.aload_n 0, 1) := by decide +kernel
theorem dX7_divisor_123 : decode cX7_divisor 123 = .ok (.bipush 20, 2) := by decide +kernel
theorem dX7_divisor_125 : decode cX7_divisor 125 = .ok (.iload_n 1, 1) := by decide +kernel
theorem dX7_divisor_126 : decode cX7_divisor 126 = .ok (.invokevirtual 66, 3) := by decide +kernel
theorem dX7_divisor_129 : decode cX7_divisor 129 = .ok (.aload_n 0, 1) := by decide +kernel
theorem dX7_divisor_130 : decode cX7_divisor 130 = .ok (.iload_n 1, 1) := by decide +kernel
theorem dX7_divisor_131 : decode cX7_divisor 131 = .ok (.iload_n 2, 1) := by decide +kernel
theorem dX7_divisor_132 : decode cX7_divisor 132 = .ok (.invokevirtual 66, 3) := by decide +kernel
theorem dX7_divisor_135 : decode cX7_divisor 135 = .ok (.aload_n 0, 1) := by decide +kernel
theorem dX7_divisor_136 : decode cX7_divisor 136 = .ok (.iload_n 2, 1) := by decide +kernel
theorem dX7_divisor_137 : decode cX7_divisor 137 = .ok (.bipush 20, 2) := by decide +kernel
theorem dX7_divisor_139 : decode cX7_divisor 139 = .ok (.invokevirtual 66, 3) := by decide +kernel
theorem dX7_divisor_142 : decode cX7_divisor 142 = .ok (.aload_n 0, 1) := by decide +kernel
theorem dX7_divisor_143 : decode cX7_divisor 143 = .ok (.iload_n 2, 1) := by decide +kernel
theorem dX7_divisor_144 : decode cX7_divisor 144 = .ok (.iload_n 1, 1) := by decide +kernel
theorem dX7_divisor_145 : decode cX7_divisor 145 = .ok (.invokevirtual 62, 3) := by decide +kernel
theorem dX7_divisor_148 : decode cX7_divisor 148 = .ok (.goto (-76), 3) := by decide +kernel
theorem dX7_divisor_151 : decode cX7_divisor 151 = .ok (.aload_n 0, 1) := by decide +kernel
theorem dX7_divisor_152 : decode cX7_divisor 152 = .ok (.iload_n 1, 1) := by decide +kernel
theorem dX7_divisor_153 : decode cX7_divisor 153 = .ok (.iload_n 3, 1) := by decide +kernel
theorem dX7_divisor_154 : decode cX7_divisor 154 = .ok (.invokevirtual 76, 3) := by decide +kernel
theorem dX7_divisor_157 : decode cX7_divisor 157 = .ok (.return_, 1) := by decide +kernel
set_option maxRecDepth 20000 in
theorem ggX7_bySmall_X7_trim : GoodIn wsX7_bySmall wsX7_trim := goodIn_ca (goodIn_r _ [7, 1, 2, 8, 9, 10, 11, 12, 13, 14, 15, 16, 17, 18, 19, 20, 21] (by decide +kernel) (by decide +kernel)) (goodIn_sub (fun _ h => List.mem_cons_of_mem _ (List.mem_append_left _ (List.mem_append_right _ h))) (by decide +kernel))
set_option maxRecDepth 20000 in
theorem gX7_bySmall_X7_trim : GoodIn wsX7_bySmall (wsV RX7 48 RX7 yX7_trim wsX7_trim) := goodIn_app (goodIn_of _ (by decide +kernel)) ggX7_bySmall_X7_trim
theorem dX7_bySmall_0 : decode cX7_bySmall 0 = .ok (.lconst 0, 1) := by decide +kernel
theorem dX7_bySmall_1 : decode cX7_bySmall 1 = .ok (.lstore 4, 2) := by decide +kernel
theorem dX7_bySmall_3 : decode cX7_bySmall 3 = .ok (.aload_n 0, 1) := by decide +kernel
theorem dX7_bySmall_4 : decode cX7_bySmall 4 = .ok (.getfield 33, 3) := by decide +kernel
theorem dX7_bySmall_7 : decode cX7_bySmall 7 = .ok (.iload_n 1, 1) := by decide +kernel
theorem dX7_bySmall_8 : decode cX7_bySmall 8 = .ok (.iaload, 1) := by decide +kernel
theorem dX7_bySmall_9 : decode cX7_bySmall 9 = .ok (.iconst 1, 1) := by decide +kernel
theorem dX7_bySmall_10 : decode cX7_bySmall 10 = .ok (.isub, 1) := by decide +kernel
theorem dX7_bySmall_11 : decode cX7_bySmall 11 = .ok (.istore 6, 2) := by decide +kernel
theorem dX7_bySmall_13 : decode cX7_bySmall 13 = .ok (.iload 6, 2) := by decide +kernel
theorem dX7_bySmall_15 : decode cX7_bySmall 15 = .ok (.ifCond .lt 51, 3) := by decide +kernel
theorem dX7_bySmall_18 : decode cX7_bySmall 18 = .ok (.lload 4, 2) := by decide +kernel
theorem dX7_bySmall_20 : decode cX7_bySmall 20 = .ok (.bipush 32, 2) := by decide +kernel
theorem dX7_bySmall_22 : decode cX7_bySmall 22 = .ok (.lshl, 1) := by decide +kernel
theorem dX7_bySmall_23 : decode cX7_bySmall 23 = .ok (.aload_n 0, 1) := by decide +kernel
theorem dX7_bySmall_24 : decode cX7_bySmall 24 = .ok (.getfield 30, 3) := by decide +kernel
theorem dX7_bySmall_27 : decode cX7_bySmall 27 = .ok (.bipush 72, 2) := by decide +kernel
theorem dX7_bySmall_29 : decode cX7_bySmall 29 = .ok (.iload_n 1, 1) := by decide +kernel
theorem dX7_bySmall_30 : decode cX7_bySmall 30 = .ok (.imul, 1) := by decide +kernel
theorem dX7_bySmall_31 : decode cX7_bySmall 31 = .ok (.iload 6, 2) := by decide +kernel
theorem dX7_bySmall_33 : decode cX7_bySmall 33 = .ok (.iadd, 1) := by decide +kernel
theorem dX7_bySmall_34 : decode cX7_bySmall 34 = .ok (.laload, 1) := by decide +kernel
theorem dX7_bySmall_35 : decode cX7_bySmall 35 = .ok (.lor, 1) := by decide +kernel
theorem dX7_bySmall_36 : decode cX7_bySmall 36 = .ok (.lstore 4, 2) := by decide +kernel
theorem dX7_bySmall_38 : decode cX7_bySmall 38 = .ok (.aload_n 0, 1) := by decide +kernel
theorem dX7_bySmall_39 : decode cX7_bySmall 39 = .ok (.getfield 30, 3) := by decide +kernel
theorem dX7_bySmall_42 : decode cX7_bySmall 42 = .ok (.bipush 72, 2) := by decide +kernel
theorem dX7_bySmall_44 : decode cX7_bySmall 44 = .ok (.iload_n 1, 1) := by decide +kernel
theorem dX7_bySmall_45 : decode cX7_bySmall 45 = .ok (.imul, 1) := by decide +kernel
theorem dX7_bySmall_46 : decode cX7_bySmall 46 = .ok (.iload 6, 2) := by decide +kernel
theorem dX7_bySmall_48 : decode cX7_bySmall 48 = .ok (.iadd, 1) := by decide +kernel
theorem dX7_bySmall_49 : decode cX7_bySmall 49 = .ok (.lload 4, 2) := by decide +kernel
theorem dX7_bySmall_51 : decode cX7_bySmall 51 = .ok (.lload_n 2, 1) := by decide +kernel
theorem dX7_bySmall_52 : decode cX7_bySmall 52 = .ok (.ldiv, 1) := by decide +kernel
theorem dX7_bySmall_53 : decode cX7_bySmall 53 = .ok (.lastore, 1) := by decide +kernel
theorem dX7_bySmall_54 : decode cX7_bySmall 54 = .ok (.lload 4, 2) := by decide +kernel
theorem dX7_bySmall_56 : decode cX7_bySmall 56 = .ok (.lload_n 2, 1) := by decide +kernel
theorem dX7_bySmall_57 : decode cX7_bySmall 57 = .ok (.lrem, 1) := by decide +kernel
theorem dX7_bySmall_58 : decode cX7_bySmall 58 = .ok (.lstore 4, 2) := by decide +kernel
theorem dX7_bySmall_60 : decode cX7_bySmall 60 = .ok (.iinc 6 (-1), 3) := by decide +kernel
theorem dX7_bySmall_63 : decode cX7_bySmall 63 = .ok (.goto (-50), 3) := by decide +kernel
theorem dX7_bySmall_66 : decode cX7_bySmall 66 = .ok (.aload_n 0, 1) := by decide +kernel
theorem dX7_bySmall_67 : decode cX7_bySmall 67 = .ok (.iload_n 1, 1) := by decide +kernel
theorem dX7_bySmall_68 : decode cX7_bySmall 68 = .ok (.invokevirtual 48, 3) := by decide +kernel
theorem dX7_bySmall_71 : decode cX7_bySmall 71 = .ok (.lload 4, 2) := by decide +kernel
theorem dX7_bySmall_73 : decode cX7_bySmall 73 = .ok (.lreturn, 1) := by decide +kernel
set_option maxRecDepth 20000 in
theorem ggX7_timesSmall_X7_trim : GoodIn wsX7_timesSmall wsX7_trim := goodIn_ca (goodIn_r _ [8, 1, 2, 9, 10, 11, 12, 13, 14, 15, 16, 17, 18, 19, 20, 21, 22] (by decide +kernel) (by decide +kernel)) (goodIn_sub (fun _ h => List.mem_cons_of_mem _ (List.mem_append_right _ h)) (by decide +kernel))
set_option maxRecDepth 20000 in
theorem gX7_timesSmall_X7_trim : GoodIn wsX7_timesSmall (wsV RX7 48 RX7 yX7_trim wsX7_trim) := goodIn_app (goodIn_of _ (by decide +kernel)) ggX7_timesSmall_X7_trim
theorem dX7_timesSmall_0 : decode cX7_timesSmall 0 = .ok (.lload 4, 2) := by decide +kernel
theorem dX7_timesSmall_2 : decode cX7_timesSmall 2 = .ok (.lstore 6, 2) := by decide +kernel
theorem dX7_timesSmall_4 : decode cX7_timesSmall 4 = .ok (.iconst 0, 1) := by decide +kernel
theorem dX7_timesSmall_5 : decode cX7_timesSmall 5 = .ok (.istore 8, 2) := by decide +kernel
theorem dX7_timesSmall_7 : decode cX7_timesSmall 7 = .ok (.iload 8, 2) := by decide +kernel
theorem dX7_timesSmall_9 : decode cX7_timesSmall 9 = .ok (.aload_n 0, 1) := by decide +kernel
theorem dX7_timesSmall_10 : decode cX7_timesSmall 10 = .ok (.getfield 33, 3) := by decide +kernel
theorem dX7_timesSmall_13 : decode cX7_timesSmall 13 = .ok (.iload_n 1, 1) := by decide +kernel
theorem dX7_timesSmall_14 : decode cX7_timesSmall 14 = .ok (.iaload, 1) := by decide +kernel
theorem dX7_timesSmall_15 : decode cX7_timesSmall 15 = .ok (.if_icmp .ge 53, 3) := by decide +kernel
theorem dX7_timesSmall_18 : decode cX7_timesSmall 18 = .ok (.lload 6, 2) := by decide +kernel
theorem dX7_timesSmall_20 : decode cX7_timesSmall 20 = .ok (.aload_n 0, 1) := by decide +kernel
theorem dX7_timesSmall_21 : decode cX7_timesSmall 21 = .ok (.getfield 30, 3) := by decide +kernel
theorem dX7_timesSmall_24 : decode cX7_timesSmall 24 = .ok (.bipush 72, 2) := by decide +kernel
theorem dX7_timesSmall_26 : decode cX7_timesSmall 26 = .ok (.iload_n 1, 1) := by decide +kernel
theorem dX7_timesSmall_27 : decode cX7_timesSmall 27 = .ok (.imul, 1) := by decide +kernel
theorem dX7_timesSmall_28 : decode cX7_timesSmall 28 = .ok (.iload 8, 2) := by decide +kernel
theorem dX7_timesSmall_30 : decode cX7_timesSmall 30 = .ok (.iadd, 1) := by decide +kernel
theorem dX7_timesSmall_31 : decode cX7_timesSmall 31 = .ok (.laload, 1) := by decide +kernel
theorem dX7_timesSmall_32 : decode cX7_timesSmall 32 = .ok (.lload_n 2, 1) := by decide +kernel
theorem dX7_timesSmall_33 : decode cX7_timesSmall 33 = .ok (.lmul, 1) := by decide +kernel
theorem dX7_timesSmall_34 : decode cX7_timesSmall 34 = .ok (.ladd, 1) := by decide +kernel
theorem dX7_timesSmall_35 : decode cX7_timesSmall 35 = .ok (.lstore 6, 2) := by decide +kernel
theorem dX7_timesSmall_37 : decode cX7_timesSmall 37 = .ok (.aload_n 0, 1) := by decide +kernel
theorem dX7_timesSmall_38 : decode cX7_timesSmall 38 = .ok (.getfield 30, 3) := by decide +kernel
theorem dX7_timesSmall_41 : decode cX7_timesSmall 41 = .ok (.bipush 72, 2) := by decide +kernel
theorem dX7_timesSmall_43 : decode cX7_timesSmall 43 = .ok (.iload_n 1, 1) := by decide +kernel
theorem dX7_timesSmall_44 : decode cX7_timesSmall 44 = .ok (.imul, 1) := by decide +kernel
theorem dX7_timesSmall_45 : decode cX7_timesSmall 45 = .ok (.iload 8, 2) := by decide +kernel
theorem dX7_timesSmall_47 : decode cX7_timesSmall 47 = .ok (.iadd, 1) := by decide +kernel
theorem dX7_timesSmall_48 : decode cX7_timesSmall 48 = .ok (.lload 6, 2) := by decide +kernel
theorem dX7_timesSmall_50 : decode cX7_timesSmall 50 = .ok (.ldc2_w 46, 3) := by decide +kernel
theorem dX7_timesSmall_53 : decode cX7_timesSmall 53 = .ok (.land, 1) := by decide +kernel
theorem dX7_timesSmall_54 : decode cX7_timesSmall 54 = .ok (.lastore, 1) := by decide +kernel
theorem dX7_timesSmall_55 : decode cX7_timesSmall 55 = .ok (.lload 6, 2) := by decide +kernel
theorem dX7_timesSmall_57 : decode cX7_timesSmall 57 = .ok (.bipush 32, 2) := by decide +kernel
theorem dX7_timesSmall_59 : decode cX7_timesSmall 59 = .ok (.lushr, 1) := by decide +kernel
theorem dX7_timesSmall_60 : decode cX7_timesSmall 60 = .ok (.lstore 6, 2) := by decide +kernel
theorem dX7_timesSmall_62 : decode cX7_timesSmall 62 = .ok (.iinc 8 1, 3) := by decide +kernel
theorem dX7_timesSmall_65 : decode cX7_timesSmall 65 = .ok (.goto (-58), 3) := by decide +kernel
theorem dX7_timesSmall_68 : decode cX7_timesSmall 68 = .ok (.aload_n 0, 1) := by decide +kernel
theorem dX7_timesSmall_69 : decode cX7_timesSmall 69 = .ok (.getfield 30, 3) := by decide +kernel
theorem dX7_timesSmall_72 : decode cX7_timesSmall 72 = .ok (.bipush 72, 2) := by decide +kernel
theorem dX7_timesSmall_74 : decode cX7_timesSmall 74 = .ok (.iload_n 1, 1) := by decide +kernel
theorem dX7_timesSmall_75 : decode cX7_timesSmall 75 = .ok (.imul, 1) := by decide +kernel
theorem dX7_timesSmall_76 : decode cX7_timesSmall 76 = .ok (.aload_n 0, 1) := by decide +kernel
theorem dX7_timesSmall_77 : decode cX7_timesSmall 77 = .ok (.getfield 33, 3) := by decide +kernel
theorem dX7_timesSmall_80 : decode cX7_timesSmall 80 = .ok (.iload_n 1, 1) := by decide +kernel
theorem dX7_timesSmall_81 : decode cX7_timesSmall 81 = .ok (.iaload, 1) := by decide +kernel
theorem dX7_timesSmall_82 : decode cX7_timesSmall 82 = .ok (.iadd, 1) := by decide +kernel
theorem dX7_timesSmall_83 : decode cX7_timesSmall 83 = .ok (.lload 6, 2) := by decide +kernel
theorem dX7_timesSmall_85 : decode cX7_timesSmall 85 = .ok (.lastore, 1) := by decide +kernel
theorem dX7_timesSmall_86 : decode cX7_timesSmall 86 = .ok (.aload_n 0, 1) := by decide +kernel
theorem dX7_timesSmall_87 : decode cX7_timesSmall 87 = .ok (.getfield 33, 3) := by decide +kernel
theorem dX7_timesSmall_90 : decode cX7_timesSmall 90 = .ok (.iload_n 1, 1) := by decide +kernel
theorem dX7_timesSmall_91 : decode cX7_timesSmall 91 = .ok (.dup2, 1) := by decide +kernel
theorem dX7_timesSmall_92 : decode cX7_timesSmall 92 = .ok (.iaload, 1) := by decide +kernel
theorem dX7_timesSmall_93 : decode cX7_timesSmall 93 = .ok (.iconst 1, 1) := by decide +kernel
theorem dX7_timesSmall_94 : decode cX7_timesSmall 94 = .ok (.iadd, 1) := by decide +kernel
theorem dX7_timesSmall_95 : decode cX7_timesSmall 95 = .ok (.iastore, 1) := by decide +kernel
theorem dX7_timesSmall_96 : decode cX7_timesSmall 96 = .ok (.aload_n 0, 1) := by decide +kernel
theorem dX7_timesSmall_97 : decode cX7_timesSmall 97 = .ok (.iload_n 1, 1) := by decide +kernel
theorem dX7_timesSmall_98 : decode cX7_timesSmall 98 = .ok (.invokevirtual 48, 3) := by decide +kernel
theorem dX7_timesSmall_101 : decode cX7_timesSmall 101 = .ok (.return_, 1) := by decide +kernel
set_option maxRecDepth 20000 in
theorem ggX7_isNumber_X7_in : GoodIn wsX7_isNumber wsX7_in := goodIn_r _ [6] (by decide +kernel) (by decide +kernel)
set_option maxRecDepth 20000 in
theorem gX7_isNumber_X7_in : GoodIn wsX7_isNumber (va_wsS RX7 81 yX7_in wsX7_in) := goodIn_app (goodIn_of _ (by decide +kernel)) ggX7_isNumber_X7_in
theorem dX7_isNumber_0 : decode cX7_isNumber 0 = .ok (.iload_n 1, 1) := by decide +kernel
theorem dX7_isNumber_1 : decode cX7_isNumber 1 = .ok (.i2l, 1) := by decide +kernel
theorem dX7_isNumber_2 : decode cX7_isNumber 2 = .ok (.lconst 0, 1) := by decide +kernel
theorem dX7_isNumber_3 : decode cX7_isNumber 3 = .ok (.ldc2_w 79, 3) := by decide +kernel
theorem dX7_isNumber_6 : decode cX7_isNumber 6 = .ok (.invokestatic 81, 3) := by decide +kernel
theorem dX7_isNumber_9 : decode cX7_isNumber 9 = .ok (.ifCond .eq 16, 3) := by decide +kernel
theorem dX7_isNumber_12 : decode cX7_isNumber 12 = .ok (.aload_n 0, 1) := by decide +kernel
theorem dX7_isNumber_13 : decode cX7_isNumber 13 = .ok (.getfield 7, 3) := by decide +kernel
theorem dX7_isNumber_16 : decode cX7_isNumber 16 = .ok (.iload_n 1, 1) := by decide +kernel
theorem dX7_isNumber_17 : decode cX7_isNumber 17 = .ok (.baload, 1) := by decide +kernel
theorem dX7_isNumber_18 : decode cX7_isNumber 18 = .ok (.ifCond .eq 7, 3) := by decide +kernel
theorem dX7_isNumber_21 : decode cX7_isNumber 21 = .ok (.iconst 1, 1) := by decide +kernel
theorem dX7_isNumber_22 : decode cX7_isNumber 22 = .ok (.goto 4, 3) := by decide +kernel
theorem dX7_isNumber_25 : decode cX7_isNumber 25 = .ok (.iconst 0, 1) := by decide +kernel
theorem dX7_isNumber_26 : decode cX7_isNumber 26 = .ok (.ireturn, 1) := by decide +kernel
theorem dX7_take_0 : decode cX7_take 0 = .ok (.aload_n 0, 1) := by decide +kernel
theorem dX7_take_1 : decode cX7_take 1 = .ok (.getfield 33, 3) := by decide +kernel
theorem dX7_take_4 : decode cX7_take 4 = .ok (.iload_n 1, 1) := by decide +kernel
theorem dX7_take_5 : decode cX7_take 5 = .ok (.aload_n 0, 1) := by decide +kernel
theorem dX7_take_6 : decode cX7_take 6 = .ok (.getfield 21, 3) := by decide +kernel
theorem dX7_take_9 : decode cX7_take 9 = .ok (.iconst 2, 1) := by decide +kernel
theorem dX7_take_10 : decode cX7_take 10 = .ok (.iload_n 2, 1) := by decide +kernel
theorem dX7_take_11 : decode cX7_take 11 = .ok (.imul, 1) := by decide +kernel
theorem dX7_take_12 : decode cX7_take 12 = .ok (.iload_n 3, 1) := by decide +kernel
theorem dX7_take_13 : decode cX7_take 13 = .ok (.iadd, 1) := by decide +kernel
theorem dX7_take_14 : decode cX7_take 14 = .ok (.iaload, 1) := by decide +kernel
theorem dX7_take_15 : decode cX7_take 15 = .ok (.iastore, 1) := by decide +kernel
theorem dX7_take_16 : decode cX7_take 16 = .ok (.iconst 0, 1) := by decide +kernel
theorem dX7_take_17 : decode cX7_take 17 = .ok (.istore 4, 2) := by decide +kernel
theorem dX7_take_19 : decode cX7_take 19 = .ok (.iload 4, 2) := by decide +kernel
theorem dX7_take_21 : decode cX7_take 21 = .ok (.aload_n 0, 1) := by decide +kernel
theorem dX7_take_22 : decode cX7_take 22 = .ok (.getfield 33, 3) := by decide +kernel
theorem dX7_take_25 : decode cX7_take 25 = .ok (.iload_n 1, 1) := by decide +kernel
theorem dX7_take_26 : decode cX7_take 26 = .ok (.iaload, 1) := by decide +kernel
theorem dX7_take_27 : decode cX7_take 27 = .ok (.if_icmp .ge 37, 3) := by decide +kernel
theorem dX7_take_30 : decode cX7_take 30 = .ok (.aload_n 0, 1) := by decide +kernel
theorem dX7_take_31 : decode cX7_take 31 = .ok (.getfield 30, 3) := by decide +kernel
theorem dX7_take_34 : decode cX7_take 34 = .ok (.bipush 72, 2) := by decide +kernel
theorem dX7_take_36 : decode cX7_take 36 = .ok (.iload_n 1, 1) := by decide +kernel
theorem dX7_take_37 : decode cX7_take 37 = .ok (.imul, 1) := by decide +kernel
theorem dX7_take_38 : decode cX7_take 38 = .ok (.iload 4, 2) := by decide +kernel
theorem dX7_take_40 : decode cX7_take 40 = .ok (.iadd, 1) := by decide +kernel
theorem dX7_take_41 : decode cX7_take 41 = .ok (.aload_n 0, 1) := by decide +kernel
theorem dX7_take_42 : decode cX7_take 42 = .ok (.getfield 17, 3) := by decide +kernel
theorem dX7_take_45 : decode cX7_take 45 = .ok (.bipush 16, 2) := by decide +kernel
theorem dX7_take_47 : decode cX7_take 47 = .ok (.iconst 2, 1) := by decide +kernel
theorem dX7_take_48 : decode cX7_take 48 = .ok (.iload_n 2, 1) := by decide +kernel
theorem dX7_take_49 : decode cX7_take 49 = .ok (.imul, 1) := by decide +kernel
theorem dX7_take_50 : decode cX7_take 50 = .ok (.iload_n 3, 1) := by decide +kernel
theorem dX7_take_51 : decode cX7_take 51 = .ok (.iadd, 1) := by decide +kernel
theorem dX7_take_52 : decode cX7_take 52 = .ok (.imul, 1) := by decide +kernel
theorem dX7_take_53 : decode cX7_take 53 = .ok (.iload 4, 2) := by decide +kernel
theorem dX7_take_55 : decode cX7_take 55 = .ok (.iadd, 1) := by decide +kernel
theorem dX7_take_56 : decode cX7_take 56 = .ok (.laload, 1) := by decide +kernel
theorem dX7_take_57 : decode cX7_take 57 = .ok (.lastore, 1) := by decide +kernel
theorem dX7_take_58 : decode cX7_take 58 = .ok (.iinc 4 1, 3) := by decide +kernel
theorem dX7_take_61 : decode cX7_take 61 = .ok (.goto (-42), 3) := by decide +kernel
theorem dX7_take_64 : decode cX7_take 64 = .ok (.return_, 1) := by decide +kernel
theorem dX7_free_0 : decode cX7_free 0 = .ok (.iconst 0, 1) := by decide +kernel
theorem dX7_free_1 : decode cX7_free 1 = .ok (.istore_n 1, 1) := by decide +kernel
theorem dX7_free_2 : decode cX7_free 2 = .ok (.iload_n 1, 1) := by decide +kernel
theorem dX7_free_3 : decode cX7_free 3 = .ok (.bipush 24, 2) := by decide +kernel
theorem dX7_free_5 : decode cX7_free 5 = .ok (.if_icmp .ge 20, 3) := by decide +kernel
theorem dX7_free_8 : decode cX7_free 8 = .ok (.aload_n 0, 1) := by decide +kernel
theorem dX7_free_9 : decode cX7_free 9 = .ok (.getfield 7, 3) := by decide +kernel
theorem dX7_free_12 : decode cX7_free 12 = .ok (.iload_n 1, 1) := by decide +kernel
theorem dX7_free_13 : decode cX7_free 13 = .ok (.baload, 1) := by decide +kernel
theorem dX7_free_14 : decode cX7_free 14 = .ok (.ifCond .ne 5, 3) := by decide +kernel
theorem dX7_free_17 : decode cX7_free 17 = .ok (.iload_n 1, 1) := by decide +kernel
theorem dX7_free_18 : decode cX7_free 18 = .ok (.ireturn, 1) := by decide +kernel
theorem dX7_free_19 : decode cX7_free 19 = .ok (.iinc 1 1, 3) := by decide +kernel
theorem dX7_free_22 : decode cX7_free 22 = .ok (.goto (-20), 3) := by decide +kernel
theorem dX7_free_25 : decode cX7_free 25 = .ok (.bipush (-3), 2) := by decide +kernel
theorem dX7_free_27 : decode cX7_free 27 = .ok (.ireturn, 1) := by decide +kernel
set_option maxRecDepth 20000 in
theorem ggX7_keep_X7_bits : GoodIn wsX7_keep wsX7_bits := goodIn_ca (goodIn_r _ [11, 3, 12, 6, 17, 18, 19, 20, 21, 22, 23, 24, 25, 26, 27, 28, 29, 30] (by decide +kernel) (by decide +kernel)) (goodIn_sub (fun _ h => List.mem_cons_of_mem _ (List.mem_append_right _ h)) (by decide +kernel))
set_option maxRecDepth 20000 in
theorem gX7_keep_X7_bits : GoodIn wsX7_keep (wsV RX7 85 RX7 yX7_bits wsX7_bits) := goodIn_app (goodIn_of _ (by decide +kernel)) ggX7_keep_X7_bits
set_option maxRecDepth 20000 in
theorem ggX7_keep_X7_free : GoodIn wsX7_keep wsX7_free := goodIn_ca (goodIn_r _ [16, 1, 17, 18, 19, 20, 21, 22, 23, 24, 25, 26, 27, 28, 29, 30] (by decide +kernel) (by decide +kernel)) (goodIn_sub (fun _ h => List.mem_cons_of_mem _ (List.mem_append_right _ h)) (by decide +kernel))
set_option maxRecDepth 20000 in
theorem gX7_keep_X7_free : GoodIn wsX7_keep (wsV RX7 89 RX7 yX7_free wsX7_free) := goodIn_app (goodIn_of _ (by decide +kernel)) ggX7_keep_X7_free
theorem dX7_keep_0 : decode cX7_keep 0 = .ok (.aload_n 0, 1) := by decide +kernel
theorem dX7_keep_1 : decode cX7_keep 1 = .ok (.iconst 0, 1) := by decide +kernel
theorem dX7_keep_2 : decode cX7_keep 2 = .ok (.invokevirtual 85, 3) := by decide +kernel
theorem dX7_keep_5 : decode cX7_keep 5 = .ok (.sipush 512, 3) := by decide +kernel
theorem dX7_keep_8 : decode cX7_keep 8 = .ok (.if_icmp .gt 14, 3) := by decide +kernel
theorem dX7_keep_11 : decode cX7_keep 11 = .ok (.aload_n 0, 1) := by decide +kernel
theorem dX7_keep_12 : decode cX7_keep 12 = .ok (.iconst 1, 1) := by decide +kernel
theorem dX7_keep_13 : decode cX7_keep 13 = .ok (.invokevirtual 85, 3) := by decide +kernel
theorem dX7_keep_16 : decode cX7_keep 16 = .ok (.sipush 512, 3) := by decide +kernel
theorem dX7_keep_19 : decode cX7_keep 19 = .ok (.if_icmp .le 6, 3) := by decide +kernel
theorem dX7_keep_22 : decode cX7_keep 22 = .ok (.bipush (-4), 2) := by decide +kernel
theorem dX7_keep_24 : decode cX7_keep 24 = .ok (.ireturn, 1) := by decide +kernel
theorem dX7_keep_25 : decode cX7_keep 25 = .ok (.aload_n 0, 1) := by decide +kernel
theorem dX7_keep_26 : decode cX7_keep 26 = .ok (.invokevirtual 89, 3) := by decide +kernel
theorem dX7_keep_29 : decode cX7_keep 29 = .ok (.istore_n 2, 1) := by decide +kernel
theorem dX7_keep_30 : decode cX7_keep 30 = .ok (.aload_n 0, 1) := by decide +kernel
theorem dX7_keep_31 : decode cX7_keep 31 = .ok (.getfield 7, 3) := by decide +kernel
theorem dX7_keep_34 : decode cX7_keep 34 = .ok (.iload_n 2, 1) := by decide +kernel
theorem dX7_keep_35 : decode cX7_keep 35 = .ok (.iconst 1, 1) := by decide +kernel
theorem dX7_keep_36 : decode cX7_keep 36 = .ok (.bastore, 1) := by decide +kernel
theorem dX7_keep_37 : decode cX7_keep 37 = .ok (.aload_n 0, 1) := by decide +kernel
theorem dX7_keep_38 : decode cX7_keep 38 = .ok (.getfield 13, 3) := by decide +kernel
theorem dX7_keep_41 : decode cX7_keep 41 = .ok (.iload_n 2, 1) := by decide +kernel
theorem dX7_keep_42 : decode cX7_keep 42 = .ok (.aload_n 0, 1) := by decide +kernel
theorem dX7_keep_43 : decode cX7_keep 43 = .ok (.getfield 33, 3) := by decide +kernel
theorem dX7_keep_46 : decode cX7_keep 46 = .ok (.iconst 0, 1) := by decide +kernel
theorem dX7_keep_47 : decode cX7_keep 47 = .ok (.iaload, 1) := by decide +kernel
theorem dX7_keep_48 : decode cX7_keep 48 = .ok (.ifCond .ne 7, 3) := by decide +kernel
theorem dX7_keep_51 : decode cX7_keep 51 = .ok (.iconst 0, 1) := by decide +kernel
theorem dX7_keep_52 : decode cX7_keep 52 = .ok (.goto 4, 3) := by decide +kernel
theorem dX7_keep_55 : decode cX7_keep 55 = .ok (.iload_n 1, 1) := by decide +kernel
theorem dX7_keep_56 : decode cX7_keep 56 = .ok (.iastore, 1) := by decide +kernel
theorem dX7_keep_57 : decode cX7_keep 57 = .ok (.iconst 0, 1) := by decide +kernel
theorem dX7_keep_58 : decode cX7_keep 58 = .ok (.istore_n 3, 1) := by decide +kernel
theorem dX7_keep_59 : decode cX7_keep 59 = .ok (.iload_n 3, 1) := by decide +kernel
theorem dX7_keep_60 : decode cX7_keep 60 = .ok (.iconst 2, 1) := by decide +kernel
theorem dX7_keep_61 : decode cX7_keep 61 = .ok (.if_icmp .ge 73, 3) := by decide +kernel
theorem dX7_keep_64 : decode cX7_keep 64 = .ok (.aload_n 0, 1) := by decide +kernel
theorem dX7_keep_65 : decode cX7_keep 65 = .ok (.getfield 21, 3) := by decide +kernel
theorem dX7_keep_68 : decode cX7_keep 68 = .ok (.iconst 2, 1) := by decide +kernel
theorem dX7_keep_69 : decode cX7_keep 69 = .ok (.iload_n 2, 1) := by decide +kernel
theorem dX7_keep_70 : decode cX7_keep 70 = .ok (.imul, 1) := by decide +kernel
theorem dX7_keep_71 : decode cX7_keep 71 = .ok (.iload_n 3, 1) := by decide +kernel
theorem dX7_keep_72 : decode cX7_keep 72 = .ok (.iadd, 1) := by decide +kernel
theorem dX7_keep_73 : decode cX7_keep 73 = .ok (.aload_n 0, 1) := by decide +kernel
theorem dX7_keep_74 : decode cX7_keep 74 = .ok (.getfield 33, 3) := by decide +kernel
theorem dX7_keep_77 : decode cX7_keep 77 = .ok (.iload_n 3, 1) := by decide +kernel
theorem dX7_keep_78 : decode cX7_keep 78 = .ok (.iaload, 1) := by decide +kernel
theorem dX7_keep_79 : decode cX7_keep 79 = .ok (.iastore, 1) := by decide +kernel
theorem dX7_keep_80 : decode cX7_keep 80 = .ok (.iconst 0, 1) := by decide +kernel
theorem dX7_keep_81 : decode cX7_keep 81 = .ok (.istore 4, 2) := by decide +kernel
theorem dX7_keep_83 : decode cX7_keep 83 = .ok (.iload 4, 2) := by decide +kernel
theorem dX7_keep_85 : decode cX7_keep 85 = .ok (.aload_n 0, 1) := by decide +kernel
theorem dX7_keep_86 : decode cX7_keep 86 = .ok (.getfield 33, 3) := by decide +kernel
theorem dX7_keep_89 : decode cX7_keep 89 = .ok (.iload_n 3, 1) := by decide +kernel
theorem dX7_keep_90 : decode cX7_keep 90 = .ok (.iaload, 1) := by decide +kernel
theorem dX7_keep_91 : decode cX7_keep 91 = .ok (.if_icmp .ge 37, 3) := by decide +kernel
theorem dX7_keep_94 : decode cX7_keep 94 = .ok (.aload_n 0, 1) := by decide +kernel
theorem dX7_keep_95 : decode cX7_keep 95 = .ok (.getfield 17, 3) := by decide +kernel
theorem dX7_keep_98 : decode cX7_keep 98 = .ok (.bipush 16, 2) := by decide +kernel
theorem dX7_keep_100 : decode cX7_keep 100 = .ok (.iconst 2, 1) := by decide +kernel
theorem dX7_keep_101 : decode cX7_keep 101 = .ok (.iload_n 2, 1) := by decide +kernel
theorem dX7_keep_102 : decode cX7_keep 102 = .ok (.imul, 1) := by decide +kernel
theorem dX7_keep_103 : decode cX7_keep 103 = .ok (.iload_n 3, 1) := by decide +kernel
theorem dX7_keep_104 : decode cX7_keep 104 = .ok (.iadd, 1) := by decide +kernel
theorem dX7_keep_105 : decode cX7_keep 105 = .ok (.imul, 1) := by decide +kernel
theorem dX7_keep_106 : decode cX7_keep 106 = .ok (.iload 4, 2) := by decide +kernel
theorem dX7_keep_108 : decode cX7_keep 108 = .ok (.iadd, 1) := by decide +kernel
theorem dX7_keep_109 : decode cX7_keep 109 = .ok (.aload_n 0, 1) := by decide +kernel
theorem dX7_keep_110 : decode cX7_keep 110 = .ok (.getfield 30, 3) := by decide +kernel
theorem dX7_keep_113 : decode cX7_keep 113 = .ok (.bipush 72, 2) := by decide +kernel
theorem dX7_keep_115 : decode cX7_keep 115 = .ok (.iload_n 3, 1) := by decide +kernel
theorem dX7_keep_116 : decode cX7_keep 116 = .ok (.imul, 1) := by decide +kernel
theorem dX7_keep_117 : decode cX7_keep 117 = .ok (.iload 4, 2) := by decide +kernel
theorem dX7_keep_119 : decode cX7_keep 119 = .ok (.iadd, 1) := by decide +kernel
theorem dX7_keep_120 : decode cX7_keep 120 = .ok (.laload, 1) := by decide +kernel
theorem dX7_keep_121 : decode cX7_keep 121 = .ok (.lastore, 1) := by decide +kernel
theorem dX7_keep_122 : decode cX7_keep 122 = .ok (.iinc 4 1, 3) := by decide +kernel
theorem dX7_keep_125 : decode cX7_keep 125 = .ok (.goto (-42), 3) := by decide +kernel
theorem dX7_keep_128 : decode cX7_keep 128 = .ok (.iinc 3 1, 3) := by decide +kernel
theorem dX7_keep_131 : decode cX7_keep 131 = .ok (.goto (-72), 3) := by decide +kernel
theorem dX7_keep_134 : decode cX7_keep 134 = .ok (.iload_n 2, 1) := by decide +kernel
theorem dX7_keep_135 : decode cX7_keep 135 = .ok (.ireturn, 1) := by decide +kernel
set_option maxRecDepth 20000 in
theorem ggX7_keepLeast_X7_copy : GoodIn wsX7_keepLeast wsX7_copy := goodIn_ca (goodIn_r _ [5, 6, 7, 62, 63, 64, 65, 66, 67, 68, 69, 70, 71, 72, 73, 74, 75] (by decide +kernel) (by decide +kernel)) (goodIn_sub (fun _ h => List.mem_cons_of_mem _ (List.mem_append_right _ h)) (by decide +kernel))
set_option maxRecDepth 20000 in
theorem gX7_keepLeast_X7_copy : GoodIn wsX7_keepLeast (wsV RX7 66 RX7 yX7_copy wsX7_copy) := goodIn_app (goodIn_of _ (by decide +kernel)) ggX7_keepLeast_X7_copy
set_option maxRecDepth 20000 in
theorem ggX7_keepLeast_X7_divisor : GoodIn wsX7_keepLeast wsX7_divisor := goodIn_ca (goodIn_r _ [11, 6, 1, 2, 3, 4, 5, 7, 12, 13, 14, 15, 16, 17, 18, 19, 20, 21, 22, 23, 24, 25, 26, 27, 28, 29, 30, 31, 32, 33, 34, 35, 36, 37, 38, 39, 40, 62, 63, 64, 65, 66, 67, 68, 69, 70, 71, 72, 73, 74, 75] (by decide +kernel) (by decide +kernel)) (goodIn_sub (fun _ h => List.mem_cons_of_mem _ (List.mem_append_right _ h)) (by decide +kernel))
set_option maxRecDepth 20000 in
theorem gX7_keepLeast_X7_divisor : GoodIn wsX7_keepLeast (wsV RX7 93 RX7 yX7_divisor wsX7_divisor) := goodIn_app (goodIn_of _ (by decide +kernel)) ggX7_keepLeast_X7_divisor
set_option maxRecDepth 20000 in
theorem ggX7_keepLeast_X7_divide : GoodIn wsX7_keepLeast wsX7_divide := goodIn_ca (goodIn_r _ [44, 6, 7, 37, 38, 39, 4, 40, 20, 21, 22, 23, 24, 25, 26, 27, 28, 29, 30, 31, 32, 62, 63, 64, 65, 66, 67, 68, 69, 70, 71, 72, 73, 74, 75] (by decide +kernel) (by decide +kernel)) (goodIn_sub (fun _ h => List.mem_cons_of_mem _ (List.mem_append_right _ h)) (by decide +kernel))
set_option maxRecDepth 20000 in
theorem gX7_keepLeast_X7_divide : GoodIn wsX7_keepLeast (wsV RX7 96 RX7 yX7_divide wsX7_divide) := goodIn_app (goodIn_of _ (by decide +kernel)) ggX7_keepLeast_X7_divide
set_option maxRecDepth 20000 in
theorem ggX7_keepLeast_X7_keep : GoodIn wsX7_keepLeast wsX7_keep := goodIn_ca (goodIn_r _ [48, 49, 50, 6, 51, 52, 7, 53, 54, 55, 4, 56, 57, 58, 59, 60, 61, 62, 63, 64, 65, 66, 67, 68, 69, 70, 71, 72, 73, 74, 75] (by decide +kernel) (by decide +kernel)) (goodIn_sub (fun _ h => List.mem_cons_of_mem _ (List.mem_append_right _ h)) (by decide +kernel))
set_option maxRecDepth 20000 in
theorem gX7_keepLeast_X7_keep : GoodIn wsX7_keepLeast (wsV RX7 100 RX7 yX7_keep wsX7_keep) := goodIn_app (goodIn_of _ (by decide +kernel)) ggX7_keepLeast_X7_keep
theorem dX7_keepLeast_0 : decode cX7_keepLeast 0 = .ok (.aload_n 0, 1) := by decide +kernel
theorem dX7_keepLeast_1 : decode cX7_keepLeast 1 = .ok (.bipush 16, 2) := by decide +kernel
theorem dX7_keepLeast_3 : decode cX7_keepLeast 3 = .ok (.iconst 0, 1) := by decide +kernel
theorem dX7_keepLeast_4 : decode cX7_keepLeast 4 = .ok (.invokevirtual 66, 3) := by decide +kernel
theorem dX7_keepLeast_7 : decode cX7_keepLeast 7 = .ok (.aload_n 0, 1) := by decide +kernel
theorem dX7_keepLeast_8 : decode cX7_keepLeast 8 = .ok (.bipush 17, 2) := by decide +kernel
theorem dX7_keepLeast_10 : decode cX7_keepLeast 10 = .ok (.iconst 1, 1) := by decide +kernel
theorem dX7_keepLeast_11 : decode cX7_keepLeast 11 = .ok (.invokevirtual 66, 3) := by decide +kernel
theorem dX7_keepLeast_14 : decode cX7_keepLeast 14 = .ok (.aload_n 0, 1) := by decide +kernel
theorem dX7_keepLeast_15 : decode cX7_keepLeast 15 = .ok (.bipush 16, 2) := by decide +kernel
theorem dX7_keepLeast_17 : decode cX7_keepLeast 17 = .ok (.bipush 17, 2) := by decide +kernel
theorem dX7_keepLeast_19 : decode cX7_keepLeast 19 = .ok (.invokevirtual 93, 3) := by decide +kernel
theorem dX7_keepLeast_22 : decode cX7_keepLeast 22 = .ok (.aload_n 0, 1) := by decide +kernel
theorem dX7_keepLeast_23 : decode cX7_keepLeast 23 = .ok (.bipush 18, 2) := by decide +kernel
theorem dX7_keepLeast_25 : decode cX7_keepLeast 25 = .ok (.bipush 19, 2) := by decide +kernel
theorem dX7_keepLeast_27 : decode cX7_keepLeast 27 = .ok (.iconst 0, 1) := by decide +kernel
theorem dX7_keepLeast_28 : decode cX7_keepLeast 28 = .ok (.bipush 16, 2) := by decide +kernel
theorem dX7_keepLeast_30 : decode cX7_keepLeast 30 = .ok (.invokevirtual 96, 3) := by decide +kernel
theorem dX7_keepLeast_33 : decode cX7_keepLeast 33 = .ok (.aload_n 0, 1) := by decide +kernel
theorem dX7_keepLeast_34 : decode cX7_keepLeast 34 = .ok (.iconst 0, 1) := by decide +kernel
theorem dX7_keepLeast_35 : decode cX7_keepLeast 35 = .ok (.bipush 18, 2) := by decide +kernel
theorem dX7_keepLeast_37 : decode cX7_keepLeast 37 = .ok (.invokevirtual 66, 3) := by decide +kernel
theorem dX7_keepLeast_40 : decode cX7_keepLeast 40 = .ok (.aload_n 0, 1) := by decide +kernel
theorem dX7_keepLeast_41 : decode cX7_keepLeast 41 = .ok (.bipush 18, 2) := by decide +kernel
theorem dX7_keepLeast_43 : decode cX7_keepLeast 43 = .ok (.bipush 19, 2) := by decide +kernel
theorem dX7_keepLeast_45 : decode cX7_keepLeast 45 = .ok (.iconst 1, 1) := by decide +kernel
theorem dX7_keepLeast_46 : decode cX7_keepLeast 46 = .ok (.bipush 16, 2) := by decide +kernel
theorem dX7_keepLeast_48 : decode cX7_keepLeast 48 = .ok (.invokevirtual 96, 3) := by decide +kernel
theorem dX7_keepLeast_51 : decode cX7_keepLeast 51 = .ok (.aload_n 0, 1) := by decide +kernel
theorem dX7_keepLeast_52 : decode cX7_keepLeast 52 = .ok (.iconst 1, 1) := by decide +kernel
theorem dX7_keepLeast_53 : decode cX7_keepLeast 53 = .ok (.bipush 18, 2) := by decide +kernel
theorem dX7_keepLeast_55 : decode cX7_keepLeast 55 = .ok (.invokevirtual 66, 3) := by decide +kernel
theorem dX7_keepLeast_58 : decode cX7_keepLeast 58 = .ok (.aload_n 0, 1) := by decide +kernel
theorem dX7_keepLeast_59 : decode cX7_keepLeast 59 = .ok (.iload_n 1, 1) := by decide +kernel
theorem dX7_keepLeast_60 : decode cX7_keepLeast 60 = .ok (.invokevirtual 100, 3) := by decide +kernel
theorem dX7_keepLeast_63 : decode cX7_keepLeast 63 = .ok (.ireturn, 1) := by decide +kernel
set_option maxRecDepth 20000 in
theorem ggX7_keepWhole_X7_copy : GoodIn wsX7_keepWhole wsX7_copy := goodIn_ca (goodIn_r _ [5, 6, 7, 34, 35, 36, 37, 38, 39, 40, 41, 42, 43, 44, 45, 46, 47] (by decide +kernel) (by decide +kernel)) (goodIn_sub (fun _ h => List.mem_cons_of_mem _ (List.mem_append_right _ h)) (by decide +kernel))
set_option maxRecDepth 20000 in
theorem gX7_keepWhole_X7_copy : GoodIn wsX7_keepWhole (wsV RX7 66 RX7 yX7_copy wsX7_copy) := goodIn_app (goodIn_of _ (by decide +kernel)) ggX7_keepWhole_X7_copy
set_option maxRecDepth 20000 in
theorem ggX7_keepWhole_X7_small : GoodIn wsX7_keepWhole wsX7_small := goodIn_ca (goodIn_r _ [11, 7, 12, 6, 13, 14, 15, 4, 16, 34, 35, 36, 37, 38, 39, 40, 41, 42, 43, 44, 45, 46, 47] (by decide +kernel) (by decide +kernel)) (goodIn_sub (fun _ h => List.mem_cons_of_mem _ (List.mem_append_right _ h)) (by decide +kernel))
set_option maxRecDepth 20000 in
theorem gX7_keepWhole_X7_small : GoodIn wsX7_keepWhole (wsV RX7 103 RX7 yX7_small wsX7_small) := goodIn_app (goodIn_of _ (by decide +kernel)) ggX7_keepWhole_X7_small
set_option maxRecDepth 20000 in
theorem ggX7_keepWhole_X7_keep : GoodIn wsX7_keepWhole wsX7_keep := goodIn_ca (goodIn_r _ [20, 21, 22, 6, 23, 24, 7, 25, 26, 27, 4, 28, 29, 30, 31, 32, 33, 34, 35, 36, 37, 38, 39, 40, 41, 42, 43, 44, 45, 46, 47] (by decide +kernel) (by decide +kernel)) (goodIn_sub (fun _ h => List.mem_cons_of_mem _ (List.mem_append_right _ h)) (by decide +kernel))
set_option maxRecDepth 20000 in
theorem gX7_keepWhole_X7_keep : GoodIn wsX7_keepWhole (wsV RX7 100 RX7 yX7_keep wsX7_keep) := goodIn_app (goodIn_of _ (by decide +kernel)) ggX7_keepWhole_X7_keep
theorem dX7_keepWhole_0 : decode cX7_keepWhole 0 = .ok (.aload_n 0, 1) := by decide +kernel
theorem dX7_keepWhole_1 : decode cX7_keepWhole 1 = .ok (.iconst 0, 1) := by decide +kernel
theorem dX7_keepWhole_2 : decode cX7_keepWhole 2 = .ok (.iload_n 1, 1) := by decide +kernel
theorem dX7_keepWhole_3 : decode cX7_keepWhole 3 = .ok (.invokevirtual 66, 3) := by decide +kernel
theorem dX7_keepWhole_6 : decode cX7_keepWhole 6 = .ok (.aload_n 0, 1) := by decide +kernel
theorem dX7_keepWhole_7 : decode cX7_keepWhole 7 = .ok (.iconst 1, 1) := by decide +kernel
theorem dX7_keepWhole_8 : decode cX7_keepWhole 8 = .ok (.lconst 1, 1) := by decide +kernel
theorem dX7_keepWhole_9 : decode cX7_keepWhole 9 = .ok (.invokevirtual 103, 3) := by decide +kernel
theorem dX7_keepWhole_12 : decode cX7_keepWhole 12 = .ok (.aload_n 0, 1) := by decide +kernel
theorem dX7_keepWhole_13 : decode cX7_keepWhole 13 = .ok (.iload_n 2, 1) := by decide +kernel
theorem dX7_keepWhole_14 : decode cX7_keepWhole 14 = .ok (.invokevirtual 100, 3) := by decide +kernel
theorem dX7_keepWhole_17 : decode cX7_keepWhole 17 = .ok (.ireturn, 1) := by decide +kernel
set_option maxRecDepth 20000 in
theorem ggX7_whole_X7_free : GoodIn wsX7_whole wsX7_free := goodIn_ca (goodIn_r _ [6, 7, 31, 32, 33, 34, 35, 36, 37, 38, 39, 40, 41, 42, 43, 44] (by decide +kernel) (by decide +kernel)) (goodIn_sub (fun _ h => List.mem_cons_of_mem _ (List.mem_append_right _ h)) (by decide +kernel))
set_option maxRecDepth 20000 in
theorem gX7_whole_X7_free : GoodIn wsX7_whole (wsV RX7 89 RX7 yX7_free wsX7_free) := goodIn_app (goodIn_of _ (by decide +kernel)) ggX7_whole_X7_free
set_option maxRecDepth 20000 in
theorem ggX7_whole_X7_small : GoodIn wsX7_whole wsX7_small := goodIn_ca (goodIn_r _ [11, 12, 13, 14, 15, 16, 17, 5, 18, 31, 32, 33, 34, 35, 36, 37, 38, 39, 40, 41, 42, 43, 44] (by decide +kernel) (by decide +kernel)) (goodIn_sub (fun _ h => List.mem_cons_of_mem _ (List.mem_append_right _ h)) (by decide +kernel))
set_option maxRecDepth 20000 in
theorem gX7_whole_X7_small : GoodIn wsX7_whole (wsV RX7 103 RX7 yX7_small wsX7_small) := goodIn_app (goodIn_of _ (by decide +kernel)) ggX7_whole_X7_small
set_option maxRecDepth 20000 in
theorem ggX7_whole_X7_keep : GoodIn wsX7_whole wsX7_keep := goodIn_ca (goodIn_r _ [22, 7, 23, 14, 24, 25, 12, 26, 27, 28, 5, 29, 30, 2, 3, 4, 6, 31, 32, 33, 34, 35, 36, 37, 38, 39, 40, 41, 42, 43, 44] (by decide +kernel) (by decide +kernel)) (goodIn_sub (fun _ h => List.mem_cons_of_mem _ (List.mem_append_right _ h)) (by decide +kernel))
set_option maxRecDepth 20000 in
theorem gX7_whole_X7_keep : GoodIn wsX7_whole (wsV RX7 100 RX7 yX7_keep wsX7_keep) := goodIn_app (goodIn_of _ (by decide +kernel)) ggX7_whole_X7_keep
theorem dX7_whole_0 : decode cX7_whole 0 = .ok (.aload_n 0, 1) := by decide +kernel
theorem dX7_whole_1 : decode cX7_whole 1 = .ok (.iconst 0, 1) := by decide +kernel
theorem dX7_whole_2 : decode cX7_whole 2 = .ok (.putfield 43, 3) := by decide +kernel
theorem dX7_whole_5 : decode cX7_whole 5 = .ok (.aload_n 0, 1) := by decide +kernel
theorem dX7_whole_6 : decode cX7_whole 6 = .ok (.invokevirtual 89, 3) := by decide +kernel
theorem dX7_whole_9 : decode cX7_whole 9 = .ok (.bipush (-3), 2) := by decide +kernel
theorem dX7_whole_11 : decode cX7_whole 11 = .ok (.if_icmp .ne 6, 3) := by decide +kernel
theorem dX7_whole_14 : decode cX7_whole 14 = .ok (.bipush (-3), 2) := by decide +kernel
theorem dX7_whole_16 : decode cX7_whole 16 = .ok (.ireturn, 1) := by decide +kernel
theorem dX7_whole_17 : decode cX7_whole 17 = .ok (.aload_n 0, 1) := by decide +kernel
theorem dX7_whole_18 : decode cX7_whole 18 = .ok (.iconst 0, 1) := by decide +kernel
theorem dX7_whole_19 : decode cX7_whole 19 = .ok (.lload_n 1, 1) := by decide +kernel
theorem dX7_whole_20 : decode cX7_whole 20 = .ok (.lconst 0, 1) := by decide +kernel
theorem dX7_whole_21 : decode cX7_whole 21 = .ok (.lcmp, 1) := by decide +kernel
theorem dX7_whole_22 : decode cX7_whole 22 = .ok (.ifCond .ge 8, 3) := by decide +kernel
theorem dX7_whole_25 : decode cX7_whole 25 = .ok (.lload_n 1, 1) := by decide +kernel
theorem dX7_whole_26 : decode cX7_whole 26 = .ok (.lneg, 1) := by decide +kernel
theorem dX7_whole_27 : decode cX7_whole 27 = .ok (.goto 4, 3) := by decide +kernel
theorem dX7_whole_30 : decode cX7_whole 30 = .ok (.lload_n 1, 1) := by decide +kernel
theorem dX7_whole_31 : decode cX7_whole 31 = .ok (.invokevirtual 103, 3) := by decide +kernel
theorem dX7_whole_34 : decode cX7_whole 34 = .ok (.aload_n 0, 1) := by decide +kernel
theorem dX7_whole_35 : decode cX7_whole 35 = .ok (.iconst 1, 1) := by decide +kernel
theorem dX7_whole_36 : decode cX7_whole 36 = .ok (.lconst 1, 1) := by decide +kernel
theorem dX7_whole_37 : decode cX7_whole 37 = .ok (.invokevirtual 103, 3) := by decide +kernel
theorem dX7_whole_40 : decode cX7_whole 40 = .ok (.aload_n 0, 1) := by decide +kernel
theorem dX7_whole_41 : decode cX7_whole 41 = .ok (.lload_n 1, 1) := by decide +kernel
theorem dX7_whole_42 : decode cX7_whole 42 = .ok (.lconst 0, 1) := by decide +kernel
theorem dX7_whole_43 : decode cX7_whole 43 = .ok (.lcmp, 1) := by decide +kernel
theorem dX7_whole_44 : decode cX7_whole 44 = .ok (.ifCond .ge 7, 3) := by decide +kernel
theorem dX7_whole_47 : decode cX7_whole 47 = .ok (.iconst (-1), 1) := by decide +kernel
theorem dX7_whole_48 : decode cX7_whole 48 = .ok (.goto 4, 3) := by decide +kernel
theorem dX7_whole_51 : decode cX7_whole 51 = .ok (.iconst 1, 1) := by decide +kernel
theorem dX7_whole_52 : decode cX7_whole 52 = .ok (.invokevirtual 100, 3) := by decide +kernel
theorem dX7_whole_55 : decode cX7_whole 55 = .ok (.ireturn, 1) := by decide +kernel
set_option maxRecDepth 20000 in
theorem ggX7_shifted_X7_free : GoodIn wsX7_shifted wsX7_free := goodIn_ca (goodIn_r _ [6, 7, 47, 48, 49, 50, 51, 52, 53, 54, 55, 56, 57, 58, 59, 60] (by decide +kernel) (by decide +kernel)) (goodIn_sub (fun _ h => List.mem_cons_of_mem _ (List.mem_append_right _ h)) (by decide +kernel))
set_option maxRecDepth 20000 in
theorem gX7_shifted_X7_free : GoodIn wsX7_shifted (wsV RX7 89 RX7 yX7_free wsX7_free) := goodIn_app (goodIn_of _ (by decide +kernel)) ggX7_shifted_X7_free
set_option maxRecDepth 20000 in
theorem ggX7_shifted_X7_small : GoodIn wsX7_shifted wsX7_small := goodIn_ca (goodIn_r _ [11, 12, 13, 14, 15, 16, 17, 5, 18, 47, 48, 49, 50, 51, 52, 53, 54, 55, 56, 57, 58, 59, 60] (by decide +kernel) (by decide +kernel)) (goodIn_sub (fun _ h => List.mem_cons_of_mem _ (List.mem_append_right _ h)) (by decide +kernel))
set_option maxRecDepth 20000 in
theorem gX7_shifted_X7_small : GoodIn wsX7_shifted (wsV RX7 103 RX7 yX7_small wsX7_small) := goodIn_app (goodIn_of _ (by decide +kernel)) ggX7_shifted_X7_small
set_option maxRecDepth 20000 in
theorem ggX7_shifted_X7_up : GoodIn wsX7_shifted wsX7_up := goodIn_ca (goodIn_r _ [22, 14, 12, 23, 24, 25, 5, 26, 13, 15, 16, 17, 18, 47, 48, 49, 50, 51, 52, 53, 54, 55, 56, 57, 58, 59, 60] (by decide +kernel) (by decide +kernel)) (goodIn_sub (fun _ h => List.mem_cons_of_mem _ (List.mem_append_right _ h)) (by decide +kernel))
set_option maxRecDepth 20000 in
theorem gX7_shifted_X7_up : GoodIn wsX7_shifted (wsV RX7 76 RX7 yX7_up wsX7_up) := goodIn_app (goodIn_of _ (by decide +kernel)) ggX7_shifted_X7_up
set_option maxRecDepth 20000 in
theorem ggX7_shifted_X7_keepWhole : GoodIn wsX7_shifted wsX7_keepWhole := goodIn_ca (goodIn_r _ [30, 31, 32, 33, 5, 34, 14, 12, 8, 9, 10, 11, 13, 15, 16, 17, 18, 35, 36, 37, 38, 7, 39, 40, 41, 42, 43, 44, 45, 46, 2, 3, 4, 6, 47, 48, 49, 50, 51, 52, 53, 54, 55, 56, 57, 58, 59, 60] (by decide +kernel) (by decide +kernel)) (goodIn_sub (fun _ h => List.mem_cons_of_mem _ (List.mem_append_right _ h)) (by decide +kernel))
set_option maxRecDepth 20000 in
theorem gX7_shifted_X7_keepWhole : GoodIn wsX7_shifted (wsV RX7 106 RX7 yX7_keepWhole wsX7_keepWhole) := goodIn_app (goodIn_of _ (by decide +kernel)) ggX7_shifted_X7_keepWhole
theorem dX7_shifted_0 : decode cX7_shifted 0 = .ok (.aload_n 0, 1) := by decide +kernel
theorem dX7_shifted_1 : decode cX7_shifted 1 = .ok (.iload_n 1, 1) := by decide +kernel
theorem dX7_shifted_2 : decode cX7_shifted 2 = .ok (.ifCond .ge 7, 3) := by decide +kernel
theorem dX7_shifted_5 : decode cX7_shifted 5 = .ok (.iconst 1, 1) := by decide +kernel
theorem dX7_shifted_6 : decode cX7_shifted 6 = .ok (.goto 4, 3) := by decide +kernel
theorem dX7_shifted_9 : decode cX7_shifted 9 = .ok (.iconst 0, 1) := by decide +kernel
theorem dX7_shifted_10 : decode cX7_shifted 10 = .ok (.putfield 43, 3) := by decide +kernel
theorem dX7_shifted_13 : decode cX7_shifted 13 = .ok (.iload_n 1, 1) := by decide +kernel
theorem dX7_shifted_14 : decode cX7_shifted 14 = .ok (.ifCond .ge 5, 3) := by decide +kernel
theorem dX7_shifted_17 : decode cX7_shifted 17 = .ok (.iconst 0, 1) := by decide +kernel
theorem dX7_shifted_18 : decode cX7_shifted 18 = .ok (.ireturn, 1) := by decide +kernel
theorem dX7_shifted_19 : decode cX7_shifted 19 = .ok (.aload_n 0, 1) := by decide +kernel
theorem dX7_shifted_20 : decode cX7_shifted 20 = .ok (.invokevirtual 89, 3) := by decide +kernel
theorem dX7_shifted_23 : decode cX7_shifted 23 = .ok (.bipush (-3), 2) := by decide +kernel
theorem dX7_shifted_25 : decode cX7_shifted 25 = .ok (.if_icmp .ne 6, 3) := by decide +kernel
theorem dX7_shifted_28 : decode cX7_shifted 28 = .ok (.bipush (-3), 2) := by decide +kernel
theorem dX7_shifted_30 : decode cX7_shifted 30 = .ok (.ireturn, 1) := by decide +kernel
theorem dX7_shifted_31 : decode cX7_shifted 31 = .ok (.iload_n 1, 1) := by decide +kernel
theorem dX7_shifted_32 : decode cX7_shifted 32 = .ok (.bipush 15, 2) := by decide +kernel
theorem dX7_shifted_34 : decode cX7_shifted 34 = .ok (.if_icmp .le 6, 3) := by decide +kernel
theorem dX7_shifted_37 : decode cX7_shifted 37 = .ok (.bipush (-4), 2) := by decide +kernel
theorem dX7_shifted_39 : decode cX7_shifted 39 = .ok (.ireturn, 1) := by decide +kernel
theorem dX7_shifted_40 : decode cX7_shifted 40 = .ok (.aload_n 0, 1) := by decide +kernel
theorem dX7_shifted_41 : decode cX7_shifted 41 = .ok (.iconst 2, 1) := by decide +kernel
theorem dX7_shifted_42 : decode cX7_shifted 42 = .ok (.lconst 1, 1) := by decide +kernel
theorem dX7_shifted_43 : decode cX7_shifted 43 = .ok (.invokevirtual 103, 3) := by decide +kernel
theorem dX7_shifted_46 : decode cX7_shifted 46 = .ok (.aload_n 0, 1) := by decide +kernel
theorem dX7_shifted_47 : decode cX7_shifted 47 = .ok (.iconst 2, 1) := by decide +kernel
theorem dX7_shifted_48 : decode cX7_shifted 48 = .ok (.bipush 32, 2) := by decide +kernel
theorem dX7_shifted_50 : decode cX7_shifted 50 = .ok (.iload_n 1, 1) := by decide +kernel
theorem dX7_shifted_51 : decode cX7_shifted 51 = .ok (.imul, 1) := by decide +kernel
theorem dX7_shifted_52 : decode cX7_shifted 52 = .ok (.invokevirtual 76, 3) := by decide +kernel
theorem dX7_shifted_55 : decode cX7_shifted 55 = .ok (.aload_n 0, 1) := by decide +kernel
theorem dX7_shifted_56 : decode cX7_shifted 56 = .ok (.iconst 2, 1) := by decide +kernel
theorem dX7_shifted_57 : decode cX7_shifted 57 = .ok (.iconst 1, 1) := by decide +kernel
theorem dX7_shifted_58 : decode cX7_shifted 58 = .ok (.invokevirtual 106, 3) := by decide +kernel
theorem dX7_shifted_61 : decode cX7_shifted 61 = .ok (.ireturn, 1) := by decide +kernel
set_option maxRecDepth 20000 in
theorem ggX7_over_X7_isNumber : GoodIn wsX7_over wsX7_isNumber := goodIn_ca (goodIn_r _ [7, 8, 9, 10, 11, 6, 12, 83, 84, 85, 86, 87, 88, 89, 90, 91, 92, 93, 94, 95, 96] (by decide +kernel) (by decide +kernel)) (goodIn_sub (fun _ h => List.mem_cons_of_mem _ (List.mem_append_right _ h)) (by decide +kernel))
set_option maxRecDepth 20000 in
theorem gX7_over_X7_isNumber : GoodIn wsX7_over (wsV RX7 109 RX7 yX7_isNumber wsX7_isNumber) := goodIn_app (goodIn_of _ (by decide +kernel)) ggX7_over_X7_isNumber
set_option maxRecDepth 20000 in
theorem ggX7_over_X7_free : GoodIn wsX7_over wsX7_free := goodIn_ca (goodIn_r _ [16, 9, 83, 84, 85, 86, 87, 88, 89, 90, 91, 92, 93, 94, 95, 96] (by decide +kernel) (by decide +kernel)) (goodIn_sub (fun _ h => List.mem_cons_of_mem _ (List.mem_append_right _ h)) (by decide +kernel))
set_option maxRecDepth 20000 in
theorem gX7_over_X7_free : GoodIn wsX7_over (wsV RX7 89 RX7 yX7_free wsX7_free) := goodIn_app (goodIn_of _ (by decide +kernel)) ggX7_over_X7_free
set_option maxRecDepth 20000 in
theorem ggX7_over_X7_take : GoodIn wsX7_over wsX7_take := goodIn_ca (goodIn_r _ [20, 21, 22, 23, 24, 83, 84, 85, 86, 87, 88, 89, 90, 91, 92, 93, 94, 95, 96] (by decide +kernel) (by decide +kernel)) (goodIn_sub (fun _ h => List.mem_cons_of_mem _ (List.mem_append_right _ h)) (by decide +kernel))
set_option maxRecDepth 20000 in
theorem gX7_over_X7_take : GoodIn wsX7_over (wsV RX7 112 RX7 yX7_take wsX7_take) := goodIn_app (goodIn_of _ (by decide +kernel)) ggX7_over_X7_take
set_option maxRecDepth 20000 in
theorem ggX7_over_X7_times : GoodIn wsX7_over wsX7_times := goodIn_ca (goodIn_r _ [28, 21, 23, 29, 30, 31, 32, 6, 33, 83, 84, 85, 86, 87, 88, 89, 90, 91, 92, 93, 94, 95, 96] (by decide +kernel) (by decide +kernel)) (goodIn_sub (fun _ h => List.mem_cons_of_mem _ (List.mem_append_right _ h)) (by decide +kernel))
set_option maxRecDepth 20000 in
theorem gX7_over_X7_times : GoodIn wsX7_over (wsV RX7 116 RX7 yX7_times wsX7_times) := goodIn_app (goodIn_of _ (by decide +kernel)) ggX7_over_X7_times
set_option maxRecDepth 20000 in
theorem ggX7_over_X7_keepLeast : GoodIn wsX7_over wsX7_keepLeast := goodIn_ca (goodIn_r _ [37, 38, 39, 40, 6, 41, 21, 23, 42, 43, 44, 45, 46, 47, 48, 49, 50, 51, 52, 53, 29, 30, 31, 32, 33, 54, 55, 56, 57, 58, 59, 60, 61, 62, 63, 64, 65, 66, 67, 68, 69, 70, 71, 72, 73, 74, 75, 76, 77, 9, 2, 22, 24, 78, 79, 80, 81, 82, 13, 14, 15, 16, 83, 84, 85, 86, 87, 88, 89, 90, 91, 92, 93, 94, 95, 96] (by decide +kernel) (by decide +kernel)) (goodIn_sub (fun _ h => List.mem_cons_of_mem _ (List.mem_append_right _ h)) (by decide +kernel))
set_option maxRecDepth 20000 in
theorem gX7_over_X7_keepLeast : GoodIn wsX7_over (wsV RX7 119 RX7 yX7_keepLeast wsX7_keepLeast) := goodIn_app (goodIn_of _ (by decide +kernel)) ggX7_over_X7_keepLeast
theorem dX7_over_0 : decode cX7_over 0 = .ok (.aload_n 0, 1) := by decide +kernel
theorem dX7_over_1 : decode cX7_over 1 = .ok (.iconst 0, 1) := by decide +kernel
theorem dX7_over_2 : decode cX7_over 2 = .ok (.putfield 43, 3) := by decide +kernel
theorem dX7_over_5 : decode cX7_over 5 = .ok (.aload_n 0, 1) := by decide +kernel
theorem dX7_over_6 : decode cX7_over 6 = .ok (.iload_n 1, 1) := by decide +kernel
theorem dX7_over_7 : decode cX7_over 7 = .ok (.invokevirtual 109, 3) := by decide +kernel
theorem dX7_over_10 : decode cX7_over 10 = .ok (.ifCond .eq 11, 3) := by decide +kernel
theorem dX7_over_13 : decode cX7_over 13 = .ok (.aload_n 0, 1) := by decide +kernel
theorem dX7_over_14 : decode cX7_over 14 = .ok (.iload_n 2, 1) := by decide +kernel
theorem dX7_over_15 : decode cX7_over 15 = .ok (.invokevirtual 109, 3) := by decide +kernel
theorem dX7_over_18 : decode cX7_over 18 = .ok (.ifCond .ne 5, 3) := by decide +kernel
theorem dX7_over_21 : decode cX7_over 21 = .ok (.iconst (-1), 1) := by decide +kernel
theorem dX7_over_22 : decode cX7_over 22 = .ok (.ireturn, 1) := by decide +kernel
theorem dX7_over_23 : decode cX7_over 23 = .ok (.aload_n 0, 1) := by decide +kernel
theorem dX7_over_24 : decode cX7_over 24 = .ok (.getfield 13, 3) := by decide +kernel
theorem dX7_over_27 : decode cX7_over 27 = .ok (.iload_n 2, 1) := by decide +kernel
theorem dX7_over_28 : decode cX7_over 28 = .ok (.iaload, 1) := by decide +kernel
theorem dX7_over_29 : decode cX7_over 29 = .ok (.ifCond .ne 10, 3) := by decide +kernel
theorem dX7_over_32 : decode cX7_over 32 = .ok (.aload_n 0, 1) := by decide +kernel
theorem dX7_over_33 : decode cX7_over 33 = .ok (.iconst 1, 1) := by decide +kernel
theorem dX7_over_34 : decode cX7_over 34 = .ok (.putfield 43, 3) := by decide +kernel
theorem dX7_over_37 : decode cX7_over 37 = .ok (.iconst 0, 1) := by decide +kernel
theorem dX7_over_38 : decode cX7_over 38 = .ok (.ireturn, 1) := by decide +kernel
theorem dX7_over_39 : decode cX7_over 39 = .ok (.aload_n 0, 1) := by decide +kernel
theorem dX7_over_40 : decode cX7_over 40 = .ok (.invokevirtual 89, 3) := by decide +kernel
theorem dX7_over_43 : decode cX7_over 43 = .ok (.bipush (-3), 2) := by decide +kernel
theorem dX7_over_45 : decode cX7_over 45 = .ok (.if_icmp .ne 6, 3) := by decide +kernel
theorem dX7_over_48 : decode cX7_over 48 = .ok (.bipush (-3), 2) := by decide +kernel
theorem dX7_over_50 : decode cX7_over 50 = .ok (.ireturn, 1) := by decide +kernel
theorem dX7_over_51 : decode cX7_over 51 = .ok (.aload_n 0, 1) := by decide +kernel
theorem dX7_over_52 : decode cX7_over 52 = .ok (.iconst 2, 1) := by decide +kernel
theorem dX7_over_53 : decode cX7_over 53 = .ok (.iload_n 1, 1) := by decide +kernel
theorem dX7_over_54 : decode cX7_over 54 = .ok (.iconst 0, 1) := by decide +kernel
theorem dX7_over_55 : decode cX7_over 55 = .ok (.invokevirtual 112, 3) := by decide +kernel
theorem dX7_over_58 : decode cX7_over 58 = .ok (.aload_n 0, 1) := by decide +kernel
theorem dX7_over_59 : decode cX7_over 59 = .ok (.iconst 3, 1) := by decide +kernel
theorem dX7_over_60 : decode cX7_over 60 = .ok (.iload_n 2, 1) := by decide +kernel
theorem dX7_over_61 : decode cX7_over 61 = .ok (.iconst 1, 1) := by decide +kernel
theorem dX7_over_62 : decode cX7_over 62 = .ok (.invokevirtual 112, 3) := by decide +kernel
theorem dX7_over_65 : decode cX7_over 65 = .ok (.aload_n 0, 1) := by decide +kernel
theorem dX7_over_66 : decode cX7_over 66 = .ok (.iconst 0, 1) := by decide +kernel
theorem dX7_over_67 : decode cX7_over 67 = .ok (.iconst 2, 1) := by decide +kernel
theorem dX7_over_68 : decode cX7_over 68 = .ok (.iconst 3, 1) := by decide +kernel
theorem dX7_over_69 : decode cX7_over 69 = .ok (.invokevirtual 116, 3) := by decide +kernel
theorem dX7_over_72 : decode cX7_over 72 = .ok (.aload_n 0, 1) := by decide +kernel
theorem dX7_over_73 : decode cX7_over 73 = .ok (.iconst 2, 1) := by decide +kernel
theorem dX7_over_74 : decode cX7_over 74 = .ok (.iload_n 1, 1) := by decide +kernel
theorem dX7_over_75 : decode cX7_over 75 = .ok (.iconst 1, 1) := by decide +kernel
theorem dX7_over_76 : decode cX7_over 76 = .ok (.invokevirtual 112, 3) := by decide +kernel
theorem dX7_over_79 : decode cX7_over 79 = .ok (.aload_n 0, 1) := by decide +kernel
theorem dX7_over_80 : decode cX7_over 80 = .ok (.iconst 3, 1) := by decide +kernel
theorem dX7_over_81 : decode cX7_over 81 = .ok (.iload_n 2, 1) := by decide +kernel
theorem dX7_over_82 : decode cX7_over 82 = .ok (.iconst 0, 1) := by decide +kernel
theorem dX7_over_83 : decode cX7_over 83 = .ok (.invokevirtual 112, 3) := by decide +kernel
theorem dX7_over_86 : decode cX7_over 86 = .ok (.aload_n 0, 1) := by decide +kernel
theorem dX7_over_87 : decode cX7_over 87 = .ok (.iconst 1, 1) := by decide +kernel
theorem dX7_over_88 : decode cX7_over 88 = .ok (.iconst 2, 1) := by decide +kernel
theorem dX7_over_89 : decode cX7_over 89 = .ok (.iconst 3, 1) := by decide +kernel
theorem dX7_over_90 : decode cX7_over 90 = .ok (.invokevirtual 116, 3) := by decide +kernel
theorem dX7_over_93 : decode cX7_over 93 = .ok (.aload_n 0, 1) := by decide +kernel
theorem dX7_over_94 : decode cX7_over 94 = .ok (.aload_n 0, 1) := by decide +kernel
theorem dX7_over_95 : decode cX7_over 95 = .ok (.getfield 13, 3) := by decide +kernel
theorem dX7_over_98 : decode cX7_over 98 = .ok (.iload_n 1, 1) := by decide +kernel
theorem dX7_over_99 : decode cX7_over 99 = .ok (.iaload, 1) := by decide +kernel
theorem dX7_over_100 : decode cX7_over 100 = .ok (.aload_n 0, 1) := by decide +kernel
theorem dX7_over_101 : decode cX7_over 101 = .ok (.getfield 13, 3) := by decide +kernel
theorem dX7_over_104 : decode cX7_over 104 = .ok (.iload_n 2, 1) := by decide +kernel
theorem dX7_over_105 : decode cX7_over 105 = .ok (.iaload, 1) := by decide +kernel
theorem dX7_over_106 : decode cX7_over 106 = .ok (.imul, 1) := by decide +kernel
theorem dX7_over_107 : decode cX7_over 107 = .ok (.invokevirtual 119, 3) := by decide +kernel
theorem dX7_over_110 : decode cX7_over 110 = .ok (.ireturn, 1) := by decide +kernel
set_option maxRecDepth 20000 in
theorem ggX7_sum_X7_add : GoodIn wsX7_sum wsX7_add := goodIn_ca (goodIn_r _ [5, 6, 7, 8, 9, 10, 11, 4, 12, 25, 26, 27, 28, 29, 30, 31, 32, 33, 34, 35, 36, 37, 38] (by decide +kernel) (by decide +kernel)) (goodIn_sub (fun _ h => List.mem_cons_of_mem _ (List.mem_append_right _ h)) (by decide +kernel))
set_option maxRecDepth 20000 in
theorem gX7_sum_X7_add : GoodIn wsX7_sum (wsV RX7 122 RX7 yX7_add wsX7_add) := goodIn_app (goodIn_of _ (by decide +kernel)) ggX7_sum_X7_add
set_option maxRecDepth 20000 in
theorem ggX7_sum_X7_compared : GoodIn wsX7_sum wsX7_compared := goodIn_ca (goodIn_r _ [16, 6, 7, 25, 26, 27, 28, 29, 30, 31, 32, 33, 34, 35, 36, 37, 38] (by decide +kernel) (by decide +kernel)) (goodIn_sub (fun _ h => List.mem_cons_of_mem _ (List.mem_append_right _ h)) (by decide +kernel))
set_option maxRecDepth 20000 in
theorem gX7_sum_X7_compared : GoodIn wsX7_sum (wsV RX7 58 RX7 yX7_compared wsX7_compared) := goodIn_app (goodIn_of _ (by decide +kernel)) ggX7_sum_X7_compared
set_option maxRecDepth 20000 in
theorem ggX7_sum_X7_less : GoodIn wsX7_sum wsX7_less := goodIn_ca (goodIn_r _ [20, 6, 7, 8, 9, 10, 11, 4, 12, 25, 26, 27, 28, 29, 30, 31, 32, 33, 34, 35, 36, 37, 38] (by decide +kernel) (by decide +kernel)) (goodIn_sub (fun _ h => List.mem_cons_of_mem _ (List.mem_append_right _ h)) (by decide +kernel))
set_option maxRecDepth 20000 in
theorem gX7_sum_X7_less : GoodIn wsX7_sum (wsV RX7 62 RX7 yX7_less wsX7_less) := goodIn_app (goodIn_of _ (by decide +kernel)) ggX7_sum_X7_less
set_option maxRecDepth 20000 in
theorem ggX7_sum_X7_copy : GoodIn wsX7_sum wsX7_copy := goodIn_ca (goodIn_r _ [24, 6, 7, 25, 26, 27, 28, 29, 30, 31, 32, 33, 34, 35, 36, 37, 38] (by decide +kernel) (by decide +kernel)) (goodIn_sub (fun _ h => List.mem_cons_of_mem _ (List.mem_append_right _ h)) (by decide +kernel))
set_option maxRecDepth 20000 in
theorem gX7_sum_X7_copy : GoodIn wsX7_sum (wsV RX7 66 RX7 yX7_copy wsX7_copy) := goodIn_app (goodIn_of _ (by decide +kernel)) ggX7_sum_X7_copy
theorem dX7_sum_0 : decode cX7_sum 0 = .ok (.iload_n 2, 1) := by decide +kernel
theorem dX7_sum_1 : decode cX7_sum 1 = .ok (.iload 4, 2) := by decide +kernel
theorem dX7_sum_3 : decode cX7_sum 3 = .ok (.if_icmp .ne 11, 3) := by decide +kernel
theorem dX7_sum_6 : decode cX7_sum 6 = .ok (.aload_n 0, 1) := by decide +kernel
theorem dX7_sum_7 : decode cX7_sum 7 = .ok (.iload_n 1, 1) := by decide +kernel
theorem dX7_sum_8 : decode cX7_sum 8 = .ok (.iload_n 3, 1) := by decide +kernel
theorem dX7_sum_9 : decode cX7_sum 9 = .ok (.invokevirtual 122, 3) := by decide +kernel
theorem dX7_sum_12 : decode cX7_sum 12 = .ok (.iload_n 2, 1) := by decide +kernel
theorem dX7_sum_13 : decode cX7_sum 13 = .ok (.ireturn, 1) := by decide +kernel
theorem dX7_sum_14 : decode cX7_sum 14 = .ok (.aload_n 0, 1) := by decide +kernel
theorem dX7_sum_15 : decode cX7_sum 15 = .ok (.iload_n 1, 1) := by decide +kernel
theorem dX7_sum_16 : decode cX7_sum 16 = .ok (.iload_n 3, 1) := by decide +kernel
theorem dX7_sum_17 : decode cX7_sum 17 = .ok (.invokevirtual 58, 3) := by decide +kernel
theorem dX7_sum_20 : decode cX7_sum 20 = .ok (.ifCond .lt 11, 3) := by decide +kernel
theorem dX7_sum_23 : decode cX7_sum 23 = .ok (.aload_n 0, 1) := by decide +kernel
theorem dX7_sum_24 : decode cX7_sum 24 = .ok (.iload_n 1, 1) := by decide +kernel
theorem dX7_sum_25 : decode cX7_sum 25 = .ok (.iload_n 3, 1) := by decide +kernel
theorem dX7_sum_26 : decode cX7_sum 26 = .ok (.invokevirtual 62, 3) := by decide +kernel
theorem dX7_sum_29 : decode cX7_sum 29 = .ok (.iload_n 2, 1) := by decide +kernel
theorem dX7_sum_30 : decode cX7_sum 30 = .ok (.ireturn, 1) := by decide +kernel
theorem dX7_sum_31 : decode cX7_sum 31 = .ok (.aload_n 0, 1) := by decide +kernel
theorem dX7_sum_32 : decode cX7_sum 32 = .ok (.bipush 20, 2) := by decide +kernel
theorem dX7_sum_34 : decode cX7_sum 34 = .ok (.iload_n 3, 1) := by decide +kernel
theorem dX7_sum_35 : decode cX7_sum 35 = .ok (.invokevirtual 66, 3) := by decide +kernel
theorem dX7_sum_38 : decode cX7_sum 38 = .ok (.aload_n 0, 1) := by decide +kernel
theorem dX7_sum_39 : decode cX7_sum 39 = .ok (.bipush 20, 2) := by decide +kernel
theorem dX7_sum_41 : decode cX7_sum 41 = .ok (.iload_n 1, 1) := by decide +kernel
theorem dX7_sum_42 : decode cX7_sum 42 = .ok (.invokevirtual 62, 3) := by decide +kernel
theorem dX7_sum_45 : decode cX7_sum 45 = .ok (.aload_n 0, 1) := by decide +kernel
theorem dX7_sum_46 : decode cX7_sum 46 = .ok (.iload_n 1, 1) := by decide +kernel
theorem dX7_sum_47 : decode cX7_sum 47 = .ok (.bipush 20, 2) := by decide +kernel
theorem dX7_sum_49 : decode cX7_sum 49 = .ok (.invokevirtual 66, 3) := by decide +kernel
theorem dX7_sum_52 : decode cX7_sum 52 = .ok (.iload 4, 2) := by decide +kernel
theorem dX7_sum_54 : decode cX7_sum 54 = .ok (.ireturn, 1) := by decide +kernel
set_option maxRecDepth 20000 in
theorem ggX7_apply_X7_in : GoodIn wsX7_apply wsX7_in := goodIn_r _ [8] (by decide +kernel) (by decide +kernel)
set_option maxRecDepth 20000 in
theorem gX7_apply_X7_in : GoodIn wsX7_apply (va_wsS RX7 81 yX7_in wsX7_in) := goodIn_app (goodIn_of _ (by decide +kernel)) ggX7_apply_X7_in
set_option maxRecDepth 20000 in
theorem ggX7_apply_X7_isNumber : GoodIn wsX7_apply wsX7_isNumber := goodIn_ca (goodIn_r _ [12, 13, 14, 5, 6, 7, 8, 92, 93, 94, 95, 96, 97, 98, 99, 100, 101, 102, 103, 104, 105] (by decide +kernel) (by decide +kernel)) (goodIn_sub (fun _ h => List.mem_cons_of_mem _ (List.mem_append_right _ h)) (by decide +kernel))
set_option maxRecDepth 20000 in
theorem gX7_apply_X7_isNumber : GoodIn wsX7_apply (wsV RX7 109 RX7 yX7_isNumber wsX7_isNumber) := goodIn_app (goodIn_of _ (by decide +kernel)) ggX7_apply_X7_isNumber
set_option maxRecDepth 20000 in
theorem ggX7_apply_X7_free : GoodIn wsX7_apply wsX7_free := goodIn_ca (goodIn_r _ [18, 14, 92, 93, 94, 95, 96, 97, 98, 99, 100, 101, 102, 103, 104, 105] (by decide +kernel) (by decide +kernel)) (goodIn_sub (fun _ h => List.mem_cons_of_mem _ (List.mem_append_right _ h)) (by decide +kernel))
set_option maxRecDepth 20000 in
theorem gX7_apply_X7_free : GoodIn wsX7_apply (wsV RX7 89 RX7 yX7_free wsX7_free) := goodIn_app (goodIn_of _ (by decide +kernel)) ggX7_apply_X7_free
set_option maxRecDepth 20000 in
theorem ggX7_apply_X7_take : GoodIn wsX7_apply wsX7_take := goodIn_ca (goodIn_r _ [22, 4, 23, 24, 25, 92, 93, 94, 95, 96, 97, 98, 99, 100, 101, 102, 103, 104, 105] (by decide +kernel) (by decide +kernel)) (goodIn_sub (fun _ h => List.mem_cons_of_mem _ (List.mem_append_right _ h)) (by decide +kernel))
set_option maxRecDepth 20000 in
theorem gX7_apply_X7_take : GoodIn wsX7_apply (wsV RX7 112 RX7 yX7_take wsX7_take) := goodIn_app (goodIn_of _ (by decide +kernel)) ggX7_apply_X7_take
set_option maxRecDepth 20000 in
theorem ggX7_apply_X7_times : GoodIn wsX7_apply wsX7_times := goodIn_ca (goodIn_r _ [29, 4, 24, 30, 31, 32, 33, 7, 34, 92, 93, 94, 95, 96, 97, 98, 99, 100, 101, 102, 103, 104, 105] (by decide +kernel) (by decide +kernel)) (goodIn_sub (fun _ h => List.mem_cons_of_mem _ (List.mem_append_right _ h)) (by decide +kernel))
set_option maxRecDepth 20000 in
theorem gX7_apply_X7_times : GoodIn wsX7_apply (wsV RX7 116 RX7 yX7_times wsX7_times) := goodIn_app (goodIn_of _ (by decide +kernel)) ggX7_apply_X7_times
set_option maxRecDepth 20000 in
theorem ggX7_apply_X7_keepLeast : GoodIn wsX7_apply wsX7_keepLeast := goodIn_ca (goodIn_r _ [38, 39, 40, 41, 7, 42, 4, 24, 43, 44, 45, 46, 47, 48, 49, 50, 51, 52, 53, 54, 30, 31, 32, 33, 34, 55, 56, 57, 58, 59, 60, 61, 62, 63, 64, 65, 66, 67, 68, 69, 70, 71, 72, 73, 74, 75, 76, 77, 78, 14, 3, 23, 25, 79, 80, 81, 82, 83, 15, 16, 17, 18, 92, 93, 94, 95, 96, 97, 98, 99, 100, 101, 102, 103, 104, 105] (by decide +kernel) (by decide +kernel)) (goodIn_sub (fun _ h => List.mem_cons_of_mem _ (List.mem_append_right _ h)) (by decide +kernel))
set_option maxRecDepth 20000 in
theorem gX7_apply_X7_keepLeast : GoodIn wsX7_apply (wsV RX7 119 RX7 yX7_keepLeast wsX7_keepLeast) := goodIn_app (goodIn_of _ (by decide +kernel)) ggX7_apply_X7_keepLeast
set_option maxRecDepth 20000 in
theorem ggX7_apply_X7_sum : GoodIn wsX7_apply wsX7_sum := goodIn_ca (goodIn_r _ [87, 88, 89, 90, 7, 91, 4, 24, 30, 31, 32, 33, 34, 55, 56, 57, 58, 59, 60, 61, 62, 39, 40, 41, 42, 92, 93, 94, 95, 96, 97, 98, 99, 100, 101, 102, 103, 104, 105] (by decide +kernel) (by decide +kernel)) (goodIn_sub (fun _ h => List.mem_cons_of_mem _ (List.mem_append_right _ h)) (by decide +kernel))
set_option maxRecDepth 20000 in
theorem gX7_apply_X7_sum : GoodIn wsX7_apply (wsV RX7 127 RX7 yX7_sum wsX7_sum) := goodIn_app (goodIn_of _ (by decide +kernel)) ggX7_apply_X7_sum
set_option maxRecDepth 20000 in
theorem ggX7_apply_X7_divide : GoodIn wsX7_apply wsX7_divide := goodIn_ca (goodIn_r _ [74, 4, 24, 67, 68, 69, 7, 70, 30, 31, 32, 33, 34, 55, 56, 57, 58, 59, 60, 61, 62, 92, 93, 94, 95, 96, 97, 98, 99, 100, 101, 102, 103, 104, 105] (by decide +kernel) (by decide +kernel)) (goodIn_sub (fun _ h => List.mem_cons_of_mem _ (List.mem_append_right _ h)) (by decide +kernel))
set_option maxRecDepth 20000 in
theorem gX7_apply_X7_divide : GoodIn wsX7_apply (wsV RX7 96 RX7 yX7_divide wsX7_divide) := goodIn_app (goodIn_of _ (by decide +kernel)) ggX7_apply_X7_divide
set_option maxRecDepth 20000 in
theorem ggX7_apply_X7_copy : GoodIn wsX7_apply wsX7_copy := goodIn_ca (goodIn_r _ [42, 4, 24, 92, 93, 94, 95, 96, 97, 98, 99, 100, 101, 102, 103, 104, 105] (by decide +kernel) (by decide +kernel)) (goodIn_sub (fun _ h => List.mem_cons_of_mem _ (List.mem_append_right _ h)) (by decide +kernel))
set_option maxRecDepth 20000 in
theorem gX7_apply_X7_copy : GoodIn wsX7_apply (wsV RX7 66 RX7 yX7_copy wsX7_copy) := goodIn_app (goodIn_of _ (by decide +kernel)) ggX7_apply_X7_copy
set_option maxRecDepth 20000 in
theorem ggX7_apply_X7_less : GoodIn wsX7_apply wsX7_less := goodIn_ca (goodIn_r _ [62, 4, 24, 30, 31, 32, 33, 7, 34, 92, 93, 94, 95, 96, 97, 98, 99, 100, 101, 102, 103, 104, 105] (by decide +kernel) (by decide +kernel)) (goodIn_sub (fun _ h => List.mem_cons_of_mem _ (List.mem_append_right _ h)) (by decide +kernel))
set_option maxRecDepth 20000 in
theorem gX7_apply_X7_less : GoodIn wsX7_apply (wsV RX7 62 RX7 yX7_less wsX7_less) := goodIn_app (goodIn_of _ (by decide +kernel)) ggX7_apply_X7_less
theorem dX7_apply_0 : decode cX7_apply 0 = .ok (.aload_n 0, 1) := by decide +kernel
theorem dX7_apply_1 : decode cX7_apply 1 = .ok (.iconst 0, 1) := by decide +kernel
theorem dX7_apply_2 : decode cX7_apply 2 = .ok (.putfield 43, 3) := by decide +kernel
theorem dX7_apply_5 : decode cX7_apply 5 = .ok (.iload_n 1, 1) := by decide +kernel
theorem dX7_apply_6 : decode cX7_apply 6 = .ok (.i2l, 1) := by decide +kernel
theorem dX7_apply_7 : decode cX7_apply 7 = .ok (.lconst 0, 1) := by decide +kernel
theorem dX7_apply_8 : decode cX7_apply 8 = .ok (.ldc2_w 125, 3) := by decide +kernel
theorem dX7_apply_11 : decode cX7_apply 11 = .ok (.invokestatic 81, 3) := by decide +kernel
theorem dX7_apply_14 : decode cX7_apply 14 = .ok (.ifCond .eq 19, 3) := by decide +kernel
theorem dX7_apply_17 : decode cX7_apply 17 = .ok (.aload_n 0, 1) := by decide +kernel
theorem dX7_apply_18 : decode cX7_apply 18 = .ok (.iload_n 2, 1) := by decide +kernel
theorem dX7_apply_19 : decode cX7_apply 19 = .ok (.invokevirtual 109, 3) := by decide +kernel
theorem dX7_apply_22 : decode cX7_apply 22 = .ok (.ifCond .eq 11, 3) := by decide +kernel
theorem dX7_apply_25 : decode cX7_apply 25 = .ok (.aload_n 0, 1) := by decide +kernel
theorem dX7_apply_26 : decode cX7_apply 26 = .ok (.iload_n 3, 1) := by decide +kernel
theorem dX7_apply_27 : decode cX7_apply 27 = .ok (.invokevirtual 109, 3) := by decide +kernel
theorem dX7_apply_30 : decode cX7_apply 30 = .ok (.ifCond .ne 5, 3) := by decide +kernel
theorem dX7_apply_33 : decode cX7_apply 33 = .ok (.iconst (-1), 1) := by decide +kernel
theorem dX7_apply_34 : decode cX7_apply 34 = .ok (.ireturn, 1) := by decide +kernel
theorem dX7_apply_35 : decode cX7_apply 35 = .ok (.iload_n 1, 1) := by decide +kernel
theorem dX7_apply_36 : decode cX7_apply 36 = .ok (.iconst 3, 1) := by decide +kernel
theorem dX7_apply_37 : decode cX7_apply 37 = .ok (.if_icmp .ne 19, 3) := by decide +kernel
theorem dX7_apply_40 : decode cX7_apply 40 = .ok (.aload_n 0, 1) := by decide +kernel
theorem dX7_apply_41 : decode cX7_apply 41 = .ok (.getfield 13, 3) := by decide +kernel
theorem dX7_apply_44 : decode cX7_apply 44 = .ok (.iload_n 3, 1) := by decide +kernel
theorem dX7_apply_45 : decode cX7_apply 45 = .ok (.iaload, 1) := by decide +kernel
theorem dX7_apply_46 : decode cX7_apply 46 = .ok (.ifCond .ne 10, 3) := by decide +kernel
theorem dX7_apply_49 : decode cX7_apply 49 = .ok (.aload_n 0, 1) := by decide +kernel
theorem dX7_apply_50 : decode cX7_apply 50 = .ok (.iconst 1, 1) := by decide +kernel
theorem dX7_apply_51 : decode cX7_apply 51 = .ok (.putfield 43, 3) := by decide +kernel
theorem dX7_apply_54 : decode cX7_apply 54 = .ok (.iconst 0, 1) := by decide +kernel
theorem dX7_apply_55 : decode cX7_apply 55 = .ok (.ireturn, 1) := by decide +kernel
theorem dX7_apply_56 : decode cX7_apply 56 = .ok (.aload_n 0, 1) := by decide +kernel
theorem dX7_apply_57 : decode cX7_apply 57 = .ok (.invokevirtual 89, 3) := by decide +kernel
theorem dX7_apply_60 : decode cX7_apply 60 = .ok (.bipush (-3), 2) := by decide +kernel
theorem dX7_apply_62 : decode cX7_apply 62 = .ok (.if_icmp .ne 6, 3) := by decide +kernel
theorem dX7_apply_65 : decode cX7_apply 65 = .ok (.bipush (-3), 2) := by decide +kernel
theorem dX7_apply_67 : decode cX7_apply 67 = .ok (.ireturn, 1) := by decide +kernel
theorem dX7_apply_68 : decode cX7_apply 68 = .ok (.aload_n 0, 1) := by decide +kernel
theorem dX7_apply_69 : decode cX7_apply 69 = .ok (.iconst 4, 1) := by decide +kernel
theorem dX7_apply_70 : decode cX7_apply 70 = .ok (.iload_n 2, 1) := by decide +kernel
theorem dX7_apply_71 : decode cX7_apply 71 = .ok (.iconst 1, 1) := by decide +kernel
theorem dX7_apply_72 : decode cX7_apply 72 = .ok (.invokevirtual 112, 3) := by decide +kernel
theorem dX7_apply_75 : decode cX7_apply 75 = .ok (.aload_n 0, 1) := by decide +kernel
theorem dX7_apply_76 : decode cX7_apply 76 = .ok (.iconst 5, 1) := by decide +kernel
theorem dX7_apply_77 : decode cX7_apply 77 = .ok (.iload_n 3, 1) := by decide +kernel
theorem dX7_apply_78 : decode cX7_apply 78 = .ok (.iconst 1, 1) := by decide +kernel
theorem dX7_apply_79 : decode cX7_apply 79 = .ok (.invokevirtual 112, 3) := by decide +kernel
theorem dX7_apply_82 : decode cX7_apply 82 = .ok (.aload_n 0, 1) := by decide +kernel
theorem dX7_apply_83 : decode cX7_apply 83 = .ok (.iconst 1, 1) := by decide +kernel
theorem dX7_apply_84 : decode cX7_apply 84 = .ok (.iconst 4, 1) := by decide +kernel
theorem dX7_apply_85 : decode cX7_apply 85 = .ok (.iconst 5, 1) := by decide +kernel
theorem dX7_apply_86 : decode cX7_apply 86 = .ok (.invokevirtual 116, 3) := by decide +kernel
theorem dX7_apply_89 : decode cX7_apply 89 = .ok (.iload_n 1, 1) := by decide +kernel
theorem dX7_apply_90 : decode cX7_apply 90 = .ok (.iconst 2, 1) := by decide +kernel
theorem dX7_apply_91 : decode cX7_apply 91 = .ok (.if_icmp .ne 42, 3) := by decide +kernel
theorem dX7_apply_94 : decode cX7_apply 94 = .ok (.aload_n 0, 1) := by decide +kernel
theorem dX7_apply_95 : decode cX7_apply 95 = .ok (.iconst 4, 1) := by decide +kernel
theorem dX7_apply_96 : decode cX7_apply 96 = .ok (.iload_n 2, 1) := by decide +kernel
theorem dX7_apply_97 : decode cX7_apply 97 = .ok (.iconst 0, 1) := by decide +kernel
theorem dX7_apply_98 : decode cX7_apply 98 = .ok (.invokevirtual 112, 3) := by decide +kernel
theorem dX7_apply_101 : decode cX7_apply 101 = .ok (.aload_n 0, 1) := by decide +kernel
theorem dX7_apply_102 : decode cX7_apply 102 = .ok (.iconst 5, 1) := by decide +kernel
theorem dX7_apply_103 : decode cX7_apply 103 = .ok (.iload_n 3, 1) := by decide +kernel
theorem dX7_apply_104 : decode cX7_apply 104 = .ok (.iconst 0, 1) := by decide +kernel
theorem dX7_apply_105 : decode cX7_apply 105 = .ok (.invokevirtual 112, 3) := by decide +kernel
theorem dX7_apply_108 : decode cX7_apply 108 = .ok (.aload_n 0, 1) := by decide +kernel
theorem dX7_apply_109 : decode cX7_apply 109 = .ok (.iconst 0, 1) := by decide +kernel
theorem dX7_apply_110 : decode cX7_apply 110 = .ok (.iconst 4, 1) := by decide +kernel
theorem dX7_apply_111 : decode cX7_apply 111 = .ok (.iconst 5, 1) := by decide +kernel
theorem dX7_apply_112 : decode cX7_apply 112 = .ok (.invokevirtual 116, 3) := by decide +kernel
theorem dX7_apply_115 : decode cX7_apply 115 = .ok (.aload_n 0, 1) := by decide +kernel
theorem dX7_apply_116 : decode cX7_apply 116 = .ok (.aload_n 0, 1) := by decide +kernel
theorem dX7_apply_117 : decode cX7_apply 117 = .ok (.getfield 13, 3) := by decide +kernel
theorem dX7_apply_120 : decode cX7_apply 120 = .ok (.iload_n 2, 1) := by decide +kernel
theorem dX7_apply_121 : decode cX7_apply 121 = .ok (.iaload, 1) := by decide +kernel
theorem dX7_apply_122 : decode cX7_apply 122 = .ok (.aload_n 0, 1) := by decide +kernel
theorem dX7_apply_123 : decode cX7_apply 123 = .ok (.getfield 13, 3) := by decide +kernel
theorem dX7_apply_126 : decode cX7_apply 126 = .ok (.iload_n 3, 1) := by decide +kernel
theorem dX7_apply_127 : decode cX7_apply 127 = .ok (.iaload, 1) := by decide +kernel
theorem dX7_apply_128 : decode cX7_apply 128 = .ok (.imul, 1) := by decide +kernel
theorem dX7_apply_129 : decode cX7_apply 129 = .ok (.invokevirtual 119, 3) := by decide +kernel
theorem dX7_apply_132 : decode cX7_apply 132 = .ok (.ireturn, 1) := by decide +kernel
theorem dX7_apply_133 : decode cX7_apply 133 = .ok (.aload_n 0, 1) := by decide +kernel
theorem dX7_apply_134 : decode cX7_apply 134 = .ok (.bipush 6, 2) := by decide +kernel
theorem dX7_apply_136 : decode cX7_apply 136 = .ok (.iload_n 2, 1) := by decide +kernel
theorem dX7_apply_137 : decode cX7_apply 137 = .ok (.iconst 0, 1) := by decide +kernel
theorem dX7_apply_138 : decode cX7_apply 138 = .ok (.invokevirtual 112, 3) := by decide +kernel
theorem dX7_apply_141 : decode cX7_apply 141 = .ok (.aload_n 0, 1) := by decide +kernel
theorem dX7_apply_142 : decode cX7_apply 142 = .ok (.iconst 0, 1) := by decide +kernel
theorem dX7_apply_143 : decode cX7_apply 143 = .ok (.bipush 6, 2) := by decide +kernel
theorem dX7_apply_145 : decode cX7_apply 145 = .ok (.iconst 5, 1) := by decide +kernel
theorem dX7_apply_146 : decode cX7_apply 146 = .ok (.invokevirtual 116, 3) := by decide +kernel
theorem dX7_apply_149 : decode cX7_apply 149 = .ok (.aload_n 0, 1) := by decide +kernel
theorem dX7_apply_150 : decode cX7_apply 150 = .ok (.bipush 6, 2) := by decide +kernel
theorem dX7_apply_152 : decode cX7_apply 152 = .ok (.iload_n 3, 1) := by decide +kernel
theorem dX7_apply_153 : decode cX7_apply 153 = .ok (.iconst 0, 1) := by decide +kernel
theorem dX7_apply_154 : decode cX7_apply 154 = .ok (.invokevirtual 112, 3) := by decide +kernel
theorem dX7_apply_157 : decode cX7_apply 157 = .ok (.aload_n 0, 1) := by decide +kernel
theorem dX7_apply_158 : decode cX7_apply 158 = .ok (.bipush 7, 2) := by decide +kernel
theorem dX7_apply_160 : decode cX7_apply 160 = .ok (.bipush 6, 2) := by decide +kernel
theorem dX7_apply_162 : decode cX7_apply 162 = .ok (.iconst 4, 1) := by decide +kernel
theorem dX7_apply_163 : decode cX7_apply 163 = .ok (.invokevirtual 116, 3) := by decide +kernel
theorem dX7_apply_166 : decode cX7_apply 166 = .ok (.aload_n 0, 1) := by decide +kernel
theorem dX7_apply_167 : decode cX7_apply 167 = .ok (.getfield 13, 3) := by decide +kernel
theorem dX7_apply_170 : decode cX7_apply 170 = .ok (.iload_n 2, 1) := by decide +kernel
theorem dX7_apply_171 : decode cX7_apply 171 = .ok (.iaload, 1) := by decide +kernel
theorem dX7_apply_172 : decode cX7_apply 172 = .ok (.istore 4, 2) := by decide +kernel
theorem dX7_apply_174 : decode cX7_apply 174 = .ok (.iload_n 1, 1) := by decide +kernel
theorem dX7_apply_175 : decode cX7_apply 175 = .ok (.iconst 2, 1) := by decide +kernel
theorem dX7_apply_176 : decode cX7_apply 176 = .ok (.if_icmp .ge 41, 3) := by decide +kernel
theorem dX7_apply_179 : decode cX7_apply 179 = .ok (.aload_n 0, 1) := by decide +kernel
theorem dX7_apply_180 : decode cX7_apply 180 = .ok (.iconst 0, 1) := by decide +kernel
theorem dX7_apply_181 : decode cX7_apply 181 = .ok (.iload 4, 2) := by decide +kernel
theorem dX7_apply_183 : decode cX7_apply 183 = .ok (.bipush 7, 2) := by decide +kernel
theorem dX7_apply_185 : decode cX7_apply 185 = .ok (.iload_n 1, 1) := by decide +kernel
theorem dX7_apply_186 : decode cX7_apply 186 = .ok (.ifCond .ne 12, 3) := by decide +kernel
theorem dX7_apply_189 : decode cX7_apply 189 = .ok (.aload_n 0, 1) := by decide +kernel
theorem dX7_apply_190 : decode cX7_apply 190 = .ok (.getfield 13, 3) := by decide +kernel
theorem dX7_apply_193 : decode cX7_apply 193 = .ok (.iload_n 3, 1) := by decide +kernel
theorem dX7_apply_194 : decode cX7_apply 194 = .ok (.iaload, 1) := by decide +kernel
theorem dX7_apply_195 : decode cX7_apply 195 = .ok (.goto 10, 3) := by decide +kernel
theorem dX7_apply_198 : decode cX7_apply 198 = .ok (.aload_n 0, 1) := by decide +kernel
theorem dX7_apply_199 : decode cX7_apply 199 = .ok (.getfield 13, 3) := by decide +kernel
theorem dX7_apply_202 : decode cX7_apply 202 = .ok (.iload_n 3, 1) := by decide +kernel
theorem dX7_apply_203 : decode cX7_apply 203 = .ok (.iaload, 1) := by decide +kernel
theorem dX7_apply_204 : decode cX7_apply 204 = .ok (.ineg, 1) := by decide +kernel
theorem dX7_apply_205 : decode cX7_apply 205 = .ok (.invokevirtual 127, 3) := by decide +kernel
theorem dX7_apply_208 : decode cX7_apply 208 = .ok (.istore 4, 2) := by decide +kernel
theorem dX7_apply_210 : decode cX7_apply 210 = .ok (.aload_n 0, 1) := by decide +kernel
theorem dX7_apply_211 : decode cX7_apply 211 = .ok (.iload 4, 2) := by decide +kernel
theorem dX7_apply_213 : decode cX7_apply 213 = .ok (.invokevirtual 119, 3) := by decide +kernel
theorem dX7_apply_216 : decode cX7_apply 216 = .ok (.ireturn, 1) := by decide +kernel
theorem dX7_apply_217 : decode cX7_apply 217 = .ok (.aload_n 0, 1) := by decide +kernel
theorem dX7_apply_218 : decode cX7_apply 218 = .ok (.bipush 8, 2) := by decide +kernel
theorem dX7_apply_220 : decode cX7_apply 220 = .ok (.bipush 9, 2) := by decide +kernel
theorem dX7_apply_222 : decode cX7_apply 222 = .ok (.iconst 0, 1) := by decide +kernel
theorem dX7_apply_223 : decode cX7_apply 223 = .ok (.bipush 7, 2) := by decide +kernel
theorem dX7_apply_225 : decode cX7_apply 225 = .ok (.invokevirtual 96, 3) := by decide +kernel
theorem dX7_apply_228 : decode cX7_apply 228 = .ok (.aload_n 0, 1) := by decide +kernel
theorem dX7_apply_229 : decode cX7_apply 229 = .ok (.getfield 33, 3) := by decide +kernel
theorem dX7_apply_232 : decode cX7_apply 232 = .ok (.bipush 9, 2) := by decide +kernel
theorem dX7_apply_234 : decode cX7_apply 234 = .ok (.iaload, 1) := by decide +kernel
theorem dX7_apply_235 : decode cX7_apply 235 = .ok (.ifCond .le 35, 3) := by decide +kernel
theorem dX7_apply_238 : decode cX7_apply 238 = .ok (.aload_n 0, 1) := by decide +kernel
theorem dX7_apply_239 : decode cX7_apply 239 = .ok (.getfield 13, 3) := by decide +kernel
theorem dX7_apply_242 : decode cX7_apply 242 = .ok (.iload_n 2, 1) := by decide +kernel
theorem dX7_apply_243 : decode cX7_apply 243 = .ok (.iaload, 1) := by decide +kernel
theorem dX7_apply_244 : decode cX7_apply 244 = .ok (.aload_n 0, 1) := by decide +kernel
theorem dX7_apply_245 : decode cX7_apply 245 = .ok (.getfield 13, 3) := by decide +kernel
theorem dX7_apply_248 : decode cX7_apply 248 = .ok (.iload_n 3, 1) := by decide +kernel
theorem dX7_apply_249 : decode cX7_apply 249 = .ok (.iaload, 1) := by decide +kernel
theorem dX7_apply_250 : decode cX7_apply 250 = .ok (.if_icmp .eq 20, 3) := by decide +kernel
theorem dX7_apply_253 : decode cX7_apply 253 = .ok (.aload_n 0, 1) := by decide +kernel
theorem dX7_apply_254 : decode cX7_apply 254 = .ok (.iconst 0, 1) := by decide +kernel
theorem dX7_apply_255 : decode cX7_apply 255 = .ok (.bipush 7, 2) := by decide +kernel
theorem dX7_apply_257 : decode cX7_apply 257 = .ok (.invokevirtual 66, 3) := by decide +kernel
theorem dX7_apply_260 : decode cX7_apply 260 = .ok (.aload_n 0, 1) := by decide +kernel
theorem dX7_apply_261 : decode cX7_apply 261 = .ok (.iconst 0, 1) := by decide +kernel
theorem dX7_apply_262 : decode cX7_apply 262 = .ok (.bipush 9, 2) := by decide +kernel
theorem dX7_apply_264 : decode cX7_apply 264 = .ok (.invokevirtual 62, 3) := by decide +kernel
theorem dX7_apply_267 : decode cX7_apply 267 = .ok (.goto 10, 3) := by decide +kernel
theorem dX7_apply_270 : decode cX7_apply 270 = .ok (.aload_n 0, 1) := by decide +kernel
theorem dX7_apply_271 : decode cX7_apply 271 = .ok (.iconst 0, 1) := by decide +kernel
theorem dX7_apply_272 : decode cX7_apply 272 = .ok (.bipush 9, 2) := by decide +kernel
theorem dX7_apply_274 : decode cX7_apply 274 = .ok (.invokevirtual 66, 3) := by decide +kernel
theorem dX7_apply_277 : decode cX7_apply 277 = .ok (.aload_n 0, 1) := by decide +kernel
theorem dX7_apply_278 : decode cX7_apply 278 = .ok (.aload_n 0, 1) := by decide +kernel
theorem dX7_apply_279 : decode cX7_apply 279 = .ok (.getfield 13, 3) := by decide +kernel
theorem dX7_apply_282 : decode cX7_apply 282 = .ok (.iload_n 3, 1) := by decide +kernel
theorem dX7_apply_283 : decode cX7_apply 283 = .ok (.iaload, 1) := by decide +kernel
theorem dX7_apply_284 : decode cX7_apply 284 = .ok (.invokevirtual 119, 3) := by decide +kernel
theorem dX7_apply_287 : decode cX7_apply 287 = .ok (.ireturn, 1) := by decide +kernel
set_option maxRecDepth 20000 in
theorem ggX7_power_X7_isNumber : GoodIn wsX7_power wsX7_isNumber := goodIn_ca (goodIn_r _ [9, 10, 11, 12, 13, 8, 14, 53, 54, 55, 56, 57, 58, 59, 60, 61, 62, 63, 64, 65, 66] (by decide +kernel) (by decide +kernel)) (goodIn_sub (fun _ h => List.mem_cons_of_mem _ (List.mem_append_right _ h)) (by decide +kernel))
set_option maxRecDepth 20000 in
theorem gX7_power_X7_isNumber : GoodIn wsX7_power (wsV RX7 109 RX7 yX7_isNumber wsX7_isNumber) := goodIn_app (goodIn_of _ (by decide +kernel)) ggX7_power_X7_isNumber
set_option maxRecDepth 20000 in
theorem ggX7_power_X7_in : GoodIn wsX7_power wsX7_in := goodIn_r _ [14] (by decide +kernel) (by decide +kernel)
set_option maxRecDepth 20000 in
theorem gX7_power_X7_in : GoodIn wsX7_power (va_wsS RX7 81 yX7_in wsX7_in) := goodIn_app (goodIn_of _ (by decide +kernel)) ggX7_power_X7_in
set_option maxRecDepth 20000 in
theorem ggX7_power_X7_free : GoodIn wsX7_power wsX7_free := goodIn_ca (goodIn_r _ [18, 11, 53, 54, 55, 56, 57, 58, 59, 60, 61, 62, 63, 64, 65, 66] (by decide +kernel) (by decide +kernel)) (goodIn_sub (fun _ h => List.mem_cons_of_mem _ (List.mem_append_right _ h)) (by decide +kernel))
set_option maxRecDepth 20000 in
theorem gX7_power_X7_free : GoodIn wsX7_power (wsV RX7 89 RX7 yX7_free wsX7_free) := goodIn_app (goodIn_of _ (by decide +kernel)) ggX7_power_X7_free
set_option maxRecDepth 20000 in
theorem ggX7_power_X7_take : GoodIn wsX7_power wsX7_take := goodIn_ca (goodIn_r _ [22, 23, 24, 25, 26, 53, 54, 55, 56, 57, 58, 59, 60, 61, 62, 63, 64, 65, 66] (by decide +kernel) (by decide +kernel)) (goodIn_sub (fun _ h => List.mem_cons_of_mem _ (List.mem_append_right _ h)) (by decide +kernel))
set_option maxRecDepth 20000 in
theorem gX7_power_X7_take : GoodIn wsX7_power (wsV RX7 112 RX7 yX7_take wsX7_take) := goodIn_app (goodIn_of _ (by decide +kernel)) ggX7_power_X7_take
set_option maxRecDepth 20000 in
theorem ggX7_power_X7_small : GoodIn wsX7_power wsX7_small := goodIn_ca (goodIn_r _ [30, 25, 31, 23, 32, 33, 34, 8, 35, 53, 54, 55, 56, 57, 58, 59, 60, 61, 62, 63, 64, 65, 66] (by decide +kernel) (by decide +kernel)) (goodIn_sub (fun _ h => List.mem_cons_of_mem _ (List.mem_append_right _ h)) (by decide +kernel))
set_option maxRecDepth 20000 in
theorem gX7_power_X7_small : GoodIn wsX7_power (wsV RX7 103 RX7 yX7_small wsX7_small) := goodIn_app (goodIn_of _ (by decide +kernel)) ggX7_power_X7_small
set_option maxRecDepth 20000 in
theorem ggX7_power_X7_times : GoodIn wsX7_power wsX7_times := goodIn_ca (goodIn_r _ [39, 23, 25, 31, 32, 33, 34, 8, 35, 53, 54, 55, 56, 57, 58, 59, 60, 61, 62, 63, 64, 65, 66] (by decide +kernel) (by decide +kernel)) (goodIn_sub (fun _ h => List.mem_cons_of_mem _ (List.mem_append_right _ h)) (by decide +kernel))
set_option maxRecDepth 20000 in
theorem gX7_power_X7_times : GoodIn wsX7_power (wsV RX7 116 RX7 yX7_times wsX7_times) := goodIn_app (goodIn_of _ (by decide +kernel)) ggX7_power_X7_times
set_option maxRecDepth 20000 in
theorem ggX7_power_X7_copy : GoodIn wsX7_power wsX7_copy := goodIn_ca (goodIn_r _ [43, 23, 25, 53, 54, 55, 56, 57, 58, 59, 60, 61, 62, 63, 64, 65, 66] (by decide +kernel) (by decide +kernel)) (goodIn_sub (fun _ h => List.mem_cons_of_mem _ (List.mem_append_right _ h)) (by decide +kernel))
set_option maxRecDepth 20000 in
theorem gX7_power_X7_copy : GoodIn wsX7_power (wsV RX7 66 RX7 yX7_copy wsX7_copy) := goodIn_app (goodIn_of _ (by decide +kernel)) ggX7_power_X7_copy
set_option maxRecDepth 20000 in
theorem ggX7_power_X7_bits : GoodIn wsX7_power wsX7_bits := goodIn_ca (goodIn_r _ [47, 23, 48, 25, 53, 54, 55, 56, 57, 58, 59, 60, 61, 62, 63, 64, 65, 66] (by decide +kernel) (by decide +kernel)) (goodIn_sub (fun _ h => List.mem_cons_of_mem _ (List.mem_append_right _ h)) (by decide +kernel))
set_option maxRecDepth 20000 in
theorem gX7_power_X7_bits : GoodIn wsX7_power (wsV RX7 85 RX7 yX7_bits wsX7_bits) := goodIn_app (goodIn_of _ (by decide +kernel)) ggX7_power_X7_bits
set_option maxRecDepth 20000 in
theorem ggX7_power_X7_keep : GoodIn wsX7_power wsX7_keep := goodIn_ca (goodIn_r _ [52, 11, 4, 23, 24, 26, 25, 44, 45, 46, 8, 47, 48, 15, 16, 17, 18, 53, 54, 55, 56, 57, 58, 59, 60, 61, 62, 63, 64, 65, 66] (by decide +kernel) (by decide +kernel)) (goodIn_sub (fun _ h => List.mem_cons_of_mem _ (List.mem_append_right _ h)) (by decide +kernel))
set_option maxRecDepth 20000 in
theorem gX7_power_X7_keep : GoodIn wsX7_power (wsV RX7 100 RX7 yX7_keep wsX7_keep) := goodIn_app (goodIn_of _ (by decide +kernel)) ggX7_power_X7_keep
theorem dX7_power_0 : decode cX7_power 0 = .ok (.aload_n 0, 1) := by decide +kernel
theorem dX7_power_1 : decode cX7_power 1 = .ok (.iconst 0, 1) := by decide +kernel
theorem dX7_power_2 : decode cX7_power 2 = .ok (.putfield 43, 3) := by decide +kernel
theorem dX7_power_5 : decode cX7_power 5 = .ok (.aload_n 0, 1) := by decide +kernel
theorem dX7_power_6 : decode cX7_power 6 = .ok (.iload_n 1, 1) := by decide +kernel
theorem dX7_power_7 : decode cX7_power 7 = .ok (.invokevirtual 109, 3) := by decide +kernel
theorem dX7_power_10 : decode cX7_power 10 = .ok (.ifCond .eq 17, 3) := by decide +kernel
theorem dX7_power_13 : decode cX7_power 13 = .ok (.iload_n 2, 1) := by decide +kernel
theorem dX7_power_14 : decode cX7_power 14 = .ok (.i2l, 1) := by decide +kernel
theorem dX7_power_15 : decode cX7_power 15 = .ok (.ldc2_w 131, 3) := by decide +kernel
theorem dX7_power_18 : decode cX7_power 18 = .ok (.ldc2_w 133, 3) := by decide +kernel
theorem dX7_power_21 : decode cX7_power 21 = .ok (.invokestatic 81, 3) := by decide +kernel
theorem dX7_power_24 : decode cX7_power 24 = .ok (.ifCond .ne 5, 3) := by decide +kernel
theorem dX7_power_27 : decode cX7_power 27 = .ok (.iconst (-1), 1) := by decide +kernel
theorem dX7_power_28 : decode cX7_power 28 = .ok (.ireturn, 1) := by decide +kernel
theorem dX7_power_29 : decode cX7_power 29 = .ok (.aload_n 0, 1) := by decide +kernel
theorem dX7_power_30 : decode cX7_power 30 = .ok (.getfield 13, 3) := by decide +kernel
theorem dX7_power_33 : decode cX7_power 33 = .ok (.iload_n 1, 1) := by decide +kernel
theorem dX7_power_34 : decode cX7_power 34 = .ok (.iaload, 1) := by decide +kernel
theorem dX7_power_35 : decode cX7_power 35 = .ok (.ifCond .ne 14, 3) := by decide +kernel
theorem dX7_power_38 : decode cX7_power 38 = .ok (.iload_n 2, 1) := by decide +kernel
theorem dX7_power_39 : decode cX7_power 39 = .ok (.ifCond .ge 10, 3) := by decide +kernel
theorem dX7_power_42 : decode cX7_power 42 = .ok (.aload_n 0, 1) := by decide +kernel
theorem dX7_power_43 : decode cX7_power 43 = .ok (.iconst 1, 1) := by decide +kernel
theorem dX7_power_44 : decode cX7_power 44 = .ok (.putfield 43, 3) := by decide +kernel
theorem dX7_power_47 : decode cX7_power 47 = .ok (.iconst 0, 1) := by decide +kernel
theorem dX7_power_48 : decode cX7_power 48 = .ok (.ireturn, 1) := by decide +kernel
theorem dX7_power_49 : decode cX7_power 49 = .ok (.aload_n 0, 1) := by decide +kernel
theorem dX7_power_50 : decode cX7_power 50 = .ok (.invokevirtual 89, 3) := by decide +kernel
theorem dX7_power_53 : decode cX7_power 53 = .ok (.bipush (-3), 2) := by decide +kernel
theorem dX7_power_55 : decode cX7_power 55 = .ok (.if_icmp .ne 6, 3) := by decide +kernel
theorem dX7_power_58 : decode cX7_power 58 = .ok (.bipush (-3), 2) := by decide +kernel
theorem dX7_power_60 : decode cX7_power 60 = .ok (.ireturn, 1) := by decide +kernel
theorem dX7_power_61 : decode cX7_power 61 = .ok (.aload_n 0, 1) := by decide +kernel
theorem dX7_power_62 : decode cX7_power 62 = .ok (.iconst 2, 1) := by decide +kernel
theorem dX7_power_63 : decode cX7_power 63 = .ok (.iload_n 1, 1) := by decide +kernel
theorem dX7_power_64 : decode cX7_power 64 = .ok (.iload_n 2, 1) := by decide +kernel
theorem dX7_power_65 : decode cX7_power 65 = .ok (.ifCond .ge 7, 3) := by decide +kernel
theorem dX7_power_68 : decode cX7_power 68 = .ok (.iconst 1, 1) := by decide +kernel
theorem dX7_power_69 : decode cX7_power 69 = .ok (.goto 4, 3) := by decide +kernel
theorem dX7_power_72 : decode cX7_power 72 = .ok (.iconst 0, 1) := by decide +kernel
theorem dX7_power_73 : decode cX7_power 73 = .ok (.invokevirtual 112, 3) := by decide +kernel
theorem dX7_power_76 : decode cX7_power 76 = .ok (.aload_n 0, 1) := by decide +kernel
theorem dX7_power_77 : decode cX7_power 77 = .ok (.iconst 3, 1) := by decide +kernel
theorem dX7_power_78 : decode cX7_power 78 = .ok (.iload_n 1, 1) := by decide +kernel
theorem dX7_power_79 : decode cX7_power 79 = .ok (.iload_n 2, 1) := by decide +kernel
theorem dX7_power_80 : decode cX7_power 80 = .ok (.ifCond .ge 7, 3) := by decide +kernel
theorem dX7_power_83 : decode cX7_power 83 = .ok (.iconst 0, 1) := by decide +kernel
theorem dX7_power_84 : decode cX7_power 84 = .ok (.goto 4, 3) := by decide +kernel
theorem dX7_power_87 : decode cX7_power 87 = .ok (.iconst 1, 1) := by decide +kernel
theorem dX7_power_88 : decode cX7_power 88 = .ok (.invokevirtual 112, 3) := by decide +kernel
theorem dX7_power_91 : decode cX7_power 91 = .ok (.aload_n 0, 1) := by decide +kernel
theorem dX7_power_92 : decode cX7_power 92 = .ok (.iconst 0, 1) := by decide +kernel
theorem dX7_power_93 : decode cX7_power 93 = .ok (.lconst 1, 1) := by decide +kernel
theorem dX7_power_94 : decode cX7_power 94 = .ok (.invokevirtual 103, 3) := by decide +kernel
theorem dX7_power_97 : decode cX7_power 97 = .ok (.aload_n 0, 1) := by decide +kernel
theorem dX7_power_98 : decode cX7_power 98 = .ok (.iconst 1, 1) := by decide +kernel
theorem dX7_power_99 : decode cX7_power 99 = .ok (.lconst 1, 1) := by decide +kernel
theorem dX7_power_100 : decode cX7_power 100 = .ok (.invokevirtual 103, 3) := by decide +kernel
theorem dX7_power_103 : decode cX7_power 103 = .ok (.iload_n 2, 1) := by decide +kernel
theorem dX7_power_104 : decode cX7_power 104 = .ok (.ifCond .ge 8, 3) := by decide +kernel
theorem dX7_power_107 : decode cX7_power 107 = .ok (.iload_n 2, 1) := by decide +kernel
theorem dX7_power_108 : decode cX7_power 108 = .ok (.ineg, 1) := by decide +kernel
theorem dX7_power_109 : decode cX7_power 109 = .ok (.goto 4, 3) := by decide +kernel
theorem dX7_power_112 : decode cX7_power 112 = .ok (.iload_n 2, 1) := by decide +kernel
theorem dX7_power_113 : decode cX7_power 113 = .ok (.istore_n 3, 1) := by decide +kernel
theorem dX7_power_114 : decode cX7_power 114 = .ok (.iconst 0, 1) := by decide +kernel
theorem dX7_power_115 : decode cX7_power 115 = .ok (.istore 4, 2) := by decide +kernel
theorem dX7_power_117 : decode cX7_power 117 = .ok (.iload 4, 2) := by decide +kernel
theorem dX7_power_119 : decode cX7_power 119 = .ok (.iload_n 3, 1) := by decide +kernel
theorem dX7_power_120 : decode cX7_power 120 = .ok (.if_icmp .ge 60, 3) := by decide +kernel
theorem dX7_power_123 : decode cX7_power 123 = .ok (.aload_n 0, 1) := by decide +kernel
theorem dX7_power_124 : decode cX7_power 124 = .ok (.iconst 4, 1) := by decide +kernel
theorem dX7_power_125 : decode cX7_power 125 = .ok (.iconst 0, 1) := by decide +kernel
theorem dX7_power_126 : decode cX7_power 126 = .ok (.iconst 2, 1) := by decide +kernel
theorem dX7_power_127 : decode cX7_power 127 = .ok (.invokevirtual 116, 3) := by decide +kernel
theorem dX7_power_130 : decode cX7_power 130 = .ok (.aload_n 0, 1) := by decide +kernel
theorem dX7_power_131 : decode cX7_power 131 = .ok (.iconst 0, 1) := by decide +kernel
theorem dX7_power_132 : decode cX7_power 132 = .ok (.iconst 4, 1) := by decide +kernel
theorem dX7_power_133 : decode cX7_power 133 = .ok (.invokevirtual 66, 3) := by decide +kernel
theorem dX7_power_136 : decode cX7_power 136 = .ok (.aload_n 0, 1) := by decide +kernel
theorem dX7_power_137 : decode cX7_power 137 = .ok (.iconst 4, 1) := by decide +kernel
theorem dX7_power_138 : decode cX7_power 138 = .ok (.iconst 1, 1) := by decide +kernel
theorem dX7_power_139 : decode cX7_power 139 = .ok (.iconst 3, 1) := by decide +kernel
theorem dX7_power_140 : decode cX7_power 140 = .ok (.invokevirtual 116, 3) := by decide +kernel
theorem dX7_power_143 : decode cX7_power 143 = .ok (.aload_n 0, 1) := by decide +kernel
theorem dX7_power_144 : decode cX7_power 144 = .ok (.iconst 1, 1) := by decide +kernel
theorem dX7_power_145 : decode cX7_power 145 = .ok (.iconst 4, 1) := by decide +kernel
theorem dX7_power_146 : decode cX7_power 146 = .ok (.invokevirtual 66, 3) := by decide +kernel
theorem dX7_power_149 : decode cX7_power 149 = .ok (.aload_n 0, 1) := by decide +kernel
theorem dX7_power_150 : decode cX7_power 150 = .ok (.iconst 0, 1) := by decide +kernel
theorem dX7_power_151 : decode cX7_power 151 = .ok (.invokevirtual 85, 3) := by decide +kernel
theorem dX7_power_154 : decode cX7_power 154 = .ok (.sipush 512, 3) := by decide +kernel
theorem dX7_power_157 : decode cX7_power 157 = .ok (.if_icmp .gt 14, 3) := by decide +kernel
theorem dX7_power_160 : decode cX7_power 160 = .ok (.aload_n 0, 1) := by decide +kernel
theorem dX7_power_161 : decode cX7_power 161 = .ok (.iconst 1, 1) := by decide +kernel
theorem dX7_power_162 : decode cX7_power 162 = .ok (.invokevirtual 85, 3) := by decide +kernel
theorem dX7_power_165 : decode cX7_power 165 = .ok (.sipush 512, 3) := by decide +kernel
theorem dX7_power_168 : decode cX7_power 168 = .ok (.if_icmp .le 6, 3) := by decide +kernel
theorem dX7_power_171 : decode cX7_power 171 = .ok (.bipush (-4), 2) := by decide +kernel
theorem dX7_power_173 : decode cX7_power 173 = .ok (.ireturn, 1) := by decide +kernel
theorem dX7_power_174 : decode cX7_power 174 = .ok (.iinc 4 1, 3) := by decide +kernel
theorem dX7_power_177 : decode cX7_power 177 = .ok (.goto (-60), 3) := by decide +kernel
theorem dX7_power_180 : decode cX7_power 180 = .ok (.aload_n 0, 1) := by decide +kernel
theorem dX7_power_181 : decode cX7_power 181 = .ok (.aload_n 0, 1) := by decide +kernel
theorem dX7_power_182 : decode cX7_power 182 = .ok (.getfield 13, 3) := by decide +kernel
theorem dX7_power_185 : decode cX7_power 185 = .ok (.iload_n 1, 1) := by decide +kernel
theorem dX7_power_186 : decode cX7_power 186 = .ok (.iaload, 1) := by decide +kernel
theorem dX7_power_187 : decode cX7_power 187 = .ok (.ifCond .ge 14, 3) := by decide +kernel
theorem dX7_power_190 : decode cX7_power 190 = .ok (.iload_n 3, 1) := by decide +kernel
theorem dX7_power_191 : decode cX7_power 191 = .ok (.iconst 2, 1) := by decide +kernel
theorem dX7_power_192 : decode cX7_power 192 = .ok (.irem, 1) := by decide +kernel
theorem dX7_power_193 : decode cX7_power 193 = .ok (.iconst 1, 1) := by decide +kernel
theorem dX7_power_194 : decode cX7_power 194 = .ok (.if_icmp .ne 7, 3) := by decide +kernel
theorem dX7_power_197 : decode cX7_power 197 = .ok (.iconst (-1), 1) := by decide +kernel
theorem dX7_power_198 : decode cX7_power 198 = .ok (.goto 4, 3) := by decide +kernel
theorem dX7_power_201 : decode cX7_power 201 = .ok (.iconst 1, 1) := by decide +kernel
theorem dX7_power_202 : decode cX7_power 202 = .ok (.invokevirtual 100, 3) := by decide +kernel
theorem dX7_power_205 : decode cX7_power 205 = .ok (.ireturn, 1) := by decide +kernel
set_option maxRecDepth 20000 in
theorem ggX7_floor_X7_take : GoodIn wsX7_floor wsX7_take := goodIn_ca (goodIn_r _ [7, 2, 8, 9, 10, 44, 45, 46, 47, 48, 49, 50, 51, 52, 53, 54, 55, 56, 57] (by decide +kernel) (by decide +kernel)) (goodIn_sub (fun _ h => List.mem_cons_of_mem _ (List.mem_append_right _ h)) (by decide +kernel))
set_option maxRecDepth 20000 in
theorem gX7_floor_X7_take : GoodIn wsX7_floor (wsV RX7 112 RX7 yX7_take wsX7_take) := goodIn_app (goodIn_of _ (by decide +kernel)) ggX7_floor_X7_take
set_option maxRecDepth 20000 in
theorem ggX7_floor_X7_divide : GoodIn wsX7_floor wsX7_divide := goodIn_ca (goodIn_r _ [14, 2, 9, 15, 16, 17, 6, 18, 19, 20, 21, 22, 23, 24, 25, 26, 27, 28, 29, 30, 31, 44, 45, 46, 47, 48, 49, 50, 51, 52, 53, 54, 55, 56, 57] (by decide +kernel) (by decide +kernel)) (goodIn_sub (fun _ h => List.mem_cons_of_mem _ (List.mem_append_right _ h)) (by decide +kernel))
set_option maxRecDepth 20000 in
theorem gX7_floor_X7_divide : GoodIn wsX7_floor (wsV RX7 96 RX7 yX7_divide wsX7_divide) := goodIn_app (goodIn_of _ (by decide +kernel)) ggX7_floor_X7_divide
set_option maxRecDepth 20000 in
theorem ggX7_floor_X7_small : GoodIn wsX7_floor wsX7_small := goodIn_ca (goodIn_r _ [35, 9, 19, 2, 20, 21, 22, 6, 23, 44, 45, 46, 47, 48, 49, 50, 51, 52, 53, 54, 55, 56, 57] (by decide +kernel) (by decide +kernel)) (goodIn_sub (fun _ h => List.mem_cons_of_mem _ (List.mem_append_right _ h)) (by decide +kernel))
set_option maxRecDepth 20000 in
theorem gX7_floor_X7_small : GoodIn wsX7_floor (wsV RX7 103 RX7 yX7_small wsX7_small) := goodIn_app (goodIn_of _ (by decide +kernel)) ggX7_floor_X7_small
set_option maxRecDepth 20000 in
theorem ggX7_floor_X7_add : GoodIn wsX7_floor wsX7_add := goodIn_ca (goodIn_r _ [39, 2, 9, 19, 20, 21, 22, 6, 23, 44, 45, 46, 47, 48, 49, 50, 51, 52, 53, 54, 55, 56, 57] (by decide +kernel) (by decide +kernel)) (goodIn_sub (fun _ h => List.mem_cons_of_mem _ (List.mem_append_right _ h)) (by decide +kernel))
set_option maxRecDepth 20000 in
theorem gX7_floor_X7_add : GoodIn wsX7_floor (wsV RX7 122 RX7 yX7_add wsX7_add) := goodIn_app (goodIn_of _ (by decide +kernel)) ggX7_floor_X7_add
set_option maxRecDepth 20000 in
theorem ggX7_floor_X7_copy : GoodIn wsX7_floor wsX7_copy := goodIn_ca (goodIn_r _ [43, 2, 9, 44, 45, 46, 47, 48, 49, 50, 51, 52, 53, 54, 55, 56, 57] (by decide +kernel) (by decide +kernel)) (goodIn_sub (fun _ h => List.mem_cons_of_mem _ (List.mem_append_right _ h)) (by decide +kernel))
set_option maxRecDepth 20000 in
theorem gX7_floor_X7_copy : GoodIn wsX7_floor (wsV RX7 66 RX7 yX7_copy wsX7_copy) := goodIn_app (goodIn_of _ (by decide +kernel)) ggX7_floor_X7_copy
set_option maxRecDepth 20000 in
theorem ggX7_floor_X7_less : GoodIn wsX7_floor wsX7_less := goodIn_ca (goodIn_r _ [31, 2, 9, 19, 20, 21, 22, 6, 23, 44, 45, 46, 47, 48, 49, 50, 51, 52, 53, 54, 55, 56, 57] (by decide +kernel) (by decide +kernel)) (goodIn_sub (fun _ h => List.mem_cons_of_mem _ (List.mem_append_right _ h)) (by decide +kernel))
set_option maxRecDepth 20000 in
theorem gX7_floor_X7_less : GoodIn wsX7_floor (wsV RX7 62 RX7 yX7_less wsX7_less) := goodIn_app (goodIn_of _ (by decide +kernel)) ggX7_floor_X7_less
theorem dX7_floor_0 : decode cX7_floor 0 = .ok (.aload_n 0, 1) := by decide +kernel
theorem dX7_floor_1 : decode cX7_floor 1 = .ok (.bipush 13, 2) := by decide +kernel
theorem dX7_floor_3 : decode cX7_floor 3 = .ok (.iload_n 1, 1) := by decide +kernel
theorem dX7_floor_4 : decode cX7_floor 4 = .ok (.iconst 0, 1) := by decide +kernel
theorem dX7_floor_5 : decode cX7_floor 5 = .ok (.invokevirtual 112, 3) := by decide +kernel
theorem dX7_floor_8 : decode cX7_floor 8 = .ok (.aload_n 0, 1) := by decide +kernel
theorem dX7_floor_9 : decode cX7_floor 9 = .ok (.bipush 11, 2) := by decide +kernel
theorem dX7_floor_11 : decode cX7_floor 11 = .ok (.iload_n 1, 1) := by decide +kernel
theorem dX7_floor_12 : decode cX7_floor 12 = .ok (.iconst 1, 1) := by decide +kernel
theorem dX7_floor_13 : decode cX7_floor 13 = .ok (.invokevirtual 112, 3) := by decide +kernel
theorem dX7_floor_16 : decode cX7_floor 16 = .ok (.aload_n 0, 1) := by decide +kernel
theorem dX7_floor_17 : decode cX7_floor 17 = .ok (.bipush 10, 2) := by decide +kernel
theorem dX7_floor_19 : decode cX7_floor 19 = .ok (.bipush 12, 2) := by decide +kernel
theorem dX7_floor_21 : decode cX7_floor 21 = .ok (.bipush 13, 2) := by decide +kernel
theorem dX7_floor_23 : decode cX7_floor 23 = .ok (.bipush 11, 2) := by decide +kernel
theorem dX7_floor_25 : decode cX7_floor 25 = .ok (.invokevirtual 96, 3) := by decide +kernel
theorem dX7_floor_28 : decode cX7_floor 28 = .ok (.aload_n 0, 1) := by decide +kernel
theorem dX7_floor_29 : decode cX7_floor 29 = .ok (.getfield 13, 3) := by decide +kernel
theorem dX7_floor_32 : decode cX7_floor 32 = .ok (.iload_n 1, 1) := by decide +kernel
theorem dX7_floor_33 : decode cX7_floor 33 = .ok (.iaload, 1) := by decide +kernel
theorem dX7_floor_34 : decode cX7_floor 34 = .ok (.ifCond .ge 52, 3) := by decide +kernel
theorem dX7_floor_37 : decode cX7_floor 37 = .ok (.aload_n 0, 1) := by decide +kernel
theorem dX7_floor_38 : decode cX7_floor 38 = .ok (.getfield 33, 3) := by decide +kernel
theorem dX7_floor_41 : decode cX7_floor 41 = .ok (.bipush 12, 2) := by decide +kernel
theorem dX7_floor_43 : decode cX7_floor 43 = .ok (.iaload, 1) := by decide +kernel
theorem dX7_floor_44 : decode cX7_floor 44 = .ok (.ifCond .le 42, 3) := by decide +kernel
theorem dX7_floor_47 : decode cX7_floor 47 = .ok (.aload_n 0, 1) := by decide +kernel
theorem dX7_floor_48 : decode cX7_floor 48 = .ok (.bipush 14, 2) := by decide +kernel
theorem dX7_floor_50 : decode cX7_floor 50 = .ok (.lconst 1, 1) := by decide +kernel
theorem dX7_floor_51 : decode cX7_floor 51 = .ok (.invokevirtual 103, 3) := by decide +kernel
theorem dX7_floor_54 : decode cX7_floor 54 = .ok (.aload_n 0, 1) := by decide +kernel
theorem dX7_floor_55 : decode cX7_floor 55 = .ok (.bipush 10, 2) := by decide +kernel
theorem dX7_floor_57 : decode cX7_floor 57 = .ok (.bipush 14, 2) := by decide +kernel
theorem dX7_floor_59 : decode cX7_floor 59 = .ok (.invokevirtual 122, 3) := by decide +kernel
theorem dX7_floor_62 : decode cX7_floor 62 = .ok (.aload_n 0, 1) := by decide +kernel
theorem dX7_floor_63 : decode cX7_floor 63 = .ok (.bipush 14, 2) := by decide +kernel
theorem dX7_floor_65 : decode cX7_floor 65 = .ok (.bipush 11, 2) := by decide +kernel
theorem dX7_floor_67 : decode cX7_floor 67 = .ok (.invokevirtual 66, 3) := by decide +kernel
theorem dX7_floor_70 : decode cX7_floor 70 = .ok (.aload_n 0, 1) := by decide +kernel
theorem dX7_floor_71 : decode cX7_floor 71 = .ok (.bipush 14, 2) := by decide +kernel
theorem dX7_floor_73 : decode cX7_floor 73 = .ok (.bipush 12, 2) := by decide +kernel
theorem dX7_floor_75 : decode cX7_floor 75 = .ok (.invokevirtual 62, 3) := by decide +kernel
theorem dX7_floor_78 : decode cX7_floor 78 = .ok (.aload_n 0, 1) := by decide +kernel
theorem dX7_floor_79 : decode cX7_floor 79 = .ok (.bipush 12, 2) := by decide +kernel
theorem dX7_floor_81 : decode cX7_floor 81 = .ok (.bipush 14, 2) := by decide +kernel
theorem dX7_floor_83 : decode cX7_floor 83 = .ok (.invokevirtual 66, 3) := by decide +kernel
theorem dX7_floor_86 : decode cX7_floor 86 = .ok (.aload_n 0, 1) := by decide +kernel
theorem dX7_floor_87 : decode cX7_floor 87 = .ok (.getfield 13, 3) := by decide +kernel
theorem dX7_floor_90 : decode cX7_floor 90 = .ok (.iload_n 1, 1) := by decide +kernel
theorem dX7_floor_91 : decode cX7_floor 91 = .ok (.iaload, 1) := by decide +kernel
theorem dX7_floor_92 : decode cX7_floor 92 = .ok (.ifCond .ge 7, 3) := by decide +kernel
theorem dX7_floor_95 : decode cX7_floor 95 = .ok (.iconst (-1), 1) := by decide +kernel
theorem dX7_floor_96 : decode cX7_floor 96 = .ok (.goto 4, 3) := by decide +kernel
theorem dX7_floor_99 : decode cX7_floor 99 = .ok (.iconst 1, 1) := by decide +kernel
theorem dX7_floor_100 : decode cX7_floor 100 = .ok (.ireturn, 1) := by decide +kernel
set_option maxRecDepth 20000 in
theorem ggX7_near_X7_isNumber : GoodIn wsX7_near wsX7_isNumber := goodIn_ca (goodIn_r _ [9, 10, 11, 12, 13, 8, 14, 80, 81, 82, 83, 84, 85, 86, 87, 88, 89, 90, 91, 92, 93] (by decide +kernel) (by decide +kernel)) (goodIn_sub (fun _ h => List.mem_cons_of_mem _ (List.mem_append_right _ h)) (by decide +kernel))
set_option maxRecDepth 20000 in
theorem gX7_near_X7_isNumber : GoodIn wsX7_near (wsV RX7 109 RX7 yX7_isNumber wsX7_isNumber) := goodIn_app (goodIn_of _ (by decide +kernel)) ggX7_near_X7_isNumber
set_option maxRecDepth 20000 in
theorem ggX7_near_X7_in : GoodIn wsX7_near wsX7_in := goodIn_r _ [14] (by decide +kernel) (by decide +kernel)
set_option maxRecDepth 20000 in
theorem gX7_near_X7_in : GoodIn wsX7_near (va_wsS RX7 81 yX7_in wsX7_in) := goodIn_app (goodIn_of _ (by decide +kernel)) ggX7_near_X7_in
set_option maxRecDepth 20000 in
theorem ggX7_near_X7_free : GoodIn wsX7_near wsX7_free := goodIn_ca (goodIn_r _ [18, 11, 80, 81, 82, 83, 84, 85, 86, 87, 88, 89, 90, 91, 92, 93] (by decide +kernel) (by decide +kernel)) (goodIn_sub (fun _ h => List.mem_cons_of_mem _ (List.mem_append_right _ h)) (by decide +kernel))
set_option maxRecDepth 20000 in
theorem gX7_near_X7_free : GoodIn wsX7_near (wsV RX7 89 RX7 yX7_free wsX7_free) := goodIn_app (goodIn_of _ (by decide +kernel)) ggX7_near_X7_free
set_option maxRecDepth 20000 in
theorem ggX7_near_X7_floor : GoodIn wsX7_near wsX7_floor := goodIn_ca (goodIn_r _ [22, 4, 3, 23, 24, 25, 8, 26, 27, 28, 29, 30, 31, 32, 33, 34, 35, 36, 37, 38, 39, 40, 41, 42, 43, 44, 45, 46, 47, 48, 49, 50, 51, 52, 53, 54, 55, 56, 57, 58, 59, 60, 61, 62, 80, 81, 82, 83, 84, 85, 86, 87, 88, 89, 90, 91, 92, 93] (by decide +kernel) (by decide +kernel)) (goodIn_sub (fun _ h => List.mem_cons_of_mem _ (List.mem_append_right _ h)) (by decide +kernel))
set_option maxRecDepth 20000 in
theorem gX7_near_X7_floor : GoodIn wsX7_near (wsV RX7 135 RX7 yX7_floor wsX7_floor) := goodIn_app (goodIn_of _ (by decide +kernel)) ggX7_near_X7_floor
set_option maxRecDepth 20000 in
theorem ggX7_near_X7_twice : GoodIn wsX7_near wsX7_twice := goodIn_ca (goodIn_r _ [37, 3, 28, 38, 39, 40, 41, 8, 42, 80, 81, 82, 83, 84, 85, 86, 87, 88, 89, 90, 91, 92, 93] (by decide +kernel) (by decide +kernel)) (goodIn_sub (fun _ h => List.mem_cons_of_mem _ (List.mem_append_right _ h)) (by decide +kernel))
set_option maxRecDepth 20000 in
theorem gX7_near_X7_twice : GoodIn wsX7_near (wsV RX7 54 RX7 yX7_twice wsX7_twice) := goodIn_app (goodIn_of _ (by decide +kernel)) ggX7_near_X7_twice
set_option maxRecDepth 20000 in
theorem ggX7_near_X7_compared : GoodIn wsX7_near wsX7_compared := goodIn_ca (goodIn_r _ [46, 3, 28, 80, 81, 82, 83, 84, 85, 86, 87, 88, 89, 90, 91, 92, 93] (by decide +kernel) (by decide +kernel)) (goodIn_sub (fun _ h => List.mem_cons_of_mem _ (List.mem_append_right _ h)) (by decide +kernel))
set_option maxRecDepth 20000 in
theorem gX7_near_X7_compared : GoodIn wsX7_near (wsV RX7 58 RX7 yX7_compared wsX7_compared) := goodIn_app (goodIn_of _ (by decide +kernel)) ggX7_near_X7_compared
set_option maxRecDepth 20000 in
theorem ggX7_near_X7_isOdd : GoodIn wsX7_near wsX7_isOdd := goodIn_ca (goodIn_r _ [66, 3, 28, 80, 81, 82, 83, 84, 85, 86, 87, 88, 89, 90, 91, 92, 93] (by decide +kernel) (by decide +kernel)) (goodIn_sub (fun _ h => List.mem_cons_of_mem _ (List.mem_append_right _ h)) (by decide +kernel))
set_option maxRecDepth 20000 in
theorem gX7_near_X7_isOdd : GoodIn wsX7_near (wsV RX7 69 RX7 yX7_isOdd wsX7_isOdd) := goodIn_app (goodIn_of _ (by decide +kernel)) ggX7_near_X7_isOdd
set_option maxRecDepth 20000 in
theorem ggX7_near_X7_small : GoodIn wsX7_near wsX7_small := goodIn_ca (goodIn_r _ [54, 28, 38, 3, 39, 40, 41, 8, 42, 80, 81, 82, 83, 84, 85, 86, 87, 88, 89, 90, 91, 92, 93] (by decide +kernel) (by decide +kernel)) (goodIn_sub (fun _ h => List.mem_cons_of_mem _ (List.mem_append_right _ h)) (by decide +kernel))
set_option maxRecDepth 20000 in
theorem gX7_near_X7_small : GoodIn wsX7_near (wsV RX7 103 RX7 yX7_small wsX7_small) := goodIn_app (goodIn_of _ (by decide +kernel)) ggX7_near_X7_small
set_option maxRecDepth 20000 in
theorem ggX7_near_X7_less : GoodIn wsX7_near wsX7_less := goodIn_ca (goodIn_r _ [50, 3, 28, 38, 39, 40, 41, 8, 42, 80, 81, 82, 83, 84, 85, 86, 87, 88, 89, 90, 91, 92, 93] (by decide +kernel) (by decide +kernel)) (goodIn_sub (fun _ h => List.mem_cons_of_mem _ (List.mem_append_right _ h)) (by decide +kernel))
set_option maxRecDepth 20000 in
theorem gX7_near_X7_less : GoodIn wsX7_near (wsV RX7 62 RX7 yX7_less wsX7_less) := goodIn_app (goodIn_of _ (by decide +kernel)) ggX7_near_X7_less
set_option maxRecDepth 20000 in
theorem ggX7_near_X7_add : GoodIn wsX7_near wsX7_add := goodIn_ca (goodIn_r _ [58, 3, 28, 38, 39, 40, 41, 8, 42, 80, 81, 82, 83, 84, 85, 86, 87, 88, 89, 90, 91, 92, 93] (by decide +kernel) (by decide +kernel)) (goodIn_sub (fun _ h => List.mem_cons_of_mem _ (List.mem_append_right _ h)) (by decide +kernel))
set_option maxRecDepth 20000 in
theorem gX7_near_X7_add : GoodIn wsX7_near (wsV RX7 122 RX7 yX7_add wsX7_add) := goodIn_app (goodIn_of _ (by decide +kernel)) ggX7_near_X7_add
set_option maxRecDepth 20000 in
theorem ggX7_near_X7_keepWhole : GoodIn wsX7_near wsX7_keepWhole := goodIn_ca (goodIn_r _ [70, 59, 60, 61, 8, 62, 3, 28, 51, 52, 53, 54, 38, 39, 40, 41, 42, 71, 72, 73, 74, 11, 4, 27, 29, 75, 76, 77, 78, 79, 15, 16, 17, 18, 80, 81, 82, 83, 84, 85, 86, 87, 88, 89, 90, 91, 92, 93] (by decide +kernel) (by decide +kernel)) (goodIn_sub (fun _ h => List.mem_cons_of_mem _ (List.mem_append_right _ h)) (by decide +kernel))
set_option maxRecDepth 20000 in
theorem gX7_near_X7_keepWhole : GoodIn wsX7_near (wsV RX7 106 RX7 yX7_keepWhole wsX7_keepWhole) := goodIn_app (goodIn_of _ (by decide +kernel)) ggX7_near_X7_keepWhole
theorem dX7_near_0 : decode cX7_near 0 = .ok (.aload_n 0, 1) := by decide +kernel
theorem dX7_near_1 : decode cX7_near 1 = .ok (.iconst 0, 1) := by decide +kernel
theorem dX7_near_2 : decode cX7_near 2 = .ok (.putfield 43, 3) := by decide +kernel
theorem dX7_near_5 : decode cX7_near 5 = .ok (.aload_n 0, 1) := by decide +kernel
theorem dX7_near_6 : decode cX7_near 6 = .ok (.iload_n 1, 1) := by decide +kernel
theorem dX7_near_7 : decode cX7_near 7 = .ok (.invokevirtual 109, 3) := by decide +kernel
theorem dX7_near_10 : decode cX7_near 10 = .ok (.ifCond .eq 15, 3) := by decide +kernel
theorem dX7_near_13 : decode cX7_near 13 = .ok (.iload_n 2, 1) := by decide +kernel
theorem dX7_near_14 : decode cX7_near 14 = .ok (.i2l, 1) := by decide +kernel
theorem dX7_near_15 : decode cX7_near 15 = .ok (.lconst 0, 1) := by decide +kernel
theorem dX7_near_16 : decode cX7_near 16 = .ok (.ldc2_w 125, 3) := by decide +kernel
theorem dX7_near_19 : decode cX7_near 19 = .ok (.invokestatic 81, 3) := by decide +kernel
theorem dX7_near_22 : decode cX7_near 22 = .ok (.ifCond .ne 5, 3) := by decide +kernel
theorem dX7_near_25 : decode cX7_near 25 = .ok (.iconst (-1), 1) := by decide +kernel
theorem dX7_near_26 : decode cX7_near 26 = .ok (.ireturn, 1) := by decide +kernel
theorem dX7_near_27 : decode cX7_near 27 = .ok (.aload_n 0, 1) := by decide +kernel
theorem dX7_near_28 : decode cX7_near 28 = .ok (.invokevirtual 89, 3) := by decide +kernel
theorem dX7_near_31 : decode cX7_near 31 = .ok (.bipush (-3), 2) := by decide +kernel
theorem dX7_near_33 : decode cX7_near 33 = .ok (.if_icmp .ne 6, 3) := by decide +kernel
theorem dX7_near_36 : decode cX7_near 36 = .ok (.bipush (-3), 2) := by decide +kernel
theorem dX7_near_38 : decode cX7_near 38 = .ok (.ireturn, 1) := by decide +kernel
theorem dX7_near_39 : decode cX7_near 39 = .ok (.aload_n 0, 1) := by decide +kernel
theorem dX7_near_40 : decode cX7_near 40 = .ok (.iload_n 1, 1) := by decide +kernel
theorem dX7_near_41 : decode cX7_near 41 = .ok (.invokevirtual 135, 3) := by decide +kernel
