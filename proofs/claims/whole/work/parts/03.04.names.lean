theorem dX6_apply_42 : decode cX6_apply 42 = .ok (.getfield 90, 3) := by decide +kernel
theorem dX6_apply_45 : decode cX6_apply 45 = .ok (.ifCond .ne 13, 3) := by decide +kernel
theorem dX6_apply_48 : decode cX6_apply 48 = .ok (.new 93, 3) := by decide +kernel
theorem dX6_apply_51 : decode cX6_apply 51 = .ok (.dup, 1) := by decide +kernel
theorem dX6_apply_52 : decode cX6_apply 52 = .ok (.ldc 102, 2) := by decide +kernel
theorem dX6_apply_54 : decode cX6_apply 54 = .ok (.invokespecial 97, 3) := by decide +kernel
theorem dX6_apply_57 : decode cX6_apply 57 = .ok (.athrow, 1) := by decide +kernel
theorem dX6_apply_58 : decode cX6_apply 58 = .ok (.aload_n 0, 1) := by decide +kernel
theorem dX6_apply_59 : decode cX6_apply 59 = .ok (.invokevirtual 54, 3) := by decide +kernel
theorem dX6_apply_62 : decode cX6_apply 62 = .ok (.ifCond .eq 6, 3) := by decide +kernel
theorem dX6_apply_65 : decode cX6_apply 65 = .ok (.bipush (-3), 2) := by decide +kernel
theorem dX6_apply_67 : decode cX6_apply 67 = .ok (.ireturn, 1) := by decide +kernel
theorem dX6_apply_68 : decode cX6_apply 68 = .ok (.iload_n 1, 1) := by decide +kernel
theorem dX6_apply_69 : decode cX6_apply 69 = .ok (.tableswitch 80 0 2 #[27, 46, 66], 27) := by decide +kernel
theorem dX6_apply_96 : decode cX6_apply 96 = .ok (.aload_n 0, 1) := by decide +kernel
theorem dX6_apply_97 : decode cX6_apply 97 = .ok (.getfield 29, 3) := by decide +kernel
theorem dX6_apply_100 : decode cX6_apply 100 = .ok (.aload 4, 2) := by decide +kernel
theorem dX6_apply_102 : decode cX6_apply 102 = .ok (.aload 5, 2) := by decide +kernel
theorem dX6_apply_104 : decode cX6_apply 104 = .ok (.aload 5, 2) := by decide +kernel
theorem dX6_apply_106 : decode cX6_apply 106 = .ok (.getfield 90, 3) := by decide +kernel
theorem dX6_apply_109 : decode cX6_apply 109 = .ok (.invokevirtual 104, 3) := by decide +kernel
theorem dX6_apply_112 : decode cX6_apply 112 = .ok (.goto 48, 3) := by decide +kernel
theorem dX6_apply_115 : decode cX6_apply 115 = .ok (.aload_n 0, 1) := by decide +kernel
theorem dX6_apply_116 : decode cX6_apply 116 = .ok (.getfield 29, 3) := by decide +kernel
theorem dX6_apply_119 : decode cX6_apply 119 = .ok (.aload 4, 2) := by decide +kernel
theorem dX6_apply_121 : decode cX6_apply 121 = .ok (.aload 5, 2) := by decide +kernel
theorem dX6_apply_123 : decode cX6_apply 123 = .ok (.aload 5, 2) := by decide +kernel
theorem dX6_apply_125 : decode cX6_apply 125 = .ok (.getfield 90, 3) := by decide +kernel
theorem dX6_apply_128 : decode cX6_apply 128 = .ok (.ineg, 1) := by decide +kernel
theorem dX6_apply_129 : decode cX6_apply 129 = .ok (.invokevirtual 104, 3) := by decide +kernel
theorem dX6_apply_132 : decode cX6_apply 132 = .ok (.goto 28, 3) := by decide +kernel
theorem dX6_apply_135 : decode cX6_apply 135 = .ok (.aload_n 0, 1) := by decide +kernel
theorem dX6_apply_136 : decode cX6_apply 136 = .ok (.getfield 29, 3) := by decide +kernel
theorem dX6_apply_139 : decode cX6_apply 139 = .ok (.aload 4, 2) := by decide +kernel
theorem dX6_apply_141 : decode cX6_apply 141 = .ok (.aload 5, 2) := by decide +kernel
theorem dX6_apply_143 : decode cX6_apply 143 = .ok (.invokevirtual 108, 3) := by decide +kernel
theorem dX6_apply_146 : decode cX6_apply 146 = .ok (.goto 14, 3) := by decide +kernel
theorem dX6_apply_149 : decode cX6_apply 149 = .ok (.aload_n 0, 1) := by decide +kernel
theorem dX6_apply_150 : decode cX6_apply 150 = .ok (.getfield 29, 3) := by decide +kernel
theorem dX6_apply_153 : decode cX6_apply 153 = .ok (.aload 4, 2) := by decide +kernel
theorem dX6_apply_155 : decode cX6_apply 155 = .ok (.aload 5, 2) := by decide +kernel
theorem dX6_apply_157 : decode cX6_apply 157 = .ok (.invokevirtual 111, 3) := by decide +kernel
theorem dX6_apply_160 : decode cX6_apply 160 = .ok (.aload_n 0, 1) := by decide +kernel
theorem dX6_apply_161 : decode cX6_apply 161 = .ok (.invokevirtual 66, 3) := by decide +kernel
theorem dX6_apply_164 : decode cX6_apply 164 = .ok (.ireturn, 1) := by decide +kernel
set_option maxRecDepth 20000 in
theorem ggX6_power_X6_find : GoodIn wsX6_power wsX6_find := goodIn_ca (goodIn_r _ [8, 9, 10, 170, 171, 172, 173, 174, 175, 176] (by decide +kernel) (by decide +kernel)) (goodIn_sub (fun _ h => List.mem_cons_of_mem _ (List.mem_append_left _ (List.mem_append_right _ h))) (by decide +kernel))
set_option maxRecDepth 20000 in
theorem gX6_power_X6_find : GoodIn wsX6_power (wsV RX6 86 RX6 yX6_find wsX6_find) := goodIn_app (goodIn_of _ (by decide +kernel)) ggX6_power_X6_find
set_option maxRecDepth 20000 in
theorem ggX6_power_X6_isFull : GoodIn wsX6_power wsX6_isFull := goodIn_r _ [14, 15, 170, 171, 172, 173, 174, 175, 176] (by decide +kernel) (by decide +kernel)
set_option maxRecDepth 20000 in
theorem gX6_power_X6_isFull : GoodIn wsX6_power (wsV RX6 54 RX6 yX6_isFull wsX6_isFull) := goodIn_app (goodIn_of _ (by decide +kernel)) ggX6_power_X6_isFull
set_option maxRecDepth 20000 in
theorem ggX6_power_X0_powerOf : GoodIn wsX6_power wsX0_powerOf := goodIn_ca (goodIn_r _ [20, 21, 22, 23, 24, 25, 26, 27, 28, 19, 29, 30, 31, 32, 33, 34, 35, 36, 37, 38, 39, 40, 41, 42, 43, 44, 45, 46, 47, 48, 49, 50, 51, 52, 53, 54, 55, 56, 57, 58, 59, 60, 61, 62, 63, 64, 65, 66, 67, 68, 69, 70, 71, 72, 73, 74, 75, 76, 77, 78, 79, 80, 81, 82, 83, 84, 85, 86, 87, 88, 89, 90, 91, 92, 93, 177, 178, 179, 180, 181, 167, 168, 169, 182, 183] (by decide +kernel) (by decide +kernel)) (goodIn_sub (fun _ h => List.mem_cons_of_mem _ (List.mem_append_left _ (List.mem_append_right _ h))) (by decide +kernel))
set_option maxRecDepth 20000 in
theorem gX6_power_X0_powerOf : GoodIn wsX6_power (wsV RX6 116 RX0 yX0_powerOf wsX0_powerOf) := goodIn_app (goodIn_of _ (by decide +kernel)) ggX6_power_X0_powerOf
set_option maxRecDepth 20000 in
theorem ggX6_power_X6_keep : GoodIn wsX6_power wsX6_keep := goodIn_ca (goodIn_ca (goodIn_r _ [97, 3, 9, 10, 15, 98, 99, 100, 19, 101, 25, 102, 103, 104, 33, 105, 50, 106, 107, 108, 109, 110, 111, 112, 113, 114, 31, 32, 34, 35, 36, 37, 38, 39, 40, 41, 42, 43, 44, 45, 23, 46, 47, 48, 49, 115, 116, 117, 118, 60, 61, 62, 63, 64, 119, 120, 121, 122, 123, 124, 125, 86, 87, 88, 89, 90, 91, 92, 93, 126, 127, 128, 129, 74, 75, 76, 77, 130, 131, 132, 133, 65, 66, 67, 68, 69, 134, 135, 136, 137, 138, 139, 140, 141, 142, 143, 144, 145, 146, 147, 148, 149, 150, 151, 152, 153, 154, 155, 156, 55, 157, 158, 159, 160, 161, 57, 58, 59, 162, 163, 164, 165, 166, 170, 171, 172, 173, 174, 175, 176, 177, 178, 179, 180, 181, 167, 168, 169, 182, 183] (by decide +kernel) (by decide +kernel)) (goodIn_sub (fun _ h => List.mem_cons_of_mem _ (List.mem_append_left _ (List.mem_append_right _ h))) (by decide +kernel))) (goodIn_sub (fun _ h => List.mem_cons_of_mem _ (List.mem_append_right _ h)) (by decide +kernel))
set_option maxRecDepth 20000 in
theorem gX6_power_X6_keep : GoodIn wsX6_power (wsV RX6 66 RX6 yX6_keep wsX6_keep) := goodIn_app (goodIn_of _ (by decide +kernel)) ggX6_power_X6_keep
theorem dX6_power_0 : decode cX6_power 0 = .ok (.aload_n 0, 1) := by decide +kernel
theorem dX6_power_1 : decode cX6_power 1 = .ok (.iload_n 1, 1) := by decide +kernel
theorem dX6_power_2 : decode cX6_power 2 = .ok (.invokevirtual 86, 3) := by decide +kernel
theorem dX6_power_5 : decode cX6_power 5 = .ok (.astore_n 3, 1) := by decide +kernel
theorem dX6_power_6 : decode cX6_power 6 = .ok (.aload_n 3, 1) := by decide +kernel
theorem dX6_power_7 : decode cX6_power 7 = .ok (.ifnull 17, 3) := by decide +kernel
theorem dX6_power_10 : decode cX6_power 10 = .ok (.iload_n 2, 1) := by decide +kernel
theorem dX6_power_11 : decode cX6_power 11 = .ok (.sipush (-512), 3) := by decide +kernel
theorem dX6_power_14 : decode cX6_power 14 = .ok (.if_icmp .lt 10, 3) := by decide +kernel
theorem dX6_power_17 : decode cX6_power 17 = .ok (.iload_n 2, 1) := by decide +kernel
theorem dX6_power_18 : decode cX6_power 18 = .ok (.sipush 512, 3) := by decide +kernel
theorem dX6_power_21 : decode cX6_power 21 = .ok (.if_icmp .le 5, 3) := by decide +kernel
theorem dX6_power_24 : decode cX6_power 24 = .ok (.iconst (-1), 1) := by decide +kernel
theorem dX6_power_25 : decode cX6_power 25 = .ok (.ireturn, 1) := by decide +kernel
theorem dX6_power_26 : decode cX6_power 26 = .ok (.iload_n 2, 1) := by decide +kernel
theorem dX6_power_27 : decode cX6_power 27 = .ok (.ifCond .ge 20, 3) := by decide +kernel
theorem dX6_power_30 : decode cX6_power 30 = .ok (.aload_n 3, 1) := by decide +kernel
theorem dX6_power_31 : decode cX6_power 31 = .ok (.getfield 90, 3) := by decide +kernel
theorem dX6_power_34 : decode cX6_power 34 = .ok (.ifCond .ne 13, 3) := by decide +kernel
theorem dX6_power_37 : decode cX6_power 37 = .ok (.new 93, 3) := by decide +kernel
theorem dX6_power_40 : decode cX6_power 40 = .ok (.dup, 1) := by decide +kernel
theorem dX6_power_41 : decode cX6_power 41 = .ok (.ldc 114, 2) := by decide +kernel
theorem dX6_power_43 : decode cX6_power 43 = .ok (.invokespecial 97, 3) := by decide +kernel
theorem dX6_power_46 : decode cX6_power 46 = .ok (.athrow, 1) := by decide +kernel
theorem dX6_power_47 : decode cX6_power 47 = .ok (.aload_n 0, 1) := by decide +kernel
theorem dX6_power_48 : decode cX6_power 48 = .ok (.invokevirtual 54, 3) := by decide +kernel
theorem dX6_power_51 : decode cX6_power 51 = .ok (.ifCond .eq 6, 3) := by decide +kernel
theorem dX6_power_54 : decode cX6_power 54 = .ok (.bipush (-3), 2) := by decide +kernel
theorem dX6_power_56 : decode cX6_power 56 = .ok (.ireturn, 1) := by decide +kernel
theorem dX6_power_57 : decode cX6_power 57 = .ok (.aload_n 0, 1) := by decide +kernel
theorem dX6_power_58 : decode cX6_power 58 = .ok (.getfield 29, 3) := by decide +kernel
theorem dX6_power_61 : decode cX6_power 61 = .ok (.aload_n 3, 1) := by decide +kernel
theorem dX6_power_62 : decode cX6_power 62 = .ok (.iload_n 2, 1) := by decide +kernel
theorem dX6_power_63 : decode cX6_power 63 = .ok (.invokevirtual 116, 3) := by decide +kernel
theorem dX6_power_66 : decode cX6_power 66 = .ok (.aload_n 0, 1) := by decide +kernel
theorem dX6_power_67 : decode cX6_power 67 = .ok (.invokevirtual 66, 3) := by decide +kernel
theorem dX6_power_70 : decode cX6_power 70 = .ok (.ireturn, 1) := by decide +kernel
set_option maxRecDepth 20000 in
theorem ggX6_near_X6_find : GoodIn wsX6_near wsX6_find := goodIn_ca (goodIn_r _ [6, 7, 8, 157, 158, 159, 160, 161, 162, 163] (by decide +kernel) (by decide +kernel)) (goodIn_sub (fun _ h => List.mem_cons_of_mem _ (List.mem_append_left _ (List.mem_append_right _ h))) (by decide +kernel))
set_option maxRecDepth 20000 in
theorem gX6_near_X6_find : GoodIn wsX6_near (wsV RX6 86 RX6 yX6_find wsX6_find) := goodIn_app (goodIn_of _ (by decide +kernel)) ggX6_near_X6_find
set_option maxRecDepth 20000 in
theorem ggX6_near_X6_isFull : GoodIn wsX6_near wsX6_isFull := goodIn_r _ [12, 13, 157, 158, 159, 160, 161, 162, 163] (by decide +kernel) (by decide +kernel)
set_option maxRecDepth 20000 in
theorem gX6_near_X6_isFull : GoodIn wsX6_near (wsV RX6 54 RX6 yX6_isFull wsX6_isFull) := goodIn_app (goodIn_of _ (by decide +kernel)) ggX6_near_X6_isFull
set_option maxRecDepth 20000 in
theorem ggX6_near_X0_wholeNear : GoodIn wsX6_near wsX0_wholeNear := goodIn_ca (goodIn_ca (goodIn_r _ [18, 19, 20, 21, 22, 23, 24, 25, 26, 27, 28, 29, 30, 31, 32, 33, 34, 35, 36, 37, 38, 39, 40, 41, 42, 43, 44, 45, 46, 47, 48, 49, 50, 51, 52, 53, 54, 55, 56, 57, 58, 59, 60, 61, 62, 63, 64, 65, 66, 67, 68, 69, 70, 71, 72, 73, 74, 75, 76, 77, 78, 79, 80, 81, 82, 83, 84, 85, 86, 87, 88, 89, 90, 91, 92, 93, 94, 95, 96, 97, 17, 98, 99, 100, 101, 102, 103, 104, 105, 106, 107, 108, 109, 110, 111, 164, 165, 166, 167, 168, 169, 170, 171, 172, 173] (by decide +kernel) (by decide +kernel)) (goodIn_sub (fun _ h => List.mem_cons_of_mem _ (List.mem_append_left _ (List.mem_append_right _ h))) (by decide +kernel))) (goodIn_sub (fun _ h => List.mem_cons_of_mem _ (List.mem_append_right _ h)) (by decide +kernel))
set_option maxRecDepth 20000 in
theorem gX6_near_X0_wholeNear : GoodIn wsX6_near (wsV RX6 120 RX0 yX0_wholeNear wsX0_wholeNear) := goodIn_app (goodIn_of _ (by decide +kernel)) ggX6_near_X0_wholeNear
set_option maxRecDepth 20000 in
theorem ggX6_near_X6_keep : GoodIn wsX6_near wsX6_keep := goodIn_ca (goodIn_ca (goodIn_r _ [115, 1, 7, 8, 13, 116, 117, 118, 17, 119, 20, 88, 89, 90, 24, 91, 26, 120, 121, 122, 123, 124, 125, 126, 127, 128, 109, 110, 111, 84, 85, 86, 87, 27, 36, 37, 38, 39, 28, 29, 30, 31, 40, 41, 42, 129, 130, 131, 132, 56, 57, 58, 59, 47, 133, 134, 135, 136, 137, 138, 139, 21, 22, 23, 25, 32, 33, 34, 35, 43, 44, 45, 46, 48, 49, 50, 51, 52, 53, 54, 55, 60, 61, 62, 63, 64, 65, 66, 67, 68, 69, 70, 71, 72, 73, 74, 75, 76, 77, 78, 79, 80, 81, 82, 83, 140, 141, 142, 143, 19, 144, 145, 146, 147, 148, 149, 150, 151, 152, 153, 154, 155, 156, 157, 158, 159, 160, 161, 162, 163, 164, 165, 166, 167, 168, 169, 170, 171, 172, 173] (by decide +kernel) (by decide +kernel)) (goodIn_sub (fun _ h => List.mem_cons_of_mem _ (List.mem_append_left _ (List.mem_append_right _ h))) (by decide +kernel))) (goodIn_sub (fun _ h => List.mem_cons_of_mem _ (List.mem_append_right _ h)) (by decide +kernel))
set_option maxRecDepth 20000 in
theorem gX6_near_X6_keep : GoodIn wsX6_near (wsV RX6 66 RX6 yX6_keep wsX6_keep) := goodIn_app (goodIn_of _ (by decide +kernel)) ggX6_near_X6_keep
theorem dX6_near_0 : decode cX6_near 0 = .ok (.aload_n 0, 1) := by decide +kernel
theorem dX6_near_1 : decode cX6_near 1 = .ok (.iload_n 1, 1) := by decide +kernel
theorem dX6_near_2 : decode cX6_near 2 = .ok (.invokevirtual 86, 3) := by decide +kernel
theorem dX6_near_5 : decode cX6_near 5 = .ok (.astore_n 3, 1) := by decide +kernel
theorem dX6_near_6 : decode cX6_near 6 = .ok (.aload_n 3, 1) := by decide +kernel
theorem dX6_near_7 : decode cX6_near 7 = .ok (.ifnull 12, 3) := by decide +kernel
theorem dX6_near_10 : decode cX6_near 10 = .ok (.iload_n 2, 1) := by decide +kernel
theorem dX6_near_11 : decode cX6_near 11 = .ok (.ifCond .lt 8, 3) := by decide +kernel
theorem dX6_near_14 : decode cX6_near 14 = .ok (.iload_n 2, 1) := by decide +kernel
theorem dX6_near_15 : decode cX6_near 15 = .ok (.iconst 3, 1) := by decide +kernel
theorem dX6_near_16 : decode cX6_near 16 = .ok (.if_icmp .le 5, 3) := by decide +kernel
theorem dX6_near_19 : decode cX6_near 19 = .ok (.iconst (-1), 1) := by decide +kernel
theorem dX6_near_20 : decode cX6_near 20 = .ok (.ireturn, 1) := by decide +kernel
theorem dX6_near_21 : decode cX6_near 21 = .ok (.aload_n 0, 1) := by decide +kernel
theorem dX6_near_22 : decode cX6_near 22 = .ok (.invokevirtual 54, 3) := by decide +kernel
theorem dX6_near_25 : decode cX6_near 25 = .ok (.ifCond .eq 6, 3) := by decide +kernel
theorem dX6_near_28 : decode cX6_near 28 = .ok (.bipush (-3), 2) := by decide +kernel
theorem dX6_near_30 : decode cX6_near 30 = .ok (.ireturn, 1) := by decide +kernel
theorem dX6_near_31 : decode cX6_near 31 = .ok (.aload_n 0, 1) := by decide +kernel
theorem dX6_near_32 : decode cX6_near 32 = .ok (.getfield 29, 3) := by decide +kernel
theorem dX6_near_35 : decode cX6_near 35 = .ok (.aload_n 3, 1) := by decide +kernel
theorem dX6_near_36 : decode cX6_near 36 = .ok (.iload_n 2, 1) := by decide +kernel
theorem dX6_near_37 : decode cX6_near 37 = .ok (.invokevirtual 120, 3) := by decide +kernel
theorem dX6_near_40 : decode cX6_near 40 = .ok (.aload_n 0, 1) := by decide +kernel
theorem dX6_near_41 : decode cX6_near 41 = .ok (.invokevirtual 66, 3) := by decide +kernel
theorem dX6_near_44 : decode cX6_near 44 = .ok (.ireturn, 1) := by decide +kernel
set_option maxRecDepth 20000 in
theorem ggX6_common_X6_find : GoodIn wsX6_common wsX6_find := goodIn_ca (goodIn_r _ [6, 7, 8, 146, 147, 148, 149, 150, 151, 152] (by decide +kernel) (by decide +kernel)) (goodIn_sub (fun _ h => List.mem_cons_of_mem _ (List.mem_append_left _ (List.mem_append_right _ h))) (by decide +kernel))
set_option maxRecDepth 20000 in
theorem gX6_common_X6_find : GoodIn wsX6_common (wsV RX6 86 RX6 yX6_find wsX6_find) := goodIn_app (goodIn_of _ (by decide +kernel)) ggX6_common_X6_find
set_option maxRecDepth 20000 in
theorem ggX6_common_X2_isWhole : GoodIn wsX6_common wsX2_isWhole := goodIn_ca (goodIn_r _ [13, 14, 15, 16, 17, 18, 19, 20, 21, 22, 23, 24, 25, 26, 158, 159, 160, 161, 162] (by decide +kernel) (by decide +kernel)) (goodIn_sub (fun _ h => List.mem_cons_of_mem _ (List.mem_append_left _ (List.mem_append_right _ h))) (by decide +kernel))
set_option maxRecDepth 20000 in
theorem gX6_common_X2_isWhole : GoodIn wsX6_common (wsV RX6 123 RX2 yX2_isWhole wsX2_isWhole) := goodIn_app (goodIn_of _ (by decide +kernel)) ggX6_common_X2_isWhole
set_option maxRecDepth 20000 in
theorem ggX6_common_X6_isFull : GoodIn wsX6_common wsX6_isFull := goodIn_r _ [30, 31, 146, 147, 148, 149, 150, 151, 152] (by decide +kernel) (by decide +kernel)
set_option maxRecDepth 20000 in
theorem gX6_common_X6_isFull : GoodIn wsX6_common (wsV RX6 54 RX6 yX6_isFull wsX6_isFull) := goodIn_app (goodIn_of _ (by decide +kernel)) ggX6_common_X6_isFull
set_option maxRecDepth 20000 in
theorem ggX6_common_X0_greatestDivisor : GoodIn wsX6_common wsX0_greatestDivisor := goodIn_ca (goodIn_ca (goodIn_r _ [36, 37, 38, 39, 40, 41, 42, 18, 43, 20, 25, 44, 45, 46, 47, 48, 49, 50, 51, 52, 53, 54, 55, 56, 57, 58, 59, 60, 61, 62, 63, 64, 65, 66, 26, 67, 68, 69, 70, 71, 72, 73, 74, 21, 22, 23, 24, 75, 76, 77, 78, 79, 80, 81, 82, 83, 84, 85, 86, 87, 88, 89, 90, 91, 92, 93, 94, 95, 96, 97, 98, 99, 100, 101, 102, 153, 154, 155, 156, 157, 161, 162] (by decide +kernel) (by decide +kernel)) (goodIn_sub (fun _ h => List.mem_cons_of_mem _ (List.mem_append_left _ (List.mem_append_right _ h))) (by decide +kernel))) (goodIn_sub (fun _ h => List.mem_cons_of_mem _ (List.mem_append_right _ h)) (by decide +kernel))
set_option maxRecDepth 20000 in
theorem gX6_common_X0_greatestDivisor : GoodIn wsX6_common (wsV RX6 126 RX0 yX0_greatestDivisor wsX0_greatestDivisor) := goodIn_app (goodIn_of _ (by decide +kernel)) ggX6_common_X0_greatestDivisor
set_option maxRecDepth 20000 in
theorem ggX6_common_X2_becomeWhole : GoodIn wsX6_common wsX2_becomeWhole := goodIn_ca (goodIn_r _ [106, 107, 108, 14, 109, 41, 42, 18, 43, 20, 25, 44, 45, 46, 47, 48, 49, 50, 51, 52, 53, 54, 55, 56, 57, 58, 110, 111, 112, 113, 99, 100, 101, 102, 158, 159, 160, 161, 162] (by decide +kernel) (by decide +kernel)) (goodIn_sub (fun _ h => List.mem_cons_of_mem _ (List.mem_append_left _ (List.mem_append_right _ h))) (by decide +kernel))
set_option maxRecDepth 20000 in
theorem gX6_common_X2_becomeWhole : GoodIn wsX6_common (wsV RX6 130 RX2 yX2_becomeWhole wsX2_becomeWhole) := goodIn_app (goodIn_of _ (by decide +kernel)) ggX6_common_X2_becomeWhole
set_option maxRecDepth 20000 in
theorem ggX6_common_X6_keep : GoodIn wsX6_common wsX6_keep := goodIn_ca (goodIn_ca (goodIn_r _ [117, 1, 7, 8, 31, 118, 119, 120, 35, 121, 122, 59, 60, 61, 18, 62, 20, 123, 124, 125, 12, 126, 107, 108, 14, 110, 111, 112, 113, 99, 100, 101, 102, 25, 52, 53, 54, 55, 44, 45, 46, 47, 56, 57, 58, 127, 16, 17, 19, 21, 22, 23, 24, 26, 128, 33, 34, 36, 37, 38, 39, 40, 41, 42, 43, 48, 49, 50, 51, 63, 64, 65, 66, 67, 68, 69, 70, 71, 72, 73, 74, 75, 76, 77, 78, 79, 80, 81, 82, 83, 84, 85, 86, 87, 88, 89, 90, 91, 92, 93, 94, 95, 96, 97, 98, 129, 130, 131, 132, 133, 134, 135, 136, 137, 138, 139, 140, 141, 142, 143, 144, 145, 109, 146, 147, 148, 149, 150, 151, 152, 153, 154, 155, 156, 157, 158, 159, 160, 161, 162] (by decide +kernel) (by decide +kernel)) (goodIn_sub (fun _ h => List.mem_cons_of_mem _ (List.mem_append_left _ (List.mem_append_right _ h))) (by decide +kernel))) (goodIn_sub (fun _ h => List.mem_cons_of_mem _ (List.mem_append_right _ h)) (by decide +kernel))
set_option maxRecDepth 20000 in
theorem gX6_common_X6_keep : GoodIn wsX6_common (wsV RX6 66 RX6 yX6_keep wsX6_keep) := goodIn_app (goodIn_of _ (by decide +kernel)) ggX6_common_X6_keep
theorem dX6_common_0 : decode cX6_common 0 = .ok (.aload_n 0, 1) := by decide +kernel
theorem dX6_common_1 : decode cX6_common 1 = .ok (.iload_n 1, 1) := by decide +kernel
theorem dX6_common_2 : decode cX6_common 2 = .ok (.invokevirtual 86, 3) := by decide +kernel
theorem dX6_common_5 : decode cX6_common 5 = .ok (.astore_n 3, 1) := by decide +kernel
theorem dX6_common_6 : decode cX6_common 6 = .ok (.aload_n 0, 1) := by decide +kernel
theorem dX6_common_7 : decode cX6_common 7 = .ok (.iload_n 2, 1) := by decide +kernel
theorem dX6_common_8 : decode cX6_common 8 = .ok (.invokevirtual 86, 3) := by decide +kernel
theorem dX6_common_11 : decode cX6_common 11 = .ok (.astore 4, 2) := by decide +kernel
theorem dX6_common_13 : decode cX6_common 13 = .ok (.aload_n 3, 1) := by decide +kernel
theorem dX6_common_14 : decode cX6_common 14 = .ok (.ifnull 8, 3) := by decide +kernel
theorem dX6_common_17 : decode cX6_common 17 = .ok (.aload 4, 2) := by decide +kernel
theorem dX6_common_19 : decode cX6_common 19 = .ok (.ifnonnull 5, 3) := by decide +kernel
theorem dX6_common_22 : decode cX6_common 22 = .ok (.iconst (-1), 1) := by decide +kernel
theorem dX6_common_23 : decode cX6_common 23 = .ok (.ireturn, 1) := by decide +kernel
theorem dX6_common_24 : decode cX6_common 24 = .ok (.aload_n 3, 1) := by decide +kernel
theorem dX6_common_25 : decode cX6_common 25 = .ok (.invokevirtual 123, 3) := by decide +kernel
theorem dX6_common_28 : decode cX6_common 28 = .ok (.ifCond .eq 11, 3) := by decide +kernel
theorem dX6_common_31 : decode cX6_common 31 = .ok (.aload 4, 2) := by decide +kernel
theorem dX6_common_33 : decode cX6_common 33 = .ok (.invokevirtual 123, 3) := by decide +kernel
theorem dX6_common_36 : decode cX6_common 36 = .ok (.ifCond .ne 6, 3) := by decide +kernel
theorem dX6_common_39 : decode cX6_common 39 = .ok (.bipush (-2), 2) := by decide +kernel
theorem dX6_common_41 : decode cX6_common 41 = .ok (.ireturn, 1) := by decide +kernel
theorem dX6_common_42 : decode cX6_common 42 = .ok (.aload_n 0, 1) := by decide +kernel
theorem dX6_common_43 : decode cX6_common 43 = .ok (.invokevirtual 54, 3) := by decide +kernel
theorem dX6_common_46 : decode cX6_common 46 = .ok (.ifCond .eq 6, 3) := by decide +kernel
theorem dX6_common_49 : decode cX6_common 49 = .ok (.bipush (-3), 2) := by decide +kernel
theorem dX6_common_51 : decode cX6_common 51 = .ok (.ireturn, 1) := by decide +kernel
theorem dX6_common_52 : decode cX6_common 52 = .ok (.aload_n 0, 1) := by decide +kernel
theorem dX6_common_53 : decode cX6_common 53 = .ok (.getfield 29, 3) := by decide +kernel
theorem dX6_common_56 : decode cX6_common 56 = .ok (.getfield 58, 3) := by decide +kernel
theorem dX6_common_59 : decode cX6_common 59 = .ok (.iconst 1, 1) := by decide +kernel
theorem dX6_common_60 : decode cX6_common 60 = .ok (.aload_n 0, 1) := by decide +kernel
theorem dX6_common_61 : decode cX6_common 61 = .ok (.getfield 29, 3) := by decide +kernel
theorem dX6_common_64 : decode cX6_common 64 = .ok (.aload_n 3, 1) := by decide +kernel
theorem dX6_common_65 : decode cX6_common 65 = .ok (.getfield 77, 3) := by decide +kernel
theorem dX6_common_68 : decode cX6_common 68 = .ok (.aload 4, 2) := by decide +kernel
theorem dX6_common_70 : decode cX6_common 70 = .ok (.getfield 77, 3) := by decide +kernel
theorem dX6_common_73 : decode cX6_common 73 = .ok (.invokevirtual 126, 3) := by decide +kernel
theorem dX6_common_76 : decode cX6_common 76 = .ok (.invokevirtual 130, 3) := by decide +kernel
theorem dX6_common_79 : decode cX6_common 79 = .ok (.aload_n 0, 1) := by decide +kernel
theorem dX6_common_80 : decode cX6_common 80 = .ok (.invokevirtual 66, 3) := by decide +kernel
theorem dX6_common_83 : decode cX6_common 83 = .ok (.ireturn, 1) := by decide +kernel
set_option maxRecDepth 20000 in
theorem ggX6_drop_X6_find : GoodIn wsX6_drop wsX6_find := goodIn_ca (goodIn_r _ [7, 1, 8, 9, 10, 11, 12, 13, 14, 15] (by decide +kernel) (by decide +kernel)) (goodIn_sub (fun _ h => List.mem_cons_of_mem _ (List.mem_append_right _ h)) (by decide +kernel))
set_option maxRecDepth 20000 in
theorem gX6_drop_X6_find : GoodIn wsX6_drop (wsV RX6 86 RX6 yX6_find wsX6_find) := goodIn_app (goodIn_of _ (by decide +kernel)) ggX6_drop_X6_find
theorem dX6_drop_0 : decode cX6_drop 0 = .ok (.aload_n 0, 1) := by decide +kernel
theorem dX6_drop_1 : decode cX6_drop 1 = .ok (.iload_n 1, 1) := by decide +kernel
theorem dX6_drop_2 : decode cX6_drop 2 = .ok (.invokevirtual 86, 3) := by decide +kernel
theorem dX6_drop_5 : decode cX6_drop 5 = .ok (.ifnonnull 5, 3) := by decide +kernel
theorem dX6_drop_8 : decode cX6_drop 8 = .ok (.iconst (-1), 1) := by decide +kernel
theorem dX6_drop_9 : decode cX6_drop 9 = .ok (.ireturn, 1) := by decide +kernel
theorem dX6_drop_10 : decode cX6_drop 10 = .ok (.aload_n 0, 1) := by decide +kernel
theorem dX6_drop_11 : decode cX6_drop 11 = .ok (.getfield 15, 3) := by decide +kernel
theorem dX6_drop_14 : decode cX6_drop 14 = .ok (.iload_n 1, 1) := by decide +kernel
theorem dX6_drop_15 : decode cX6_drop 15 = .ok (.iconst 0, 1) := by decide +kernel
theorem dX6_drop_16 : decode cX6_drop 16 = .ok (.bastore, 1) := by decide +kernel
theorem dX6_drop_17 : decode cX6_drop 17 = .ok (.aload_n 0, 1) := by decide +kernel
theorem dX6_drop_18 : decode cX6_drop 18 = .ok (.dup, 1) := by decide +kernel
theorem dX6_drop_19 : decode cX6_drop 19 = .ok (.getfield 22, 3) := by decide +kernel
theorem dX6_drop_22 : decode cX6_drop 22 = .ok (.iconst 1, 1) := by decide +kernel
theorem dX6_drop_23 : decode cX6_drop 23 = .ok (.isub, 1) := by decide +kernel
theorem dX6_drop_24 : decode cX6_drop 24 = .ok (.putfield 22, 3) := by decide +kernel
theorem dX6_drop_27 : decode cX6_drop 27 = .ok (.aload_n 0, 1) := by decide +kernel
theorem dX6_drop_28 : decode cX6_drop 28 = .ok (.getfield 22, 3) := by decide +kernel
theorem dX6_drop_31 : decode cX6_drop 31 = .ok (.ireturn, 1) := by decide +kernel
theorem dX6_count_0 : decode cX6_count 0 = .ok (.aload_n 0, 1) := by decide +kernel
theorem dX6_count_1 : decode cX6_count 1 = .ok (.getfield 22, 3) := by decide +kernel
theorem dX6_count_4 : decode cX6_count 4 = .ok (.ireturn, 1) := by decide +kernel
set_option maxRecDepth 20000 in
theorem ggX6_compare_X6_find : GoodIn wsX6_compare wsX6_find := goodIn_ca (goodIn_r _ [6, 7, 8, 59, 60, 61, 62, 63, 64, 65] (by decide +kernel) (by decide +kernel)) (goodIn_sub (fun _ h => List.mem_cons_of_mem _ (List.mem_append_right _ h)) (by decide +kernel))
set_option maxRecDepth 20000 in
theorem gX6_compare_X6_find : GoodIn wsX6_compare (wsV RX6 86 RX6 yX6_find wsX6_find) := goodIn_app (goodIn_of _ (by decide +kernel)) ggX6_compare_X6_find
set_option maxRecDepth 20000 in
theorem ggX6_compare_X0_orderOf : GoodIn wsX6_compare wsX0_orderOf := goodIn_ca (goodIn_r _ [13, 14, 15, 16, 17, 18, 19, 20, 21, 22, 23, 24, 25, 26, 27, 28, 29, 30, 31, 32, 33, 34, 35, 36, 37, 38, 39, 40, 41, 42, 43, 44, 45, 46, 47, 48, 49, 50, 51, 52, 53, 54, 55, 56, 57, 58, 66, 67, 68, 69, 70, 71, 72, 73, 74, 75] (by decide +kernel) (by decide +kernel)) (goodIn_sub (fun _ h => List.mem_cons_of_mem _ (List.mem_append_right _ h)) (by decide +kernel))
set_option maxRecDepth 20000 in
theorem gX6_compare_X0_orderOf : GoodIn wsX6_compare (wsV RX6 134 RX0 yX0_orderOf wsX0_orderOf) := goodIn_app (goodIn_of _ (by decide +kernel)) ggX6_compare_X0_orderOf
theorem dX6_compare_0 : decode cX6_compare 0 = .ok (.aload_n 0, 1) := by decide +kernel
theorem dX6_compare_1 : decode cX6_compare 1 = .ok (.iload_n 1, 1) := by decide +kernel
theorem dX6_compare_2 : decode cX6_compare 2 = .ok (.invokevirtual 86, 3) := by decide +kernel
theorem dX6_compare_5 : decode cX6_compare 5 = .ok (.astore_n 3, 1) := by decide +kernel
theorem dX6_compare_6 : decode cX6_compare 6 = .ok (.aload_n 0, 1) := by decide +kernel
theorem dX6_compare_7 : decode cX6_compare 7 = .ok (.iload_n 2, 1) := by decide +kernel
theorem dX6_compare_8 : decode cX6_compare 8 = .ok (.invokevirtual 86, 3) := by decide +kernel
theorem dX6_compare_11 : decode cX6_compare 11 = .ok (.astore 4, 2) := by decide +kernel
theorem dX6_compare_13 : decode cX6_compare 13 = .ok (.aload_n 3, 1) := by decide +kernel
theorem dX6_compare_14 : decode cX6_compare 14 = .ok (.ifnull 8, 3) := by decide +kernel
theorem dX6_compare_17 : decode cX6_compare 17 = .ok (.aload 4, 2) := by decide +kernel
theorem dX6_compare_19 : decode cX6_compare 19 = .ok (.ifnonnull 5, 3) := by decide +kernel
theorem dX6_compare_22 : decode cX6_compare 22 = .ok (.iconst (-1), 1) := by decide +kernel
theorem dX6_compare_23 : decode cX6_compare 23 = .ok (.ireturn, 1) := by decide +kernel
theorem dX6_compare_24 : decode cX6_compare 24 = .ok (.aload_n 0, 1) := by decide +kernel
theorem dX6_compare_25 : decode cX6_compare 25 = .ok (.getfield 29, 3) := by decide +kernel
theorem dX6_compare_28 : decode cX6_compare 28 = .ok (.aload_n 3, 1) := by decide +kernel
theorem dX6_compare_29 : decode cX6_compare 29 = .ok (.aload 4, 2) := by decide +kernel
theorem dX6_compare_31 : decode cX6_compare 31 = .ok (.invokevirtual 134, 3) := by decide +kernel
theorem dX6_compare_34 : decode cX6_compare 34 = .ok (.ireturn, 1) := by decide +kernel
set_option maxRecDepth 20000 in
theorem ggX6_of_X6_find : GoodIn wsX6_of wsX6_find := goodIn_ca (goodIn_r _ [5, 6, 7, 38, 39, 40, 41, 42, 43, 44] (by decide +kernel) (by decide +kernel)) (goodIn_sub (fun _ h => List.mem_cons_of_mem _ (List.mem_append_right _ h)) (by decide +kernel))
set_option maxRecDepth 20000 in
theorem gX6_of_X6_find : GoodIn wsX6_of (wsV RX6 86 RX6 yX6_find wsX6_find) := goodIn_app (goodIn_of _ (by decide +kernel)) ggX6_of_X6_find
set_option maxRecDepth 20000 in
theorem ggX6_of_X2_isWhole : GoodIn wsX6_of wsX2_isWhole := goodIn_ca (goodIn_r _ [12, 13, 14, 15, 16, 17, 18, 19, 20, 21, 22, 23, 24, 25, 35, 36, 37, 45, 46] (by decide +kernel) (by decide +kernel)) (goodIn_sub (fun _ h => List.mem_cons_of_mem _ (List.mem_append_right _ h)) (by decide +kernel))
set_option maxRecDepth 20000 in
theorem gX6_of_X2_isWhole : GoodIn wsX6_of (wsV RX6 123 RX2 yX2_isWhole wsX2_isWhole) := goodIn_app (goodIn_of _ (by decide +kernel)) ggX6_of_X2_isWhole
set_option maxRecDepth 20000 in
theorem ggX6_of_X5_bits : GoodIn wsX6_of wsX5_bits := goodIn_ca (goodIn_r _ [29, 19, 20, 21, 22, 17, 23, 24, 25, 30, 31, 32, 33, 34, 45, 46] (by decide +kernel) (by decide +kernel)) (goodIn_sub (fun _ h => List.mem_cons_of_mem _ (List.mem_append_right _ h)) (by decide +kernel))
set_option maxRecDepth 20000 in
theorem gX6_of_X5_bits : GoodIn wsX6_of (wsV RX6 138 RX5 yX5_bits wsX5_bits) := goodIn_app (goodIn_of _ (by decide +kernel)) ggX6_of_X5_bits
theorem dX6_of_0 : decode cX6_of 0 = .ok (.aload_n 0, 1) := by decide +kernel
theorem dX6_of_1 : decode cX6_of 1 = .ok (.iload_n 1, 1) := by decide +kernel
theorem dX6_of_2 : decode cX6_of 2 = .ok (.invokevirtual 86, 3) := by decide +kernel
theorem dX6_of_5 : decode cX6_of 5 = .ok (.astore_n 3, 1) := by decide +kernel
theorem dX6_of_6 : decode cX6_of 6 = .ok (.aload_n 3, 1) := by decide +kernel
theorem dX6_of_7 : decode cX6_of 7 = .ok (.ifnonnull 5, 3) := by decide +kernel
theorem dX6_of_10 : decode cX6_of 10 = .ok (.iconst (-1), 1) := by decide +kernel
theorem dX6_of_11 : decode cX6_of 11 = .ok (.ireturn, 1) := by decide +kernel
theorem dX6_of_12 : decode cX6_of 12 = .ok (.iload_n 2, 1) := by decide +kernel
theorem dX6_of_13 : decode cX6_of 13 = .ok (.tableswitch 65 0 3 #[31, 36, 49, 57], 31) := by decide +kernel
theorem dX6_of_44 : decode cX6_of 44 = .ok (.aload_n 3, 1) := by decide +kernel
theorem dX6_of_45 : decode cX6_of 45 = .ok (.getfield 90, 3) := by decide +kernel
theorem dX6_of_48 : decode cX6_of 48 = .ok (.ireturn, 1) := by decide +kernel
theorem dX6_of_49 : decode cX6_of 49 = .ok (.aload_n 3, 1) := by decide +kernel
theorem dX6_of_50 : decode cX6_of 50 = .ok (.invokevirtual 123, 3) := by decide +kernel
theorem dX6_of_53 : decode cX6_of 53 = .ok (.ifCond .eq 7, 3) := by decide +kernel
theorem dX6_of_56 : decode cX6_of 56 = .ok (.iconst 1, 1) := by decide +kernel
theorem dX6_of_57 : decode cX6_of 57 = .ok (.goto 4, 3) := by decide +kernel
theorem dX6_of_60 : decode cX6_of 60 = .ok (.iconst 0, 1) := by decide +kernel
theorem dX6_of_61 : decode cX6_of 61 = .ok (.ireturn, 1) := by decide +kernel
theorem dX6_of_62 : decode cX6_of 62 = .ok (.aload_n 3, 1) := by decide +kernel
theorem dX6_of_63 : decode cX6_of 63 = .ok (.getfield 77, 3) := by decide +kernel
theorem dX6_of_66 : decode cX6_of 66 = .ok (.invokevirtual 138, 3) := by decide +kernel
theorem dX6_of_69 : decode cX6_of 69 = .ok (.ireturn, 1) := by decide +kernel
theorem dX6_of_70 : decode cX6_of 70 = .ok (.aload_n 3, 1) := by decide +kernel
theorem dX6_of_71 : decode cX6_of 71 = .ok (.getfield 141, 3) := by decide +kernel
theorem dX6_of_74 : decode cX6_of 74 = .ok (.invokevirtual 138, 3) := by decide +kernel
theorem dX6_of_77 : decode cX6_of 77 = .ok (.ireturn, 1) := by decide +kernel
theorem dX6_of_78 : decode cX6_of 78 = .ok (.iconst (-1), 1) := by decide +kernel
theorem dX6_of_79 : decode cX6_of 79 = .ok (.ireturn, 1) := by decide +kernel
set_option maxRecDepth 20000 in
theorem ggX6_limb_X6_find : GoodIn wsX6_limb wsX6_find := goodIn_ca (goodIn_r _ [8, 9, 10, 30, 31, 32, 33, 34, 35, 36] (by decide +kernel) (by decide +kernel)) (goodIn_sub (fun _ h => List.mem_cons_of_mem _ (List.mem_append_right _ h)) (by decide +kernel))
set_option maxRecDepth 20000 in
theorem gX6_limb_X6_find : GoodIn wsX6_limb (wsV RX6 86 RX6 yX6_find wsX6_find) := goodIn_app (goodIn_of _ (by decide +kernel)) ggX6_limb_X6_find
set_option maxRecDepth 20000 in
theorem ggX6_limb_X5_limbAt : GoodIn wsX6_limb wsX5_limbAt := goodIn_ca (goodIn_r _ [15, 16, 17, 18, 22, 23] (by decide +kernel) (by decide +kernel)) (goodIn_sub (fun _ h => List.mem_cons_of_mem _ (List.mem_append_right _ h)) (by decide +kernel))
set_option maxRecDepth 20000 in
theorem gX6_limb_X5_limbAt : GoodIn wsX6_limb (wsV RX6 152 RX5 yX5_limbAt wsX5_limbAt) := goodIn_app (goodIn_of _ (by decide +kernel)) ggX6_limb_X5_limbAt
theorem dX6_limb_0 : decode cX6_limb 0 = .ok (.aload_n 0, 1) := by decide +kernel
theorem dX6_limb_1 : decode cX6_limb 1 = .ok (.iload_n 1, 1) := by decide +kernel
theorem dX6_limb_2 : decode cX6_limb 2 = .ok (.invokevirtual 86, 3) := by decide +kernel
theorem dX6_limb_5 : decode cX6_limb 5 = .ok (.astore 4, 2) := by decide +kernel
theorem dX6_limb_7 : decode cX6_limb 7 = .ok (.aload 4, 2) := by decide +kernel
theorem dX6_limb_9 : decode cX6_limb 9 = .ok (.ifnull 12, 3) := by decide +kernel
theorem dX6_limb_12 : decode cX6_limb 12 = .ok (.iload_n 2, 1) := by decide +kernel
theorem dX6_limb_13 : decode cX6_limb 13 = .ok (.ifCond .lt 8, 3) := by decide +kernel
theorem dX6_limb_16 : decode cX6_limb 16 = .ok (.iload_n 2, 1) := by decide +kernel
theorem dX6_limb_17 : decode cX6_limb 17 = .ok (.iconst 1, 1) := by decide +kernel
theorem dX6_limb_18 : decode cX6_limb 18 = .ok (.if_icmp .le 5, 3) := by decide +kernel
theorem dX6_limb_21 : decode cX6_limb 21 = .ok (.iconst (-1), 1) := by decide +kernel
theorem dX6_limb_22 : decode cX6_limb 22 = .ok (.ireturn, 1) := by decide +kernel
theorem dX6_limb_23 : decode cX6_limb 23 = .ok (.iload_n 2, 1) := by decide +kernel
theorem dX6_limb_24 : decode cX6_limb 24 = .ok (.ifCond .ne 11, 3) := by decide +kernel
theorem dX6_limb_27 : decode cX6_limb 27 = .ok (.aload 4, 2) := by decide +kernel
theorem dX6_limb_29 : decode cX6_limb 29 = .ok (.getfield 77, 3) := by decide +kernel
theorem dX6_limb_32 : decode cX6_limb 32 = .ok (.goto 8, 3) := by decide +kernel
theorem dX6_limb_35 : decode cX6_limb 35 = .ok (.aload 4, 2) := by decide +kernel
theorem dX6_limb_37 : decode cX6_limb 37 = .ok (.getfield 141, 3) := by decide +kernel
theorem dX6_limb_40 : decode cX6_limb 40 = .ok (.astore 5, 2) := by decide +kernel
theorem dX6_limb_42 : decode cX6_limb 42 = .ok (.iload_n 3, 1) := by decide +kernel
theorem dX6_limb_43 : decode cX6_limb 43 = .ok (.ifCond .lt 12, 3) := by decide +kernel
theorem dX6_limb_46 : decode cX6_limb 46 = .ok (.iload_n 3, 1) := by decide +kernel
theorem dX6_limb_47 : decode cX6_limb 47 = .ok (.aload 5, 2) := by decide +kernel
theorem dX6_limb_49 : decode cX6_limb 49 = .ok (.getfield 144, 3) := by decide +kernel
theorem dX6_limb_52 : decode cX6_limb 52 = .ok (.if_icmp .lt 13, 3) := by decide +kernel
theorem dX6_limb_55 : decode cX6_limb 55 = .ok (.new 147, 3) := by decide +kernel
theorem dX6_limb_58 : decode cX6_limb 58 = .ok (.dup, 1) := by decide +kernel
theorem dX6_limb_59 : decode cX6_limb 59 = .ok (.ldc 149, 2) := by decide +kernel
theorem dX6_limb_61 : decode cX6_limb 61 = .ok (.invokespecial 151, 3) := by decide +kernel
theorem dX6_limb_64 : decode cX6_limb 64 = .ok (.athrow, 1) := by decide +kernel
theorem dX6_limb_65 : decode cX6_limb 65 = .ok (.aload 5, 2) := by decide +kernel
theorem dX6_limb_67 : decode cX6_limb 67 = .ok (.iload_n 3, 1) := by decide +kernel
theorem dX6_limb_68 : decode cX6_limb 68 = .ok (.invokevirtual 152, 3) := by decide +kernel
theorem dX6_limb_71 : decode cX6_limb 71 = .ok (.l2i, 1) := by decide +kernel
theorem dX6_limb_72 : decode cX6_limb 72 = .ok (.ireturn, 1) := by decide +kernel
set_option maxRecDepth 20000 in
theorem ggX6_terms_X6_find : GoodIn wsX6_terms wsX6_find := goodIn_ca (goodIn_r _ [6, 7, 8, 111, 112, 113, 114, 115, 116, 117] (by decide +kernel) (by decide +kernel)) (goodIn_sub (fun _ h => List.mem_cons_of_mem _ (List.mem_append_left _ (List.mem_append_right _ h))) (by decide +kernel))
set_option maxRecDepth 20000 in
theorem gX6_terms_X6_find : GoodIn wsX6_terms (wsV RX6 86 RX6 yX6_find wsX6_find) := goodIn_app (goodIn_of _ (by decide +kernel)) ggX6_terms_X6_find
set_option maxRecDepth 20000 in
theorem ggX6_terms_X1_begin : GoodIn wsX6_terms wsX1_begin := goodIn_ca (goodIn_ca (goodIn_r _ [13, 14, 15, 16, 17, 18, 19, 20, 21, 22, 23, 24, 25, 26, 27, 28, 29, 30, 31, 32, 33, 34, 35, 36, 37, 38, 39, 40, 41, 42, 43, 44, 45, 46, 47, 48, 49, 50, 51, 52, 53, 54, 55, 56, 57, 58, 59, 60, 61, 62, 63, 64, 65, 66, 67, 68, 69, 70, 71, 72, 73, 74, 75, 76, 77, 78, 79, 80, 81, 82, 83, 84, 85, 86, 87, 88, 89, 90, 91, 92, 93, 94, 95, 96, 97, 118, 119, 120, 121, 122, 123, 124, 125, 126, 127, 128, 129, 130, 131, 132, 133] (by decide +kernel) (by decide +kernel)) (goodIn_sub (fun _ h => List.mem_cons_of_mem _ (List.mem_append_left _ (List.mem_append_right _ h))) (by decide +kernel))) (goodIn_sub (fun _ h => List.mem_cons_of_mem _ (List.mem_append_right _ h)) (by decide +kernel))
set_option maxRecDepth 20000 in
theorem gX6_terms_X1_begin : GoodIn wsX6_terms (wsV RX6 156 RX1 yX1_begin wsX1_begin) := goodIn_app (goodIn_of _ (by decide +kernel)) ggX6_terms_X1_begin
set_option maxRecDepth 20000 in
theorem ggX6_terms_X1_length : GoodIn wsX6_terms wsX1_length := goodIn_ca (goodIn_ca (goodIn_r _ [101, 102, 103, 104, 12, 105, 18, 86, 87, 88, 22, 89, 24, 106, 107, 108, 109, 17, 110, 41, 42, 43, 44, 45, 46, 47, 48, 49, 50, 51, 52, 53, 54, 55, 56, 57, 25, 58, 59, 60, 61, 62, 63, 64, 65, 66, 67, 68, 69, 70, 71, 72, 73, 74, 75, 76, 77, 26, 27, 28, 29, 78, 79, 80, 81, 82, 83, 84, 85, 34, 35, 36, 37, 38, 39, 40, 121, 122, 123, 124, 125, 126, 127, 128, 129, 130, 131, 132, 133] (by decide +kernel) (by decide +kernel)) (goodIn_sub (fun _ h => List.mem_cons_of_mem _ (List.mem_append_left _ (List.mem_append_right _ h))) (by decide +kernel))) (goodIn_sub (fun _ h => List.mem_cons_of_mem _ (List.mem_append_right _ h)) (by decide +kernel))
set_option maxRecDepth 20000 in
theorem gX6_terms_X1_length : GoodIn wsX6_terms (wsV RX6 160 RX1 yX1_length wsX1_length) := goodIn_app (goodIn_of _ (by decide +kernel)) ggX6_terms_X1_length
theorem dX6_terms_0 : decode cX6_terms 0 = .ok (.aload_n 0, 1) := by decide +kernel
theorem dX6_terms_1 : decode cX6_terms 1 = .ok (.iload_n 1, 1) := by decide +kernel
theorem dX6_terms_2 : decode cX6_terms 2 = .ok (.invokevirtual 86, 3) := by decide +kernel
theorem dX6_terms_5 : decode cX6_terms 5 = .ok (.astore_n 2, 1) := by decide +kernel
theorem dX6_terms_6 : decode cX6_terms 6 = .ok (.aload_n 2, 1) := by decide +kernel
theorem dX6_terms_7 : decode cX6_terms 7 = .ok (.ifnonnull 5, 3) := by decide +kernel
theorem dX6_terms_10 : decode cX6_terms 10 = .ok (.iconst (-1), 1) := by decide +kernel
theorem dX6_terms_11 : decode cX6_terms 11 = .ok (.ireturn, 1) := by decide +kernel
theorem dX6_terms_12 : decode cX6_terms 12 = .ok (.aload_n 0, 1) := by decide +kernel
theorem dX6_terms_13 : decode cX6_terms 13 = .ok (.getfield 36, 3) := by decide +kernel
theorem dX6_terms_16 : decode cX6_terms 16 = .ok (.aload_n 2, 1) := by decide +kernel
theorem dX6_terms_17 : decode cX6_terms 17 = .ok (.invokevirtual 156, 3) := by decide +kernel
theorem dX6_terms_20 : decode cX6_terms 20 = .ok (.aload_n 0, 1) := by decide +kernel
theorem dX6_terms_21 : decode cX6_terms 21 = .ok (.getfield 36, 3) := by decide +kernel
theorem dX6_terms_24 : decode cX6_terms 24 = .ok (.invokevirtual 160, 3) := by decide +kernel
theorem dX6_terms_27 : decode cX6_terms 27 = .ok (.ireturn, 1) := by decide +kernel
set_option maxRecDepth 20000 in
theorem ggX6_term_X6_find : GoodIn wsX6_term wsX6_find := goodIn_ca (goodIn_r _ [7, 8, 9, 175, 176, 177, 178, 179, 180, 181] (by decide +kernel) (by decide +kernel)) (goodIn_sub (fun _ h => List.mem_cons_of_mem _ (List.mem_append_left _ (List.mem_append_right _ h))) (by decide +kernel))
set_option maxRecDepth 20000 in
theorem gX6_term_X6_find : GoodIn wsX6_term (wsV RX6 86 RX6 yX6_find wsX6_find) := goodIn_app (goodIn_of _ (by decide +kernel)) ggX6_term_X6_find
set_option maxRecDepth 20000 in
theorem ggX6_term_X1_begin : GoodIn wsX6_term wsX1_begin := goodIn_ca (goodIn_ca (goodIn_r _ [14, 15, 16, 17, 18, 19, 20, 21, 22, 23, 24, 25, 26, 27, 28, 29, 30, 31, 32, 33, 34, 35, 36, 37, 38, 39, 40, 41, 42, 43, 44, 45, 46, 47, 48, 49, 50, 51, 52, 53, 54, 55, 56, 57, 58, 59, 60, 61, 62, 63, 64, 65, 66, 67, 68, 69, 70, 71, 72, 73, 74, 75, 76, 77, 78, 79, 80, 81, 82, 83, 84, 85, 86, 87, 88, 89, 90, 91, 92, 93, 94, 95, 96, 97, 98, 198, 199, 200, 187, 188, 189, 190, 191, 192, 193, 194, 195, 196, 197, 201, 202] (by decide +kernel) (by decide +kernel)) (goodIn_sub (fun _ h => List.mem_cons_of_mem _ (List.mem_append_left _ (List.mem_append_right _ h))) (by decide +kernel))) (goodIn_sub (fun _ h => List.mem_cons_of_mem _ (List.mem_append_right _ h)) (by decide +kernel))
set_option maxRecDepth 20000 in
theorem gX6_term_X1_begin : GoodIn wsX6_term (wsV RX6 156 RX1 yX1_begin wsX1_begin) := goodIn_app (goodIn_of _ (by decide +kernel)) ggX6_term_X1_begin
set_option maxRecDepth 20000 in
theorem ggX6_term_X1_goTo : GoodIn wsX6_term wsX1_goTo := goodIn_ca (goodIn_ca (goodIn_r _ [102, 103, 104, 105, 13, 106, 19, 87, 88, 89, 23, 90, 25, 107, 108, 109, 110, 18, 111, 42, 43, 44, 45, 46, 47, 48, 49, 50, 51, 52, 53, 54, 55, 56, 57, 58, 26, 59, 60, 61, 62, 63, 64, 65, 66, 67, 68, 69, 70, 71, 72, 73, 74, 75, 76, 77, 78, 27, 28, 29, 30, 79, 80, 81, 82, 83, 84, 85, 86, 35, 36, 37, 38, 39, 40, 41, 187, 188, 189, 190, 191, 192, 193, 194, 195, 196, 197, 201, 202] (by decide +kernel) (by decide +kernel)) (goodIn_sub (fun _ h => List.mem_cons_of_mem _ (List.mem_append_left _ (List.mem_append_right _ h))) (by decide +kernel))) (goodIn_sub (fun _ h => List.mem_cons_of_mem _ (List.mem_append_right _ h)) (by decide +kernel))
set_option maxRecDepth 20000 in
theorem gX6_term_X1_goTo : GoodIn wsX6_term (wsV RX6 163 RX1 yX1_goTo wsX1_goTo) := goodIn_app (goodIn_of _ (by decide +kernel)) ggX6_term_X1_goTo
set_option maxRecDepth 20000 in
theorem ggX6_term_X6_isFull : GoodIn wsX6_term wsX6_isFull := goodIn_r _ [115, 116, 175, 176, 177, 178, 179, 180, 181] (by decide +kernel) (by decide +kernel)
set_option maxRecDepth 20000 in
theorem gX6_term_X6_isFull : GoodIn wsX6_term (wsV RX6 54 RX6 yX6_isFull wsX6_isFull) := goodIn_app (goodIn_of _ (by decide +kernel)) ggX6_term_X6_isFull
set_option maxRecDepth 20000 in
theorem ggX6_term_X2_becomeWhole : GoodIn wsX6_term wsX2_becomeWhole := goodIn_ca (goodIn_r _ [121, 122, 123, 124, 125, 21, 22, 23, 24, 25, 26, 27, 28, 29, 30, 31, 32, 33, 34, 35, 36, 37, 38, 39, 40, 41, 126, 127, 128, 129, 83, 84, 85, 86, 198, 199, 200, 201, 202] (by decide +kernel) (by decide +kernel)) (goodIn_sub (fun _ h => List.mem_cons_of_mem _ (List.mem_append_left _ (List.mem_append_right _ h))) (by decide +kernel))
set_option maxRecDepth 20000 in
theorem gX6_term_X2_becomeWhole : GoodIn wsX6_term (wsV RX6 130 RX2 yX2_becomeWhole wsX2_becomeWhole) := goodIn_app (goodIn_of _ (by decide +kernel)) ggX6_term_X2_becomeWhole
set_option maxRecDepth 20000 in
theorem ggX6_term_X6_keep : GoodIn wsX6_term wsX6_keep := goodIn_ca (goodIn_ca (goodIn_r _ [133, 2, 8, 9, 116, 134, 135, 136, 137, 138, 139, 140, 88, 89, 23, 90, 25, 141, 142, 143, 120, 144, 122, 123, 124, 126, 127, 128, 129, 83, 84, 85, 86, 26, 35, 36, 37, 38, 27, 28, 29, 30, 39, 40, 41, 145, 146, 147, 148, 55, 56, 57, 58, 46, 149, 150, 151, 152, 153, 154, 155, 156, 21, 22, 24, 31, 32, 33, 34, 157, 43, 44, 45, 47, 48, 49, 50, 51, 52, 53, 54, 59, 60, 61, 62, 63, 64, 65, 66, 67, 68, 69, 70, 71, 72, 73, 74, 75, 76, 77, 78, 79, 80, 81, 82, 158, 159, 160, 161, 162, 163, 164, 165, 166, 167, 168, 169, 170, 171, 172, 173, 174, 125, 175, 176, 177, 178, 179, 180, 181, 182, 183, 184, 185, 186, 198, 199, 200, 201, 202] (by decide +kernel) (by decide +kernel)) (goodIn_sub (fun _ h => List.mem_cons_of_mem _ (List.mem_append_left _ (List.mem_append_right _ h))) (by decide +kernel))) (goodIn_sub (fun _ h => List.mem_cons_of_mem _ (List.mem_append_right _ h)) (by decide +kernel))
set_option maxRecDepth 20000 in
theorem gX6_term_X6_keep : GoodIn wsX6_term (wsV RX6 66 RX6 yX6_keep wsX6_keep) := goodIn_app (goodIn_of _ (by decide +kernel)) ggX6_term_X6_keep
theorem dX6_term_0 : decode cX6_term 0 = .ok (.aload_n 0, 1) := by decide +kernel
theorem dX6_term_1 : decode cX6_term 1 = .ok (.iload_n 1, 1) := by decide +kernel
theorem dX6_term_2 : decode cX6_term 2 = .ok (.invokevirtual 86, 3) := by decide +kernel
theorem dX6_term_5 : decode cX6_term 5 = .ok (.astore_n 3, 1) := by decide +kernel
theorem dX6_term_6 : decode cX6_term 6 = .ok (.aload_n 3, 1) := by decide +kernel
theorem dX6_term_7 : decode cX6_term 7 = .ok (.ifnonnull 5, 3) := by decide +kernel
theorem dX6_term_10 : decode cX6_term 10 = .ok (.iconst (-1), 1) := by decide +kernel
theorem dX6_term_11 : decode cX6_term 11 = .ok (.ireturn, 1) := by decide +kernel
theorem dX6_term_12 : decode cX6_term 12 = .ok (.aload_n 0, 1) := by decide +kernel
theorem dX6_term_13 : decode cX6_term 13 = .ok (.getfield 36, 3) := by decide +kernel
theorem dX6_term_16 : decode cX6_term 16 = .ok (.aload_n 3, 1) := by decide +kernel
theorem dX6_term_17 : decode cX6_term 17 = .ok (.invokevirtual 156, 3) := by decide +kernel
theorem dX6_term_20 : decode cX6_term 20 = .ok (.aload_n 0, 1) := by decide +kernel
theorem dX6_term_21 : decode cX6_term 21 = .ok (.getfield 36, 3) := by decide +kernel
theorem dX6_term_24 : decode cX6_term 24 = .ok (.iload_n 2, 1) := by decide +kernel
theorem dX6_term_25 : decode cX6_term 25 = .ok (.invokevirtual 163, 3) := by decide +kernel
theorem dX6_term_28 : decode cX6_term 28 = .ok (.ifCond .ne 5, 3) := by decide +kernel
theorem dX6_term_31 : decode cX6_term 31 = .ok (.iconst (-1), 1) := by decide +kernel
theorem dX6_term_32 : decode cX6_term 32 = .ok (.ireturn, 1) := by decide +kernel
theorem dX6_term_33 : decode cX6_term 33 = .ok (.aload_n 0, 1) := by decide +kernel
theorem dX6_term_34 : decode cX6_term 34 = .ok (.invokevirtual 54, 3) := by decide +kernel
theorem dX6_term_37 : decode cX6_term 37 = .ok (.ifCond .eq 6, 3) := by decide +kernel
theorem dX6_term_40 : decode cX6_term 40 = .ok (.bipush (-3), 2) := by decide +kernel
theorem dX6_term_42 : decode cX6_term 42 = .ok (.ireturn, 1) := by decide +kernel
theorem dX6_term_43 : decode cX6_term 43 = .ok (.iload_n 2, 1) := by decide +kernel
theorem dX6_term_44 : decode cX6_term 44 = .ok (.ifCond .ne 30, 3) := by decide +kernel
theorem dX6_term_47 : decode cX6_term 47 = .ok (.aload_n 0, 1) := by decide +kernel
theorem dX6_term_48 : decode cX6_term 48 = .ok (.getfield 29, 3) := by decide +kernel
theorem dX6_term_51 : decode cX6_term 51 = .ok (.getfield 58, 3) := by decide +kernel
theorem dX6_term_54 : decode cX6_term 54 = .ok (.aload_n 0, 1) := by decide +kernel
theorem dX6_term_55 : decode cX6_term 55 = .ok (.getfield 36, 3) := by decide +kernel
theorem dX6_term_58 : decode cX6_term 58 = .ok (.getfield 167, 3) := by decide +kernel
theorem dX6_term_61 : decode cX6_term 61 = .ok (.aload_n 0, 1) := by decide +kernel
theorem dX6_term_62 : decode cX6_term 62 = .ok (.getfield 36, 3) := by decide +kernel
theorem dX6_term_65 : decode cX6_term 65 = .ok (.getfield 170, 3) := by decide +kernel
theorem dX6_term_68 : decode cX6_term 68 = .ok (.invokevirtual 130, 3) := by decide +kernel
theorem dX6_term_71 : decode cX6_term 71 = .ok (.goto 21, 3) := by decide +kernel
theorem dX6_term_74 : decode cX6_term 74 = .ok (.aload_n 0, 1) := by decide +kernel
theorem dX6_term_75 : decode cX6_term 75 = .ok (.getfield 29, 3) := by decide +kernel
theorem dX6_term_78 : decode cX6_term 78 = .ok (.getfield 58, 3) := by decide +kernel
theorem dX6_term_81 : decode cX6_term 81 = .ok (.iconst 1, 1) := by decide +kernel
theorem dX6_term_82 : decode cX6_term 82 = .ok (.aload_n 0, 1) := by decide +kernel
theorem dX6_term_83 : decode cX6_term 83 = .ok (.getfield 36, 3) := by decide +kernel
theorem dX6_term_86 : decode cX6_term 86 = .ok (.getfield 173, 3) := by decide +kernel
theorem dX6_term_89 : decode cX6_term 89 = .ok (.invokevirtual 130, 3) := by decide +kernel
theorem dX6_term_92 : decode cX6_term 92 = .ok (.aload_n 0, 1) := by decide +kernel
theorem dX6_term_93 : decode cX6_term 93 = .ok (.invokevirtual 66, 3) := by decide +kernel
theorem dX6_term_96 : decode cX6_term 96 = .ok (.ireturn, 1) := by decide +kernel
set_option maxRecDepth 20000 in
theorem ggX6_part_X6_find : GoodIn wsX6_part wsX6_find := goodIn_ca (goodIn_r _ [7, 8, 9, 209, 210, 211, 212, 213, 214, 215] (by decide +kernel) (by decide +kernel)) (goodIn_sub (fun _ h => List.mem_cons_of_mem _ (List.mem_append_left _ (List.mem_append_right _ h))) (by decide +kernel))
set_option maxRecDepth 20000 in
theorem gX6_part_X6_find : GoodIn wsX6_part (wsV RX6 86 RX6 yX6_find wsX6_find) := goodIn_app (goodIn_of _ (by decide +kernel)) ggX6_part_X6_find
set_option maxRecDepth 20000 in
theorem ggX6_part_X1_begin : GoodIn wsX6_part wsX1_begin := goodIn_ca (goodIn_ca (goodIn_r _ [14, 15, 16, 17, 18, 19, 20, 21, 22, 23, 24, 25, 26, 27, 28, 29, 30, 31, 32, 33, 34, 35, 36, 37, 38, 39, 40, 41, 42, 43, 44, 45, 46, 47, 48, 49, 50, 51, 52, 53, 54, 55, 56, 57, 58, 59, 60, 61, 62, 63, 64, 65, 66, 67, 68, 69, 70, 71, 72, 73, 74, 75, 76, 77, 78, 79, 80, 81, 82, 83, 84, 85, 86, 87, 88, 89, 90, 91, 92, 93, 94, 95, 96, 97, 98, 221, 222, 223, 224, 225, 226, 227, 228, 229, 230, 231, 232, 233, 234, 235, 236] (by decide +kernel) (by decide +kernel)) (goodIn_sub (fun _ h => List.mem_cons_of_mem _ (List.mem_append_left _ (List.mem_append_right _ h))) (by decide +kernel))) (goodIn_sub (fun _ h => List.mem_cons_of_mem _ (List.mem_append_right _ h)) (by decide +kernel))
set_option maxRecDepth 20000 in
theorem gX6_part_X1_begin : GoodIn wsX6_part (wsV RX6 156 RX1 yX1_begin wsX1_begin) := goodIn_app (goodIn_of _ (by decide +kernel)) ggX6_part_X1_begin
set_option maxRecDepth 20000 in
theorem ggX6_part_X1_gather : GoodIn wsX6_part wsX1_gather := goodIn_ca (goodIn_ca (goodIn_r _ [102, 103, 104, 105, 106, 107, 48, 49, 23, 50, 25, 108, 109, 110, 111, 83, 84, 85, 86, 26, 35, 36, 37, 38, 27, 28, 29, 30, 39, 40, 41, 112, 113, 114, 13, 115, 19, 87, 88, 89, 90, 116, 117, 118, 119, 18, 120, 42, 43, 44, 45, 46, 47, 51, 52, 53, 54, 55, 56, 57, 58, 59, 60, 61, 62, 63, 64, 65, 66, 67, 68, 69, 70, 71, 72, 73, 74, 75, 76, 77, 78, 79, 80, 81, 82, 121, 122, 123, 124, 125, 126, 127, 128, 129, 130, 131, 132, 224, 225, 226, 227, 228, 229, 230, 231, 232, 233, 234, 235, 236] (by decide +kernel) (by decide +kernel)) (goodIn_sub (fun _ h => List.mem_cons_of_mem _ (List.mem_append_left _ (List.mem_append_right _ h))) (by decide +kernel))) (goodIn_sub (fun _ h => List.mem_cons_of_mem _ (List.mem_append_right _ h)) (by decide +kernel))
set_option maxRecDepth 20000 in
theorem gX6_part_X1_gather : GoodIn wsX6_part (wsV RX6 176 RX1 yX1_gather wsX1_gather) := goodIn_app (goodIn_of _ (by decide +kernel)) ggX6_part_X1_gather
set_option maxRecDepth 20000 in
theorem ggX6_part_X6_isFull : GoodIn wsX6_part wsX6_isFull := goodIn_r _ [136, 137, 209, 210, 211, 212, 213, 214, 215] (by decide +kernel) (by decide +kernel)
set_option maxRecDepth 20000 in
theorem gX6_part_X6_isFull : GoodIn wsX6_part (wsV RX6 54 RX6 yX6_isFull wsX6_isFull) := goodIn_app (goodIn_of _ (by decide +kernel)) ggX6_part_X6_isFull
set_option maxRecDepth 20000 in
theorem ggX6_part_X1_tell : GoodIn wsX6_part wsX1_tell := goodIn_ca (goodIn_r _ [141, 15, 17, 104, 103, 142, 143, 144, 23, 145, 47, 48, 49, 50, 25, 146, 126, 127, 128, 39, 40, 29, 41, 26, 27, 28, 30, 83, 84, 85, 86, 55, 56, 57, 58, 46, 129, 130, 131, 132, 35, 36, 37, 38, 147, 148, 149, 150, 151, 152, 153, 154, 88, 89, 90, 155, 21, 22, 24, 31, 32, 33, 34, 156, 157, 158, 159, 160, 52, 53, 54, 161, 96, 97, 98, 20, 224, 225, 226, 227, 228, 229, 230, 231, 232, 233, 234, 221, 222, 223, 235, 236] (by decide +kernel) (by decide +kernel)) (goodIn_sub (fun _ h => List.mem_cons_of_mem _ (List.mem_append_left _ (List.mem_append_right _ h))) (by decide +kernel))
set_option maxRecDepth 20000 in
theorem gX6_part_X1_tell : GoodIn wsX6_part (wsV RX6 179 RX1 yX1_tell wsX1_tell) := goodIn_app (goodIn_of _ (by decide +kernel)) ggX6_part_X1_tell
set_option maxRecDepth 20000 in
theorem ggX6_part_X6_keep : GoodIn wsX6_part wsX6_keep := goodIn_ca (goodIn_ca (goodIn_r _ [165, 2, 8, 9, 137, 166, 167, 168, 169, 170, 171, 172, 88, 89, 23, 90, 25, 173, 174, 175, 150, 176, 153, 152, 177, 178, 109, 110, 111, 83, 84, 85, 86, 26, 35, 36, 37, 38, 27, 28, 29, 30, 39, 40, 41, 179, 180, 181, 182, 55, 56, 57, 58, 46, 183, 184, 185, 186, 187, 188, 189, 190, 21, 22, 24, 31, 32, 33, 34, 191, 43, 44, 45, 47, 48, 49, 50, 51, 52, 53, 54, 59, 60, 61, 62, 63, 64, 65, 66, 67, 68, 69, 70, 71, 72, 73, 74, 75, 76, 77, 78, 79, 80, 81, 82, 192, 193, 194, 195, 196, 197, 198, 199, 200, 201, 202, 203, 204, 205, 206, 207, 208, 155, 209, 210, 211, 212, 213, 214, 215, 216, 217, 218, 219, 220, 221, 222, 223, 235, 236] (by decide +kernel) (by decide +kernel)) (goodIn_sub (fun _ h => List.mem_cons_of_mem _ (List.mem_append_left _ (List.mem_append_right _ h))) (by decide +kernel))) (goodIn_sub (fun _ h => List.mem_cons_of_mem _ (List.mem_append_right _ h)) (by decide +kernel))
set_option maxRecDepth 20000 in
theorem gX6_part_X6_keep : GoodIn wsX6_part (wsV RX6 66 RX6 yX6_keep wsX6_keep) := goodIn_app (goodIn_of _ (by decide +kernel)) ggX6_part_X6_keep
theorem dX6_part_0 : decode cX6_part 0 = .ok (.aload_n 0, 1) := by decide +kernel
theorem dX6_part_1 : decode cX6_part 1 = .ok (.iload_n 1, 1) := by decide +kernel
theorem dX6_part_2 : decode cX6_part 2 = .ok (.invokevirtual 86, 3) := by decide +kernel
theorem dX6_part_5 : decode cX6_part 5 = .ok (.astore_n 3, 1) := by decide +kernel
theorem dX6_part_6 : decode cX6_part 6 = .ok (.aload_n 3, 1) := by decide +kernel
theorem dX6_part_7 : decode cX6_part 7 = .ok (.ifnonnull 5, 3) := by decide +kernel
theorem dX6_part_10 : decode cX6_part 10 = .ok (.iconst (-1), 1) := by decide +kernel
theorem dX6_part_11 : decode cX6_part 11 = .ok (.ireturn, 1) := by decide +kernel
theorem dX6_part_12 : decode cX6_part 12 = .ok (.aload_n 0, 1) := by decide +kernel
theorem dX6_part_13 : decode cX6_part 13 = .ok (.getfield 36, 3) := by decide +kernel
theorem dX6_part_16 : decode cX6_part 16 = .ok (.aload_n 3, 1) := by decide +kernel
theorem dX6_part_17 : decode cX6_part 17 = .ok (.invokevirtual 156, 3) := by decide +kernel
theorem dX6_part_20 : decode cX6_part 20 = .ok (.aload_n 0, 1) := by decide +kernel
theorem dX6_part_21 : decode cX6_part 21 = .ok (.getfield 36, 3) := by decide +kernel
theorem dX6_part_24 : decode cX6_part 24 = .ok (.iload_n 2, 1) := by decide +kernel
theorem dX6_part_25 : decode cX6_part 25 = .ok (.invokevirtual 176, 3) := by decide +kernel
theorem dX6_part_28 : decode cX6_part 28 = .ok (.ifCond .ne 5, 3) := by decide +kernel
theorem dX6_part_31 : decode cX6_part 31 = .ok (.iconst (-1), 1) := by decide +kernel
theorem dX6_part_32 : decode cX6_part 32 = .ok (.ireturn, 1) := by decide +kernel
theorem dX6_part_33 : decode cX6_part 33 = .ok (.aload_n 0, 1) := by decide +kernel
theorem dX6_part_34 : decode cX6_part 34 = .ok (.invokevirtual 54, 3) := by decide +kernel
theorem dX6_part_37 : decode cX6_part 37 = .ok (.ifCond .eq 6, 3) := by decide +kernel
theorem dX6_part_40 : decode cX6_part 40 = .ok (.bipush (-3), 2) := by decide +kernel
theorem dX6_part_42 : decode cX6_part 42 = .ok (.ireturn, 1) := by decide +kernel
theorem dX6_part_43 : decode cX6_part 43 = .ok (.aload_n 0, 1) := by decide +kernel
theorem dX6_part_44 : decode cX6_part 44 = .ok (.getfield 36, 3) := by decide +kernel
theorem dX6_part_47 : decode cX6_part 47 = .ok (.aload_n 0, 1) := by decide +kernel
theorem dX6_part_48 : decode cX6_part 48 = .ok (.getfield 29, 3) := by decide +kernel
theorem dX6_part_51 : decode cX6_part 51 = .ok (.getfield 58, 3) := by decide +kernel
theorem dX6_part_54 : decode cX6_part 54 = .ok (.invokevirtual 179, 3) := by decide +kernel
theorem dX6_part_57 : decode cX6_part 57 = .ok (.aload_n 0, 1) := by decide +kernel
theorem dX6_part_58 : decode cX6_part 58 = .ok (.invokevirtual 66, 3) := by decide +kernel
theorem dX6_part_61 : decode cX6_part 61 = .ok (.ireturn, 1) := by decide +kernel
set_option maxRecDepth 20000 in
theorem ggX6_best_X6_find : GoodIn wsX6_best wsX6_find := goodIn_ca (goodIn_r _ [7, 8, 9, 231, 232, 233, 234, 235, 236, 237] (by decide +kernel) (by decide +kernel)) (goodIn_sub (fun _ h => List.mem_cons_of_mem _ (List.mem_append_left _ (List.mem_append_right _ h))) (by decide +kernel))
set_option maxRecDepth 20000 in
theorem gX6_best_X6_find : GoodIn wsX6_best (wsV RX6 86 RX6 yX6_find wsX6_find) := goodIn_app (goodIn_of _ (by decide +kernel)) ggX6_best_X6_find
set_option maxRecDepth 20000 in
theorem ggX6_best_X6_isFull : GoodIn wsX6_best wsX6_isFull := goodIn_r _ [13, 14, 231, 232, 233, 234, 235, 236, 237] (by decide +kernel) (by decide +kernel)
set_option maxRecDepth 20000 in
theorem gX6_best_X6_isFull : GoodIn wsX6_best (wsV RX6 54 RX6 yX6_isFull wsX6_isFull) := goodIn_app (goodIn_of _ (by decide +kernel)) ggX6_best_X6_isFull
set_option maxRecDepth 20000 in
theorem ggX6_best_X5_isAbove : GoodIn wsX6_best wsX5_isAbove := goodIn_ca (goodIn_r _ [19, 20, 21, 22, 18, 23, 24, 25, 26, 27, 28, 29, 30, 31, 32, 33, 34, 35, 36, 37, 38, 39, 243, 244] (by decide +kernel) (by decide +kernel)) (goodIn_sub (fun _ h => List.mem_cons_of_mem _ (List.mem_append_left _ (List.mem_append_right _ h))) (by decide +kernel))
set_option maxRecDepth 20000 in
theorem gX6_best_X5_isAbove : GoodIn wsX6_best (wsV RX6 182 RX5 yX5_isAbove wsX5_isAbove) := goodIn_app (goodIn_of _ (by decide +kernel)) ggX6_best_X5_isAbove
set_option maxRecDepth 20000 in
theorem ggX6_best_X1_begin : GoodIn wsX6_best wsX1_begin := goodIn_ca (goodIn_ca (goodIn_r _ [44, 45, 46, 47, 48, 49, 50, 51, 52, 18, 53, 24, 29, 54, 55, 56, 57, 58, 59, 60, 61, 62, 63, 64, 65, 66, 67, 68, 69, 70, 71, 72, 30, 73, 74, 75, 76, 77, 78, 79, 80, 25, 26, 27, 28, 31, 32, 33, 34, 35, 81, 82, 83, 84, 85, 86, 87, 88, 89, 90, 91, 92, 93, 94, 95, 96, 97, 98, 99, 100, 101, 102, 103, 104, 105, 106, 107, 108, 109, 110, 111, 112, 113, 114, 115, 228, 229, 230, 245, 246, 247, 248, 249, 250, 251, 252, 253, 254, 255, 243, 244] (by decide +kernel) (by decide +kernel)) (goodIn_sub (fun _ h => List.mem_cons_of_mem _ (List.mem_append_left _ (List.mem_append_right _ h))) (by decide +kernel))) (goodIn_sub (fun _ h => List.mem_cons_of_mem _ (List.mem_append_right _ h)) (by decide +kernel))
set_option maxRecDepth 20000 in
theorem gX6_best_X1_begin : GoodIn wsX6_best (wsV RX6 156 RX1 yX1_begin wsX1_begin) := goodIn_app (goodIn_of _ (by decide +kernel)) ggX6_best_X1_begin
set_option maxRecDepth 20000 in
theorem ggX6_best_X1_seekNearest : GoodIn wsX6_best wsX1_seekNearest := goodIn_ca (goodIn_ca (goodIn_r _ [119, 120, 121, 122, 123, 43, 124, 49, 104, 105, 106, 18, 107, 24, 125, 126, 127, 128, 48, 69, 70, 71, 72, 30, 73, 74, 75, 76, 77, 78, 79, 80, 25, 26, 27, 28, 29, 31, 32, 33, 34, 35, 81, 82, 83, 84, 85, 86, 87, 88, 89, 90, 91, 92, 93, 94, 95, 54, 55, 56, 57, 96, 97, 98, 99, 100, 101, 102, 103, 62, 63, 64, 65, 66, 67, 68, 129, 16, 17, 19, 20, 21, 22, 23, 36, 37, 38, 39, 130, 131, 132, 133, 134, 135, 136, 137, 138, 139, 140, 141, 142, 46, 143, 144, 145, 146, 147, 148, 149, 150, 151, 152, 153, 154, 155, 156, 157, 158, 159, 160, 112, 113, 114, 115, 161, 162, 163, 164, 245, 246, 247, 248, 249, 250, 251, 252, 253, 254, 255, 243, 244] (by decide +kernel) (by decide +kernel)) (goodIn_sub (fun _ h => List.mem_cons_of_mem _ (List.mem_append_right _ h)) (by decide +kernel))) (goodIn_sub (fun _ h => List.mem_cons_of_mem _ (List.mem_append_left _ (List.mem_append_right _ h))) (by decide +kernel))
set_option maxRecDepth 20000 in
theorem gX6_best_X1_seekNearest : GoodIn wsX6_best (wsV RX6 186 RX1 yX1_seekNearest wsX1_seekNearest) := goodIn_app (goodIn_of _ (by decide +kernel)) ggX6_best_X1_seekNearest
set_option maxRecDepth 20000 in
theorem ggX6_best_X1_tell : GoodIn wsX6_best wsX1_tell := goodIn_ca (goodIn_r _ [168, 45, 47, 136, 135, 148, 149, 150, 18, 151, 73, 74, 75, 76, 24, 152, 153, 154, 155, 66, 67, 56, 68, 29, 54, 55, 57, 100, 101, 102, 103, 25, 26, 27, 28, 30, 156, 157, 158, 159, 62, 63, 64, 65, 169, 170, 171, 172, 173, 174, 175, 176, 105, 106, 107, 177, 51, 52, 53, 58, 59, 60, 61, 178, 179, 180, 181, 182, 78, 79, 80, 183, 113, 114, 115, 50, 245, 246, 247, 248, 249, 250, 251, 252, 253, 254, 255, 228, 229, 230, 243, 244] (by decide +kernel) (by decide +kernel)) (goodIn_sub (fun _ h => List.mem_cons_of_mem _ (List.mem_append_left _ (List.mem_append_right _ h))) (by decide +kernel))
set_option maxRecDepth 20000 in
theorem gX6_best_X1_tell : GoodIn wsX6_best (wsV RX6 179 RX1 yX1_tell wsX1_tell) := goodIn_app (goodIn_of _ (by decide +kernel)) ggX6_best_X1_tell
set_option maxRecDepth 20000 in
theorem ggX6_best_X2_copy : GoodIn wsX6_best wsX2_copy := goodIn_ca (goodIn_r _ [187, 175, 174, 188, 177, 51, 52, 18, 53, 24, 29, 54, 55, 56, 57, 58, 59, 60, 61, 62, 63, 64, 65, 66, 67, 68, 228, 229, 230, 243, 244] (by decide +kernel) (by decide +kernel)) (goodIn_sub (fun _ h => List.mem_cons_of_mem _ (List.mem_append_left _ (List.mem_append_right _ h))) (by decide +kernel))
set_option maxRecDepth 20000 in
theorem gX6_best_X2_copy : GoodIn wsX6_best (wsV RX6 190 RX2 yX2_copy wsX2_copy) := goodIn_app (goodIn_of _ (by decide +kernel)) ggX6_best_X2_copy
set_option maxRecDepth 20000 in
theorem ggX6_best_X6_keep : GoodIn wsX6_best wsX6_keep := goodIn_ca (goodIn_ca (goodIn_r _ [192, 2, 8, 9, 14, 193, 194, 195, 196, 197, 198, 199, 105, 106, 18, 107, 24, 200, 201, 202, 172, 203, 175, 174, 188, 204, 145, 146, 147, 100, 101, 102, 103, 29, 62, 63, 64, 65, 54, 55, 56, 57, 66, 67, 68, 205, 206, 207, 208, 25, 26, 27, 28, 30, 209, 210, 211, 212, 213, 214, 215, 216, 51, 52, 53, 58, 59, 60, 61, 217, 70, 71, 72, 73, 74, 75, 76, 77, 78, 79, 80, 31, 32, 33, 34, 35, 81, 82, 83, 84, 85, 86, 87, 88, 89, 90, 91, 92, 93, 94, 95, 96, 97, 98, 99, 218, 219, 220, 221, 222, 223, 224, 225, 226, 227, 21, 22, 23, 184, 185, 186, 187, 177, 231, 232, 233, 234, 235, 236, 237, 238, 239, 240, 241, 242, 228, 229, 230, 243, 244] (by decide +kernel) (by decide +kernel)) (goodIn_sub (fun _ h => List.mem_cons_of_mem _ (List.mem_append_left _ (List.mem_append_right _ h))) (by decide +kernel))) (goodIn_sub (fun _ h => List.mem_cons_of_mem _ (List.mem_append_right _ h)) (by decide +kernel))
set_option maxRecDepth 20000 in
theorem gX6_best_X6_keep : GoodIn wsX6_best (wsV RX6 66 RX6 yX6_keep wsX6_keep) := goodIn_app (goodIn_of _ (by decide +kernel)) ggX6_best_X6_keep
theorem dX6_best_0 : decode cX6_best 0 = .ok (.aload_n 0, 1) := by decide +kernel
theorem dX6_best_1 : decode cX6_best 1 = .ok (.iload_n 1, 1) := by decide +kernel
theorem dX6_best_2 : decode cX6_best 2 = .ok (.invokevirtual 86, 3) := by decide +kernel
theorem dX6_best_5 : decode cX6_best 5 = .ok (.astore 4, 2) := by decide +kernel
theorem dX6_best_7 : decode cX6_best 7 = .ok (.aload 4, 2) := by decide +kernel
theorem dX6_best_9 : decode cX6_best 9 = .ok (.ifnull 9, 3) := by decide +kernel
theorem dX6_best_12 : decode cX6_best 12 = .ok (.lload_n 2, 1) := by decide +kernel
theorem dX6_best_13 : decode cX6_best 13 = .ok (.lconst 1, 1) := by decide +kernel
theorem dX6_best_14 : decode cX6_best 14 = .ok (.lcmp, 1) := by decide +kernel
theorem dX6_best_15 : decode cX6_best 15 = .ok (.ifCond .ge 5, 3) := by decide +kernel
theorem dX6_best_18 : decode cX6_best 18 = .ok (.iconst (-1), 1) := by decide +kernel
theorem dX6_best_19 : decode cX6_best 19 = .ok (.ireturn, 1) := by decide +kernel
theorem dX6_best_20 : decode cX6_best 20 = .ok (.aload_n 0, 1) := by decide +kernel
theorem dX6_best_21 : decode cX6_best 21 = .ok (.invokevirtual 54, 3) := by decide +kernel
theorem dX6_best_24 : decode cX6_best 24 = .ok (.ifCond .eq 6, 3) := by decide +kernel
theorem dX6_best_27 : decode cX6_best 27 = .ok (.bipush (-3), 2) := by decide +kernel
theorem dX6_best_29 : decode cX6_best 29 = .ok (.ireturn, 1) := by decide +kernel
theorem dX6_best_30 : decode cX6_best 30 = .ok (.aload 4, 2) := by decide +kernel
theorem dX6_best_32 : decode cX6_best 32 = .ok (.getfield 141, 3) := by decide +kernel
theorem dX6_best_35 : decode cX6_best 35 = .ok (.lload_n 2, 1) := by decide +kernel
theorem dX6_best_36 : decode cX6_best 36 = .ok (.invokevirtual 182, 3) := by decide +kernel
theorem dX6_best_39 : decode cX6_best 39 = .ok (.ifCond .eq 42, 3) := by decide +kernel
theorem dX6_best_42 : decode cX6_best 42 = .ok (.aload_n 0, 1) := by decide +kernel
theorem dX6_best_43 : decode cX6_best 43 = .ok (.getfield 36, 3) := by decide +kernel
theorem dX6_best_46 : decode cX6_best 46 = .ok (.aload 4, 2) := by decide +kernel
theorem dX6_best_48 : decode cX6_best 48 = .ok (.invokevirtual 156, 3) := by decide +kernel
theorem dX6_best_51 : decode cX6_best 51 = .ok (.aload_n 0, 1) := by decide +kernel
theorem dX6_best_52 : decode cX6_best 52 = .ok (.getfield 36, 3) := by decide +kernel
theorem dX6_best_55 : decode cX6_best 55 = .ok (.aload 4, 2) := by decide +kernel
theorem dX6_best_57 : decode cX6_best 57 = .ok (.getfield 141, 3) := by decide +kernel
theorem dX6_best_60 : decode cX6_best 60 = .ok (.lload_n 2, 1) := by decide +kernel
theorem dX6_best_61 : decode cX6_best 61 = .ok (.invokevirtual 186, 3) := by decide +kernel
theorem dX6_best_64 : decode cX6_best 64 = .ok (.aload_n 0, 1) := by decide +kernel
theorem dX6_best_65 : decode cX6_best 65 = .ok (.getfield 36, 3) := by decide +kernel
theorem dX6_best_68 : decode cX6_best 68 = .ok (.aload_n 0, 1) := by decide +kernel
theorem dX6_best_69 : decode cX6_best 69 = .ok (.getfield 29, 3) := by decide +kernel
theorem dX6_best_72 : decode cX6_best 72 = .ok (.getfield 58, 3) := by decide +kernel
theorem dX6_best_75 : decode cX6_best 75 = .ok (.invokevirtual 179, 3) := by decide +kernel
theorem dX6_best_78 : decode cX6_best 78 = .ok (.goto 15, 3) := by decide +kernel
theorem dX6_best_81 : decode cX6_best 81 = .ok (.aload_n 0, 1) := by decide +kernel
theorem dX6_best_82 : decode cX6_best 82 = .ok (.getfield 29, 3) := by decide +kernel
theorem dX6_best_85 : decode cX6_best 85 = .ok (.getfield 58, 3) := by decide +kernel
theorem dX6_best_88 : decode cX6_best 88 = .ok (.aload 4, 2) := by decide +kernel
theorem dX6_best_90 : decode cX6_best 90 = .ok (.invokevirtual 190, 3) := by decide +kernel
theorem dX6_best_93 : decode cX6_best 93 = .ok (.aload_n 0, 1) := by decide +kernel
theorem dX6_best_94 : decode cX6_best 94 = .ok (.invokevirtual 66, 3) := by decide +kernel
theorem dX6_best_97 : decode cX6_best 97 = .ok (.ireturn, 1) := by decide +kernel
set_option maxRecDepth 20000 in
theorem ggX6_exact_X6_find : GoodIn wsX6_exact wsX6_find := goodIn_ca (goodIn_r _ [10, 11, 12, 55, 56, 57, 58, 59, 60, 61] (by decide +kernel) (by decide +kernel)) (goodIn_sub (fun _ h => List.mem_cons_of_mem _ (List.mem_append_right _ h)) (by decide +kernel))
set_option maxRecDepth 20000 in
theorem gX6_exact_X6_find : GoodIn wsX6_exact (wsV RX6 86 RX6 yX6_find wsX6_find) := goodIn_app (goodIn_of _ (by decide +kernel)) ggX6_exact_X6_find
set_option maxRecDepth 20000 in
theorem ggX6_exact_X2_isWhole : GoodIn wsX6_exact wsX2_isWhole := goodIn_ca (goodIn_r _ [17, 18, 19, 20, 21, 22, 23, 24, 25, 26, 27, 28, 29, 30, 52, 53, 54, 62, 63] (by decide +kernel) (by decide +kernel)) (goodIn_sub (fun _ h => List.mem_cons_of_mem _ (List.mem_append_right _ h)) (by decide +kernel))
set_option maxRecDepth 20000 in
theorem gX6_exact_X2_isWhole : GoodIn wsX6_exact (wsV RX6 123 RX2 yX2_isWhole wsX2_isWhole) := goodIn_app (goodIn_of _ (by decide +kernel)) ggX6_exact_X2_isWhole
set_option maxRecDepth 20000 in
theorem ggX6_exact_X2_fitsLong : GoodIn wsX6_exact wsX2_fitsLong := goodIn_ca (goodIn_r _ [34, 35, 36, 37, 38, 39, 40, 22, 41, 24, 25, 26, 27, 28, 29, 30, 42, 43, 44, 45, 46, 47, 48, 49, 50, 52, 53, 54, 62, 63] (by decide +kernel) (by decide +kernel)) (goodIn_sub (fun _ h => List.mem_cons_of_mem _ (List.mem_append_right _ h)) (by decide +kernel))
set_option maxRecDepth 20000 in
theorem gX6_exact_X2_fitsLong : GoodIn wsX6_exact (wsV RX6 202 RX2 yX2_fitsLong wsX2_fitsLong) := goodIn_app (goodIn_of _ (by decide +kernel)) ggX6_exact_X2_fitsLong
set_option maxRecDepth 20000 in
theorem ggX6_exact_X5_low : GoodIn wsX6_exact wsX5_low := goodIn_ca (goodIn_r _ [50, 25, 26, 27, 22, 28, 24, 29, 30, 62, 63] (by decide +kernel) (by decide +kernel)) (goodIn_sub (fun _ h => List.mem_cons_of_mem _ (List.mem_append_right _ h)) (by decide +kernel))
set_option maxRecDepth 20000 in
theorem gX6_exact_X5_low : GoodIn wsX6_exact (wsV RX6 207 RX5 yX5_low wsX5_low) := goodIn_app (goodIn_of _ (by decide +kernel)) ggX6_exact_X5_low
theorem dX6_exact_0 : decode cX6_exact 0 = .ok (.aload_n 0, 1) := by decide +kernel
theorem dX6_exact_1 : decode cX6_exact 1 = .ok (.iload_n 1, 1) := by decide +kernel
theorem dX6_exact_2 : decode cX6_exact 2 = .ok (.invokevirtual 86, 3) := by decide +kernel
theorem dX6_exact_5 : decode cX6_exact 5 = .ok (.astore_n 3, 1) := by decide +kernel
theorem dX6_exact_6 : decode cX6_exact 6 = .ok (.aload_n 3, 1) := by decide +kernel
theorem dX6_exact_7 : decode cX6_exact 7 = .ok (.ifnull 23, 3) := by decide +kernel
theorem dX6_exact_10 : decode cX6_exact 10 = .ok (.iload_n 2, 1) := by decide +kernel
theorem dX6_exact_11 : decode cX6_exact 11 = .ok (.ifCond .lt 19, 3) := by decide +kernel
theorem dX6_exact_14 : decode cX6_exact 14 = .ok (.iload_n 2, 1) := by decide +kernel
theorem dX6_exact_15 : decode cX6_exact 15 = .ok (.getstatic 193, 3) := by decide +kernel
theorem dX6_exact_18 : decode cX6_exact 18 = .ok (.arraylength, 1) := by decide +kernel
theorem dX6_exact_19 : decode cX6_exact 19 = .ok (.if_icmp .ge 11, 3) := by decide +kernel
theorem dX6_exact_22 : decode cX6_exact 22 = .ok (.iload_n 2, 1) := by decide +kernel
theorem dX6_exact_23 : decode cX6_exact 23 = .ok (.getstatic 197, 3) := by decide +kernel
theorem dX6_exact_26 : decode cX6_exact 26 = .ok (.arraylength, 1) := by decide +kernel
theorem dX6_exact_27 : decode cX6_exact 27 = .ok (.if_icmp .lt 7, 3) := by decide +kernel
theorem dX6_exact_30 : decode cX6_exact 30 = .ok (.ldc2_w 200, 3) := by decide +kernel
theorem dX6_exact_33 : decode cX6_exact 33 = .ok (.lreturn, 1) := by decide +kernel
theorem dX6_exact_34 : decode cX6_exact 34 = .ok (.aload_n 3, 1) := by decide +kernel
theorem dX6_exact_35 : decode cX6_exact 35 = .ok (.invokevirtual 123, 3) := by decide +kernel
theorem dX6_exact_38 : decode cX6_exact 38 = .ok (.ifCond .eq 10, 3) := by decide +kernel
theorem dX6_exact_41 : decode cX6_exact 41 = .ok (.aload_n 3, 1) := by decide +kernel
theorem dX6_exact_42 : decode cX6_exact 42 = .ok (.invokevirtual 202, 3) := by decide +kernel
theorem dX6_exact_45 : decode cX6_exact 45 = .ok (.ifCond .ne 13, 3) := by decide +kernel
theorem dX6_exact_48 : decode cX6_exact 48 = .ok (.new 93, 3) := by decide +kernel
theorem dX6_exact_51 : decode cX6_exact 51 = .ok (.dup, 1) := by decide +kernel
theorem dX6_exact_52 : decode cX6_exact 52 = .ok (.ldc 205, 2) := by decide +kernel
theorem dX6_exact_54 : decode cX6_exact 54 = .ok (.invokespecial 97, 3) := by decide +kernel
theorem dX6_exact_57 : decode cX6_exact 57 = .ok (.athrow, 1) := by decide +kernel
theorem dX6_exact_58 : decode cX6_exact 58 = .ok (.aload_n 3, 1) := by decide +kernel
theorem dX6_exact_59 : decode cX6_exact 59 = .ok (.getfield 90, 3) := by decide +kernel
theorem dX6_exact_62 : decode cX6_exact 62 = .ok (.ifCond .ge 14, 3) := by decide +kernel
theorem dX6_exact_65 : decode cX6_exact 65 = .ok (.aload_n 3, 1) := by decide +kernel
theorem dX6_exact_66 : decode cX6_exact 66 = .ok (.getfield 77, 3) := by decide +kernel
theorem dX6_exact_69 : decode cX6_exact 69 = .ok (.invokevirtual 207, 3) := by decide +kernel
theorem dX6_exact_72 : decode cX6_exact 72 = .ok (.lneg, 1) := by decide +kernel
theorem dX6_exact_73 : decode cX6_exact 73 = .ok (.goto 10, 3) := by decide +kernel
theorem dX6_exact_76 : decode cX6_exact 76 = .ok (.aload_n 3, 1) := by decide +kernel
theorem dX6_exact_77 : decode cX6_exact 77 = .ok (.getfield 77, 3) := by decide +kernel
theorem dX6_exact_80 : decode cX6_exact 80 = .ok (.invokevirtual 207, 3) := by decide +kernel
theorem dX6_exact_83 : decode cX6_exact 83 = .ok (.lstore 4, 2) := by decide +kernel
theorem dX6_exact_85 : decode cX6_exact 85 = .ok (.lload 4, 2) := by decide +kernel
theorem dX6_exact_87 : decode cX6_exact 87 = .ok (.getstatic 193, 3) := by decide +kernel
theorem dX6_exact_90 : decode cX6_exact 90 = .ok (.iload_n 2, 1) := by decide +kernel
theorem dX6_exact_91 : decode cX6_exact 91 = .ok (.laload, 1) := by decide +kernel
theorem dX6_exact_92 : decode cX6_exact 92 = .ok (.lcmp, 1) := by decide +kernel
theorem dX6_exact_93 : decode cX6_exact 93 = .ok (.ifCond .lt 14, 3) := by decide +kernel
theorem dX6_exact_96 : decode cX6_exact 96 = .ok (.lload 4, 2) := by decide +kernel
theorem dX6_exact_98 : decode cX6_exact 98 = .ok (.getstatic 197, 3) := by decide +kernel
theorem dX6_exact_101 : decode cX6_exact 101 = .ok (.iload_n 2, 1) := by decide +kernel
theorem dX6_exact_102 : decode cX6_exact 102 = .ok (.laload, 1) := by decide +kernel
theorem dX6_exact_103 : decode cX6_exact 103 = .ok (.lcmp, 1) := by decide +kernel
theorem dX6_exact_104 : decode cX6_exact 104 = .ok (.ifCond .le 13, 3) := by decide +kernel
theorem dX6_exact_107 : decode cX6_exact 107 = .ok (.new 93, 3) := by decide +kernel
theorem dX6_exact_110 : decode cX6_exact 110 = .ok (.dup, 1) := by decide +kernel
theorem dX6_exact_111 : decode cX6_exact 111 = .ok (.ldc 211, 2) := by decide +kernel
theorem dX6_exact_113 : decode cX6_exact 113 = .ok (.invokespecial 97, 3) := by decide +kernel
theorem dX6_exact_116 : decode cX6_exact 116 = .ok (.athrow, 1) := by decide +kernel
theorem dX6_exact_117 : decode cX6_exact 117 = .ok (.lload 4, 2) := by decide +kernel
theorem dX6_exact_119 : decode cX6_exact 119 = .ok (.lreturn, 1) := by decide +kernel
set_option maxRecDepth 20000 in
theorem ggX6_real_X6_find : GoodIn wsX6_real wsX6_find := goodIn_ca (goodIn_r _ [9, 10, 11, 115, 116, 117, 118, 119, 120, 121] (by decide +kernel) (by decide +kernel)) (goodIn_sub (fun _ h => List.mem_cons_of_mem _ (List.mem_append_left _ (List.mem_append_right _ h))) (by decide +kernel))
set_option maxRecDepth 20000 in
theorem gX6_real_X6_find : GoodIn wsX6_real (wsV RX6 86 RX6 yX6_find wsX6_find) := goodIn_app (goodIn_of _ (by decide +kernel)) ggX6_real_X6_find
set_option maxRecDepth 20000 in
theorem ggX6_real_X0_nearestBits : GoodIn wsX6_real wsX0_nearestBits := goodIn_ca (goodIn_ca (goodIn_r _ [16, 17, 18, 19, 20, 21, 22, 23, 24, 25, 26, 27, 28, 29, 30, 31, 32, 33, 34, 35, 36, 37, 38, 39, 40, 41, 42, 43, 44, 45, 46, 15, 47, 48, 49, 50, 51, 52, 53, 54, 55, 56, 57, 58, 59, 60, 61, 62, 63, 64, 65, 66, 67, 68, 69, 70, 71, 72, 73, 74, 75, 76, 77, 78, 79, 80, 81, 82, 83, 84, 85, 86, 87, 88, 89, 90, 91, 92, 93, 94, 95, 96, 97, 98, 99, 100, 101, 102, 103, 104, 105, 106, 107, 108, 109, 110, 111, 112, 113, 114, 122, 123, 124, 125, 126, 127, 128, 129, 130, 131] (by decide +kernel) (by decide +kernel)) (goodIn_sub (fun _ h => List.mem_cons_of_mem _ (List.mem_append_left _ (List.mem_append_right _ h))) (by decide +kernel))) (goodIn_sub (fun _ h => List.mem_cons_of_mem _ (List.mem_append_right _ h)) (by decide +kernel))
set_option maxRecDepth 20000 in
theorem gX6_real_X0_nearestBits : GoodIn wsX6_real (wsV RX6 215 RX0 yX0_nearestBits wsX0_nearestBits) := goodIn_app (goodIn_of _ (by decide +kernel)) ggX6_real_X0_nearestBits
theorem dX6_real_0 : decode cX6_real 0 = .ok (.aload_n 0, 1) := by decide +kernel
theorem dX6_real_1 : decode cX6_real 1 = .ok (.iload_n 1, 1) := by decide +kernel
theorem dX6_real_2 : decode cX6_real 2 = .ok (.invokevirtual 86, 3) := by decide +kernel
theorem dX6_real_5 : decode cX6_real 5 = .ok (.astore_n 2, 1) := by decide +kernel
theorem dX6_real_6 : decode cX6_real 6 = .ok (.aload_n 2, 1) := by decide +kernel
theorem dX6_real_7 : decode cX6_real 7 = .ok (.ifnonnull 7, 3) := by decide +kernel
theorem dX6_real_10 : decode cX6_real 10 = .ok (.ldc2_w 200, 3) := by decide +kernel
theorem dX6_real_13 : decode cX6_real 13 = .ok (.lreturn, 1) := by decide +kernel
theorem dX6_real_14 : decode cX6_real 14 = .ok (.aload_n 0, 1) := by decide +kernel
theorem dX6_real_15 : decode cX6_real 15 = .ok (.getfield 29, 3) := by decide +kernel
theorem dX6_real_18 : decode cX6_real 18 = .ok (.aload_n 2, 1) := by decide +kernel
theorem dX6_real_19 : decode cX6_real 19 = .ok (.bipush 53, 2) := by decide +kernel
theorem dX6_real_21 : decode cX6_real 21 = .ok (.sipush (-1074), 3) := by decide +kernel
theorem dX6_real_24 : decode cX6_real 24 = .ok (.ldc2_w 213, 3) := by decide +kernel
theorem dX6_real_27 : decode cX6_real 27 = .ok (.invokevirtual 215, 3) := by decide +kernel
theorem dX6_real_30 : decode cX6_real 30 = .ok (.lstore_n 3, 1) := by decide +kernel
theorem dX6_real_31 : decode cX6_real 31 = .ok (.aload_n 2, 1) := by decide +kernel
theorem dX6_real_32 : decode cX6_real 32 = .ok (.getfield 90, 3) := by decide +kernel
theorem dX6_real_35 : decode cX6_real 35 = .ok (.ifCond .ge 11, 3) := by decide +kernel
theorem dX6_real_38 : decode cX6_real 38 = .ok (.lload_n 3, 1) := by decide +kernel
theorem dX6_real_39 : decode cX6_real 39 = .ok (.ldc2_w 219, 3) := by decide +kernel
theorem dX6_real_42 : decode cX6_real 42 = .ok (.lor, 1) := by decide +kernel
theorem dX6_real_43 : decode cX6_real 43 = .ok (.goto 4, 3) := by decide +kernel
theorem dX6_real_46 : decode cX6_real 46 = .ok (.lload_n 3, 1) := by decide +kernel
theorem dX6_real_47 : decode cX6_real 47 = .ok (.lreturn, 1) := by decide +kernel
set_option maxRecDepth 20000 in
theorem ggX6_single_X6_find : GoodIn wsX6_single wsX6_find := goodIn_ca (goodIn_r _ [8, 9, 10, 114, 115, 116, 117, 118, 119, 120] (by decide +kernel) (by decide +kernel)) (goodIn_sub (fun _ h => List.mem_cons_of_mem _ (List.mem_append_left _ (List.mem_append_right _ h))) (by decide +kernel))
set_option maxRecDepth 20000 in
theorem gX6_single_X6_find : GoodIn wsX6_single (wsV RX6 86 RX6 yX6_find wsX6_find) := goodIn_app (goodIn_of _ (by decide +kernel)) ggX6_single_X6_find
set_option maxRecDepth 20000 in
theorem ggX6_single_X0_nearestBits : GoodIn wsX6_single wsX0_nearestBits := goodIn_ca (goodIn_ca (goodIn_r _ [15, 16, 17, 18, 19, 20, 21, 22, 23, 24, 25, 26, 27, 28, 29, 30, 31, 32, 33, 34, 35, 36, 37, 38, 39, 40, 41, 42, 43, 44, 45, 14, 46, 47, 48, 49, 50, 51, 52, 53, 54, 55, 56, 57, 58, 59, 60, 61, 62, 63, 64, 65, 66, 67, 68, 69, 70, 71, 72, 73, 74, 75, 76, 77, 78, 79, 80, 81, 82, 83, 84, 85, 86, 87, 88, 89, 90, 91, 92, 93, 94, 95, 96, 97, 98, 99, 100, 101, 102, 103, 104, 105, 106, 107, 108, 109, 110, 111, 112, 113, 121, 122, 123, 124, 125, 126, 127, 128, 129, 130] (by decide +kernel) (by decide +kernel)) (goodIn_sub (fun _ h => List.mem_cons_of_mem _ (List.mem_append_left _ (List.mem_append_right _ h))) (by decide +kernel))) (goodIn_sub (fun _ h => List.mem_cons_of_mem _ (List.mem_append_right _ h)) (by decide +kernel))
set_option maxRecDepth 20000 in
theorem gX6_single_X0_nearestBits : GoodIn wsX6_single (wsV RX6 215 RX0 yX0_nearestBits wsX0_nearestBits) := goodIn_app (goodIn_of _ (by decide +kernel)) ggX6_single_X0_nearestBits
theorem dX6_single_0 : decode cX6_single 0 = .ok (.aload_n 0, 1) := by decide +kernel
theorem dX6_single_1 : decode cX6_single 1 = .ok (.iload_n 1, 1) := by decide +kernel
theorem dX6_single_2 : decode cX6_single 2 = .ok (.invokevirtual 86, 3) := by decide +kernel
theorem dX6_single_5 : decode cX6_single 5 = .ok (.astore_n 2, 1) := by decide +kernel
theorem dX6_single_6 : decode cX6_single 6 = .ok (.aload_n 2, 1) := by decide +kernel
theorem dX6_single_7 : decode cX6_single 7 = .ok (.ifnonnull 5, 3) := by decide +kernel
theorem dX6_single_10 : decode cX6_single 10 = .ok (.iconst (-1), 1) := by decide +kernel
theorem dX6_single_11 : decode cX6_single 11 = .ok (.ireturn, 1) := by decide +kernel
theorem dX6_single_12 : decode cX6_single 12 = .ok (.aload_n 0, 1) := by decide +kernel
theorem dX6_single_13 : decode cX6_single 13 = .ok (.getfield 29, 3) := by decide +kernel
theorem dX6_single_16 : decode cX6_single 16 = .ok (.aload_n 2, 1) := by decide +kernel
theorem dX6_single_17 : decode cX6_single 17 = .ok (.bipush 24, 2) := by decide +kernel
theorem dX6_single_19 : decode cX6_single 19 = .ok (.sipush (-149), 3) := by decide +kernel
theorem dX6_single_22 : decode cX6_single 22 = .ok (.ldc2_w 221, 3) := by decide +kernel
theorem dX6_single_25 : decode cX6_single 25 = .ok (.invokevirtual 215, 3) := by decide +kernel
theorem dX6_single_28 : decode cX6_single 28 = .ok (.lstore_n 3, 1) := by decide +kernel
theorem dX6_single_29 : decode cX6_single 29 = .ok (.aload_n 2, 1) := by decide +kernel
theorem dX6_single_30 : decode cX6_single 30 = .ok (.getfield 90, 3) := by decide +kernel
theorem dX6_single_33 : decode cX6_single 33 = .ok (.ifCond .ge 11, 3) := by decide +kernel
theorem dX6_single_36 : decode cX6_single 36 = .ok (.lload_n 3, 1) := by decide +kernel
theorem dX6_single_37 : decode cX6_single 37 = .ok (.ldc2_w 223, 3) := by decide +kernel
theorem dX6_single_40 : decode cX6_single 40 = .ok (.lor, 1) := by decide +kernel
theorem dX6_single_41 : decode cX6_single 41 = .ok (.goto 4, 3) := by decide +kernel
theorem dX6_single_44 : decode cX6_single 44 = .ok (.lload_n 3, 1) := by decide +kernel
theorem dX6_single_45 : decode cX6_single 45 = .ok (.l2i, 1) := by decide +kernel
theorem dX6_single_46 : decode cX6_single 46 = .ok (.ireturn, 1) := by decide +kernel
set_option maxRecDepth 20000 in
theorem ggX6_ofReal_X6_isFull : GoodIn wsX6_ofReal wsX6_isFull := goodIn_r _ [14, 15, 142, 143, 144, 145, 146, 147, 148] (by decide +kernel) (by decide +kernel)
set_option maxRecDepth 20000 in
theorem gX6_ofReal_X6_isFull : GoodIn wsX6_ofReal (wsV RX6 54 RX6 yX6_isFull wsX6_isFull) := goodIn_app (goodIn_of _ (by decide +kernel)) ggX6_ofReal_X6_isFull
set_option maxRecDepth 20000 in
theorem ggX6_ofReal_X2_become : GoodIn wsX6_ofReal wsX2_become := goodIn_ca (goodIn_r _ [20, 21, 22, 23, 24, 25, 26, 27, 28, 29, 30, 31, 32, 33, 34, 35, 36, 37, 38, 39, 7, 40, 41, 6, 8, 42, 154, 155, 156, 157, 158] (by decide +kernel) (by decide +kernel)) (goodIn_sub (fun _ h => List.mem_cons_of_mem _ (List.mem_append_left _ (List.mem_append_right _ h))) (by decide +kernel))
set_option maxRecDepth 20000 in
theorem gX6_ofReal_X2_become : GoodIn wsX6_ofReal (wsV RX6 62 RX2 yX2_become wsX2_become) := goodIn_app (goodIn_of _ (by decide +kernel)) ggX6_ofReal_X2_become
set_option maxRecDepth 20000 in
theorem ggX6_ofReal_X5_shiftLeft : GoodIn wsX6_ofReal wsX5_shiftLeft := goodIn_ca (goodIn_r _ [46, 42, 33, 38, 39, 7, 40, 47, 48, 49, 27, 50, 51, 29, 30, 31, 32, 34, 35, 36, 37, 41, 6, 8, 157, 158] (by decide +kernel) (by decide +kernel)) (goodIn_sub (fun _ h => List.mem_cons_of_mem _ (List.mem_append_left _ (List.mem_append_right _ h))) (by decide +kernel))
set_option maxRecDepth 20000 in
theorem gX6_ofReal_X5_shiftLeft : GoodIn wsX6_ofReal (wsV RX6 81 RX5 yX5_shiftLeft wsX5_shiftLeft) := goodIn_app (goodIn_of _ (by decide +kernel)) ggX6_ofReal_X5_shiftLeft
set_option maxRecDepth 20000 in
theorem ggX6_ofReal_X6_keep : GoodIn wsX6_ofReal wsX6_keep := goodIn_ca (goodIn_ca (goodIn_r _ [55, 9, 56, 57, 15, 58, 59, 60, 61, 62, 63, 64, 65, 66, 27, 67, 42, 68, 17, 18, 19, 20, 21, 22, 23, 24, 25, 26, 28, 29, 30, 31, 32, 33, 34, 35, 36, 37, 38, 39, 7, 40, 41, 6, 8, 69, 70, 71, 72, 47, 48, 49, 50, 51, 73, 74, 75, 76, 77, 78, 79, 80, 81, 82, 83, 84, 85, 86, 87, 88, 89, 90, 91, 92, 93, 94, 95, 96, 97, 98, 99, 100, 101, 102, 103, 104, 105, 106, 107, 108, 109, 110, 111, 112, 113, 114, 115, 116, 117, 118, 119, 120, 121, 122, 123, 124, 125, 126, 127, 128, 129, 130, 131, 132, 133, 134, 135, 136, 137, 138, 139, 140, 141, 142, 143, 144, 145, 146, 147, 148, 149, 150, 151, 152, 153, 154, 155, 156, 157, 158] (by decide +kernel) (by decide +kernel)) (goodIn_sub (fun _ h => List.mem_cons_of_mem _ (List.mem_append_left _ (List.mem_append_right _ h))) (by decide +kernel))) (goodIn_sub (fun _ h => List.mem_cons_of_mem _ (List.mem_append_right _ h)) (by decide +kernel))
set_option maxRecDepth 20000 in
theorem gX6_ofReal_X6_keep : GoodIn wsX6_ofReal (wsV RX6 66 RX6 yX6_keep wsX6_keep) := goodIn_app (goodIn_of _ (by decide +kernel)) ggX6_ofReal_X6_keep
theorem dX6_ofReal_0 : decode cX6_ofReal 0 = .ok (.lload_n 1, 1) := by decide +kernel
theorem dX6_ofReal_1 : decode cX6_ofReal 1 = .ok (.bipush 52, 2) := by decide +kernel
theorem dX6_ofReal_3 : decode cX6_ofReal 3 = .ok (.lushr, 1) := by decide +kernel
theorem dX6_ofReal_4 : decode cX6_ofReal 4 = .ok (.l2i, 1) := by decide +kernel
theorem dX6_ofReal_5 : decode cX6_ofReal 5 = .ok (.sipush 2047, 3) := by decide +kernel
theorem dX6_ofReal_8 : decode cX6_ofReal 8 = .ok (.iand, 1) := by decide +kernel
theorem dX6_ofReal_9 : decode cX6_ofReal 9 = .ok (.istore_n 3, 1) := by decide +kernel
theorem dX6_ofReal_10 : decode cX6_ofReal 10 = .ok (.iload_n 3, 1) := by decide +kernel
theorem dX6_ofReal_11 : decode cX6_ofReal 11 = .ok (.sipush 2047, 3) := by decide +kernel
theorem dX6_ofReal_14 : decode cX6_ofReal 14 = .ok (.if_icmp .ne 13, 3) := by decide +kernel
theorem dX6_ofReal_17 : decode cX6_ofReal 17 = .ok (.new 93, 3) := by decide +kernel
theorem dX6_ofReal_20 : decode cX6_ofReal 20 = .ok (.dup, 1) := by decide +kernel
theorem dX6_ofReal_21 : decode cX6_ofReal 21 = .ok (.ldc 225, 2) := by decide +kernel
theorem dX6_ofReal_23 : decode cX6_ofReal 23 = .ok (.invokespecial 97, 3) := by decide +kernel
theorem dX6_ofReal_26 : decode cX6_ofReal 26 = .ok (.athrow, 1) := by decide +kernel
theorem dX6_ofReal_27 : decode cX6_ofReal 27 = .ok (.aload_n 0, 1) := by decide +kernel
theorem dX6_ofReal_28 : decode cX6_ofReal 28 = .ok (.invokevirtual 54, 3) := by decide +kernel
theorem dX6_ofReal_31 : decode cX6_ofReal 31 = .ok (.ifCond .eq 6, 3) := by decide +kernel
theorem dX6_ofReal_34 : decode cX6_ofReal 34 = .ok (.bipush (-3), 2) := by decide +kernel
theorem dX6_ofReal_36 : decode cX6_ofReal 36 = .ok (.ireturn, 1) := by decide +kernel
theorem dX6_ofReal_37 : decode cX6_ofReal 37 = .ok (.lload_n 1, 1) := by decide +kernel
theorem dX6_ofReal_38 : decode cX6_ofReal 38 = .ok (.ldc2_w 227, 3) := by decide +kernel
theorem dX6_ofReal_41 : decode cX6_ofReal 41 = .ok (.land, 1) := by decide +kernel
theorem dX6_ofReal_42 : decode cX6_ofReal 42 = .ok (.lstore 4, 2) := by decide +kernel
theorem dX6_ofReal_44 : decode cX6_ofReal 44 = .ok (.iload_n 3, 1) := by decide +kernel
theorem dX6_ofReal_45 : decode cX6_ofReal 45 = .ok (.ifCond .ne 8, 3) := by decide +kernel
theorem dX6_ofReal_48 : decode cX6_ofReal 48 = .ok (.lload 4, 2) := by decide +kernel
theorem dX6_ofReal_50 : decode cX6_ofReal 50 = .ok (.goto 9, 3) := by decide +kernel
theorem dX6_ofReal_53 : decode cX6_ofReal 53 = .ok (.lload 4, 2) := by decide +kernel
theorem dX6_ofReal_55 : decode cX6_ofReal 55 = .ok (.ldc2_w 229, 3) := by decide +kernel
theorem dX6_ofReal_58 : decode cX6_ofReal 58 = .ok (.lor, 1) := by decide +kernel
theorem dX6_ofReal_59 : decode cX6_ofReal 59 = .ok (.lstore 6, 2) := by decide +kernel
theorem dX6_ofReal_61 : decode cX6_ofReal 61 = .ok (.iload_n 3, 1) := by decide +kernel
theorem dX6_ofReal_62 : decode cX6_ofReal 62 = .ok (.iconst 1, 1) := by decide +kernel
theorem dX6_ofReal_63 : decode cX6_ofReal 63 = .ok (.invokestatic 231, 3) := by decide +kernel
theorem dX6_ofReal_66 : decode cX6_ofReal 66 = .ok (.iconst 1, 1) := by decide +kernel
theorem dX6_ofReal_67 : decode cX6_ofReal 67 = .ok (.isub, 1) := by decide +kernel
theorem dX6_ofReal_68 : decode cX6_ofReal 68 = .ok (.sipush (-1074), 3) := by decide +kernel
theorem dX6_ofReal_71 : decode cX6_ofReal 71 = .ok (.iadd, 1) := by decide +kernel
theorem dX6_ofReal_72 : decode cX6_ofReal 72 = .ok (.istore 8, 2) := by decide +kernel
theorem dX6_ofReal_74 : decode cX6_ofReal 74 = .ok (.aload_n 0, 1) := by decide +kernel
theorem dX6_ofReal_75 : decode cX6_ofReal 75 = .ok (.getfield 29, 3) := by decide +kernel
theorem dX6_ofReal_78 : decode cX6_ofReal 78 = .ok (.getfield 58, 3) := by decide +kernel
theorem dX6_ofReal_81 : decode cX6_ofReal 81 = .ok (.lload_n 1, 1) := by decide +kernel
theorem dX6_ofReal_82 : decode cX6_ofReal 82 = .ok (.lconst 0, 1) := by decide +kernel
theorem dX6_ofReal_83 : decode cX6_ofReal 83 = .ok (.lcmp, 1) := by decide +kernel
theorem dX6_ofReal_84 : decode cX6_ofReal 84 = .ok (.ifCond .ge 7, 3) := by decide +kernel
theorem dX6_ofReal_87 : decode cX6_ofReal 87 = .ok (.iconst (-1), 1) := by decide +kernel
theorem dX6_ofReal_88 : decode cX6_ofReal 88 = .ok (.goto 4, 3) := by decide +kernel
theorem dX6_ofReal_91 : decode cX6_ofReal 91 = .ok (.iconst 1, 1) := by decide +kernel
theorem dX6_ofReal_92 : decode cX6_ofReal 92 = .ok (.lload 6, 2) := by decide +kernel
theorem dX6_ofReal_94 : decode cX6_ofReal 94 = .ok (.invokevirtual 62, 3) := by decide +kernel
theorem dX6_ofReal_97 : decode cX6_ofReal 97 = .ok (.aload_n 0, 1) := by decide +kernel
theorem dX6_ofReal_98 : decode cX6_ofReal 98 = .ok (.getfield 29, 3) := by decide +kernel
theorem dX6_ofReal_101 : decode cX6_ofReal 101 = .ok (.getfield 58, 3) := by decide +kernel
theorem dX6_ofReal_104 : decode cX6_ofReal 104 = .ok (.getfield 77, 3) := by decide +kernel
theorem dX6_ofReal_107 : decode cX6_ofReal 107 = .ok (.iload 8, 2) := by decide +kernel
theorem dX6_ofReal_109 : decode cX6_ofReal 109 = .ok (.invokevirtual 81, 3) := by decide +kernel
theorem dX6_ofReal_112 : decode cX6_ofReal 112 = .ok (.aload_n 0, 1) := by decide +kernel
theorem dX6_ofReal_113 : decode cX6_ofReal 113 = .ok (.getfield 29, 3) := by decide +kernel
theorem dX6_ofReal_116 : decode cX6_ofReal 116 = .ok (.getfield 58, 3) := by decide +kernel
theorem dX6_ofReal_119 : decode cX6_ofReal 119 = .ok (.getfield 141, 3) := by decide +kernel
theorem dX6_ofReal_122 : decode cX6_ofReal 122 = .ok (.iload 8, 2) := by decide +kernel
theorem dX6_ofReal_124 : decode cX6_ofReal 124 = .ok (.ineg, 1) := by decide +kernel
theorem dX6_ofReal_125 : decode cX6_ofReal 125 = .ok (.invokevirtual 81, 3) := by decide +kernel
theorem dX6_ofReal_128 : decode cX6_ofReal 128 = .ok (.aload_n 0, 1) := by decide +kernel
theorem dX6_ofReal_129 : decode cX6_ofReal 129 = .ok (.invokevirtual 66, 3) := by decide +kernel
theorem dX6_ofReal_132 : decode cX6_ofReal 132 = .ok (.ireturn, 1) := by decide +kernel
set_option maxRecDepth 20000 in
theorem ggX6_feed_X4_add : GoodIn wsX6_feed wsX4_add := goodIn_ca (goodIn_r _ [6, 7, 8, 16, 17, 18, 19, 20] (by decide +kernel) (by decide +kernel)) (goodIn_sub (fun _ h => List.mem_cons_of_mem _ (List.mem_append_right _ h)) (by decide +kernel))
set_option maxRecDepth 20000 in
theorem gX6_feed_X4_add : GoodIn wsX6_feed (wsV RX6 237 RX4 yX4_add wsX4_add) := goodIn_app (goodIn_of _ (by decide +kernel)) ggX6_feed_X4_add
theorem dX6_feed_0 : decode cX6_feed 0 = .ok (.iload_n 1, 1) := by decide +kernel
theorem dX6_feed_1 : decode cX6_feed 1 = .ok (.ifCond .lt 10, 3) := by decide +kernel
theorem dX6_feed_4 : decode cX6_feed 4 = .ok (.iload_n 1, 1) := by decide +kernel
theorem dX6_feed_5 : decode cX6_feed 5 = .ok (.sipush 255, 3) := by decide +kernel
theorem dX6_feed_8 : decode cX6_feed 8 = .ok (.if_icmp .le 5, 3) := by decide +kernel
theorem dX6_feed_11 : decode cX6_feed 11 = .ok (.iconst (-1), 1) := by decide +kernel
theorem dX6_feed_12 : decode cX6_feed 12 = .ok (.ireturn, 1) := by decide +kernel
theorem dX6_feed_13 : decode cX6_feed 13 = .ok (.aload_n 0, 1) := by decide +kernel
theorem dX6_feed_14 : decode cX6_feed 14 = .ok (.getfield 43, 3) := by decide +kernel
theorem dX6_feed_17 : decode cX6_feed 17 = .ok (.iload_n 1, 1) := by decide +kernel
theorem dX6_feed_18 : decode cX6_feed 18 = .ok (.invokevirtual 237, 3) := by decide +kernel
theorem dX6_feed_21 : decode cX6_feed 21 = .ok (.ifCond .eq 13, 3) := by decide +kernel
theorem dX6_feed_24 : decode cX6_feed 24 = .ok (.aload_n 0, 1) := by decide +kernel
theorem dX6_feed_25 : decode cX6_feed 25 = .ok (.getfield 43, 3) := by decide +kernel
theorem dX6_feed_28 : decode cX6_feed 28 = .ok (.getfield 240, 3) := by decide +kernel
theorem dX6_feed_31 : decode cX6_feed 31 = .ok (.goto 5, 3) := by decide +kernel
theorem dX6_feed_34 : decode cX6_feed 34 = .ok (.bipush (-3), 2) := by decide +kernel
theorem dX6_feed_36 : decode cX6_feed 36 = .ok (.ireturn, 1) := by decide +kernel
set_option maxRecDepth 20000 in
theorem ggX6_read_X4_findFault : GoodIn wsX6_read wsX4_findFault := goodIn_ca (goodIn_r _ [9, 10, 11, 12, 13, 14, 15, 16, 8, 17, 18, 19, 20, 21, 22, 23, 24, 25, 26, 191, 192, 193, 194, 195] (by decide +kernel) (by decide +kernel)) (goodIn_sub (fun _ h => List.mem_cons_of_mem _ (List.mem_append_left _ (List.mem_append_right _ h))) (by decide +kernel))
set_option maxRecDepth 20000 in
theorem gX6_read_X4_findFault : GoodIn wsX6_read (wsV RX6 242 RX4 yX4_findFault wsX4_findFault) := goodIn_app (goodIn_of _ (by decide +kernel)) ggX6_read_X4_findFault
set_option maxRecDepth 20000 in
theorem ggX6_read_X4_clear : GoodIn wsX6_read wsX4_clear := goodIn_r _ [30, 13, 191, 192, 193, 194, 195] (by decide +kernel) (by decide +kernel)
set_option maxRecDepth 20000 in
theorem gX6_read_X4_clear : GoodIn wsX6_read (wsV RX6 245 RX4 yX4_clear wsX4_clear) := goodIn_app (goodIn_of _ (by decide +kernel)) ggX6_read_X4_clear
set_option maxRecDepth 20000 in
theorem ggX6_read_X6_isFull : GoodIn wsX6_read wsX6_isFull := goodIn_r _ [35, 36, 176, 177, 178, 179, 180, 181, 182] (by decide +kernel) (by decide +kernel)
set_option maxRecDepth 20000 in
theorem gX6_read_X6_isFull : GoodIn wsX6_read (wsV RX6 54 RX6 yX6_isFull wsX6_isFull) := goodIn_app (goodIn_of _ (by decide +kernel)) ggX6_read_X6_isFull
set_option maxRecDepth 20000 in
theorem ggX6_read_X4_tell : GoodIn wsX6_read wsX4_tell := goodIn_ca (goodIn_r _ [40, 10, 11, 12, 41, 42, 43, 44, 45, 46, 47, 48, 49, 50, 51, 52, 53, 54, 55, 56, 57, 58, 59, 60, 61, 62, 63, 64, 65, 66, 67, 68, 69, 70, 71, 72, 73, 8, 74, 14, 15, 16, 17, 13, 18, 75, 76, 77, 78, 79, 80, 81, 82, 83, 84, 85, 86, 87, 191, 192, 193, 194, 195, 188, 189, 190, 196, 197] (by decide +kernel) (by decide +kernel)) (goodIn_sub (fun _ h => List.mem_cons_of_mem _ (List.mem_append_left _ (List.mem_append_right _ h))) (by decide +kernel))
set_option maxRecDepth 20000 in
theorem gX6_read_X4_tell : GoodIn wsX6_read (wsV RX6 248 RX4 yX4_tell wsX4_tell) := goodIn_app (goodIn_of _ (by decide +kernel)) ggX6_read_X4_tell
set_option maxRecDepth 20000 in
theorem ggX6_read_X5_isZero : GoodIn wsX6_read wsX5_isZero := goodIn_r _ [91, 70, 196, 197] (by decide +kernel) (by decide +kernel)
set_option maxRecDepth 20000 in
theorem gX6_read_X5_isZero : GoodIn wsX6_read (wsV RX6 249 RX5 yX5_isZero wsX5_isZero) := goodIn_app (goodIn_of _ (by decide +kernel)) ggX6_read_X5_isZero
set_option maxRecDepth 20000 in
theorem ggX6_read_X6_keep : GoodIn wsX6_read wsX6_keep := goodIn_ca (goodIn_ca (goodIn_r _ [95, 4, 96, 97, 36, 98, 99, 100, 101, 102, 103, 104, 89, 90, 52, 91, 70, 105, 42, 43, 44, 45, 46, 47, 48, 49, 50, 51, 53, 54, 55, 56, 57, 58, 59, 60, 61, 62, 63, 64, 65, 66, 67, 68, 69, 106, 107, 108, 109, 79, 80, 81, 82, 83, 110, 111, 112, 113, 114, 115, 116, 117, 118, 119, 120, 121, 122, 123, 124, 125, 126, 127, 128, 129, 85, 86, 87, 130, 131, 132, 133, 134, 135, 136, 137, 138, 139, 140, 141, 142, 143, 144, 145, 146, 147, 148, 149, 150, 151, 152, 153, 154, 155, 156, 157, 158, 159, 160, 161, 162, 163, 164, 165, 166, 167, 168, 169, 170, 171, 172, 173, 174, 175, 176, 177, 178, 179, 180, 181, 182, 183, 184, 185, 186, 187, 188, 189, 190, 196, 197] (by decide +kernel) (by decide +kernel)) (goodIn_sub (fun _ h => List.mem_cons_of_mem _ (List.mem_append_left _ (List.mem_append_right _ h))) (by decide +kernel))) (goodIn_sub (fun _ h => List.mem_cons_of_mem _ (List.mem_append_right _ h)) (by decide +kernel))
set_option maxRecDepth 20000 in
theorem gX6_read_X6_keep : GoodIn wsX6_read (wsV RX6 66 RX6 yX6_keep wsX6_keep) := goodIn_app (goodIn_of _ (by decide +kernel)) ggX6_read_X6_keep
theorem dX6_read_0 : decode cX6_read 0 = .ok (.aload_n 0, 1) := by decide +kernel
theorem dX6_read_1 : decode cX6_read 1 = .ok (.getfield 43, 3) := by decide +kernel
theorem dX6_read_4 : decode cX6_read 4 = .ok (.invokevirtual 242, 3) := by decide +kernel
theorem dX6_read_7 : decode cX6_read 7 = .ok (.istore_n 1, 1) := by decide +kernel
theorem dX6_read_8 : decode cX6_read 8 = .ok (.iload_n 1, 1) := by decide +kernel
theorem dX6_read_9 : decode cX6_read 9 = .ok (.ifCond .lt 15, 3) := by decide +kernel
theorem dX6_read_12 : decode cX6_read 12 = .ok (.aload_n 0, 1) := by decide +kernel
theorem dX6_read_13 : decode cX6_read 13 = .ok (.getfield 43, 3) := by decide +kernel
theorem dX6_read_16 : decode cX6_read 16 = .ok (.invokevirtual 245, 3) := by decide +kernel
theorem dX6_read_19 : decode cX6_read 19 = .ok (.bipush (-10), 2) := by decide +kernel
theorem dX6_read_21 : decode cX6_read 21 = .ok (.iload_n 1, 1) := by decide +kernel
theorem dX6_read_22 : decode cX6_read 22 = .ok (.isub, 1) := by decide +kernel
theorem dX6_read_23 : decode cX6_read 23 = .ok (.ireturn, 1) := by decide +kernel
theorem dX6_read_24 : decode cX6_read 24 = .ok (.aload_n 0, 1) := by decide +kernel
theorem dX6_read_25 : decode cX6_read 25 = .ok (.invokevirtual 54, 3) := by decide +kernel
theorem dX6_read_28 : decode cX6_read 28 = .ok (.ifCond .eq 6, 3) := by decide +kernel
theorem dX6_read_31 : decode cX6_read 31 = .ok (.bipush (-3), 2) := by decide +kernel
theorem dX6_read_33 : decode cX6_read 33 = .ok (.ireturn, 1) := by decide +kernel
theorem dX6_read_34 : decode cX6_read 34 = .ok (.aload_n 0, 1) := by decide +kernel
theorem dX6_read_35 : decode cX6_read 35 = .ok (.getfield 43, 3) := by decide +kernel
theorem dX6_read_38 : decode cX6_read 38 = .ok (.aload_n 0, 1) := by decide +kernel
theorem dX6_read_39 : decode cX6_read 39 = .ok (.getfield 29, 3) := by decide +kernel
theorem dX6_read_42 : decode cX6_read 42 = .ok (.getfield 58, 3) := by decide +kernel
theorem dX6_read_45 : decode cX6_read 45 = .ok (.invokevirtual 248, 3) := by decide +kernel
theorem dX6_read_48 : decode cX6_read 48 = .ok (.aload_n 0, 1) := by decide +kernel
theorem dX6_read_49 : decode cX6_read 49 = .ok (.getfield 43, 3) := by decide +kernel
theorem dX6_read_52 : decode cX6_read 52 = .ok (.invokevirtual 245, 3) := by decide +kernel
theorem dX6_read_55 : decode cX6_read 55 = .ok (.aload_n 0, 1) := by decide +kernel
theorem dX6_read_56 : decode cX6_read 56 = .ok (.getfield 29, 3) := by decide +kernel
theorem dX6_read_59 : decode cX6_read 59 = .ok (.getfield 58, 3) := by decide +kernel
theorem dX6_read_62 : decode cX6_read 62 = .ok (.getfield 141, 3) := by decide +kernel
theorem dX6_read_65 : decode cX6_read 65 = .ok (.invokevirtual 249, 3) := by decide +kernel
theorem dX6_read_68 : decode cX6_read 68 = .ok (.ifCond .eq 13, 3) := by decide +kernel
theorem dX6_read_71 : decode cX6_read 71 = .ok (.new 93, 3) := by decide +kernel
theorem dX6_read_74 : decode cX6_read 74 = .ok (.dup, 1) := by decide +kernel
theorem dX6_read_75 : decode cX6_read 75 = .ok (.ldc 252, 2) := by decide +kernel
theorem dX6_read_77 : decode cX6_read 77 = .ok (.invokespecial 97, 3) := by decide +kernel
theorem dX6_read_80 : decode cX6_read 80 = .ok (.athrow, 1) := by decide +kernel
theorem dX6_read_81 : decode cX6_read 81 = .ok (.aload_n 0, 1) := by decide +kernel
theorem dX6_read_82 : decode cX6_read 82 = .ok (.invokevirtual 66, 3) := by decide +kernel
theorem dX6_read_85 : decode cX6_read 85 = .ok (.ireturn, 1) := by decide +kernel
set_option maxRecDepth 20000 in
theorem ggX6_text_X6_find : GoodIn wsX6_text wsX6_find := goodIn_ca (goodIn_r _ [6, 7, 8, 79, 80, 81, 82, 83, 84, 85] (by decide +kernel) (by decide +kernel)) (goodIn_sub (fun _ h => List.mem_cons_of_mem _ (List.mem_append_left _ (List.mem_append_right _ h))) (by decide +kernel))
set_option maxRecDepth 20000 in
theorem gX6_text_X6_find : GoodIn wsX6_text (wsV RX6 86 RX6 yX6_find wsX6_find) := goodIn_app (goodIn_of _ (by decide +kernel)) ggX6_text_X6_find
set_option maxRecDepth 20000 in
theorem ggX6_text_X3_begin : GoodIn wsX6_text wsX3_begin := goodIn_ca (goodIn_r _ [13, 14, 15, 16, 17, 12, 18, 19, 89, 90, 91, 92, 93] (by decide +kernel) (by decide +kernel)) (goodIn_sub (fun _ h => List.mem_cons_of_mem _ (List.mem_append_left _ (List.mem_append_right _ h))) (by decide +kernel))
set_option maxRecDepth 20000 in
theorem gX6_text_X3_begin : GoodIn wsX6_text (wsV RX6 254 RX3 yX3_begin wsX3_begin) := goodIn_app (goodIn_of _ (by decide +kernel)) ggX6_text_X3_begin
set_option maxRecDepth 20000 in
theorem ggX6_text_X3_addSize : GoodIn wsX6_text wsX3_addSize := goodIn_ca (goodIn_ca (goodIn_r _ [23, 14, 24, 25, 26, 27, 28, 29, 30, 31, 32, 33, 34, 35, 36, 37, 38, 39, 40, 41, 42, 43, 44, 45, 46, 47, 48, 49, 50, 51, 52, 53, 54, 55, 56, 57, 58, 59, 15, 16, 17, 12, 18, 19, 60, 61, 62, 63, 64, 65, 66, 67, 89, 90, 91, 92, 93, 94, 95] (by decide +kernel) (by decide +kernel)) (goodIn_sub (fun _ h => List.mem_cons_of_mem _ (List.mem_append_left _ (List.mem_append_right _ h))) (by decide +kernel))) (goodIn_sub (fun _ h => List.mem_cons_of_mem _ (List.mem_append_right _ h)) (by decide +kernel))
set_option maxRecDepth 20000 in
theorem gX6_text_X3_addSize : GoodIn wsX6_text (wsV RX6 257 RX3 yX3_addSize wsX3_addSize) := goodIn_app (goodIn_of _ (by decide +kernel)) ggX6_text_X3_addSize
set_option maxRecDepth 20000 in
theorem ggX6_text_X2_isWhole : GoodIn wsX6_text wsX2_isWhole := goodIn_ca (goodIn_r _ [72, 73, 74, 75, 76, 28, 77, 30, 51, 52, 53, 54, 31, 55, 86, 87, 88, 94, 95] (by decide +kernel) (by decide +kernel)) (goodIn_sub (fun _ h => List.mem_cons_of_mem _ (List.mem_append_left _ (List.mem_append_right _ h))) (by decide +kernel))
set_option maxRecDepth 20000 in
theorem gX6_text_X2_isWhole : GoodIn wsX6_text (wsV RX6 123 RX2 yX2_isWhole wsX2_isWhole) := goodIn_app (goodIn_of _ (by decide +kernel)) ggX6_text_X2_isWhole
set_option maxRecDepth 20000 in
theorem ggX6_text_X3_add : GoodIn wsX6_text wsX3_add := goodIn_ca (goodIn_r _ [18, 14, 19, 89, 90, 91, 92, 93] (by decide +kernel) (by decide +kernel)) (goodIn_sub (fun _ h => List.mem_cons_of_mem _ (List.mem_append_left _ (List.mem_append_right _ h))) (by decide +kernel))
set_option maxRecDepth 20000 in
theorem gX6_text_X3_add : GoodIn wsX6_text (wsV RX6 261 RX3 yX3_add wsX3_add) := goodIn_app (goodIn_of _ (by decide +kernel)) ggX6_text_X3_add
theorem dX6_text_0 : decode cX6_text 0 = .ok (.aload_n 0, 1) := by decide +kernel
theorem dX6_text_1 : decode cX6_text 1 = .ok (.iload_n 1, 1) := by decide +kernel
theorem dX6_text_2 : decode cX6_text 2 = .ok (.invokevirtual 86, 3) := by decide +kernel
theorem dX6_text_5 : decode cX6_text 5 = .ok (.astore_n 2, 1) := by decide +kernel
theorem dX6_text_6 : decode cX6_text 6 = .ok (.aload_n 2, 1) := by decide +kernel
theorem dX6_text_7 : decode cX6_text 7 = .ok (.ifnonnull 5, 3) := by decide +kernel
theorem dX6_text_10 : decode cX6_text 10 = .ok (.iconst (-1), 1) := by decide +kernel
theorem dX6_text_11 : decode cX6_text 11 = .ok (.ireturn, 1) := by decide +kernel
theorem dX6_text_12 : decode cX6_text 12 = .ok (.aload_n 0, 1) := by decide +kernel
theorem dX6_text_13 : decode cX6_text 13 = .ok (.getfield 50, 3) := by decide +kernel
theorem dX6_text_16 : decode cX6_text 16 = .ok (.aload_n 2, 1) := by decide +kernel
theorem dX6_text_17 : decode cX6_text 17 = .ok (.getfield 90, 3) := by decide +kernel
theorem dX6_text_20 : decode cX6_text 20 = .ok (.ifCond .ge 7, 3) := by decide +kernel
theorem dX6_text_23 : decode cX6_text 23 = .ok (.iconst 1, 1) := by decide +kernel
theorem dX6_text_24 : decode cX6_text 24 = .ok (.goto 4, 3) := by decide +kernel
theorem dX6_text_27 : decode cX6_text 27 = .ok (.iconst 0, 1) := by decide +kernel
theorem dX6_text_28 : decode cX6_text 28 = .ok (.invokevirtual 254, 3) := by decide +kernel
theorem dX6_text_31 : decode cX6_text 31 = .ok (.aload_n 0, 1) := by decide +kernel
theorem dX6_text_32 : decode cX6_text 32 = .ok (.getfield 50, 3) := by decide +kernel
theorem dX6_text_35 : decode cX6_text 35 = .ok (.aload_n 2, 1) := by decide +kernel
theorem dX6_text_36 : decode cX6_text 36 = .ok (.getfield 77, 3) := by decide +kernel
theorem dX6_text_39 : decode cX6_text 39 = .ok (.invokevirtual 257, 3) := by decide +kernel
theorem dX6_text_42 : decode cX6_text 42 = .ok (.aload_n 2, 1) := by decide +kernel
theorem dX6_text_43 : decode cX6_text 43 = .ok (.invokevirtual 123, 3) := by decide +kernel
theorem dX6_text_46 : decode cX6_text 46 = .ok (.ifCond .ne 23, 3) := by decide +kernel
theorem dX6_text_49 : decode cX6_text 49 = .ok (.aload_n 0, 1) := by decide +kernel
theorem dX6_text_50 : decode cX6_text 50 = .ok (.getfield 50, 3) := by decide +kernel
theorem dX6_text_53 : decode cX6_text 53 = .ok (.bipush 47, 2) := by decide +kernel
theorem dX6_text_55 : decode cX6_text 55 = .ok (.invokevirtual 261, 3) := by decide +kernel
theorem dX6_text_58 : decode cX6_text 58 = .ok (.aload_n 0, 1) := by decide +kernel
theorem dX6_text_59 : decode cX6_text 59 = .ok (.getfield 50, 3) := by decide +kernel
theorem dX6_text_62 : decode cX6_text 62 = .ok (.aload_n 2, 1) := by decide +kernel
theorem dX6_text_63 : decode cX6_text 63 = .ok (.getfield 141, 3) := by decide +kernel
theorem dX6_text_66 : decode cX6_text 66 = .ok (.invokevirtual 257, 3) := by decide +kernel
theorem dX6_text_69 : decode cX6_text 69 = .ok (.aload_n 0, 1) := by decide +kernel
theorem dX6_text_70 : decode cX6_text 70 = .ok (.getfield 50, 3) := by decide +kernel
theorem dX6_text_73 : decode cX6_text 73 = .ok (.getfield 263, 3) := by decide +kernel
theorem dX6_text_76 : decode cX6_text 76 = .ok (.ireturn, 1) := by decide +kernel
set_option maxRecDepth 20000 in
theorem ggX6_figures_X6_find : GoodIn wsX6_figures wsX6_find := goodIn_ca (goodIn_r _ [6, 7, 8, 118, 119, 120, 121, 122, 123, 124] (by decide +kernel) (by decide +kernel)) (goodIn_sub (fun _ h => List.mem_cons_of_mem _ (List.mem_append_left _ (List.mem_append_right _ h))) (by decide +kernel))
set_option maxRecDepth 20000 in
theorem gX6_figures_X6_find : GoodIn wsX6_figures (wsV RX6 86 RX6 yX6_find wsX6_find) := goodIn_app (goodIn_of _ (by decide +kernel)) ggX6_figures_X6_find
set_option maxRecDepth 20000 in
theorem ggX6_figures_X3_begin : GoodIn wsX6_figures wsX3_begin := goodIn_ca (goodIn_r _ [13, 14, 15, 16, 17, 12, 18, 19, 128, 129, 130, 131, 132] (by decide +kernel) (by decide +kernel)) (goodIn_sub (fun _ h => List.mem_cons_of_mem _ (List.mem_append_left _ (List.mem_append_right _ h))) (by decide +kernel))
set_option maxRecDepth 20000 in
theorem gX6_figures_X3_begin : GoodIn wsX6_figures (wsV RX6 254 RX3 yX3_begin wsX3_begin) := goodIn_app (goodIn_of _ (by decide +kernel)) ggX6_figures_X3_begin
set_option maxRecDepth 20000 in
theorem ggX6_figures_X3_addCut : GoodIn wsX6_figures wsX3_addCut := goodIn_ca (goodIn_ca (goodIn_r _ [23, 24, 25, 26, 27, 28, 29, 30, 31, 32, 33, 34, 35, 36, 37, 38, 39, 40, 41, 42, 43, 44, 45, 46, 47, 48, 49, 50, 51, 52, 53, 54, 55, 56, 57, 58, 59, 60, 61, 62, 63, 64, 65, 66, 67, 68, 69, 70, 71, 72, 73, 74, 75, 76, 77, 78, 79, 80, 81, 82, 83, 84, 85, 86, 87, 88, 89, 90, 91, 92, 93, 94, 95, 12, 96, 14, 97, 98, 99, 100, 101, 15, 16, 17, 18, 19, 102, 103, 104, 105, 106, 107, 108, 109, 110, 111, 112, 113, 114, 115, 116, 117, 128, 129, 130, 131, 132, 125, 126, 127, 133, 134] (by decide +kernel) (by decide +kernel)) (goodIn_sub (fun _ h => List.mem_cons_of_mem _ (List.mem_append_left _ (List.mem_append_right _ h))) (by decide +kernel))) (goodIn_sub (fun _ h => List.mem_cons_of_mem _ (List.mem_append_right _ h)) (by decide +kernel))
set_option maxRecDepth 20000 in
theorem gX6_figures_X3_addCut : GoodIn wsX6_figures (wsV RX6 264 RX3 yX3_addCut wsX3_addCut) := goodIn_app (goodIn_of _ (by decide +kernel)) ggX6_figures_X3_addCut
theorem dX6_figures_0 : decode cX6_figures 0 = .ok (.aload_n 0, 1) := by decide +kernel
theorem dX6_figures_1 : decode cX6_figures 1 = .ok (.iload_n 1, 1) := by decide +kernel
theorem dX6_figures_2 : decode cX6_figures 2 = .ok (.invokevirtual 86, 3) := by decide +kernel
theorem dX6_figures_5 : decode cX6_figures 5 = .ok (.astore_n 3, 1) := by decide +kernel
theorem dX6_figures_6 : decode cX6_figures 6 = .ok (.aload_n 3, 1) := by decide +kernel
theorem dX6_figures_7 : decode cX6_figures 7 = .ok (.ifnull 13, 3) := by decide +kernel
theorem dX6_figures_10 : decode cX6_figures 10 = .ok (.iload_n 2, 1) := by decide +kernel
theorem dX6_figures_11 : decode cX6_figures 11 = .ok (.ifCond .lt 9, 3) := by decide +kernel
theorem dX6_figures_14 : decode cX6_figures 14 = .ok (.iload_n 2, 1) := by decide +kernel
theorem dX6_figures_15 : decode cX6_figures 15 = .ok (.bipush 100, 2) := by decide +kernel
theorem dX6_figures_17 : decode cX6_figures 17 = .ok (.if_icmp .le 5, 3) := by decide +kernel
theorem dX6_figures_20 : decode cX6_figures 20 = .ok (.iconst (-1), 1) := by decide +kernel
theorem dX6_figures_21 : decode cX6_figures 21 = .ok (.ireturn, 1) := by decide +kernel
theorem dX6_figures_22 : decode cX6_figures 22 = .ok (.aload_n 0, 1) := by decide +kernel
theorem dX6_figures_23 : decode cX6_figures 23 = .ok (.getfield 50, 3) := by decide +kernel
theorem dX6_figures_26 : decode cX6_figures 26 = .ok (.aload_n 3, 1) := by decide +kernel
theorem dX6_figures_27 : decode cX6_figures 27 = .ok (.getfield 90, 3) := by decide +kernel
theorem dX6_figures_30 : decode cX6_figures 30 = .ok (.ifCond .ge 7, 3) := by decide +kernel
theorem dX6_figures_33 : decode cX6_figures 33 = .ok (.iconst 1, 1) := by decide +kernel
theorem dX6_figures_34 : decode cX6_figures 34 = .ok (.goto 4, 3) := by decide +kernel
theorem dX6_figures_37 : decode cX6_figures 37 = .ok (.iconst 0, 1) := by decide +kernel
theorem dX6_figures_38 : decode cX6_figures 38 = .ok (.invokevirtual 254, 3) := by decide +kernel
theorem dX6_figures_41 : decode cX6_figures 41 = .ok (.aload_n 0, 1) := by decide +kernel
theorem dX6_figures_42 : decode cX6_figures 42 = .ok (.getfield 50, 3) := by decide +kernel
theorem dX6_figures_45 : decode cX6_figures 45 = .ok (.aload_n 3, 1) := by decide +kernel
theorem dX6_figures_46 : decode cX6_figures 46 = .ok (.iload_n 2, 1) := by decide +kernel
theorem dX6_figures_47 : decode cX6_figures 47 = .ok (.invokevirtual 264, 3) := by decide +kernel
theorem dX6_figures_50 : decode cX6_figures 50 = .ok (.aload_n 0, 1) := by decide +kernel
theorem dX6_figures_51 : decode cX6_figures 51 = .ok (.getfield 50, 3) := by decide +kernel
theorem dX6_figures_54 : decode cX6_figures 54 = .ok (.getfield 263, 3) := by decide +kernel
theorem dX6_figures_57 : decode cX6_figures 57 = .ok (.ireturn, 1) := by decide +kernel
set_option maxRecDepth 20000 in
theorem ggX6_out_X3_at : GoodIn wsX6_out wsX3_at := goodIn_ca (goodIn_r _ [6, 7, 8, 16, 17, 18, 19, 20] (by decide +kernel) (by decide +kernel)) (goodIn_sub (fun _ h => List.mem_cons_of_mem _ (List.mem_append_right _ h)) (by decide +kernel))
set_option maxRecDepth 20000 in
theorem gX6_out_X3_at : GoodIn wsX6_out (wsV RX6 267 RX3 yX3_at wsX3_at) := goodIn_app (goodIn_of _ (by decide +kernel)) ggX6_out_X3_at
theorem dX6_out_0 : decode cX6_out 0 = .ok (.aload_n 0, 1) := by decide +kernel
theorem dX6_out_1 : decode cX6_out 1 = .ok (.getfield 50, 3) := by decide +kernel
theorem dX6_out_4 : decode cX6_out 4 = .ok (.iload_n 1, 1) := by decide +kernel
theorem dX6_out_5 : decode cX6_out 5 = .ok (.invokevirtual 267, 3) := by decide +kernel
theorem dX6_out_8 : decode cX6_out 8 = .ok (.ireturn, 1) := by decide +kernel
set_option maxRecDepth 20000 in
theorem ggX6_period_X6_find : GoodIn wsX6_period wsX6_find := goodIn_ca (goodIn_r _ [11, 12, 13, 83, 84, 85, 86, 87, 88, 89] (by decide +kernel) (by decide +kernel)) (goodIn_sub (fun _ h => List.mem_cons_of_mem _ (List.mem_append_left _ (List.mem_append_right _ h))) (by decide +kernel))
set_option maxRecDepth 20000 in
theorem gX6_period_X6_find : GoodIn wsX6_period (wsV RX6 86 RX6 yX6_find wsX6_find) := goodIn_app (goodIn_of _ (by decide +kernel)) ggX6_period_X6_find
set_option maxRecDepth 20000 in
theorem ggX6_period_X5_copy : GoodIn wsX6_period wsX5_copy := goodIn_ca (goodIn_r _ [18, 19, 20, 21, 22, 5, 23, 24, 25, 26, 27, 28, 29, 30, 17, 31, 32, 4, 6, 98, 99] (by decide +kernel) (by decide +kernel)) (goodIn_sub (fun _ h => List.mem_cons_of_mem _ (List.mem_append_left _ (List.mem_append_right _ h))) (by decide +kernel))
set_option maxRecDepth 20000 in
theorem gX6_period_X5_copy : GoodIn wsX6_period (wsV RX6 274 RX5 yX5_copy wsX5_copy) := goodIn_app (goodIn_of _ (by decide +kernel)) ggX6_period_X5_copy
set_option maxRecDepth 20000 in
theorem ggX6_period_X0_takeFactors : GoodIn wsX6_period wsX0_takeFactors := goodIn_ca (goodIn_ca (goodIn_r _ [37, 38, 39, 15, 16, 17, 18, 19, 20, 21, 22, 5, 23, 24, 25, 26, 27, 28, 29, 30, 31, 32, 4, 6, 40, 41, 42, 43, 44, 45, 46, 47, 48, 49, 50, 51, 52, 90, 91, 92, 93, 94, 98, 99] (by decide +kernel) (by decide +kernel)) (goodIn_sub (fun _ h => List.mem_cons_of_mem _ (List.mem_append_left _ (List.mem_append_right _ h))) (by decide +kernel))) (goodIn_sub (fun _ h => List.mem_cons_of_mem _ (List.mem_append_right _ h)) (by decide +kernel))
set_option maxRecDepth 20000 in
theorem gX6_period_X0_takeFactors : GoodIn wsX6_period (wsV RX6 276 RX0 yX0_takeFactors wsX0_takeFactors) := goodIn_app (goodIn_of _ (by decide +kernel)) ggX6_period_X0_takeFactors
set_option maxRecDepth 20000 in
theorem ggX6_period_X5_isAbove : GoodIn wsX6_period wsX5_isAbove := goodIn_ca (goodIn_r _ [56, 57, 58, 59, 17, 60, 19, 44, 45, 46, 47, 20, 48, 61, 62, 63, 64, 65, 66, 67, 68, 69, 98, 99] (by decide +kernel) (by decide +kernel)) (goodIn_sub (fun _ h => List.mem_cons_of_mem _ (List.mem_append_left _ (List.mem_append_right _ h))) (by decide +kernel))
set_option maxRecDepth 20000 in
theorem gX6_period_X5_isAbove : GoodIn wsX6_period (wsV RX6 182 RX5 yX5_isAbove wsX5_isAbove) := goodIn_app (goodIn_of _ (by decide +kernel)) ggX6_period_X5_isAbove
set_option maxRecDepth 20000 in
theorem ggX6_period_X5_low : GoodIn wsX6_period wsX5_low := goodIn_ca (goodIn_r _ [69, 44, 45, 46, 17, 47, 19, 20, 48, 98, 99] (by decide +kernel) (by decide +kernel)) (goodIn_sub (fun _ h => List.mem_cons_of_mem _ (List.mem_append_left _ (List.mem_append_right _ h))) (by decide +kernel))
set_option maxRecDepth 20000 in
theorem gX6_period_X5_low : GoodIn wsX6_period (wsV RX6 207 RX5 yX5_low wsX5_low) := goodIn_app (goodIn_of _ (by decide +kernel)) ggX6_period_X5_low
set_option maxRecDepth 20000 in
theorem ggX6_period_X6_orderOfTen : GoodIn wsX6_period wsX6_orderOfTen := goodIn_ca (goodIn_r _ [73, 74, 75, 10, 76, 77, 78, 79, 3, 4, 5, 6, 80, 81, 82] (by decide +kernel) (by decide +kernel)) (goodIn_sub (fun _ h => List.mem_cons_of_mem _ (List.mem_append_right _ h)) (by decide +kernel))
set_option maxRecDepth 20000 in
theorem gX6_period_X6_orderOfTen : GoodIn wsX6_period (va_wsS RX6 282 yX6_orderOfTen wsX6_orderOfTen) := goodIn_app (goodIn_of _ (by decide +kernel)) ggX6_period_X6_orderOfTen
theorem dX6_period_0 : decode cX6_period 0 = .ok (.aload_n 0, 1) := by decide +kernel
theorem dX6_period_1 : decode cX6_period 1 = .ok (.iload_n 1, 1) := by decide +kernel
theorem dX6_period_2 : decode cX6_period 2 = .ok (.invokevirtual 86, 3) := by decide +kernel
theorem dX6_period_5 : decode cX6_period 5 = .ok (.astore_n 3, 1) := by decide +kernel
theorem dX6_period_6 : decode cX6_period 6 = .ok (.aload_n 3, 1) := by decide +kernel
theorem dX6_period_7 : decode cX6_period 7 = .ok (.ifnull 12, 3) := by decide +kernel
theorem dX6_period_10 : decode cX6_period 10 = .ok (.iload_n 2, 1) := by decide +kernel
theorem dX6_period_11 : decode cX6_period 11 = .ok (.ifCond .lt 8, 3) := by decide +kernel
theorem dX6_period_14 : decode cX6_period 14 = .ok (.iload_n 2, 1) := by decide +kernel
theorem dX6_period_15 : decode cX6_period 15 = .ok (.iconst 1, 1) := by decide +kernel
theorem dX6_period_16 : decode cX6_period 16 = .ok (.if_icmp .le 5, 3) := by decide +kernel
theorem dX6_period_19 : decode cX6_period 19 = .ok (.iconst (-1), 1) := by decide +kernel
theorem dX6_period_20 : decode cX6_period 20 = .ok (.ireturn, 1) := by decide +kernel
theorem dX6_period_21 : decode cX6_period 21 = .ok (.aload_n 0, 1) := by decide +kernel
theorem dX6_period_22 : decode cX6_period 22 = .ok (.getfield 29, 3) := by decide +kernel
theorem dX6_period_25 : decode cX6_period 25 = .ok (.getfield 271, 3) := by decide +kernel
theorem dX6_period_28 : decode cX6_period 28 = .ok (.astore 4, 2) := by decide +kernel
theorem dX6_period_30 : decode cX6_period 30 = .ok (.aload 4, 2) := by decide +kernel
theorem dX6_period_32 : decode cX6_period 32 = .ok (.aload_n 3, 1) := by decide +kernel
theorem dX6_period_33 : decode cX6_period 33 = .ok (.getfield 141, 3) := by decide +kernel
theorem dX6_period_36 : decode cX6_period 36 = .ok (.invokevirtual 274, 3) := by decide +kernel
theorem dX6_period_39 : decode cX6_period 39 = .ok (.aload_n 0, 1) := by decide +kernel
theorem dX6_period_40 : decode cX6_period 40 = .ok (.getfield 29, 3) := by decide +kernel
theorem dX6_period_43 : decode cX6_period 43 = .ok (.aload 4, 2) := by decide +kernel
theorem dX6_period_45 : decode cX6_period 45 = .ok (.iconst 2, 1) := by decide +kernel
theorem dX6_period_46 : decode cX6_period 46 = .ok (.invokevirtual 276, 3) := by decide +kernel
theorem dX6_period_49 : decode cX6_period 49 = .ok (.istore 5, 2) := by decide +kernel
theorem dX6_period_51 : decode cX6_period 51 = .ok (.aload_n 0, 1) := by decide +kernel
theorem dX6_period_52 : decode cX6_period 52 = .ok (.getfield 29, 3) := by decide +kernel
theorem dX6_period_55 : decode cX6_period 55 = .ok (.aload 4, 2) := by decide +kernel
theorem dX6_period_57 : decode cX6_period 57 = .ok (.iconst 5, 1) := by decide +kernel
theorem dX6_period_58 : decode cX6_period 58 = .ok (.invokevirtual 276, 3) := by decide +kernel
theorem dX6_period_61 : decode cX6_period 61 = .ok (.istore 6, 2) := by decide +kernel
theorem dX6_period_63 : decode cX6_period 63 = .ok (.aload 4, 2) := by decide +kernel
theorem dX6_period_65 : decode cX6_period 65 = .ok (.ldc2_w 280, 3) := by decide +kernel
theorem dX6_period_68 : decode cX6_period 68 = .ok (.invokevirtual 182, 3) := by decide +kernel
theorem dX6_period_71 : decode cX6_period 71 = .ok (.ifCond .eq 6, 3) := by decide +kernel
theorem dX6_period_74 : decode cX6_period 74 = .ok (.bipush (-2), 2) := by decide +kernel
theorem dX6_period_76 : decode cX6_period 76 = .ok (.ireturn, 1) := by decide +kernel
theorem dX6_period_77 : decode cX6_period 77 = .ok (.iload_n 2, 1) := by decide +kernel
theorem dX6_period_78 : decode cX6_period 78 = .ok (.ifCond .ne 13, 3) := by decide +kernel
theorem dX6_period_81 : decode cX6_period 81 = .ok (.iload 5, 2) := by decide +kernel
theorem dX6_period_83 : decode cX6_period 83 = .ok (.iload 6, 2) := by decide +kernel
theorem dX6_period_85 : decode cX6_period 85 = .ok (.invokestatic 231, 3) := by decide +kernel
theorem dX6_period_88 : decode cX6_period 88 = .ok (.goto 12, 3) := by decide +kernel
theorem dX6_period_91 : decode cX6_period 91 = .ok (.aload 4, 2) := by decide +kernel
theorem dX6_period_93 : decode cX6_period 93 = .ok (.invokevirtual 207, 3) := by decide +kernel
theorem dX6_period_96 : decode cX6_period 96 = .ok (.l2i, 1) := by decide +kernel
theorem dX6_period_97 : decode cX6_period 97 = .ok (.invokestatic 282, 3) := by decide +kernel
theorem dX6_period_100 : decode cX6_period 100 = .ok (.ireturn, 1) := by decide +kernel
theorem dX6_find_0 : decode cX6_find 0 = .ok (.iload_n 1, 1) := by decide +kernel
theorem dX6_find_1 : decode cX6_find 1 = .ok (.ifCond .lt 27, 3) := by decide +kernel
theorem dX6_find_4 : decode cX6_find 4 = .ok (.iload_n 1, 1) := by decide +kernel
theorem dX6_find_5 : decode cX6_find 5 = .ok (.bipush 24, 2) := by decide +kernel
theorem dX6_find_7 : decode cX6_find 7 = .ok (.if_icmp .ge 21, 3) := by decide +kernel
theorem dX6_find_10 : decode cX6_find 10 = .ok (.aload_n 0, 1) := by decide +kernel
theorem dX6_find_11 : decode cX6_find 11 = .ok (.getfield 15, 3) := by decide +kernel
theorem dX6_find_14 : decode cX6_find 14 = .ok (.iload_n 1, 1) := by decide +kernel
theorem dX6_find_15 : decode cX6_find 15 = .ok (.baload, 1) := by decide +kernel
theorem dX6_find_16 : decode cX6_find 16 = .ok (.ifCond .eq 12, 3) := by decide +kernel
theorem dX6_find_19 : decode cX6_find 19 = .ok (.aload_n 0, 1) := by decide +kernel
theorem dX6_find_20 : decode cX6_find 20 = .ok (.getfield 11, 3) := by decide +kernel
theorem dX6_find_23 : decode cX6_find 23 = .ok (.iload_n 1, 1) := by decide +kernel
theorem dX6_find_24 : decode cX6_find 24 = .ok (.aaload, 1) := by decide +kernel
theorem dX6_find_25 : decode cX6_find 25 = .ok (.goto 4, 3) := by decide +kernel
theorem dX6_find_28 : decode cX6_find 28 = .ok (.aconst_null, 1) := by decide +kernel
theorem dX6_find_29 : decode cX6_find 29 = .ok (.areturn, 1) := by decide +kernel
theorem dX6_isFull_0 : decode cX6_isFull 0 = .ok (.aload_n 0, 1) := by decide +kernel
theorem dX6_isFull_1 : decode cX6_isFull 1 = .ok (.getfield 22, 3) := by decide +kernel
theorem dX6_isFull_4 : decode cX6_isFull 4 = .ok (.bipush 24, 2) := by decide +kernel
theorem dX6_isFull_6 : decode cX6_isFull 6 = .ok (.if_icmp .lt 7, 3) := by decide +kernel
theorem dX6_isFull_9 : decode cX6_isFull 9 = .ok (.iconst 1, 1) := by decide +kernel
theorem dX6_isFull_10 : decode cX6_isFull 10 = .ok (.goto 4, 3) := by decide +kernel
theorem dX6_isFull_13 : decode cX6_isFull 13 = .ok (.iconst 0, 1) := by decide +kernel
theorem dX6_isFull_14 : decode cX6_isFull 14 = .ok (.ireturn, 1) := by decide +kernel
set_option maxRecDepth 20000 in
theorem ggX6_keep_X0_reduce : GoodIn wsX6_keep wsX0_reduce := goodIn_ca (goodIn_ca (goodIn_r _ [9, 10, 11, 12, 13, 14, 15, 16, 17, 18, 19, 20, 21, 22, 23, 24, 25, 26, 27, 28, 29, 30, 31, 32, 33, 34, 35, 36, 37, 38, 39, 40, 41, 42, 43, 44, 45, 46, 47, 48, 49, 50, 51, 52, 53, 54, 55, 56, 8, 57, 58, 59, 60, 61, 62, 63, 64, 65, 66, 67, 68, 69, 70, 71, 72, 73, 74, 75, 76, 77, 78, 79, 80, 81, 82, 83, 84, 85, 86, 87, 88, 89, 90, 91, 92, 93, 94, 95, 96, 97, 98, 99, 100, 101, 102, 103, 104, 105, 106, 107, 108, 109, 130, 131, 132, 133, 134, 135, 136, 137, 138, 139] (by decide +kernel) (by decide +kernel)) (goodIn_sub (fun _ h => List.mem_cons_of_mem _ (List.mem_append_left _ (List.mem_append_right _ h))) (by decide +kernel))) (goodIn_sub (fun _ h => List.mem_cons_of_mem _ (List.mem_append_right _ h)) (by decide +kernel))
set_option maxRecDepth 20000 in
theorem gX6_keep_X0_reduce : GoodIn wsX6_keep (wsV RX6 285 RX0 yX0_reduce wsX0_reduce) := goodIn_app (goodIn_of _ (by decide +kernel)) ggX6_keep_X0_reduce
set_option maxRecDepth 20000 in
theorem ggX6_keep_X2_isWide : GoodIn wsX6_keep wsX2_isWide := goodIn_ca (goodIn_r _ [113, 23, 24, 114, 115, 116, 14, 117, 16, 49, 50, 51, 52, 33, 53, 81, 82, 83, 84, 85, 135, 136, 137, 138, 139] (by decide +kernel) (by decide +kernel)) (goodIn_sub (fun _ h => List.mem_cons_of_mem _ (List.mem_append_left _ (List.mem_append_right _ h))) (by decide +kernel))
set_option maxRecDepth 20000 in
theorem gX6_keep_X2_isWide : GoodIn wsX6_keep (wsV RX6 288 RX2 yX2_isWide wsX2_isWide) := goodIn_app (goodIn_of _ (by decide +kernel)) ggX6_keep_X2_isWide
set_option maxRecDepth 20000 in
theorem ggX6_keep_X2_copy : GoodIn wsX6_keep wsX2_copy := goodIn_ca (goodIn_r _ [121, 22, 23, 24, 122, 62, 63, 14, 64, 16, 33, 38, 39, 40, 41, 65, 66, 67, 68, 34, 35, 36, 37, 42, 43, 44, 135, 136, 137, 138, 139] (by decide +kernel) (by decide +kernel)) (goodIn_sub (fun _ h => List.mem_cons_of_mem _ (List.mem_append_left _ (List.mem_append_right _ h))) (by decide +kernel))
set_option maxRecDepth 20000 in
theorem gX6_keep_X2_copy : GoodIn wsX6_keep (wsV RX6 190 RX2 yX2_copy wsX2_copy) := goodIn_app (goodIn_of _ (by decide +kernel)) ggX6_keep_X2_copy
theorem dX6_keep_0 : decode cX6_keep 0 = .ok (.aload_n 0, 1) := by decide +kernel
theorem dX6_keep_1 : decode cX6_keep 1 = .ok (.getfield 29, 3) := by decide +kernel
theorem dX6_keep_4 : decode cX6_keep 4 = .ok (.invokevirtual 285, 3) := by decide +kernel
theorem dX6_keep_7 : decode cX6_keep 7 = .ok (.aload_n 0, 1) := by decide +kernel
theorem dX6_keep_8 : decode cX6_keep 8 = .ok (.getfield 29, 3) := by decide +kernel
theorem dX6_keep_11 : decode cX6_keep 11 = .ok (.getfield 58, 3) := by decide +kernel
theorem dX6_keep_14 : decode cX6_keep 14 = .ok (.invokevirtual 288, 3) := by decide +kernel
theorem dX6_keep_17 : decode cX6_keep 17 = .ok (.ifCond .eq 6, 3) := by decide +kernel
theorem dX6_keep_20 : decode cX6_keep 20 = .ok (.bipush (-4), 2) := by decide +kernel
theorem dX6_keep_22 : decode cX6_keep 22 = .ok (.ireturn, 1) := by decide +kernel
theorem dX6_keep_23 : decode cX6_keep 23 = .ok (.iconst 0, 1) := by decide +kernel
theorem dX6_keep_24 : decode cX6_keep 24 = .ok (.istore_n 1, 1) := by decide +kernel
theorem dX6_keep_25 : decode cX6_keep 25 = .ok (.iload_n 1, 1) := by decide +kernel
theorem dX6_keep_26 : decode cX6_keep 26 = .ok (.bipush 24, 2) := by decide +kernel
theorem dX6_keep_28 : decode cX6_keep 28 = .ok (.if_icmp .ge 53, 3) := by decide +kernel
theorem dX6_keep_31 : decode cX6_keep 31 = .ok (.aload_n 0, 1) := by decide +kernel
theorem dX6_keep_32 : decode cX6_keep 32 = .ok (.getfield 15, 3) := by decide +kernel
theorem dX6_keep_35 : decode cX6_keep 35 = .ok (.iload_n 1, 1) := by decide +kernel
theorem dX6_keep_36 : decode cX6_keep 36 = .ok (.baload, 1) := by decide +kernel
theorem dX6_keep_37 : decode cX6_keep 37 = .ok (.ifCond .ne 38, 3) := by decide +kernel
theorem dX6_keep_40 : decode cX6_keep 40 = .ok (.aload_n 0, 1) := by decide +kernel
theorem dX6_keep_41 : decode cX6_keep 41 = .ok (.getfield 11, 3) := by decide +kernel
theorem dX6_keep_44 : decode cX6_keep 44 = .ok (.iload_n 1, 1) := by decide +kernel
theorem dX6_keep_45 : decode cX6_keep 45 = .ok (.aaload, 1) := by decide +kernel
theorem dX6_keep_46 : decode cX6_keep 46 = .ok (.aload_n 0, 1) := by decide +kernel
theorem dX6_keep_47 : decode cX6_keep 47 = .ok (.getfield 29, 3) := by decide +kernel
theorem dX6_keep_50 : decode cX6_keep 50 = .ok (.getfield 58, 3) := by decide +kernel
theorem dX6_keep_53 : decode cX6_keep 53 = .ok (.invokevirtual 190, 3) := by decide +kernel
theorem dX6_keep_56 : decode cX6_keep 56 = .ok (.aload_n 0, 1) := by decide +kernel
theorem dX6_keep_57 : decode cX6_keep 57 = .ok (.getfield 15, 3) := by decide +kernel
theorem dX6_keep_60 : decode cX6_keep 60 = .ok (.iload_n 1, 1) := by decide +kernel
