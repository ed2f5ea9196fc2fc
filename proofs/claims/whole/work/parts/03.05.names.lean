theorem dX6_keep_61 : decode cX6_keep 61 = .ok (.iconst 1, 1) := by decide +kernel
theorem dX6_keep_62 : decode cX6_keep 62 = .ok (.bastore, 1) := by decide +kernel
theorem dX6_keep_63 : decode cX6_keep 63 = .ok (.aload_n 0, 1) := by decide +kernel
theorem dX6_keep_64 : decode cX6_keep 64 = .ok (.dup, 1) := by decide +kernel
theorem dX6_keep_65 : decode cX6_keep 65 = .ok (.getfield 22, 3) := by decide +kernel
theorem dX6_keep_68 : decode cX6_keep 68 = .ok (.iconst 1, 1) := by decide +kernel
theorem dX6_keep_69 : decode cX6_keep 69 = .ok (.iadd, 1) := by decide +kernel
theorem dX6_keep_70 : decode cX6_keep 70 = .ok (.putfield 22, 3) := by decide +kernel
theorem dX6_keep_73 : decode cX6_keep 73 = .ok (.iload_n 1, 1) := by decide +kernel
theorem dX6_keep_74 : decode cX6_keep 74 = .ok (.ireturn, 1) := by decide +kernel
theorem dX6_keep_75 : decode cX6_keep 75 = .ok (.iinc 1 1, 3) := by decide +kernel
theorem dX6_keep_78 : decode cX6_keep 78 = .ok (.goto (-53), 3) := by decide +kernel
theorem dX6_keep_81 : decode cX6_keep 81 = .ok (.bipush (-3), 2) := by decide +kernel
theorem dX6_keep_83 : decode cX6_keep 83 = .ok (.ireturn, 1) := by decide +kernel
set_option maxRecDepth 20000 in
theorem ggX6_orderOfTen_X6_totient : GoodIn wsX6_orderOfTen wsX6_totient := goodIn_ca (goodIn_r _ [4, 5, 6, 3, 7, 8, 9, 10, 11] (by decide +kernel) (by decide +kernel)) (goodIn_sub (fun _ h => List.mem_cons_of_mem _ (List.mem_append_right _ h)) (by decide +kernel))
set_option maxRecDepth 20000 in
theorem gX6_orderOfTen_X6_totient : GoodIn wsX6_orderOfTen (va_wsS RX6 291 yX6_totient wsX6_totient) := goodIn_app (goodIn_of _ (by decide +kernel)) ggX6_orderOfTen_X6_totient
set_option maxRecDepth 20000 in
theorem ggX6_orderOfTen_X6_leastFactor : GoodIn wsX6_orderOfTen wsX6_leastFactor := goodIn_ca (goodIn_r _ [7, 8, 9, 10, 11] (by decide +kernel) (by decide +kernel)) (goodIn_sub (fun _ h => List.mem_cons_of_mem _ (List.mem_append_right _ h)) (by decide +kernel))
set_option maxRecDepth 20000 in
theorem gX6_orderOfTen_X6_leastFactor : GoodIn wsX6_orderOfTen (va_wsS RX6 294 yX6_leastFactor wsX6_leastFactor) := goodIn_app (goodIn_of _ (by decide +kernel)) ggX6_orderOfTen_X6_leastFactor
set_option maxRecDepth 20000 in
theorem ggX6_orderOfTen_X6_tenToThe : GoodIn wsX6_orderOfTen wsX6_tenToThe := goodIn_ca (goodIn_r _ [14] (by decide +kernel) (by decide +kernel)) (goodIn_sub (fun _ h => List.mem_cons_of_mem _ (List.mem_append_right _ h)) (by decide +kernel))
set_option maxRecDepth 20000 in
theorem gX6_orderOfTen_X6_tenToThe : GoodIn wsX6_orderOfTen (va_wsS RX6 297 yX6_tenToThe wsX6_tenToThe) := goodIn_app (goodIn_of _ (by decide +kernel)) ggX6_orderOfTen_X6_tenToThe
theorem dX6_orderOfTen_0 : decode cX6_orderOfTen 0 = .ok (.iload_n 0, 1) := by decide +kernel
theorem dX6_orderOfTen_1 : decode cX6_orderOfTen 1 = .ok (.iconst 2, 1) := by decide +kernel
theorem dX6_orderOfTen_2 : decode cX6_orderOfTen 2 = .ok (.if_icmp .ge 5, 3) := by decide +kernel
theorem dX6_orderOfTen_5 : decode cX6_orderOfTen 5 = .ok (.iconst 0, 1) := by decide +kernel
theorem dX6_orderOfTen_6 : decode cX6_orderOfTen 6 = .ok (.ireturn, 1) := by decide +kernel
theorem dX6_orderOfTen_7 : decode cX6_orderOfTen 7 = .ok (.iload_n 0, 1) := by decide +kernel
theorem dX6_orderOfTen_8 : decode cX6_orderOfTen 8 = .ok (.invokestatic 291, 3) := by decide +kernel
theorem dX6_orderOfTen_11 : decode cX6_orderOfTen 11 = .ok (.istore_n 1, 1) := by decide +kernel
theorem dX6_orderOfTen_12 : decode cX6_orderOfTen 12 = .ok (.iload_n 1, 1) := by decide +kernel
theorem dX6_orderOfTen_13 : decode cX6_orderOfTen 13 = .ok (.istore_n 2, 1) := by decide +kernel
theorem dX6_orderOfTen_14 : decode cX6_orderOfTen 14 = .ok (.iconst 0, 1) := by decide +kernel
theorem dX6_orderOfTen_15 : decode cX6_orderOfTen 15 = .ok (.istore_n 3, 1) := by decide +kernel
theorem dX6_orderOfTen_16 : decode cX6_orderOfTen 16 = .ok (.iload_n 3, 1) := by decide +kernel
theorem dX6_orderOfTen_17 : decode cX6_orderOfTen 17 = .ok (.bipush 32, 2) := by decide +kernel
theorem dX6_orderOfTen_19 : decode cX6_orderOfTen 19 = .ok (.if_icmp .ge 42, 3) := by decide +kernel
theorem dX6_orderOfTen_22 : decode cX6_orderOfTen 22 = .ok (.iload_n 2, 1) := by decide +kernel
theorem dX6_orderOfTen_23 : decode cX6_orderOfTen 23 = .ok (.iconst 1, 1) := by decide +kernel
theorem dX6_orderOfTen_24 : decode cX6_orderOfTen 24 = .ok (.if_icmp .le 37, 3) := by decide +kernel
theorem dX6_orderOfTen_27 : decode cX6_orderOfTen 27 = .ok (.iload_n 2, 1) := by decide +kernel
theorem dX6_orderOfTen_28 : decode cX6_orderOfTen 28 = .ok (.invokestatic 294, 3) := by decide +kernel
theorem dX6_orderOfTen_31 : decode cX6_orderOfTen 31 = .ok (.istore 4, 2) := by decide +kernel
theorem dX6_orderOfTen_33 : decode cX6_orderOfTen 33 = .ok (.iload_n 2, 1) := by decide +kernel
theorem dX6_orderOfTen_34 : decode cX6_orderOfTen 34 = .ok (.iload 4, 2) := by decide +kernel
theorem dX6_orderOfTen_36 : decode cX6_orderOfTen 36 = .ok (.idiv, 1) := by decide +kernel
theorem dX6_orderOfTen_37 : decode cX6_orderOfTen 37 = .ok (.istore_n 2, 1) := by decide +kernel
theorem dX6_orderOfTen_38 : decode cX6_orderOfTen 38 = .ok (.iload_n 1, 1) := by decide +kernel
theorem dX6_orderOfTen_39 : decode cX6_orderOfTen 39 = .ok (.iload 4, 2) := by decide +kernel
theorem dX6_orderOfTen_41 : decode cX6_orderOfTen 41 = .ok (.idiv, 1) := by decide +kernel
theorem dX6_orderOfTen_42 : decode cX6_orderOfTen 42 = .ok (.iload_n 0, 1) := by decide +kernel
theorem dX6_orderOfTen_43 : decode cX6_orderOfTen 43 = .ok (.invokestatic 297, 3) := by decide +kernel
theorem dX6_orderOfTen_46 : decode cX6_orderOfTen 46 = .ok (.iconst 1, 1) := by decide +kernel
theorem dX6_orderOfTen_47 : decode cX6_orderOfTen 47 = .ok (.if_icmp .ne 8, 3) := by decide +kernel
theorem dX6_orderOfTen_50 : decode cX6_orderOfTen 50 = .ok (.iload_n 1, 1) := by decide +kernel
theorem dX6_orderOfTen_51 : decode cX6_orderOfTen 51 = .ok (.iload 4, 2) := by decide +kernel
theorem dX6_orderOfTen_53 : decode cX6_orderOfTen 53 = .ok (.idiv, 1) := by decide +kernel
theorem dX6_orderOfTen_54 : decode cX6_orderOfTen 54 = .ok (.istore_n 1, 1) := by decide +kernel
theorem dX6_orderOfTen_55 : decode cX6_orderOfTen 55 = .ok (.iinc 3 1, 3) := by decide +kernel
theorem dX6_orderOfTen_58 : decode cX6_orderOfTen 58 = .ok (.goto (-42), 3) := by decide +kernel
theorem dX6_orderOfTen_61 : decode cX6_orderOfTen 61 = .ok (.iload_n 1, 1) := by decide +kernel
theorem dX6_orderOfTen_62 : decode cX6_orderOfTen 62 = .ok (.ireturn, 1) := by decide +kernel
set_option maxRecDepth 20000 in
theorem ggX6_totient_X6_leastFactor : GoodIn wsX6_totient wsX6_leastFactor := goodIn_ca (goodIn_r _ [4, 5, 6, 7, 8] (by decide +kernel) (by decide +kernel)) (goodIn_sub (fun _ h => List.mem_cons_of_mem _ (List.mem_append_right _ h)) (by decide +kernel))
set_option maxRecDepth 20000 in
theorem gX6_totient_X6_leastFactor : GoodIn wsX6_totient (va_wsS RX6 294 yX6_leastFactor wsX6_leastFactor) := goodIn_app (goodIn_of _ (by decide +kernel)) ggX6_totient_X6_leastFactor
theorem dX6_totient_0 : decode cX6_totient 0 = .ok (.iload_n 0, 1) := by decide +kernel
theorem dX6_totient_1 : decode cX6_totient 1 = .ok (.istore_n 1, 1) := by decide +kernel
theorem dX6_totient_2 : decode cX6_totient 2 = .ok (.iload_n 0, 1) := by decide +kernel
theorem dX6_totient_3 : decode cX6_totient 3 = .ok (.istore_n 2, 1) := by decide +kernel
theorem dX6_totient_4 : decode cX6_totient 4 = .ok (.iconst 1, 1) := by decide +kernel
theorem dX6_totient_5 : decode cX6_totient 5 = .ok (.istore_n 3, 1) := by decide +kernel
theorem dX6_totient_6 : decode cX6_totient 6 = .ok (.iconst 0, 1) := by decide +kernel
theorem dX6_totient_7 : decode cX6_totient 7 = .ok (.istore 4, 2) := by decide +kernel
theorem dX6_totient_9 : decode cX6_totient 9 = .ok (.iload 4, 2) := by decide +kernel
theorem dX6_totient_11 : decode cX6_totient 11 = .ok (.bipush 32, 2) := by decide +kernel
theorem dX6_totient_13 : decode cX6_totient 13 = .ok (.if_icmp .ge 41, 3) := by decide +kernel
theorem dX6_totient_16 : decode cX6_totient 16 = .ok (.iload_n 2, 1) := by decide +kernel
theorem dX6_totient_17 : decode cX6_totient 17 = .ok (.iconst 1, 1) := by decide +kernel
theorem dX6_totient_18 : decode cX6_totient 18 = .ok (.if_icmp .le 36, 3) := by decide +kernel
theorem dX6_totient_21 : decode cX6_totient 21 = .ok (.iload_n 2, 1) := by decide +kernel
theorem dX6_totient_22 : decode cX6_totient 22 = .ok (.invokestatic 294, 3) := by decide +kernel
theorem dX6_totient_25 : decode cX6_totient 25 = .ok (.istore 5, 2) := by decide +kernel
theorem dX6_totient_27 : decode cX6_totient 27 = .ok (.iload 5, 2) := by decide +kernel
theorem dX6_totient_29 : decode cX6_totient 29 = .ok (.iload_n 3, 1) := by decide +kernel
theorem dX6_totient_30 : decode cX6_totient 30 = .ok (.if_icmp .eq 10, 3) := by decide +kernel
theorem dX6_totient_33 : decode cX6_totient 33 = .ok (.iload_n 1, 1) := by decide +kernel
theorem dX6_totient_34 : decode cX6_totient 34 = .ok (.iload_n 1, 1) := by decide +kernel
theorem dX6_totient_35 : decode cX6_totient 35 = .ok (.iload 5, 2) := by decide +kernel
theorem dX6_totient_37 : decode cX6_totient 37 = .ok (.idiv, 1) := by decide +kernel
theorem dX6_totient_38 : decode cX6_totient 38 = .ok (.isub, 1) := by decide +kernel
theorem dX6_totient_39 : decode cX6_totient 39 = .ok (.istore_n 1, 1) := by decide +kernel
theorem dX6_totient_40 : decode cX6_totient 40 = .ok (.iload_n 2, 1) := by decide +kernel
theorem dX6_totient_41 : decode cX6_totient 41 = .ok (.iload 5, 2) := by decide +kernel
theorem dX6_totient_43 : decode cX6_totient 43 = .ok (.idiv, 1) := by decide +kernel
theorem dX6_totient_44 : decode cX6_totient 44 = .ok (.istore_n 2, 1) := by decide +kernel
theorem dX6_totient_45 : decode cX6_totient 45 = .ok (.iload 5, 2) := by decide +kernel
theorem dX6_totient_47 : decode cX6_totient 47 = .ok (.istore_n 3, 1) := by decide +kernel
theorem dX6_totient_48 : decode cX6_totient 48 = .ok (.iinc 4 1, 3) := by decide +kernel
theorem dX6_totient_51 : decode cX6_totient 51 = .ok (.goto (-42), 3) := by decide +kernel
theorem dX6_totient_54 : decode cX6_totient 54 = .ok (.iload_n 1, 1) := by decide +kernel
theorem dX6_totient_55 : decode cX6_totient 55 = .ok (.ireturn, 1) := by decide +kernel
theorem dX6_leastFactor_0 : decode cX6_leastFactor 0 = .ok (.iconst 2, 1) := by decide +kernel
theorem dX6_leastFactor_1 : decode cX6_leastFactor 1 = .ok (.istore_n 1, 1) := by decide +kernel
theorem dX6_leastFactor_2 : decode cX6_leastFactor 2 = .ok (.iload_n 1, 1) := by decide +kernel
theorem dX6_leastFactor_3 : decode cX6_leastFactor 3 = .ok (.iload_n 0, 1) := by decide +kernel
theorem dX6_leastFactor_4 : decode cX6_leastFactor 4 = .ok (.iload_n 1, 1) := by decide +kernel
theorem dX6_leastFactor_5 : decode cX6_leastFactor 5 = .ok (.idiv, 1) := by decide +kernel
theorem dX6_leastFactor_6 : decode cX6_leastFactor 6 = .ok (.if_icmp .gt 17, 3) := by decide +kernel
theorem dX6_leastFactor_9 : decode cX6_leastFactor 9 = .ok (.iload_n 0, 1) := by decide +kernel
theorem dX6_leastFactor_10 : decode cX6_leastFactor 10 = .ok (.iload_n 1, 1) := by decide +kernel
theorem dX6_leastFactor_11 : decode cX6_leastFactor 11 = .ok (.irem, 1) := by decide +kernel
theorem dX6_leastFactor_12 : decode cX6_leastFactor 12 = .ok (.ifCond .ne 5, 3) := by decide +kernel
theorem dX6_leastFactor_15 : decode cX6_leastFactor 15 = .ok (.iload_n 1, 1) := by decide +kernel
theorem dX6_leastFactor_16 : decode cX6_leastFactor 16 = .ok (.ireturn, 1) := by decide +kernel
theorem dX6_leastFactor_17 : decode cX6_leastFactor 17 = .ok (.iinc 1 1, 3) := by decide +kernel
theorem dX6_leastFactor_20 : decode cX6_leastFactor 20 = .ok (.goto (-18), 3) := by decide +kernel
theorem dX6_leastFactor_23 : decode cX6_leastFactor 23 = .ok (.iload_n 0, 1) := by decide +kernel
theorem dX6_leastFactor_24 : decode cX6_leastFactor 24 = .ok (.iconst 2, 1) := by decide +kernel
theorem dX6_leastFactor_25 : decode cX6_leastFactor 25 = .ok (.invokestatic 231, 3) := by decide +kernel
theorem dX6_leastFactor_28 : decode cX6_leastFactor 28 = .ok (.ireturn, 1) := by decide +kernel
theorem dX6_tenToThe_0 : decode cX6_tenToThe 0 = .ok (.iload_n 1, 1) := by decide +kernel
theorem dX6_tenToThe_1 : decode cX6_tenToThe 1 = .ok (.iconst 1, 1) := by decide +kernel
theorem dX6_tenToThe_2 : decode cX6_tenToThe 2 = .ok (.if_icmp .ge 5, 3) := by decide +kernel
theorem dX6_tenToThe_5 : decode cX6_tenToThe 5 = .ok (.iconst 0, 1) := by decide +kernel
theorem dX6_tenToThe_6 : decode cX6_tenToThe 6 = .ok (.ireturn, 1) := by decide +kernel
theorem dX6_tenToThe_7 : decode cX6_tenToThe 7 = .ok (.iconst 1, 1) := by decide +kernel
theorem dX6_tenToThe_8 : decode cX6_tenToThe 8 = .ok (.iload_n 1, 1) := by decide +kernel
theorem dX6_tenToThe_9 : decode cX6_tenToThe 9 = .ok (.irem, 1) := by decide +kernel
theorem dX6_tenToThe_10 : decode cX6_tenToThe 10 = .ok (.i2l, 1) := by decide +kernel
theorem dX6_tenToThe_11 : decode cX6_tenToThe 11 = .ok (.lstore_n 2, 1) := by decide +kernel
theorem dX6_tenToThe_12 : decode cX6_tenToThe 12 = .ok (.bipush 10, 2) := by decide +kernel
theorem dX6_tenToThe_14 : decode cX6_tenToThe 14 = .ok (.iload_n 1, 1) := by decide +kernel
theorem dX6_tenToThe_15 : decode cX6_tenToThe 15 = .ok (.irem, 1) := by decide +kernel
theorem dX6_tenToThe_16 : decode cX6_tenToThe 16 = .ok (.i2l, 1) := by decide +kernel
theorem dX6_tenToThe_17 : decode cX6_tenToThe 17 = .ok (.lstore 4, 2) := by decide +kernel
theorem dX6_tenToThe_19 : decode cX6_tenToThe 19 = .ok (.iload_n 0, 1) := by decide +kernel
theorem dX6_tenToThe_20 : decode cX6_tenToThe 20 = .ok (.istore 6, 2) := by decide +kernel
theorem dX6_tenToThe_22 : decode cX6_tenToThe 22 = .ok (.iload 6, 2) := by decide +kernel
theorem dX6_tenToThe_24 : decode cX6_tenToThe 24 = .ok (.ifCond .le 38, 3) := by decide +kernel
theorem dX6_tenToThe_27 : decode cX6_tenToThe 27 = .ok (.iload 6, 2) := by decide +kernel
theorem dX6_tenToThe_29 : decode cX6_tenToThe 29 = .ok (.iconst 1, 1) := by decide +kernel
theorem dX6_tenToThe_30 : decode cX6_tenToThe 30 = .ok (.iand, 1) := by decide +kernel
theorem dX6_tenToThe_31 : decode cX6_tenToThe 31 = .ok (.iconst 1, 1) := by decide +kernel
theorem dX6_tenToThe_32 : decode cX6_tenToThe 32 = .ok (.if_icmp .ne 11, 3) := by decide +kernel
theorem dX6_tenToThe_35 : decode cX6_tenToThe 35 = .ok (.lload_n 2, 1) := by decide +kernel
theorem dX6_tenToThe_36 : decode cX6_tenToThe 36 = .ok (.lload 4, 2) := by decide +kernel
theorem dX6_tenToThe_38 : decode cX6_tenToThe 38 = .ok (.lmul, 1) := by decide +kernel
theorem dX6_tenToThe_39 : decode cX6_tenToThe 39 = .ok (.iload_n 1, 1) := by decide +kernel
theorem dX6_tenToThe_40 : decode cX6_tenToThe 40 = .ok (.i2l, 1) := by decide +kernel
theorem dX6_tenToThe_41 : decode cX6_tenToThe 41 = .ok (.lrem, 1) := by decide +kernel
theorem dX6_tenToThe_42 : decode cX6_tenToThe 42 = .ok (.lstore_n 2, 1) := by decide +kernel
theorem dX6_tenToThe_43 : decode cX6_tenToThe 43 = .ok (.lload 4, 2) := by decide +kernel
theorem dX6_tenToThe_45 : decode cX6_tenToThe 45 = .ok (.lload 4, 2) := by decide +kernel
theorem dX6_tenToThe_47 : decode cX6_tenToThe 47 = .ok (.lmul, 1) := by decide +kernel
theorem dX6_tenToThe_48 : decode cX6_tenToThe 48 = .ok (.iload_n 1, 1) := by decide +kernel
theorem dX6_tenToThe_49 : decode cX6_tenToThe 49 = .ok (.i2l, 1) := by decide +kernel
theorem dX6_tenToThe_50 : decode cX6_tenToThe 50 = .ok (.lrem, 1) := by decide +kernel
theorem dX6_tenToThe_51 : decode cX6_tenToThe 51 = .ok (.lstore 4, 2) := by decide +kernel
theorem dX6_tenToThe_53 : decode cX6_tenToThe 53 = .ok (.iload 6, 2) := by decide +kernel
theorem dX6_tenToThe_55 : decode cX6_tenToThe 55 = .ok (.iconst 1, 1) := by decide +kernel
theorem dX6_tenToThe_56 : decode cX6_tenToThe 56 = .ok (.ishr, 1) := by decide +kernel
theorem dX6_tenToThe_57 : decode cX6_tenToThe 57 = .ok (.istore 6, 2) := by decide +kernel
theorem dX6_tenToThe_59 : decode cX6_tenToThe 59 = .ok (.goto (-37), 3) := by decide +kernel
theorem dX6_tenToThe_62 : decode cX6_tenToThe 62 = .ok (.lload_n 2, 1) := by decide +kernel
theorem dX6_tenToThe_63 : decode cX6_tenToThe 63 = .ok (.l2i, 1) := by decide +kernel
theorem dX6_tenToThe_64 : decode cX6_tenToThe 64 = .ok (.ireturn, 1) := by decide +kernel
theorem dX7_init_0 : decode cX7_init 0 = .ok (.aload_n 0, 1) := by decide +kernel
theorem dX7_init_1 : decode cX7_init 1 = .ok (.invokespecial 1, 3) := by decide +kernel
theorem dX7_init_4 : decode cX7_init 4 = .ok (.aload_n 0, 1) := by decide +kernel
theorem dX7_init_5 : decode cX7_init 5 = .ok (.bipush 24, 2) := by decide +kernel
theorem dX7_init_7 : decode cX7_init 7 = .ok (.newarray .boolean, 2) := by decide +kernel
theorem dX7_init_9 : decode cX7_init 9 = .ok (.putfield 7, 3) := by decide +kernel
theorem dX7_init_12 : decode cX7_init 12 = .ok (.aload_n 0, 1) := by decide +kernel
theorem dX7_init_13 : decode cX7_init 13 = .ok (.bipush 24, 2) := by decide +kernel
theorem dX7_init_15 : decode cX7_init 15 = .ok (.newarray .int, 2) := by decide +kernel
theorem dX7_init_17 : decode cX7_init 17 = .ok (.putfield 13, 3) := by decide +kernel
theorem dX7_init_20 : decode cX7_init 20 = .ok (.aload_n 0, 1) := by decide +kernel
theorem dX7_init_21 : decode cX7_init 21 = .ok (.sipush 768, 3) := by decide +kernel
theorem dX7_init_24 : decode cX7_init 24 = .ok (.newarray .long, 2) := by decide +kernel
theorem dX7_init_26 : decode cX7_init 26 = .ok (.putfield 17, 3) := by decide +kernel
theorem dX7_init_29 : decode cX7_init 29 = .ok (.aload_n 0, 1) := by decide +kernel
theorem dX7_init_30 : decode cX7_init 30 = .ok (.bipush 48, 2) := by decide +kernel
theorem dX7_init_32 : decode cX7_init 32 = .ok (.newarray .int, 2) := by decide +kernel
theorem dX7_init_34 : decode cX7_init 34 = .ok (.putfield 21, 3) := by decide +kernel
theorem dX7_init_37 : decode cX7_init 37 = .ok (.aload_n 0, 1) := by decide +kernel
theorem dX7_init_38 : decode cX7_init 38 = .ok (.sipush 400, 3) := by decide +kernel
theorem dX7_init_41 : decode cX7_init 41 = .ok (.newarray .int, 2) := by decide +kernel
theorem dX7_init_43 : decode cX7_init 43 = .ok (.putfield 24, 3) := by decide +kernel
theorem dX7_init_46 : decode cX7_init 46 = .ok (.aload_n 0, 1) := by decide +kernel
theorem dX7_init_47 : decode cX7_init 47 = .ok (.sipush 800, 3) := by decide +kernel
theorem dX7_init_50 : decode cX7_init 50 = .ok (.newarray .int, 2) := by decide +kernel
theorem dX7_init_52 : decode cX7_init 52 = .ok (.putfield 27, 3) := by decide +kernel
theorem dX7_init_55 : decode cX7_init 55 = .ok (.aload_n 0, 1) := by decide +kernel
theorem dX7_init_56 : decode cX7_init 56 = .ok (.sipush 1728, 3) := by decide +kernel
theorem dX7_init_59 : decode cX7_init 59 = .ok (.newarray .long, 2) := by decide +kernel
theorem dX7_init_61 : decode cX7_init 61 = .ok (.putfield 30, 3) := by decide +kernel
theorem dX7_init_64 : decode cX7_init 64 = .ok (.aload_n 0, 1) := by decide +kernel
theorem dX7_init_65 : decode cX7_init 65 = .ok (.bipush 24, 2) := by decide +kernel
theorem dX7_init_67 : decode cX7_init 67 = .ok (.newarray .int, 2) := by decide +kernel
theorem dX7_init_69 : decode cX7_init 69 = .ok (.putfield 33, 3) := by decide +kernel
theorem dX7_init_72 : decode cX7_init 72 = .ok (.aload_n 0, 1) := by decide +kernel
theorem dX7_init_73 : decode cX7_init 73 = .ok (.sipush 400, 3) := by decide +kernel
theorem dX7_init_76 : decode cX7_init 76 = .ok (.newarray .int, 2) := by decide +kernel
theorem dX7_init_78 : decode cX7_init 78 = .ok (.putfield 36, 3) := by decide +kernel
theorem dX7_init_81 : decode cX7_init 81 = .ok (.aload_n 0, 1) := by decide +kernel
theorem dX7_init_82 : decode cX7_init 82 = .ok (.iconst 0, 1) := by decide +kernel
theorem dX7_init_83 : decode cX7_init 83 = .ok (.putfield 39, 3) := by decide +kernel
theorem dX7_init_86 : decode cX7_init 86 = .ok (.return_, 1) := by decide +kernel
theorem dX7_thrown_0 : decode cX7_thrown 0 = .ok (.aload_n 0, 1) := by decide +kernel
theorem dX7_thrown_1 : decode cX7_thrown 1 = .ok (.getfield 43, 3) := by decide +kernel
theorem dX7_thrown_4 : decode cX7_thrown 4 = .ok (.ireturn, 1) := by decide +kernel
theorem dX7_in_0 : decode cX7_in 0 = .ok (.lload_n 0, 1) := by decide +kernel
theorem dX7_in_1 : decode cX7_in 1 = .ok (.lload_n 2, 1) := by decide +kernel
theorem dX7_in_2 : decode cX7_in 2 = .ok (.lcmp, 1) := by decide +kernel
theorem dX7_in_3 : decode cX7_in 3 = .ok (.ifCond .lt 14, 3) := by decide +kernel
theorem dX7_in_6 : decode cX7_in 6 = .ok (.lload_n 0, 1) := by decide +kernel
theorem dX7_in_7 : decode cX7_in 7 = .ok (.lload 4, 2) := by decide +kernel
theorem dX7_in_9 : decode cX7_in 9 = .ok (.lcmp, 1) := by decide +kernel
theorem dX7_in_10 : decode cX7_in 10 = .ok (.ifCond .gt 7, 3) := by decide +kernel
theorem dX7_in_13 : decode cX7_in 13 = .ok (.iconst 1, 1) := by decide +kernel
theorem dX7_in_14 : decode cX7_in 14 = .ok (.goto 4, 3) := by decide +kernel
theorem dX7_in_17 : decode cX7_in 17 = .ok (.iconst 0, 1) := by decide +kernel
theorem dX7_in_18 : decode cX7_in 18 = .ok (.ireturn, 1) := by decide +kernel
theorem dX7_trim_0 : decode cX7_trim 0 = .ok (.aload_n 0, 1) := by decide +kernel
theorem dX7_trim_1 : decode cX7_trim 1 = .ok (.getfield 33, 3) := by decide +kernel
theorem dX7_trim_4 : decode cX7_trim 4 = .ok (.iload_n 1, 1) := by decide +kernel
theorem dX7_trim_5 : decode cX7_trim 5 = .ok (.iaload, 1) := by decide +kernel
theorem dX7_trim_6 : decode cX7_trim 6 = .ok (.ifCond .le 39, 3) := by decide +kernel
theorem dX7_trim_9 : decode cX7_trim 9 = .ok (.aload_n 0, 1) := by decide +kernel
theorem dX7_trim_10 : decode cX7_trim 10 = .ok (.getfield 30, 3) := by decide +kernel
theorem dX7_trim_13 : decode cX7_trim 13 = .ok (.bipush 72, 2) := by decide +kernel
theorem dX7_trim_15 : decode cX7_trim 15 = .ok (.iload_n 1, 1) := by decide +kernel
theorem dX7_trim_16 : decode cX7_trim 16 = .ok (.imul, 1) := by decide +kernel
theorem dX7_trim_17 : decode cX7_trim 17 = .ok (.aload_n 0, 1) := by decide +kernel
theorem dX7_trim_18 : decode cX7_trim 18 = .ok (.getfield 33, 3) := by decide +kernel
theorem dX7_trim_21 : decode cX7_trim 21 = .ok (.iload_n 1, 1) := by decide +kernel
theorem dX7_trim_22 : decode cX7_trim 22 = .ok (.iaload, 1) := by decide +kernel
theorem dX7_trim_23 : decode cX7_trim 23 = .ok (.iadd, 1) := by decide +kernel
theorem dX7_trim_24 : decode cX7_trim 24 = .ok (.iconst 1, 1) := by decide +kernel
theorem dX7_trim_25 : decode cX7_trim 25 = .ok (.isub, 1) := by decide +kernel
theorem dX7_trim_26 : decode cX7_trim 26 = .ok (.laload, 1) := by decide +kernel
theorem dX7_trim_27 : decode cX7_trim 27 = .ok (.lconst 0, 1) := by decide +kernel
theorem dX7_trim_28 : decode cX7_trim 28 = .ok (.lcmp, 1) := by decide +kernel
theorem dX7_trim_29 : decode cX7_trim 29 = .ok (.ifCond .ne 16, 3) := by decide +kernel
theorem dX7_trim_32 : decode cX7_trim 32 = .ok (.aload_n 0, 1) := by decide +kernel
theorem dX7_trim_33 : decode cX7_trim 33 = .ok (.getfield 33, 3) := by decide +kernel
theorem dX7_trim_36 : decode cX7_trim 36 = .ok (.iload_n 1, 1) := by decide +kernel
theorem dX7_trim_37 : decode cX7_trim 37 = .ok (.dup2, 1) := by decide +kernel
theorem dX7_trim_38 : decode cX7_trim 38 = .ok (.iaload, 1) := by decide +kernel
theorem dX7_trim_39 : decode cX7_trim 39 = .ok (.iconst 1, 1) := by decide +kernel
theorem dX7_trim_40 : decode cX7_trim 40 = .ok (.isub, 1) := by decide +kernel
theorem dX7_trim_41 : decode cX7_trim 41 = .ok (.iastore, 1) := by decide +kernel
theorem dX7_trim_42 : decode cX7_trim 42 = .ok (.goto (-42), 3) := by decide +kernel
theorem dX7_trim_45 : decode cX7_trim 45 = .ok (.return_, 1) := by decide +kernel
set_option maxRecDepth 20000 in
theorem ggX7_small_X7_trim : GoodIn wsX7_small wsX7_trim := goodIn_ca (goodIn_r _ [8, 3, 1, 9, 10, 11, 12, 13, 14, 15, 16, 17, 18, 19, 20, 21, 22] (by decide +kernel) (by decide +kernel)) (goodIn_sub (fun _ h => List.mem_cons_of_mem _ (List.mem_append_right _ h)) (by decide +kernel))
set_option maxRecDepth 20000 in
theorem gX7_small_X7_trim : GoodIn wsX7_small (wsV RX7 48 RX7 yX7_trim wsX7_trim) := goodIn_app (goodIn_of _ (by decide +kernel)) ggX7_small_X7_trim
theorem dX7_small_0 : decode cX7_small 0 = .ok (.aload_n 0, 1) := by decide +kernel
theorem dX7_small_1 : decode cX7_small 1 = .ok (.getfield 30, 3) := by decide +kernel
theorem dX7_small_4 : decode cX7_small 4 = .ok (.bipush 72, 2) := by decide +kernel
theorem dX7_small_6 : decode cX7_small 6 = .ok (.iload_n 1, 1) := by decide +kernel
theorem dX7_small_7 : decode cX7_small 7 = .ok (.imul, 1) := by decide +kernel
theorem dX7_small_8 : decode cX7_small 8 = .ok (.lload_n 2, 1) := by decide +kernel
theorem dX7_small_9 : decode cX7_small 9 = .ok (.ldc2_w 46, 3) := by decide +kernel
theorem dX7_small_12 : decode cX7_small 12 = .ok (.land, 1) := by decide +kernel
theorem dX7_small_13 : decode cX7_small 13 = .ok (.lastore, 1) := by decide +kernel
theorem dX7_small_14 : decode cX7_small 14 = .ok (.aload_n 0, 1) := by decide +kernel
theorem dX7_small_15 : decode cX7_small 15 = .ok (.getfield 30, 3) := by decide +kernel
theorem dX7_small_18 : decode cX7_small 18 = .ok (.bipush 72, 2) := by decide +kernel
theorem dX7_small_20 : decode cX7_small 20 = .ok (.iload_n 1, 1) := by decide +kernel
theorem dX7_small_21 : decode cX7_small 21 = .ok (.imul, 1) := by decide +kernel
theorem dX7_small_22 : decode cX7_small 22 = .ok (.iconst 1, 1) := by decide +kernel
theorem dX7_small_23 : decode cX7_small 23 = .ok (.iadd, 1) := by decide +kernel
theorem dX7_small_24 : decode cX7_small 24 = .ok (.lload_n 2, 1) := by decide +kernel
theorem dX7_small_25 : decode cX7_small 25 = .ok (.bipush 32, 2) := by decide +kernel
theorem dX7_small_27 : decode cX7_small 27 = .ok (.lushr, 1) := by decide +kernel
theorem dX7_small_28 : decode cX7_small 28 = .ok (.lastore, 1) := by decide +kernel
theorem dX7_small_29 : decode cX7_small 29 = .ok (.aload_n 0, 1) := by decide +kernel
theorem dX7_small_30 : decode cX7_small 30 = .ok (.getfield 33, 3) := by decide +kernel
theorem dX7_small_33 : decode cX7_small 33 = .ok (.iload_n 1, 1) := by decide +kernel
theorem dX7_small_34 : decode cX7_small 34 = .ok (.iconst 2, 1) := by decide +kernel
theorem dX7_small_35 : decode cX7_small 35 = .ok (.iastore, 1) := by decide +kernel
theorem dX7_small_36 : decode cX7_small 36 = .ok (.aload_n 0, 1) := by decide +kernel
theorem dX7_small_37 : decode cX7_small 37 = .ok (.iload_n 1, 1) := by decide +kernel
theorem dX7_small_38 : decode cX7_small 38 = .ok (.invokevirtual 48, 3) := by decide +kernel
theorem dX7_small_41 : decode cX7_small 41 = .ok (.return_, 1) := by decide +kernel
theorem dX7_copy_0 : decode cX7_copy 0 = .ok (.iconst 0, 1) := by decide +kernel
theorem dX7_copy_1 : decode cX7_copy 1 = .ok (.istore_n 3, 1) := by decide +kernel
theorem dX7_copy_2 : decode cX7_copy 2 = .ok (.iload_n 3, 1) := by decide +kernel
theorem dX7_copy_3 : decode cX7_copy 3 = .ok (.aload_n 0, 1) := by decide +kernel
theorem dX7_copy_4 : decode cX7_copy 4 = .ok (.getfield 33, 3) := by decide +kernel
theorem dX7_copy_7 : decode cX7_copy 7 = .ok (.iload_n 2, 1) := by decide +kernel
theorem dX7_copy_8 : decode cX7_copy 8 = .ok (.iaload, 1) := by decide +kernel
theorem dX7_copy_9 : decode cX7_copy 9 = .ok (.if_icmp .ge 31, 3) := by decide +kernel
theorem dX7_copy_12 : decode cX7_copy 12 = .ok (.aload_n 0, 1) := by decide +kernel
theorem dX7_copy_13 : decode cX7_copy 13 = .ok (.getfield 30, 3) := by decide +kernel
theorem dX7_copy_16 : decode cX7_copy 16 = .ok (.bipush 72, 2) := by decide +kernel
theorem dX7_copy_18 : decode cX7_copy 18 = .ok (.iload_n 1, 1) := by decide +kernel
theorem dX7_copy_19 : decode cX7_copy 19 = .ok (.imul, 1) := by decide +kernel
theorem dX7_copy_20 : decode cX7_copy 20 = .ok (.iload_n 3, 1) := by decide +kernel
theorem dX7_copy_21 : decode cX7_copy 21 = .ok (.iadd, 1) := by decide +kernel
theorem dX7_copy_22 : decode cX7_copy 22 = .ok (.aload_n 0, 1) := by decide +kernel
theorem dX7_copy_23 : decode cX7_copy 23 = .ok (.getfield 30, 3) := by decide +kernel
theorem dX7_copy_26 : decode cX7_copy 26 = .ok (.bipush 72, 2) := by decide +kernel
theorem dX7_copy_28 : decode cX7_copy 28 = .ok (.iload_n 2, 1) := by decide +kernel
theorem dX7_copy_29 : decode cX7_copy 29 = .ok (.imul, 1) := by decide +kernel
theorem dX7_copy_30 : decode cX7_copy 30 = .ok (.iload_n 3, 1) := by decide +kernel
theorem dX7_copy_31 : decode cX7_copy 31 = .ok (.iadd, 1) := by decide +kernel
theorem dX7_copy_32 : decode cX7_copy 32 = .ok (.laload, 1) := by decide +kernel
theorem dX7_copy_33 : decode cX7_copy 33 = .ok (.lastore, 1) := by decide +kernel
theorem dX7_copy_34 : decode cX7_copy 34 = .ok (.iinc 3 1, 3) := by decide +kernel
theorem dX7_copy_37 : decode cX7_copy 37 = .ok (.goto (-35), 3) := by decide +kernel
theorem dX7_copy_40 : decode cX7_copy 40 = .ok (.aload_n 0, 1) := by decide +kernel
theorem dX7_copy_41 : decode cX7_copy 41 = .ok (.getfield 33, 3) := by decide +kernel
theorem dX7_copy_44 : decode cX7_copy 44 = .ok (.iload_n 1, 1) := by decide +kernel
theorem dX7_copy_45 : decode cX7_copy 45 = .ok (.aload_n 0, 1) := by decide +kernel
theorem dX7_copy_46 : decode cX7_copy 46 = .ok (.getfield 33, 3) := by decide +kernel
theorem dX7_copy_49 : decode cX7_copy 49 = .ok (.iload_n 2, 1) := by decide +kernel
theorem dX7_copy_50 : decode cX7_copy 50 = .ok (.iaload, 1) := by decide +kernel
theorem dX7_copy_51 : decode cX7_copy 51 = .ok (.iastore, 1) := by decide +kernel
theorem dX7_copy_52 : decode cX7_copy 52 = .ok (.return_, 1) := by decide +kernel
theorem dX7_compared_0 : decode cX7_compared 0 = .ok (.aload_n 0, 1) := by decide +kernel
theorem dX7_compared_1 : decode cX7_compared 1 = .ok (.getfield 33, 3) := by decide +kernel
theorem dX7_compared_4 : decode cX7_compared 4 = .ok (.iload_n 1, 1) := by decide +kernel
theorem dX7_compared_5 : decode cX7_compared 5 = .ok (.iaload, 1) := by decide +kernel
theorem dX7_compared_6 : decode cX7_compared 6 = .ok (.aload_n 0, 1) := by decide +kernel
theorem dX7_compared_7 : decode cX7_compared 7 = .ok (.getfield 33, 3) := by decide +kernel
theorem dX7_compared_10 : decode cX7_compared 10 = .ok (.iload_n 2, 1) := by decide +kernel
theorem dX7_compared_11 : decode cX7_compared 11 = .ok (.iaload, 1) := by decide +kernel
theorem dX7_compared_12 : decode cX7_compared 12 = .ok (.if_icmp .eq 24, 3) := by decide +kernel
theorem dX7_compared_15 : decode cX7_compared 15 = .ok (.aload_n 0, 1) := by decide +kernel
theorem dX7_compared_16 : decode cX7_compared 16 = .ok (.getfield 33, 3) := by decide +kernel
theorem dX7_compared_19 : decode cX7_compared 19 = .ok (.iload_n 1, 1) := by decide +kernel
theorem dX7_compared_20 : decode cX7_compared 20 = .ok (.iaload, 1) := by decide +kernel
theorem dX7_compared_21 : decode cX7_compared 21 = .ok (.aload_n 0, 1) := by decide +kernel
theorem dX7_compared_22 : decode cX7_compared 22 = .ok (.getfield 33, 3) := by decide +kernel
theorem dX7_compared_25 : decode cX7_compared 25 = .ok (.iload_n 2, 1) := by decide +kernel
theorem dX7_compared_26 : decode cX7_compared 26 = .ok (.iaload, 1) := by decide +kernel
theorem dX7_compared_27 : decode cX7_compared 27 = .ok (.if_icmp .ge 7, 3) := by decide +kernel
theorem dX7_compared_30 : decode cX7_compared 30 = .ok (.iconst (-1), 1) := by decide +kernel
theorem dX7_compared_31 : decode cX7_compared 31 = .ok (.goto 4, 3) := by decide +kernel
theorem dX7_compared_34 : decode cX7_compared 34 = .ok (.iconst 1, 1) := by decide +kernel
theorem dX7_compared_35 : decode cX7_compared 35 = .ok (.ireturn, 1) := by decide +kernel
theorem dX7_compared_36 : decode cX7_compared 36 = .ok (.aload_n 0, 1) := by decide +kernel
theorem dX7_compared_37 : decode cX7_compared 37 = .ok (.getfield 33, 3) := by decide +kernel
theorem dX7_compared_40 : decode cX7_compared 40 = .ok (.iload_n 1, 1) := by decide +kernel
theorem dX7_compared_41 : decode cX7_compared 41 = .ok (.iaload, 1) := by decide +kernel
theorem dX7_compared_42 : decode cX7_compared 42 = .ok (.iconst 1, 1) := by decide +kernel
theorem dX7_compared_43 : decode cX7_compared 43 = .ok (.isub, 1) := by decide +kernel
theorem dX7_compared_44 : decode cX7_compared 44 = .ok (.istore_n 3, 1) := by decide +kernel
theorem dX7_compared_45 : decode cX7_compared 45 = .ok (.iload_n 3, 1) := by decide +kernel
theorem dX7_compared_46 : decode cX7_compared 46 = .ok (.ifCond .lt 57, 3) := by decide +kernel
theorem dX7_compared_49 : decode cX7_compared 49 = .ok (.aload_n 0, 1) := by decide +kernel
theorem dX7_compared_50 : decode cX7_compared 50 = .ok (.getfield 30, 3) := by decide +kernel
theorem dX7_compared_53 : decode cX7_compared 53 = .ok (.bipush 72, 2) := by decide +kernel
theorem dX7_compared_55 : decode cX7_compared 55 = .ok (.iload_n 1, 1) := by decide +kernel
theorem dX7_compared_56 : decode cX7_compared 56 = .ok (.imul, 1) := by decide +kernel
theorem dX7_compared_57 : decode cX7_compared 57 = .ok (.iload_n 3, 1) := by decide +kernel
theorem dX7_compared_58 : decode cX7_compared 58 = .ok (.iadd, 1) := by decide +kernel
theorem dX7_compared_59 : decode cX7_compared 59 = .ok (.laload, 1) := by decide +kernel
theorem dX7_compared_60 : decode cX7_compared 60 = .ok (.lstore 4, 2) := by decide +kernel
theorem dX7_compared_62 : decode cX7_compared 62 = .ok (.aload_n 0, 1) := by decide +kernel
theorem dX7_compared_63 : decode cX7_compared 63 = .ok (.getfield 30, 3) := by decide +kernel
theorem dX7_compared_66 : decode cX7_compared 66 = .ok (.bipush 72, 2) := by decide +kernel
theorem dX7_compared_68 : decode cX7_compared 68 = .ok (.iload_n 2, 1) := by decide +kernel
theorem dX7_compared_69 : decode cX7_compared 69 = .ok (.imul, 1) := by decide +kernel
theorem dX7_compared_70 : decode cX7_compared 70 = .ok (.iload_n 3, 1) := by decide +kernel
theorem dX7_compared_71 : decode cX7_compared 71 = .ok (.iadd, 1) := by decide +kernel
theorem dX7_compared_72 : decode cX7_compared 72 = .ok (.laload, 1) := by decide +kernel
theorem dX7_compared_73 : decode cX7_compared 73 = .ok (.lstore 6, 2) := by decide +kernel
theorem dX7_compared_75 : decode cX7_compared 75 = .ok (.lload 4, 2) := by decide +kernel
theorem dX7_compared_77 : decode cX7_compared 77 = .ok (.lload 6, 2) := by decide +kernel
theorem dX7_compared_79 : decode cX7_compared 79 = .ok (.lcmp, 1) := by decide +kernel
theorem dX7_compared_80 : decode cX7_compared 80 = .ok (.ifCond .eq 17, 3) := by decide +kernel
theorem dX7_compared_83 : decode cX7_compared 83 = .ok (.lload 4, 2) := by decide +kernel
theorem dX7_compared_85 : decode cX7_compared 85 = .ok (.lload 6, 2) := by decide +kernel
theorem dX7_compared_87 : decode cX7_compared 87 = .ok (.lcmp, 1) := by decide +kernel
theorem dX7_compared_88 : decode cX7_compared 88 = .ok (.ifCond .ge 7, 3) := by decide +kernel
theorem dX7_compared_91 : decode cX7_compared 91 = .ok (.iconst (-1), 1) := by decide +kernel
theorem dX7_compared_92 : decode cX7_compared 92 = .ok (.goto 4, 3) := by decide +kernel
theorem dX7_compared_95 : decode cX7_compared 95 = .ok (.iconst 1, 1) := by decide +kernel
theorem dX7_compared_96 : decode cX7_compared 96 = .ok (.ireturn, 1) := by decide +kernel
theorem dX7_compared_97 : decode cX7_compared 97 = .ok (.iinc 3 (-1), 3) := by decide +kernel
theorem dX7_compared_100 : decode cX7_compared 100 = .ok (.goto (-55), 3) := by decide +kernel
theorem dX7_compared_103 : decode cX7_compared 103 = .ok (.iconst 0, 1) := by decide +kernel
theorem dX7_compared_104 : decode cX7_compared 104 = .ok (.ireturn, 1) := by decide +kernel
theorem dX7_bits_0 : decode cX7_bits 0 = .ok (.bipush 32, 2) := by decide +kernel
theorem dX7_bits_2 : decode cX7_bits 2 = .ok (.aload_n 0, 1) := by decide +kernel
theorem dX7_bits_3 : decode cX7_bits 3 = .ok (.getfield 33, 3) := by decide +kernel
theorem dX7_bits_6 : decode cX7_bits 6 = .ok (.iload_n 1, 1) := by decide +kernel
theorem dX7_bits_7 : decode cX7_bits 7 = .ok (.iaload, 1) := by decide +kernel
theorem dX7_bits_8 : decode cX7_bits 8 = .ok (.imul, 1) := by decide +kernel
theorem dX7_bits_9 : decode cX7_bits 9 = .ok (.istore_n 2, 1) := by decide +kernel
theorem dX7_bits_10 : decode cX7_bits 10 = .ok (.ldc2_w 52, 3) := by decide +kernel
theorem dX7_bits_13 : decode cX7_bits 13 = .ok (.lstore_n 3, 1) := by decide +kernel
theorem dX7_bits_14 : decode cX7_bits 14 = .ok (.aload_n 0, 1) := by decide +kernel
theorem dX7_bits_15 : decode cX7_bits 15 = .ok (.getfield 33, 3) := by decide +kernel
theorem dX7_bits_18 : decode cX7_bits 18 = .ok (.iload_n 1, 1) := by decide +kernel
theorem dX7_bits_19 : decode cX7_bits 19 = .ok (.iaload, 1) := by decide +kernel
theorem dX7_bits_20 : decode cX7_bits 20 = .ok (.ifCond .le 38, 3) := by decide +kernel
theorem dX7_bits_23 : decode cX7_bits 23 = .ok (.aload_n 0, 1) := by decide +kernel
theorem dX7_bits_24 : decode cX7_bits 24 = .ok (.getfield 30, 3) := by decide +kernel
theorem dX7_bits_27 : decode cX7_bits 27 = .ok (.bipush 72, 2) := by decide +kernel
theorem dX7_bits_29 : decode cX7_bits 29 = .ok (.iload_n 1, 1) := by decide +kernel
theorem dX7_bits_30 : decode cX7_bits 30 = .ok (.imul, 1) := by decide +kernel
theorem dX7_bits_31 : decode cX7_bits 31 = .ok (.aload_n 0, 1) := by decide +kernel
theorem dX7_bits_32 : decode cX7_bits 32 = .ok (.getfield 33, 3) := by decide +kernel
theorem dX7_bits_35 : decode cX7_bits 35 = .ok (.iload_n 1, 1) := by decide +kernel
theorem dX7_bits_36 : decode cX7_bits 36 = .ok (.iaload, 1) := by decide +kernel
theorem dX7_bits_37 : decode cX7_bits 37 = .ok (.iadd, 1) := by decide +kernel
theorem dX7_bits_38 : decode cX7_bits 38 = .ok (.iconst 1, 1) := by decide +kernel
theorem dX7_bits_39 : decode cX7_bits 39 = .ok (.isub, 1) := by decide +kernel
theorem dX7_bits_40 : decode cX7_bits 40 = .ok (.laload, 1) := by decide +kernel
theorem dX7_bits_41 : decode cX7_bits 41 = .ok (.lload_n 3, 1) := by decide +kernel
theorem dX7_bits_42 : decode cX7_bits 42 = .ok (.land, 1) := by decide +kernel
theorem dX7_bits_43 : decode cX7_bits 43 = .ok (.lconst 0, 1) := by decide +kernel
theorem dX7_bits_44 : decode cX7_bits 44 = .ok (.lcmp, 1) := by decide +kernel
theorem dX7_bits_45 : decode cX7_bits 45 = .ok (.ifCond .ne 13, 3) := by decide +kernel
theorem dX7_bits_48 : decode cX7_bits 48 = .ok (.iinc 2 (-1), 3) := by decide +kernel
theorem dX7_bits_51 : decode cX7_bits 51 = .ok (.lload_n 3, 1) := by decide +kernel
theorem dX7_bits_52 : decode cX7_bits 52 = .ok (.iconst 1, 1) := by decide +kernel
theorem dX7_bits_53 : decode cX7_bits 53 = .ok (.lshr, 1) := by decide +kernel
theorem dX7_bits_54 : decode cX7_bits 54 = .ok (.lstore_n 3, 1) := by decide +kernel
theorem dX7_bits_55 : decode cX7_bits 55 = .ok (.goto (-41), 3) := by decide +kernel
theorem dX7_bits_58 : decode cX7_bits 58 = .ok (.iload_n 2, 1) := by decide +kernel
theorem dX7_bits_59 : decode cX7_bits 59 = .ok (.ireturn, 1) := by decide +kernel
set_option maxRecDepth 20000 in
theorem ggX7_add_X7_trim : GoodIn wsX7_add wsX7_trim := goodIn_ca (goodIn_r _ [8, 1, 2, 9, 10, 11, 12, 13, 14, 15, 16, 17, 18, 19, 20, 21, 22] (by decide +kernel) (by decide +kernel)) (goodIn_sub (fun _ h => List.mem_cons_of_mem _ (List.mem_append_right _ h)) (by decide +kernel))
set_option maxRecDepth 20000 in
theorem gX7_add_X7_trim : GoodIn wsX7_add (wsV RX7 48 RX7 yX7_trim wsX7_trim) := goodIn_app (goodIn_of _ (by decide +kernel)) ggX7_add_X7_trim
theorem dX7_add_0 : decode cX7_add 0 = .ok (.aload_n 0, 1) := by decide +kernel
theorem dX7_add_1 : decode cX7_add 1 = .ok (.getfield 33, 3) := by decide +kernel
theorem dX7_add_4 : decode cX7_add 4 = .ok (.iload_n 1, 1) := by decide +kernel
theorem dX7_add_5 : decode cX7_add 5 = .ok (.iaload, 1) := by decide +kernel
theorem dX7_add_6 : decode cX7_add 6 = .ok (.aload_n 0, 1) := by decide +kernel
theorem dX7_add_7 : decode cX7_add 7 = .ok (.getfield 33, 3) := by decide +kernel
theorem dX7_add_10 : decode cX7_add 10 = .ok (.iload_n 2, 1) := by decide +kernel
theorem dX7_add_11 : decode cX7_add 11 = .ok (.iaload, 1) := by decide +kernel
theorem dX7_add_12 : decode cX7_add 12 = .ok (.if_icmp .le 12, 3) := by decide +kernel
theorem dX7_add_15 : decode cX7_add 15 = .ok (.aload_n 0, 1) := by decide +kernel
theorem dX7_add_16 : decode cX7_add 16 = .ok (.getfield 33, 3) := by decide +kernel
theorem dX7_add_19 : decode cX7_add 19 = .ok (.iload_n 1, 1) := by decide +kernel
theorem dX7_add_20 : decode cX7_add 20 = .ok (.iaload, 1) := by decide +kernel
theorem dX7_add_21 : decode cX7_add 21 = .ok (.goto 9, 3) := by decide +kernel
theorem dX7_add_24 : decode cX7_add 24 = .ok (.aload_n 0, 1) := by decide +kernel
theorem dX7_add_25 : decode cX7_add 25 = .ok (.getfield 33, 3) := by decide +kernel
theorem dX7_add_28 : decode cX7_add 28 = .ok (.iload_n 2, 1) := by decide +kernel
theorem dX7_add_29 : decode cX7_add 29 = .ok (.iaload, 1) := by decide +kernel
theorem dX7_add_30 : decode cX7_add 30 = .ok (.istore_n 3, 1) := by decide +kernel
theorem dX7_add_31 : decode cX7_add 31 = .ok (.lconst 0, 1) := by decide +kernel
theorem dX7_add_32 : decode cX7_add 32 = .ok (.lstore 4, 2) := by decide +kernel
theorem dX7_add_34 : decode cX7_add 34 = .ok (.iconst 0, 1) := by decide +kernel
theorem dX7_add_35 : decode cX7_add 35 = .ok (.istore 6, 2) := by decide +kernel
theorem dX7_add_37 : decode cX7_add 37 = .ok (.iload 6, 2) := by decide +kernel
theorem dX7_add_39 : decode cX7_add 39 = .ok (.iload_n 3, 1) := by decide +kernel
theorem dX7_add_40 : decode cX7_add 40 = .ok (.if_icmp .ge 94, 3) := by decide +kernel
theorem dX7_add_43 : decode cX7_add 43 = .ok (.lload 4, 2) := by decide +kernel
theorem dX7_add_45 : decode cX7_add 45 = .ok (.iload 6, 2) := by decide +kernel
theorem dX7_add_47 : decode cX7_add 47 = .ok (.aload_n 0, 1) := by decide +kernel
theorem dX7_add_48 : decode cX7_add 48 = .ok (.getfield 33, 3) := by decide +kernel
theorem dX7_add_51 : decode cX7_add 51 = .ok (.iload_n 1, 1) := by decide +kernel
theorem dX7_add_52 : decode cX7_add 52 = .ok (.iaload, 1) := by decide +kernel
theorem dX7_add_53 : decode cX7_add 53 = .ok (.if_icmp .ge 18, 3) := by decide +kernel
theorem dX7_add_56 : decode cX7_add 56 = .ok (.aload_n 0, 1) := by decide +kernel
theorem dX7_add_57 : decode cX7_add 57 = .ok (.getfield 30, 3) := by decide +kernel
theorem dX7_add_60 : decode cX7_add 60 = .ok (.bipush 72, 2) := by decide +kernel
theorem dX7_add_62 : decode cX7_add 62 = .ok (.iload_n 1, 1) := by decide +kernel
theorem dX7_add_63 : decode cX7_add 63 = .ok (.imul, 1) := by decide +kernel
theorem dX7_add_64 : decode cX7_add 64 = .ok (.iload 6, 2) := by decide +kernel
theorem dX7_add_66 : decode cX7_add 66 = .ok (.iadd, 1) := by decide +kernel
theorem dX7_add_67 : decode cX7_add 67 = .ok (.laload, 1) := by decide +kernel
theorem dX7_add_68 : decode cX7_add 68 = .ok (.goto 4, 3) := by decide +kernel
theorem dX7_add_71 : decode cX7_add 71 = .ok (.lconst 0, 1) := by decide +kernel
theorem dX7_add_72 : decode cX7_add 72 = .ok (.iload 6, 2) := by decide +kernel
theorem dX7_add_74 : decode cX7_add 74 = .ok (.aload_n 0, 1) := by decide +kernel
theorem dX7_add_75 : decode cX7_add 75 = .ok (.getfield 33, 3) := by decide +kernel
theorem dX7_add_78 : decode cX7_add 78 = .ok (.iload_n 2, 1) := by decide +kernel
theorem dX7_add_79 : decode cX7_add 79 = .ok (.iaload, 1) := by decide +kernel
theorem dX7_add_80 : decode cX7_add 80 = .ok (.if_icmp .ge 18, 3) := by decide +kernel
theorem dX7_add_83 : decode cX7_add 83 = .ok (.aload_n 0, 1) := by decide +kernel
theorem dX7_add_84 : decode cX7_add 84 = .ok (.getfield 30, 3) := by decide +kernel
theorem dX7_add_87 : decode cX7_add 87 = .ok (.bipush 72, 2) := by decide +kernel
theorem dX7_add_89 : decode cX7_add 89 = .ok (.iload_n 2, 1) := by decide +kernel
theorem dX7_add_90 : decode cX7_add 90 = .ok (.imul, 1) := by decide +kernel
theorem dX7_add_91 : decode cX7_add 91 = .ok (.iload 6, 2) := by decide +kernel
theorem dX7_add_93 : decode cX7_add 93 = .ok (.iadd, 1) := by decide +kernel
theorem dX7_add_94 : decode cX7_add 94 = .ok (.laload, 1) := by decide +kernel
theorem dX7_add_95 : decode cX7_add 95 = .ok (.goto 4, 3) := by decide +kernel
theorem dX7_add_98 : decode cX7_add 98 = .ok (.lconst 0, 1) := by decide +kernel
theorem dX7_add_99 : decode cX7_add 99 = .ok (.ladd, 1) := by decide +kernel
theorem dX7_add_100 : decode cX7_add 100 = .ok (.ladd, 1) := by decide +kernel
theorem dX7_add_101 : decode cX7_add 101 = .ok (.lstore 4, 2) := by decide +kernel
theorem dX7_add_103 : decode cX7_add 103 = .ok (.aload_n 0, 1) := by decide +kernel
theorem dX7_add_104 : decode cX7_add 104 = .ok (.getfield 30, 3) := by decide +kernel
theorem dX7_add_107 : decode cX7_add 107 = .ok (.bipush 72, 2) := by decide +kernel
theorem dX7_add_109 : decode cX7_add 109 = .ok (.iload_n 1, 1) := by decide +kernel
theorem dX7_add_110 : decode cX7_add 110 = .ok (.imul, 1) := by decide +kernel
theorem dX7_add_111 : decode cX7_add 111 = .ok (.iload 6, 2) := by decide +kernel
theorem dX7_add_113 : decode cX7_add 113 = .ok (.iadd, 1) := by decide +kernel
theorem dX7_add_114 : decode cX7_add 114 = .ok (.lload 4, 2) := by decide +kernel
theorem dX7_add_116 : decode cX7_add 116 = .ok (.ldc2_w 46, 3) := by decide +kernel
theorem dX7_add_119 : decode cX7_add 119 = .ok (.land, 1) := by decide +kernel
theorem dX7_add_120 : decode cX7_add 120 = .ok (.lastore, 1) := by decide +kernel
theorem dX7_add_121 : decode cX7_add 121 = .ok (.lload 4, 2) := by decide +kernel
theorem dX7_add_123 : decode cX7_add 123 = .ok (.bipush 32, 2) := by decide +kernel
theorem dX7_add_125 : decode cX7_add 125 = .ok (.lshr, 1) := by decide +kernel
theorem dX7_add_126 : decode cX7_add 126 = .ok (.lstore 4, 2) := by decide +kernel
theorem dX7_add_128 : decode cX7_add 128 = .ok (.iinc 6 1, 3) := by decide +kernel
theorem dX7_add_131 : decode cX7_add 131 = .ok (.goto (-94), 3) := by decide +kernel
theorem dX7_add_134 : decode cX7_add 134 = .ok (.aload_n 0, 1) := by decide +kernel
theorem dX7_add_135 : decode cX7_add 135 = .ok (.getfield 30, 3) := by decide +kernel
theorem dX7_add_138 : decode cX7_add 138 = .ok (.bipush 72, 2) := by decide +kernel
theorem dX7_add_140 : decode cX7_add 140 = .ok (.iload_n 1, 1) := by decide +kernel
theorem dX7_add_141 : decode cX7_add 141 = .ok (.imul, 1) := by decide +kernel
theorem dX7_add_142 : decode cX7_add 142 = .ok (.iload_n 3, 1) := by decide +kernel
theorem dX7_add_143 : decode cX7_add 143 = .ok (.iadd, 1) := by decide +kernel
theorem dX7_add_144 : decode cX7_add 144 = .ok (.lload 4, 2) := by decide +kernel
theorem dX7_add_146 : decode cX7_add 146 = .ok (.lastore, 1) := by decide +kernel
theorem dX7_add_147 : decode cX7_add 147 = .ok (.aload_n 0, 1) := by decide +kernel
theorem dX7_add_148 : decode cX7_add 148 = .ok (.getfield 33, 3) := by decide +kernel
theorem dX7_add_151 : decode cX7_add 151 = .ok (.iload_n 1, 1) := by decide +kernel
theorem dX7_add_152 : decode cX7_add 152 = .ok (.iload_n 3, 1) := by decide +kernel
theorem dX7_add_153 : decode cX7_add 153 = .ok (.iconst 1, 1) := by decide +kernel
theorem dX7_add_154 : decode cX7_add 154 = .ok (.iadd, 1) := by decide +kernel
theorem dX7_add_155 : decode cX7_add 155 = .ok (.iastore, 1) := by decide +kernel
theorem dX7_add_156 : decode cX7_add 156 = .ok (.aload_n 0, 1) := by decide +kernel
theorem dX7_add_157 : decode cX7_add 157 = .ok (.iload_n 1, 1) := by decide +kernel
theorem dX7_add_158 : decode cX7_add 158 = .ok (.invokevirtual 48, 3) := by decide +kernel
theorem dX7_add_161 : decode cX7_add 161 = .ok (.return_, 1) := by decide +kernel
set_option maxRecDepth 20000 in
theorem ggX7_less_X7_trim : GoodIn wsX7_less wsX7_trim := goodIn_ca (goodIn_r _ [8, 1, 2, 9, 10, 11, 12, 13, 14, 15, 16, 17, 18, 19, 20, 21, 22] (by decide +kernel) (by decide +kernel)) (goodIn_sub (fun _ h => List.mem_cons_of_mem _ (List.mem_append_right _ h)) (by decide +kernel))
set_option maxRecDepth 20000 in
theorem gX7_less_X7_trim : GoodIn wsX7_less (wsV RX7 48 RX7 yX7_trim wsX7_trim) := goodIn_app (goodIn_of _ (by decide +kernel)) ggX7_less_X7_trim
theorem dX7_less_0 : decode cX7_less 0 = .ok (.lconst 0, 1) := by decide +kernel
theorem dX7_less_1 : decode cX7_less 1 = .ok (.lstore_n 3, 1) := by decide +kernel
theorem dX7_less_2 : decode cX7_less 2 = .ok (.iconst 0, 1) := by decide +kernel
theorem dX7_less_3 : decode cX7_less 3 = .ok (.istore 5, 2) := by decide +kernel
theorem dX7_less_5 : decode cX7_less 5 = .ok (.iload 5, 2) := by decide +kernel
theorem dX7_less_7 : decode cX7_less 7 = .ok (.aload_n 0, 1) := by decide +kernel
theorem dX7_less_8 : decode cX7_less 8 = .ok (.getfield 33, 3) := by decide +kernel
theorem dX7_less_11 : decode cX7_less 11 = .ok (.iload_n 1, 1) := by decide +kernel
theorem dX7_less_12 : decode cX7_less 12 = .ok (.iaload, 1) := by decide +kernel
theorem dX7_less_13 : decode cX7_less 13 = .ok (.if_icmp .ge 74, 3) := by decide +kernel
theorem dX7_less_16 : decode cX7_less 16 = .ok (.lload_n 3, 1) := by decide +kernel
theorem dX7_less_17 : decode cX7_less 17 = .ok (.aload_n 0, 1) := by decide +kernel
theorem dX7_less_18 : decode cX7_less 18 = .ok (.getfield 30, 3) := by decide +kernel
theorem dX7_less_21 : decode cX7_less 21 = .ok (.bipush 72, 2) := by decide +kernel
theorem dX7_less_23 : decode cX7_less 23 = .ok (.iload_n 1, 1) := by decide +kernel
theorem dX7_less_24 : decode cX7_less 24 = .ok (.imul, 1) := by decide +kernel
theorem dX7_less_25 : decode cX7_less 25 = .ok (.iload 5, 2) := by decide +kernel
theorem dX7_less_27 : decode cX7_less 27 = .ok (.iadd, 1) := by decide +kernel
theorem dX7_less_28 : decode cX7_less 28 = .ok (.laload, 1) := by decide +kernel
theorem dX7_less_29 : decode cX7_less 29 = .ok (.iload 5, 2) := by decide +kernel
theorem dX7_less_31 : decode cX7_less 31 = .ok (.aload_n 0, 1) := by decide +kernel
theorem dX7_less_32 : decode cX7_less 32 = .ok (.getfield 33, 3) := by decide +kernel
theorem dX7_less_35 : decode cX7_less 35 = .ok (.iload_n 2, 1) := by decide +kernel
theorem dX7_less_36 : decode cX7_less 36 = .ok (.iaload, 1) := by decide +kernel
theorem dX7_less_37 : decode cX7_less 37 = .ok (.if_icmp .ge 18, 3) := by decide +kernel
theorem dX7_less_40 : decode cX7_less 40 = .ok (.aload_n 0, 1) := by decide +kernel
theorem dX7_less_41 : decode cX7_less 41 = .ok (.getfield 30, 3) := by decide +kernel
theorem dX7_less_44 : decode cX7_less 44 = .ok (.bipush 72, 2) := by decide +kernel
theorem dX7_less_46 : decode cX7_less 46 = .ok (.iload_n 2, 1) := by decide +kernel
theorem dX7_less_47 : decode cX7_less 47 = .ok (.imul, 1) := by decide +kernel
theorem dX7_less_48 : decode cX7_less 48 = .ok (.iload 5, 2) := by decide +kernel
theorem dX7_less_50 : decode cX7_less 50 = .ok (.iadd, 1) := by decide +kernel
theorem dX7_less_51 : decode cX7_less 51 = .ok (.laload, 1) := by decide +kernel
theorem dX7_less_52 : decode cX7_less 52 = .ok (.goto 4, 3) := by decide +kernel
theorem dX7_less_55 : decode cX7_less 55 = .ok (.lconst 0, 1) := by decide +kernel
theorem dX7_less_56 : decode cX7_less 56 = .ok (.lsub, 1) := by decide +kernel
theorem dX7_less_57 : decode cX7_less 57 = .ok (.ladd, 1) := by decide +kernel
theorem dX7_less_58 : decode cX7_less 58 = .ok (.lstore_n 3, 1) := by decide +kernel
theorem dX7_less_59 : decode cX7_less 59 = .ok (.aload_n 0, 1) := by decide +kernel
theorem dX7_less_60 : decode cX7_less 60 = .ok (.getfield 30, 3) := by decide +kernel
theorem dX7_less_63 : decode cX7_less 63 = .ok (.bipush 72, 2) := by decide +kernel
theorem dX7_less_65 : decode cX7_less 65 = .ok (.iload_n 1, 1) := by decide +kernel
theorem dX7_less_66 : decode cX7_less 66 = .ok (.imul, 1) := by decide +kernel
theorem dX7_less_67 : decode cX7_less 67 = .ok (.iload 5, 2) := by decide +kernel
theorem dX7_less_69 : decode cX7_less 69 = .ok (.iadd, 1) := by decide +kernel
theorem dX7_less_70 : decode cX7_less 70 = .ok (.lload_n 3, 1) := by decide +kernel
theorem dX7_less_71 : decode cX7_less 71 = .ok (.ldc2_w 46, 3) := by decide +kernel
theorem dX7_less_74 : decode cX7_less 74 = .ok (.land, 1) := by decide +kernel
theorem dX7_less_75 : decode cX7_less 75 = .ok (.lastore, 1) := by decide +kernel
theorem dX7_less_76 : decode cX7_less 76 = .ok (.lload_n 3, 1) := by decide +kernel
theorem dX7_less_77 : decode cX7_less 77 = .ok (.bipush 32, 2) := by decide +kernel
theorem dX7_less_79 : decode cX7_less 79 = .ok (.lshr, 1) := by decide +kernel
theorem dX7_less_80 : decode cX7_less 80 = .ok (.lstore_n 3, 1) := by decide +kernel
theorem dX7_less_81 : decode cX7_less 81 = .ok (.iinc 5 1, 3) := by decide +kernel
theorem dX7_less_84 : decode cX7_less 84 = .ok (.goto (-79), 3) := by decide +kernel
theorem dX7_less_87 : decode cX7_less 87 = .ok (.aload_n 0, 1) := by decide +kernel
theorem dX7_less_88 : decode cX7_less 88 = .ok (.iload_n 1, 1) := by decide +kernel
theorem dX7_less_89 : decode cX7_less 89 = .ok (.invokevirtual 48, 3) := by decide +kernel
theorem dX7_less_92 : decode cX7_less 92 = .ok (.return_, 1) := by decide +kernel
set_option maxRecDepth 20000 in
theorem ggX7_times_X7_trim : GoodIn wsX7_times wsX7_trim := goodIn_ca (goodIn_r _ [8, 1, 2, 9, 10, 11, 12, 13, 14, 15, 16, 17, 18, 19, 20, 21, 22] (by decide +kernel) (by decide +kernel)) (goodIn_sub (fun _ h => List.mem_cons_of_mem _ (List.mem_append_right _ h)) (by decide +kernel))
set_option maxRecDepth 20000 in
theorem gX7_times_X7_trim : GoodIn wsX7_times (wsV RX7 48 RX7 yX7_trim wsX7_trim) := goodIn_app (goodIn_of _ (by decide +kernel)) ggX7_times_X7_trim
theorem dX7_times_0 : decode cX7_times 0 = .ok (.aload_n 0, 1) := by decide +kernel
theorem dX7_times_1 : decode cX7_times 1 = .ok (.getfield 33, 3) := by decide +kernel
theorem dX7_times_4 : decode cX7_times 4 = .ok (.iload_n 2, 1) := by decide +kernel
theorem dX7_times_5 : decode cX7_times 5 = .ok (.iaload, 1) := by decide +kernel
theorem dX7_times_6 : decode cX7_times 6 = .ok (.aload_n 0, 1) := by decide +kernel
theorem dX7_times_7 : decode cX7_times 7 = .ok (.getfield 33, 3) := by decide +kernel
theorem dX7_times_10 : decode cX7_times 10 = .ok (.iload_n 3, 1) := by decide +kernel
theorem dX7_times_11 : decode cX7_times 11 = .ok (.iaload, 1) := by decide +kernel
theorem dX7_times_12 : decode cX7_times 12 = .ok (.iadd, 1) := by decide +kernel
theorem dX7_times_13 : decode cX7_times 13 = .ok (.istore 4, 2) := by decide +kernel
theorem dX7_times_15 : decode cX7_times 15 = .ok (.iconst 0, 1) := by decide +kernel
theorem dX7_times_16 : decode cX7_times 16 = .ok (.istore 5, 2) := by decide +kernel
theorem dX7_times_18 : decode cX7_times 18 = .ok (.iload 5, 2) := by decide +kernel
theorem dX7_times_20 : decode cX7_times 20 = .ok (.iload 4, 2) := by decide +kernel
theorem dX7_times_22 : decode cX7_times 22 = .ok (.if_icmp .ge 22, 3) := by decide +kernel
theorem dX7_times_25 : decode cX7_times 25 = .ok (.aload_n 0, 1) := by decide +kernel
theorem dX7_times_26 : decode cX7_times 26 = .ok (.getfield 30, 3) := by decide +kernel
theorem dX7_times_29 : decode cX7_times 29 = .ok (.bipush 72, 2) := by decide +kernel
theorem dX7_times_31 : decode cX7_times 31 = .ok (.iload_n 1, 1) := by decide +kernel
theorem dX7_times_32 : decode cX7_times 32 = .ok (.imul, 1) := by decide +kernel
theorem dX7_times_33 : decode cX7_times 33 = .ok (.iload 5, 2) := by decide +kernel
theorem dX7_times_35 : decode cX7_times 35 = .ok (.iadd, 1) := by decide +kernel
theorem dX7_times_36 : decode cX7_times 36 = .ok (.lconst 0, 1) := by decide +kernel
theorem dX7_times_37 : decode cX7_times 37 = .ok (.lastore, 1) := by decide +kernel
theorem dX7_times_38 : decode cX7_times 38 = .ok (.iinc 5 1, 3) := by decide +kernel
theorem dX7_times_41 : decode cX7_times 41 = .ok (.goto (-23), 3) := by decide +kernel
theorem dX7_times_44 : decode cX7_times 44 = .ok (.iconst 0, 1) := by decide +kernel
theorem dX7_times_45 : decode cX7_times 45 = .ok (.istore 5, 2) := by decide +kernel
theorem dX7_times_47 : decode cX7_times 47 = .ok (.iload 5, 2) := by decide +kernel
theorem dX7_times_49 : decode cX7_times 49 = .ok (.aload_n 0, 1) := by decide +kernel
theorem dX7_times_50 : decode cX7_times 50 = .ok (.getfield 33, 3) := by decide +kernel
theorem dX7_times_53 : decode cX7_times 53 = .ok (.iload_n 2, 1) := by decide +kernel
theorem dX7_times_54 : decode cX7_times 54 = .ok (.iaload, 1) := by decide +kernel
theorem dX7_times_55 : decode cX7_times 55 = .ok (.if_icmp .ge 127, 3) := by decide +kernel
theorem dX7_times_58 : decode cX7_times 58 = .ok (.lconst 0, 1) := by decide +kernel
theorem dX7_times_59 : decode cX7_times 59 = .ok (.lstore 6, 2) := by decide +kernel
theorem dX7_times_61 : decode cX7_times 61 = .ok (.iconst 0, 1) := by decide +kernel
theorem dX7_times_62 : decode cX7_times 62 = .ok (.istore 8, 2) := by decide +kernel
theorem dX7_times_64 : decode cX7_times 64 = .ok (.iload 8, 2) := by decide +kernel
theorem dX7_times_66 : decode cX7_times 66 = .ok (.aload_n 0, 1) := by decide +kernel
theorem dX7_times_67 : decode cX7_times 67 = .ok (.getfield 33, 3) := by decide +kernel
theorem dX7_times_70 : decode cX7_times 70 = .ok (.iload_n 3, 1) := by decide +kernel
theorem dX7_times_71 : decode cX7_times 71 = .ok (.iaload, 1) := by decide +kernel
theorem dX7_times_72 : decode cX7_times 72 = .ok (.if_icmp .ge 83, 3) := by decide +kernel
theorem dX7_times_75 : decode cX7_times 75 = .ok (.lload 6, 2) := by decide +kernel
theorem dX7_times_77 : decode cX7_times 77 = .ok (.aload_n 0, 1) := by decide +kernel
theorem dX7_times_78 : decode cX7_times 78 = .ok (.getfield 30, 3) := by decide +kernel
theorem dX7_times_81 : decode cX7_times 81 = .ok (.bipush 72, 2) := by decide +kernel
theorem dX7_times_83 : decode cX7_times 83 = .ok (.iload_n 1, 1) := by decide +kernel
theorem dX7_times_84 : decode cX7_times 84 = .ok (.imul, 1) := by decide +kernel
theorem dX7_times_85 : decode cX7_times 85 = .ok (.iload 5, 2) := by decide +kernel
theorem dX7_times_87 : decode cX7_times 87 = .ok (.iadd, 1) := by decide +kernel
theorem dX7_times_88 : decode cX7_times 88 = .ok (.iload 8, 2) := by decide +kernel
theorem dX7_times_90 : decode cX7_times 90 = .ok (.iadd, 1) := by decide +kernel
theorem dX7_times_91 : decode cX7_times 91 = .ok (.laload, 1) := by decide +kernel
theorem dX7_times_92 : decode cX7_times 92 = .ok (.aload_n 0, 1) := by decide +kernel
theorem dX7_times_93 : decode cX7_times 93 = .ok (.getfield 30, 3) := by decide +kernel
theorem dX7_times_96 : decode cX7_times 96 = .ok (.bipush 72, 2) := by decide +kernel
theorem dX7_times_98 : decode cX7_times 98 = .ok (.iload_n 2, 1) := by decide +kernel
theorem dX7_times_99 : decode cX7_times 99 = .ok (.imul, 1) := by decide +kernel
theorem dX7_times_100 : decode cX7_times 100 = .ok (.iload 5, 2) := by decide +kernel
theorem dX7_times_102 : decode cX7_times 102 = .ok (.iadd, 1) := by decide +kernel
theorem dX7_times_103 : decode cX7_times 103 = .ok (.laload, 1) := by decide +kernel
theorem dX7_times_104 : decode cX7_times 104 = .ok (.aload_n 0, 1) := by decide +kernel
theorem dX7_times_105 : decode cX7_times 105 = .ok (.getfield 30, 3) := by decide +kernel
theorem dX7_times_108 : decode cX7_times 108 = .ok (.bipush 72, 2) := by decide +kernel
theorem dX7_times_110 : decode cX7_times 110 = .ok (.iload_n 3, 1) := by decide +kernel
theorem dX7_times_111 : decode cX7_times 111 = .ok (.imul, 1) := by decide +kernel
theorem dX7_times_112 : decode cX7_times 112 = .ok (.iload 8, 2) := by decide +kernel
theorem dX7_times_114 : decode cX7_times 114 = .ok (.iadd, 1) := by decide +kernel
theorem dX7_times_115 : decode cX7_times 115 = .ok (.laload, 1) := by decide +kernel
theorem dX7_times_116 : decode cX7_times 116 = .ok (.lmul, 1) := by decide +kernel
theorem dX7_times_117 : decode cX7_times 117 = .ok (.ladd, 1) := by decide +kernel
theorem dX7_times_118 : decode cX7_times 118 = .ok (.ladd, 1) := by decide +kernel
theorem dX7_times_119 : decode cX7_times 119 = .ok (.lstore 6, 2) := by decide +kernel
theorem dX7_times_121 : decode cX7_times 121 = .ok (.aload_n 0, 1) := by decide +kernel
theorem dX7_times_122 : decode cX7_times 122 = .ok (.getfield 30, 3) := by decide +kernel
theorem dX7_times_125 : decode cX7_times 125 = .ok (.bipush 72, 2) := by decide +kernel
theorem dX7_times_127 : decode cX7_times 127 = .ok (.iload_n 1, 1) := by decide +kernel
theorem dX7_times_128 : decode cX7_times 128 = .ok (.imul, 1) := by decide +kernel
theorem dX7_times_129 : decode cX7_times 129 = .ok (.iload 5, 2) := by decide +kernel
theorem dX7_times_131 : decode cX7_times 131 = .ok (.iadd, 1) := by decide +kernel
theorem dX7_times_132 : decode cX7_times 132 = .ok (.iload 8, 2) := by decide +kernel
theorem dX7_times_134 : decode cX7_times 134 = .ok (.iadd, 1) := by decide +kernel
theorem dX7_times_135 : decode cX7_times 135 = .ok (.lload 6, 2) := by decide +kernel
theorem dX7_times_137 : decode cX7_times 137 = .ok (.ldc2_w 46, 3) := by decide +kernel
theorem dX7_times_140 : decode cX7_times 140 = .ok (.land, 1) := by decide +kernel
theorem dX7_times_141 : decode cX7_times 141 = .ok (.lastore, 1) := by decide +kernel
theorem dX7_times_142 : decode cX7_times 142 = .ok (.lload 6, 2) := by decide +kernel
theorem dX7_times_144 : decode cX7_times 144 = .ok (.bipush 32, 2) := by decide +kernel
theorem dX7_times_146 : decode cX7_times 146 = .ok (.lushr, 1) := by decide +kernel
theorem dX7_times_147 : decode cX7_times 147 = .ok (.lstore 6, 2) := by decide +kernel
theorem dX7_times_149 : decode cX7_times 149 = .ok (.iinc 8 1, 3) := by decide +kernel
theorem dX7_times_152 : decode cX7_times 152 = .ok (.goto (-88), 3) := by decide +kernel
theorem dX7_times_155 : decode cX7_times 155 = .ok (.aload_n 0, 1) := by decide +kernel
theorem dX7_times_156 : decode cX7_times 156 = .ok (.getfield 30, 3) := by decide +kernel
theorem dX7_times_159 : decode cX7_times 159 = .ok (.bipush 72, 2) := by decide +kernel
theorem dX7_times_161 : decode cX7_times 161 = .ok (.iload_n 1, 1) := by decide +kernel
theorem dX7_times_162 : decode cX7_times 162 = .ok (.imul, 1) := by decide +kernel
theorem dX7_times_163 : decode cX7_times 163 = .ok (.iload 5, 2) := by decide +kernel
theorem dX7_times_165 : decode cX7_times 165 = .ok (.iadd, 1) := by decide +kernel
theorem dX7_times_166 : decode cX7_times 166 = .ok (.aload_n 0, 1) := by decide +kernel
theorem dX7_times_167 : decode cX7_times 167 = .ok (.getfield 33, 3) := by decide +kernel
theorem dX7_times_170 : decode cX7_times 170 = .ok (.iload_n 3, 1) := by decide +kernel
theorem dX7_times_171 : decode cX7_times 171 = .ok (.iaload, 1) := by decide +kernel
theorem dX7_times_172 : decode cX7_times 172 = .ok (.iadd, 1) := by decide +kernel
theorem dX7_times_173 : decode cX7_times 173 = .ok (.lload 6, 2) := by decide +kernel
theorem dX7_times_175 : decode cX7_times 175 = .ok (.lastore, 1) := by decide +kernel
theorem dX7_times_176 : decode cX7_times 176 = .ok (.iinc 5 1, 3) := by decide +kernel
theorem dX7_times_179 : decode cX7_times 179 = .ok (.goto (-132), 3) := by decide +kernel
theorem dX7_times_182 : decode cX7_times 182 = .ok (.aload_n 0, 1) := by decide +kernel
theorem dX7_times_183 : decode cX7_times 183 = .ok (.getfield 33, 3) := by decide +kernel
theorem dX7_times_186 : decode cX7_times 186 = .ok (.iload_n 1, 1) := by decide +kernel
theorem dX7_times_187 : decode cX7_times 187 = .ok (.iload 4, 2) := by decide +kernel
theorem dX7_times_189 : decode cX7_times 189 = .ok (.iastore, 1) := by decide +kernel
theorem dX7_times_190 : decode cX7_times 190 = .ok (.aload_n 0, 1) := by decide +kernel
theorem dX7_times_191 : decode cX7_times 191 = .ok (.iload_n 1, 1) := by decide +kernel
theorem dX7_times_192 : decode cX7_times 192 = .ok (.invokevirtual 48, 3) := by decide +kernel
theorem dX7_times_195 : decode cX7_times 195 = .ok (.return_, 1) := by decide +kernel
set_option maxRecDepth 20000 in
theorem ggX7_twice_X7_trim : GoodIn wsX7_twice wsX7_trim := goodIn_ca (goodIn_r _ [8, 1, 2, 9, 10, 11, 12, 13, 14, 15, 16, 17, 18, 19, 20, 21, 22] (by decide +kernel) (by decide +kernel)) (goodIn_sub (fun _ h => List.mem_cons_of_mem _ (List.mem_append_right _ h)) (by decide +kernel))
set_option maxRecDepth 20000 in
theorem gX7_twice_X7_trim : GoodIn wsX7_twice (wsV RX7 48 RX7 yX7_trim wsX7_trim) := goodIn_app (goodIn_of _ (by decide +kernel)) ggX7_twice_X7_trim
theorem dX7_twice_0 : decode cX7_twice 0 = .ok (.lload_n 2, 1) := by decide +kernel
theorem dX7_twice_1 : decode cX7_twice 1 = .ok (.lstore 4, 2) := by decide +kernel
theorem dX7_twice_3 : decode cX7_twice 3 = .ok (.iconst 0, 1) := by decide +kernel
theorem dX7_twice_4 : decode cX7_twice 4 = .ok (.istore 6, 2) := by decide +kernel
theorem dX7_twice_6 : decode cX7_twice 6 = .ok (.iload 6, 2) := by decide +kernel
theorem dX7_twice_8 : decode cX7_twice 8 = .ok (.aload_n 0, 1) := by decide +kernel
theorem dX7_twice_9 : decode cX7_twice 9 = .ok (.getfield 33, 3) := by decide +kernel
theorem dX7_twice_12 : decode cX7_twice 12 = .ok (.iload_n 1, 1) := by decide +kernel
theorem dX7_twice_13 : decode cX7_twice 13 = .ok (.iaload, 1) := by decide +kernel
theorem dX7_twice_14 : decode cX7_twice 14 = .ok (.if_icmp .ge 53, 3) := by decide +kernel
theorem dX7_twice_17 : decode cX7_twice 17 = .ok (.lload 4, 2) := by decide +kernel
theorem dX7_twice_19 : decode cX7_twice 19 = .ok (.aload_n 0, 1) := by decide +kernel
theorem dX7_twice_20 : decode cX7_twice 20 = .ok (.getfield 30, 3) := by decide +kernel
theorem dX7_twice_23 : decode cX7_twice 23 = .ok (.bipush 72, 2) := by decide +kernel
theorem dX7_twice_25 : decode cX7_twice 25 = .ok (.iload_n 1, 1) := by decide +kernel
theorem dX7_twice_26 : decode cX7_twice 26 = .ok (.imul, 1) := by decide +kernel
theorem dX7_twice_27 : decode cX7_twice 27 = .ok (.iload 6, 2) := by decide +kernel
theorem dX7_twice_29 : decode cX7_twice 29 = .ok (.iadd, 1) := by decide +kernel
theorem dX7_twice_30 : decode cX7_twice 30 = .ok (.laload, 1) := by decide +kernel
theorem dX7_twice_31 : decode cX7_twice 31 = .ok (.iconst 1, 1) := by decide +kernel
theorem dX7_twice_32 : decode cX7_twice 32 = .ok (.lshl, 1) := by decide +kernel
theorem dX7_twice_33 : decode cX7_twice 33 = .ok (.lor, 1) := by decide +kernel
theorem dX7_twice_34 : decode cX7_twice 34 = .ok (.lstore 4, 2) := by decide +kernel
theorem dX7_twice_36 : decode cX7_twice 36 = .ok (.aload_n 0, 1) := by decide +kernel
theorem dX7_twice_37 : decode cX7_twice 37 = .ok (.getfield 30, 3) := by decide +kernel
theorem dX7_twice_40 : decode cX7_twice 40 = .ok (.bipush 72, 2) := by decide +kernel
theorem dX7_twice_42 : decode cX7_twice 42 = .ok (.iload_n 1, 1) := by decide +kernel
theorem dX7_twice_43 : decode cX7_twice 43 = .ok (.imul, 1) := by decide +kernel
theorem dX7_twice_44 : decode cX7_twice 44 = .ok (.iload 6, 2) := by decide +kernel
theorem dX7_twice_46 : decode cX7_twice 46 = .ok (.iadd, 1) := by decide +kernel
theorem dX7_twice_47 : decode cX7_twice 47 = .ok (.lload 4, 2) := by decide +kernel
theorem dX7_twice_49 : decode cX7_twice 49 = .ok (.ldc2_w 46, 3) := by decide +kernel
theorem dX7_twice_52 : decode cX7_twice 52 = .ok (.land, 1) := by decide +kernel
theorem dX7_twice_53 : decode cX7_twice 53 = .ok (.lastore, 1) := by decide +kernel
theorem dX7_twice_54 : decode cX7_twice 54 = .ok (.lload 4, 2) := by decide +kernel
theorem dX7_twice_56 : decode cX7_twice 56 = .ok (.bipush 32, 2) := by decide +kernel
theorem dX7_twice_58 : decode cX7_twice 58 = .ok (.lushr, 1) := by decide +kernel
theorem dX7_twice_59 : decode cX7_twice 59 = .ok (.lstore 4, 2) := by decide +kernel
theorem dX7_twice_61 : decode cX7_twice 61 = .ok (.iinc 6 1, 3) := by decide +kernel
theorem dX7_twice_64 : decode cX7_twice 64 = .ok (.goto (-58), 3) := by decide +kernel
theorem dX7_twice_67 : decode cX7_twice 67 = .ok (.aload_n 0, 1) := by decide +kernel
theorem dX7_twice_68 : decode cX7_twice 68 = .ok (.getfield 30, 3) := by decide +kernel
theorem dX7_twice_71 : decode cX7_twice 71 = .ok (.bipush 72, 2) := by decide +kernel
theorem dX7_twice_73 : decode cX7_twice 73 = .ok (.iload_n 1, 1) := by decide +kernel
theorem dX7_twice_74 : decode cX7_twice 74 = .ok (.imul, 1) := by decide +kernel
theorem dX7_twice_75 : decode cX7_twice 75 = .ok (.aload_n 0, 1) := by decide +kernel
theorem dX7_twice_76 : decode cX7_twice 76 = .ok (.getfield 33, 3) := by decide +kernel
theorem dX7_twice_79 : decode cX7_twice 79 = .ok (.iload_n 1, 1) := by decide +kernel
theorem dX7_twice_80 : decode cX7_twice 80 = .ok (.iaload, 1) := by decide +kernel
theorem dX7_twice_81 : decode cX7_twice 81 = .ok (.iadd, 1) := by decide +kernel
theorem dX7_twice_82 : decode cX7_twice 82 = .ok (.lload 4, 2) := by decide +kernel
theorem dX7_twice_84 : decode cX7_twice 84 = .ok (.lastore, 1) := by decide +kernel
theorem dX7_twice_85 : decode cX7_twice 85 = .ok (.aload_n 0, 1) := by decide +kernel
theorem dX7_twice_86 : decode cX7_twice 86 = .ok (.getfield 33, 3) := by decide +kernel
theorem dX7_twice_89 : decode cX7_twice 89 = .ok (.iload_n 1, 1) := by decide +kernel
theorem dX7_twice_90 : decode cX7_twice 90 = .ok (.dup2, 1) := by decide +kernel
theorem dX7_twice_91 : decode cX7_twice 91 = .ok (.iaload, 1) := by decide +kernel
theorem dX7_twice_92 : decode cX7_twice 92 = .ok (.iconst 1, 1) := by decide +kernel
theorem dX7_twice_93 : decode cX7_twice 93 = .ok (.iadd, 1) := by decide +kernel
theorem dX7_twice_94 : decode cX7_twice 94 = .ok (.iastore, 1) := by decide +kernel
theorem dX7_twice_95 : decode cX7_twice 95 = .ok (.aload_n 0, 1) := by decide +kernel
theorem dX7_twice_96 : decode cX7_twice 96 = .ok (.iload_n 1, 1) := by decide +kernel
theorem dX7_twice_97 : decode cX7_twice 97 = .ok (.invokevirtual 48, 3) := by decide +kernel
theorem dX7_twice_100 : decode cX7_twice 100 = .ok (.return_, 1) := by decide +kernel
set_option maxRecDepth 20000 in
theorem ggX7_half_X7_trim : GoodIn wsX7_half wsX7_trim := goodIn_ca (goodIn_r _ [8, 1, 2, 9, 10, 11, 12, 13, 14, 15, 16, 17, 18, 19, 20, 21, 22] (by decide +kernel) (by decide +kernel)) (goodIn_sub (fun _ h => List.mem_cons_of_mem _ (List.mem_append_right _ h)) (by decide +kernel))
set_option maxRecDepth 20000 in
theorem gX7_half_X7_trim : GoodIn wsX7_half (wsV RX7 48 RX7 yX7_trim wsX7_trim) := goodIn_app (goodIn_of _ (by decide +kernel)) ggX7_half_X7_trim
theorem dX7_half_0 : decode cX7_half 0 = .ok (.iconst 0, 1) := by decide +kernel
theorem dX7_half_1 : decode cX7_half 1 = .ok (.istore_n 2, 1) := by decide +kernel
theorem dX7_half_2 : decode cX7_half 2 = .ok (.iload_n 2, 1) := by decide +kernel
theorem dX7_half_3 : decode cX7_half 3 = .ok (.aload_n 0, 1) := by decide +kernel
theorem dX7_half_4 : decode cX7_half 4 = .ok (.getfield 33, 3) := by decide +kernel
theorem dX7_half_7 : decode cX7_half 7 = .ok (.iload_n 1, 1) := by decide +kernel
theorem dX7_half_8 : decode cX7_half 8 = .ok (.iaload, 1) := by decide +kernel
theorem dX7_half_9 : decode cX7_half 9 = .ok (.if_icmp .ge 72, 3) := by decide +kernel
theorem dX7_half_12 : decode cX7_half 12 = .ok (.iload_n 2, 1) := by decide +kernel
theorem dX7_half_13 : decode cX7_half 13 = .ok (.iconst 1, 1) := by decide +kernel
theorem dX7_half_14 : decode cX7_half 14 = .ok (.iadd, 1) := by decide +kernel
theorem dX7_half_15 : decode cX7_half 15 = .ok (.aload_n 0, 1) := by decide +kernel
theorem dX7_half_16 : decode cX7_half 16 = .ok (.getfield 33, 3) := by decide +kernel
theorem dX7_half_19 : decode cX7_half 19 = .ok (.iload_n 1, 1) := by decide +kernel
theorem dX7_half_20 : decode cX7_half 20 = .ok (.iaload, 1) := by decide +kernel
theorem dX7_half_21 : decode cX7_half 21 = .ok (.if_icmp .ge 26, 3) := by decide +kernel
theorem dX7_half_24 : decode cX7_half 24 = .ok (.aload_n 0, 1) := by decide +kernel
theorem dX7_half_25 : decode cX7_half 25 = .ok (.getfield 30, 3) := by decide +kernel
theorem dX7_half_28 : decode cX7_half 28 = .ok (.bipush 72, 2) := by decide +kernel
theorem dX7_half_30 : decode cX7_half 30 = .ok (.iload_n 1, 1) := by decide +kernel
theorem dX7_half_31 : decode cX7_half 31 = .ok (.imul, 1) := by decide +kernel
theorem dX7_half_32 : decode cX7_half 32 = .ok (.iload_n 2, 1) := by decide +kernel
theorem dX7_half_33 : decode cX7_half 33 = .ok (.iadd, 1) := by decide +kernel
theorem dX7_half_34 : decode cX7_half 34 = .ok (.iconst 1, 1) := by decide +kernel
theorem dX7_half_35 : decode cX7_half 35 = .ok (.iadd, 1) := by decide +kernel
theorem dX7_half_36 : decode cX7_half 36 = .ok (.laload, 1) := by decide +kernel
theorem dX7_half_37 : decode cX7_half 37 = .ok (.bipush 31, 2) := by decide +kernel
theorem dX7_half_39 : decode cX7_half 39 = .ok (.lshl, 1) := by decide +kernel
theorem dX7_half_40 : decode cX7_half 40 = .ok (.ldc2_w 46, 3) := by decide +kernel
theorem dX7_half_43 : decode cX7_half 43 = .ok (.land, 1) := by decide +kernel
theorem dX7_half_44 : decode cX7_half 44 = .ok (.goto 4, 3) := by decide +kernel
theorem dX7_half_47 : decode cX7_half 47 = .ok (.lconst 0, 1) := by decide +kernel
theorem dX7_half_48 : decode cX7_half 48 = .ok (.lstore_n 3, 1) := by decide +kernel
theorem dX7_half_49 : decode cX7_half 49 = .ok (.aload_n 0, 1) := by decide +kernel
theorem dX7_half_50 : decode cX7_half 50 = .ok (.getfield 30, 3) := by decide +kernel
theorem dX7_half_53 : decode cX7_half 53 = .ok (.bipush 72, 2) := by decide +kernel
theorem dX7_half_55 : decode cX7_half 55 = .ok (.iload_n 1, 1) := by decide +kernel
theorem dX7_half_56 : decode cX7_half 56 = .ok (.imul, 1) := by decide +kernel
theorem dX7_half_57 : decode cX7_half 57 = .ok (.iload_n 2, 1) := by decide +kernel
theorem dX7_half_58 : decode cX7_half 58 = .ok (.iadd, 1) := by decide +kernel
theorem dX7_half_59 : decode cX7_half 59 = .ok (.aload_n 0, 1) := by decide +kernel
theorem dX7_half_60 : decode cX7_half 60 = .ok (.getfield 30, 3) := by decide +kernel
theorem dX7_half_63 : decode cX7_half 63 = .ok (.bipush 72, 2) := by decide +kernel
theorem dX7_half_65 : decode cX7_half 65 = .ok (.iload_n 1, 1) := by decide +kernel
theorem dX7_half_66 : decode cX7_half 66 = .ok (.imul, 1) := by decide +kernel
theorem dX7_half_67 : decode cX7_half 67 = .ok (.iload_n 2, 1) := by decide +kernel
theorem dX7_half_68 : decode cX7_half 68 = .ok (.iadd, 1) := by decide +kernel
theorem dX7_half_69 : decode cX7_half 69 = .ok (.laload, 1) := by decide +kernel
theorem dX7_half_70 : decode cX7_half 70 = .ok (.iconst 1, 1) := by decide +kernel
theorem dX7_half_71 : decode cX7_half 71 = .ok (.lshr, 1) := by decide +kernel
theorem dX7_half_72 : decode cX7_half 72 = .ok (.lload_n 3, 1) := by decide +kernel
theorem dX7_half_73 : decode cX7_half 73 = .ok (.lor, 1) := by decide +kernel
theorem dX7_half_74 : decode cX7_half 74 = .ok (.lastore, 1) := by decide +kernel
theorem dX7_half_75 : decode cX7_half 75 = .ok (.iinc 2 1, 3) := by decide +kernel
theorem dX7_half_78 : decode cX7_half 78 = .ok (.goto (-76), 3) := by decide +kernel
theorem dX7_half_81 : decode cX7_half 81 = .ok (.aload_n 0, 1) := by decide +kernel
theorem dX7_half_82 : decode cX7_half 82 = .ok (.iload_n 1, 1) := by decide +kernel
theorem dX7_half_83 : decode cX7_half 83 = .ok (.invokevirtual 48, 3) := by decide +kernel
theorem dX7_half_86 : decode cX7_half 86 = .ok (.return_, 1) := by decide +kernel
set_option maxRecDepth 20000 in
theorem ggX7_up_X7_twice : GoodIn wsX7_up wsX7_twice := goodIn_ca (goodIn_r _ [7, 1, 2, 8, 9, 10, 11, 6, 12, 13, 14, 15, 16, 17, 18, 19, 20, 21, 22, 23, 24, 25, 26] (by decide +kernel) (by decide +kernel)) (goodIn_sub (fun _ h => List.mem_cons_of_mem _ (List.mem_append_right _ h)) (by decide +kernel))
set_option maxRecDepth 20000 in
theorem gX7_up_X7_twice : GoodIn wsX7_up (wsV RX7 54 RX7 yX7_twice wsX7_twice) := goodIn_app (goodIn_of _ (by decide +kernel)) ggX7_up_X7_twice
theorem dX7_up_0 : decode cX7_up 0 = .ok (.iload_n 2, 1) := by decide +kernel
theorem dX7_up_1 : decode cX7_up 1 = .ok (.bipush 32, 2) := by decide +kernel
theorem dX7_up_3 : decode cX7_up 3 = .ok (.idiv, 1) := by decide +kernel
theorem dX7_up_4 : decode cX7_up 4 = .ok (.istore_n 3, 1) := by decide +kernel
theorem dX7_up_5 : decode cX7_up 5 = .ok (.aload_n 0, 1) := by decide +kernel
theorem dX7_up_6 : decode cX7_up 6 = .ok (.getfield 33, 3) := by decide +kernel
theorem dX7_up_9 : decode cX7_up 9 = .ok (.iload_n 1, 1) := by decide +kernel
theorem dX7_up_10 : decode cX7_up 10 = .ok (.iaload, 1) := by decide +kernel
theorem dX7_up_11 : decode cX7_up 11 = .ok (.iconst 1, 1) := by decide +kernel
theorem dX7_up_12 : decode cX7_up 12 = .ok (.isub, 1) := by decide +kernel
theorem dX7_up_13 : decode cX7_up 13 = .ok (.istore 4, 2) := by decide +kernel
theorem dX7_up_15 : decode cX7_up 15 = .ok (.iload 4, 2) := by decide +kernel
theorem dX7_up_17 : decode cX7_up 17 = .ok (.ifCond .lt 35, 3) := by decide +kernel
theorem dX7_up_20 : decode cX7_up 20 = .ok (.aload_n 0, 1) := by decide +kernel
theorem dX7_up_21 : decode cX7_up 21 = .ok (.getfield 30, 3) := by decide +kernel
theorem dX7_up_24 : decode cX7_up 24 = .ok (.bipush 72, 2) := by decide +kernel
theorem dX7_up_26 : decode cX7_up 26 = .ok (.iload_n 1, 1) := by decide +kernel
theorem dX7_up_27 : decode cX7_up 27 = .ok (.imul, 1) := by decide +kernel
theorem dX7_up_28 : decode cX7_up 28 = .ok (.iload 4, 2) := by decide +kernel
theorem dX7_up_30 : decode cX7_up 30 = .ok (.iadd, 1) := by decide +kernel
theorem dX7_up_31 : decode cX7_up 31 = .ok (.iload_n 3, 1) := by decide +kernel
theorem dX7_up_32 : decode cX7_up 32 = .ok (.iadd, 1) := by decide +kernel
theorem dX7_up_33 : decode cX7_up 33 = .ok (.aload_n 0, 1) := by decide +kernel
theorem dX7_up_34 : decode cX7_up 34 = .ok (.getfield 30, 3) := by decide +kernel
theorem dX7_up_37 : decode cX7_up 37 = .ok (.bipush 72, 2) := by decide +kernel
theorem dX7_up_39 : decode cX7_up 39 = .ok (.iload_n 1, 1) := by decide +kernel
theorem dX7_up_40 : decode cX7_up 40 = .ok (.imul, 1) := by decide +kernel
theorem dX7_up_41 : decode cX7_up 41 = .ok (.iload 4, 2) := by decide +kernel
theorem dX7_up_43 : decode cX7_up 43 = .ok (.iadd, 1) := by decide +kernel
theorem dX7_up_44 : decode cX7_up 44 = .ok (.laload, 1) := by decide +kernel
theorem dX7_up_45 : decode cX7_up 45 = .ok (.lastore, 1) := by decide +kernel
theorem dX7_up_46 : decode cX7_up 46 = .ok (.iinc 4 (-1), 3) := by decide +kernel
theorem dX7_up_49 : decode cX7_up 49 = .ok (.goto (-34), 3) := by decide +kernel
theorem dX7_up_52 : decode cX7_up 52 = .ok (.iconst 0, 1) := by decide +kernel
theorem dX7_up_53 : decode cX7_up 53 = .ok (.istore 4, 2) := by decide +kernel
theorem dX7_up_55 : decode cX7_up 55 = .ok (.iload 4, 2) := by decide +kernel
theorem dX7_up_57 : decode cX7_up 57 = .ok (.iload_n 3, 1) := by decide +kernel
theorem dX7_up_58 : decode cX7_up 58 = .ok (.if_icmp .ge 31, 3) := by decide +kernel
theorem dX7_up_61 : decode cX7_up 61 = .ok (.aload_n 0, 1) := by decide +kernel
theorem dX7_up_62 : decode cX7_up 62 = .ok (.getfield 33, 3) := by decide +kernel
theorem dX7_up_65 : decode cX7_up 65 = .ok (.iload_n 1, 1) := by decide +kernel
theorem dX7_up_66 : decode cX7_up 66 = .ok (.iaload, 1) := by decide +kernel
theorem dX7_up_67 : decode cX7_up 67 = .ok (.ifCond .le 22, 3) := by decide +kernel
theorem dX7_up_70 : decode cX7_up 70 = .ok (.aload_n 0, 1) := by decide +kernel
theorem dX7_up_71 : decode cX7_up 71 = .ok (.getfield 30, 3) := by decide +kernel
theorem dX7_up_74 : decode cX7_up 74 = .ok (.bipush 72, 2) := by decide +kernel
theorem dX7_up_76 : decode cX7_up 76 = .ok (.iload_n 1, 1) := by decide +kernel
theorem dX7_up_77 : decode cX7_up 77 = .ok (.imul, 1) := by decide +kernel
theorem dX7_up_78 : decode cX7_up 78 = .ok (.iload 4, 2) := by decide +kernel
theorem dX7_up_80 : decode cX7_up 80 = .ok (.iadd, 1) := by decide +kernel
theorem dX7_up_81 : decode cX7_up 81 = .ok (.lconst 0, 1) := by decide +kernel
theorem dX7_up_82 : decode cX7_up 82 = .ok (.lastore, 1) := by decide +kernel
theorem dX7_up_83 : decode cX7_up 83 = .ok (.iinc 4 1, 3) := by decide +kernel
theorem dX7_up_86 : decode cX7_up 86 = .ok (.goto (-31), 3) := by decide +kernel
theorem dX7_up_89 : decode cX7_up 89 = .ok (.aload_n 0, 1) := by decide +kernel
theorem dX7_up_90 : decode cX7_up 90 = .ok (.getfield 33, 3) := by decide +kernel
theorem dX7_up_93 : decode cX7_up 93 = .ok (.iload_n 1, 1) := by decide +kernel
theorem dX7_up_94 : decode cX7_up 94 = .ok (.dup2, 1) := by decide +kernel
theorem dX7_up_95 : decode cX7_up 95 = .ok (.iaload, 1) := by decide +kernel
theorem dX7_up_96 : decode cX7_up 96 = .ok (.aload_n 0, 1) := by decide +kernel
theorem dX7_up_97 : decode cX7_up 97 = .ok (.getfield 33, 3) := by decide +kernel
theorem dX7_up_100 : decode cX7_up 100 = .ok (.iload_n 1, 1) := by decide +kernel
theorem dX7_up_101 : decode cX7_up 101 = .ok (.iaload, 1) := by decide +kernel
theorem dX7_up_102 : decode cX7_up 102 = .ok (.ifCond .le 7, 3) := by decide +kernel
theorem dX7_up_105 : decode cX7_up 105 = .ok (.iload_n 3, 1) := by decide +kernel
theorem dX7_up_106 : decode cX7_up 106 = .ok (.goto 4, 3) := by decide +kernel
theorem dX7_up_109 : decode cX7_up 109 = .ok (.iconst 0, 1) := by decide +kernel
theorem dX7_up_110 : decode cX7_up 110 = .ok (.iadd, 1) := by decide +kernel
theorem dX7_up_111 : decode cX7_up 111 = .ok (.iastore, 1) := by decide +kernel
theorem dX7_up_112 : decode cX7_up 112 = .ok (.iconst 0, 1) := by decide +kernel
theorem dX7_up_113 : decode cX7_up 113 = .ok (.istore 4, 2) := by decide +kernel
theorem dX7_up_115 : decode cX7_up 115 = .ok (.iload 4, 2) := by decide +kernel
theorem dX7_up_117 : decode cX7_up 117 = .ok (.iload_n 2, 1) := by decide +kernel
theorem dX7_up_118 : decode cX7_up 118 = .ok (.bipush 32, 2) := by decide +kernel
theorem dX7_up_120 : decode cX7_up 120 = .ok (.irem, 1) := by decide +kernel
theorem dX7_up_121 : decode cX7_up 121 = .ok (.if_icmp .ge 15, 3) := by decide +kernel
theorem dX7_up_124 : decode cX7_up 124 = .ok (.aload_n 0, 1) := by decide +kernel
theorem dX7_up_125 : decode cX7_up 125 = .ok (.iload_n 1, 1) := by decide +kernel
theorem dX7_up_126 : decode cX7_up 126 = .ok (.lconst 0, 1) := by decide +kernel
theorem dX7_up_127 : decode cX7_up 127 = .ok (.invokevirtual 54, 3) := by decide +kernel
theorem dX7_up_130 : decode cX7_up 130 = .ok (.iinc 4 1, 3) := by decide +kernel
theorem dX7_up_133 : decode cX7_up 133 = .ok (.goto (-18), 3) := by decide +kernel
theorem dX7_up_136 : decode cX7_up 136 = .ok (.return_, 1) := by decide +kernel
set_option maxRecDepth 20000 in
theorem ggX7_divide_X7_twice : GoodIn wsX7_divide wsX7_twice := goodIn_ca (goodIn_r _ [7, 1, 2, 8, 9, 10, 11, 6, 12, 21, 22, 23, 24, 25, 26, 27, 28, 29, 30, 31, 32, 33, 34] (by decide +kernel) (by decide +kernel)) (goodIn_sub (fun _ h => List.mem_cons_of_mem _ (List.mem_append_right _ h)) (by decide +kernel))
set_option maxRecDepth 20000 in
theorem gX7_divide_X7_twice : GoodIn wsX7_divide (wsV RX7 54 RX7 yX7_twice wsX7_twice) := goodIn_app (goodIn_of _ (by decide +kernel)) ggX7_divide_X7_twice
set_option maxRecDepth 20000 in
theorem ggX7_divide_X7_compared : GoodIn wsX7_divide wsX7_compared := goodIn_ca (goodIn_r _ [16, 1, 2, 21, 22, 23, 24, 25, 26, 27, 28, 29, 30, 31, 32, 33, 34] (by decide +kernel) (by decide +kernel)) (goodIn_sub (fun _ h => List.mem_cons_of_mem _ (List.mem_append_right _ h)) (by decide +kernel))
set_option maxRecDepth 20000 in
theorem gX7_divide_X7_compared : GoodIn wsX7_divide (wsV RX7 58 RX7 yX7_compared wsX7_compared) := goodIn_app (goodIn_of _ (by decide +kernel)) ggX7_divide_X7_compared
set_option maxRecDepth 20000 in
theorem ggX7_divide_X7_less : GoodIn wsX7_divide wsX7_less := goodIn_ca (goodIn_r _ [20, 1, 2, 8, 9, 10, 11, 6, 12, 21, 22, 23, 24, 25, 26, 27, 28, 29, 30, 31, 32, 33, 34] (by decide +kernel) (by decide +kernel)) (goodIn_sub (fun _ h => List.mem_cons_of_mem _ (List.mem_append_right _ h)) (by decide +kernel))
set_option maxRecDepth 20000 in
theorem gX7_divide_X7_less : GoodIn wsX7_divide (wsV RX7 62 RX7 yX7_less wsX7_less) := goodIn_app (goodIn_of _ (by decide +kernel)) ggX7_divide_X7_less
set_option maxRecDepth 20000 in
theorem ggX7_divide_X7_trim : GoodIn wsX7_divide wsX7_trim := goodIn_ca (goodIn_r _ [12, 1, 2, 21, 22, 23, 24, 25, 26, 27, 28, 29, 30, 31, 32, 33, 34] (by decide +kernel) (by decide +kernel)) (goodIn_sub (fun _ h => List.mem_cons_of_mem _ (List.mem_append_right _ h)) (by decide +kernel))
set_option maxRecDepth 20000 in
theorem gX7_divide_X7_trim : GoodIn wsX7_divide (wsV RX7 48 RX7 yX7_trim wsX7_trim) := goodIn_app (goodIn_of _ (by decide +kernel)) ggX7_divide_X7_trim
theorem dX7_divide_0 : decode cX7_divide 0 = .ok (.aload_n 0, 1) := by decide +kernel
theorem dX7_divide_1 : decode cX7_divide 1 = .ok (.getfield 33, 3) := by decide +kernel
theorem dX7_divide_4 : decode cX7_divide 4 = .ok (.iload_n 2, 1) := by decide +kernel
theorem dX7_divide_5 : decode cX7_divide 5 = .ok (.iconst 0, 1) := by decide +kernel
theorem dX7_divide_6 : decode cX7_divide 6 = .ok (.iastore, 1) := by decide +kernel
theorem dX7_divide_7 : decode cX7_divide 7 = .ok (.aload_n 0, 1) := by decide +kernel
theorem dX7_divide_8 : decode cX7_divide 8 = .ok (.getfield 33, 3) := by decide +kernel
theorem dX7_divide_11 : decode cX7_divide 11 = .ok (.iload_n 1, 1) := by decide +kernel
theorem dX7_divide_12 : decode cX7_divide 12 = .ok (.aload_n 0, 1) := by decide +kernel
theorem dX7_divide_13 : decode cX7_divide 13 = .ok (.getfield 33, 3) := by decide +kernel
theorem dX7_divide_16 : decode cX7_divide 16 = .ok (.iload_n 3, 1) := by decide +kernel
theorem dX7_divide_17 : decode cX7_divide 17 = .ok (.iaload, 1) := by decide +kernel
theorem dX7_divide_18 : decode cX7_divide 18 = .ok (.iastore, 1) := by decide +kernel
theorem dX7_divide_19 : decode cX7_divide 19 = .ok (.iconst 0, 1) := by decide +kernel
theorem dX7_divide_20 : decode cX7_divide 20 = .ok (.istore 5, 2) := by decide +kernel
theorem dX7_divide_22 : decode cX7_divide 22 = .ok (.iload 5, 2) := by decide +kernel
theorem dX7_divide_24 : decode cX7_divide 24 = .ok (.aload_n 0, 1) := by decide +kernel
theorem dX7_divide_25 : decode cX7_divide 25 = .ok (.getfield 33, 3) := by decide +kernel
theorem dX7_divide_28 : decode cX7_divide 28 = .ok (.iload_n 1, 1) := by decide +kernel
theorem dX7_divide_29 : decode cX7_divide 29 = .ok (.iaload, 1) := by decide +kernel
theorem dX7_divide_30 : decode cX7_divide 30 = .ok (.if_icmp .ge 22, 3) := by decide +kernel
theorem dX7_divide_33 : decode cX7_divide 33 = .ok (.aload_n 0, 1) := by decide +kernel
theorem dX7_divide_34 : decode cX7_divide 34 = .ok (.getfield 30, 3) := by decide +kernel
theorem dX7_divide_37 : decode cX7_divide 37 = .ok (.bipush 72, 2) := by decide +kernel
theorem dX7_divide_39 : decode cX7_divide 39 = .ok (.iload_n 1, 1) := by decide +kernel
theorem dX7_divide_40 : decode cX7_divide 40 = .ok (.imul, 1) := by decide +kernel
theorem dX7_divide_41 : decode cX7_divide 41 = .ok (.iload 5, 2) := by decide +kernel
theorem dX7_divide_43 : decode cX7_divide 43 = .ok (.iadd, 1) := by decide +kernel
theorem dX7_divide_44 : decode cX7_divide 44 = .ok (.lconst 0, 1) := by decide +kernel
theorem dX7_divide_45 : decode cX7_divide 45 = .ok (.lastore, 1) := by decide +kernel
theorem dX7_divide_46 : decode cX7_divide 46 = .ok (.iinc 5 1, 3) := by decide +kernel
theorem dX7_divide_49 : decode cX7_divide 49 = .ok (.goto (-27), 3) := by decide +kernel
theorem dX7_divide_52 : decode cX7_divide 52 = .ok (.bipush 32, 2) := by decide +kernel
theorem dX7_divide_54 : decode cX7_divide 54 = .ok (.aload_n 0, 1) := by decide +kernel
theorem dX7_divide_55 : decode cX7_divide 55 = .ok (.getfield 33, 3) := by decide +kernel
theorem dX7_divide_58 : decode cX7_divide 58 = .ok (.iload_n 3, 1) := by decide +kernel
theorem dX7_divide_59 : decode cX7_divide 59 = .ok (.iaload, 1) := by decide +kernel
theorem dX7_divide_60 : decode cX7_divide 60 = .ok (.imul, 1) := by decide +kernel
theorem dX7_divide_61 : decode cX7_divide 61 = .ok (.iconst 1, 1) := by decide +kernel
theorem dX7_divide_62 : decode cX7_divide 62 = .ok (.isub, 1) := by decide +kernel
theorem dX7_divide_63 : decode cX7_divide 63 = .ok (.istore 5, 2) := by decide +kernel
theorem dX7_divide_65 : decode cX7_divide 65 = .ok (.iload 5, 2) := by decide +kernel
theorem dX7_divide_67 : decode cX7_divide 67 = .ok (.ifCond .lt 79, 3) := by decide +kernel
theorem dX7_divide_70 : decode cX7_divide 70 = .ok (.aload_n 0, 1) := by decide +kernel
theorem dX7_divide_71 : decode cX7_divide 71 = .ok (.iload_n 2, 1) := by decide +kernel
theorem dX7_divide_72 : decode cX7_divide 72 = .ok (.aload_n 0, 1) := by decide +kernel
theorem dX7_divide_73 : decode cX7_divide 73 = .ok (.getfield 30, 3) := by decide +kernel
theorem dX7_divide_76 : decode cX7_divide 76 = .ok (.bipush 72, 2) := by decide +kernel
theorem dX7_divide_78 : decode cX7_divide 78 = .ok (.iload_n 3, 1) := by decide +kernel
theorem dX7_divide_79 : decode cX7_divide 79 = .ok (.imul, 1) := by decide +kernel
theorem dX7_divide_80 : decode cX7_divide 80 = .ok (.iload 5, 2) := by decide +kernel
theorem dX7_divide_82 : decode cX7_divide 82 = .ok (.bipush 32, 2) := by decide +kernel
theorem dX7_divide_84 : decode cX7_divide 84 = .ok (.idiv, 1) := by decide +kernel
theorem dX7_divide_85 : decode cX7_divide 85 = .ok (.iadd, 1) := by decide +kernel
theorem dX7_divide_86 : decode cX7_divide 86 = .ok (.laload, 1) := by decide +kernel
theorem dX7_divide_87 : decode cX7_divide 87 = .ok (.iload 5, 2) := by decide +kernel
theorem dX7_divide_89 : decode cX7_divide 89 = .ok (.bipush 32, 2) := by decide +kernel
theorem dX7_divide_91 : decode cX7_divide 91 = .ok (.irem, 1) := by decide +kernel
theorem dX7_divide_92 : decode cX7_divide 92 = .ok (.lshr, 1) := by decide +kernel
theorem dX7_divide_93 : decode cX7_divide 93 = .ok (.lconst 1, 1) := by decide +kernel
theorem dX7_divide_94 : decode cX7_divide 94 = .ok (.land, 1) := by decide +kernel
theorem dX7_divide_95 : decode cX7_divide 95 = .ok (.invokevirtual 54, 3) := by decide +kernel
theorem dX7_divide_98 : decode cX7_divide 98 = .ok (.aload_n 0, 1) := by decide +kernel
theorem dX7_divide_99 : decode cX7_divide 99 = .ok (.iload_n 2, 1) := by decide +kernel
theorem dX7_divide_100 : decode cX7_divide 100 = .ok (.iload 4, 2) := by decide +kernel
theorem dX7_divide_102 : decode cX7_divide 102 = .ok (.invokevirtual 58, 3) := by decide +kernel
theorem dX7_divide_105 : decode cX7_divide 105 = .ok (.ifCond .lt 35, 3) := by decide +kernel
theorem dX7_divide_108 : decode cX7_divide 108 = .ok (.aload_n 0, 1) := by decide +kernel
theorem dX7_divide_109 : decode cX7_divide 109 = .ok (.iload_n 2, 1) := by decide +kernel
theorem dX7_divide_110 : decode cX7_divide 110 = .ok (.iload 4, 2) := by decide +kernel
theorem dX7_divide_112 : decode cX7_divide 112 = .ok (.invokevirtual 62, 3) := by decide +kernel
theorem dX7_divide_115 : decode cX7_divide 115 = .ok (.aload_n 0, 1) := by decide +kernel
theorem dX7_divide_116 : decode cX7_divide 116 = .ok (.getfield 30, 3) := by decide +kernel
theorem dX7_divide_119 : decode cX7_divide 119 = .ok (.bipush 72, 2) := by decide +kernel
theorem dX7_divide_121 : decode cX7_divide 121 = .ok (.iload_n 1, 1) := by decide +kernel
theorem dX7_divide_122 : decode cX7_divide 122 = .ok (.imul, 1) := by decide +kernel
theorem dX7_divide_123 : decode cX7_divide 123 = .ok (.iload 5, 2) := by decide +kernel
theorem dX7_divide_125 : decode cX7_divide 125 = .ok (.bipush 32, 2) := by decide +kernel
theorem dX7_divide_127 : decode cX7_divide 127 = .ok (.idiv, 1) := by decide +kernel
theorem dX7_divide_128 : decode cX7_divide 128 = .ok (.iadd, 1) := by decide +kernel
theorem dX7_divide_129 : decode cX7_divide 129 = .ok (.dup2, 1) := by decide +kernel
theorem dX7_divide_130 : decode cX7_divide 130 = .ok (.laload, 1) := by decide +kernel
theorem dX7_divide_131 : decode cX7_divide 131 = .ok (.lconst 1, 1) := by decide +kernel
theorem dX7_divide_132 : decode cX7_divide 132 = .ok (.iload 5, 2) := by decide +kernel
theorem dX7_divide_134 : decode cX7_divide 134 = .ok (.bipush 32, 2) := by decide +kernel
theorem dX7_divide_136 : decode cX7_divide 136 = .ok (.irem, 1) := by decide +kernel
theorem dX7_divide_137 : decode cX7_divide 137 = .ok (.lshl, 1) := by decide +kernel
theorem dX7_divide_138 : decode cX7_divide 138 = .ok (.lor, 1) := by decide +kernel
theorem dX7_divide_139 : decode cX7_divide 139 = .ok (.lastore, 1) := by decide +kernel
theorem dX7_divide_140 : decode cX7_divide 140 = .ok (.iinc 5 (-1), 3) := by decide +kernel
theorem dX7_divide_143 : decode cX7_divide 143 = .ok (.goto (-78), 3) := by decide +kernel
theorem dX7_divide_146 : decode cX7_divide 146 = .ok (.aload_n 0, 1) := by decide +kernel
theorem dX7_divide_147 : decode cX7_divide 147 = .ok (.iload_n 1, 1) := by decide +kernel
theorem dX7_divide_148 : decode cX7_divide 148 = .ok (.invokevirtual 48, 3) := by decide +kernel
theorem dX7_divide_151 : decode cX7_divide 151 = .ok (.return_, 1) := by decide +kernel
theorem dX7_isOdd_0 : decode cX7_isOdd 0 = .ok (.aload_n 0, 1) := by decide +kernel
theorem dX7_isOdd_1 : decode cX7_isOdd 1 = .ok (.getfield 33, 3) := by decide +kernel
theorem dX7_isOdd_4 : decode cX7_isOdd 4 = .ok (.iload_n 1, 1) := by decide +kernel
theorem dX7_isOdd_5 : decode cX7_isOdd 5 = .ok (.iaload, 1) := by decide +kernel
theorem dX7_isOdd_6 : decode cX7_isOdd 6 = .ok (.ifCond .le 23, 3) := by decide +kernel
theorem dX7_isOdd_9 : decode cX7_isOdd 9 = .ok (.aload_n 0, 1) := by decide +kernel
theorem dX7_isOdd_10 : decode cX7_isOdd 10 = .ok (.getfield 30, 3) := by decide +kernel
theorem dX7_isOdd_13 : decode cX7_isOdd 13 = .ok (.bipush 72, 2) := by decide +kernel
theorem dX7_isOdd_15 : decode cX7_isOdd 15 = .ok (.iload_n 1, 1) := by decide +kernel
theorem dX7_isOdd_16 : decode cX7_isOdd 16 = .ok (.imul, 1) := by decide +kernel
theorem dX7_isOdd_17 : decode cX7_isOdd 17 = .ok (.laload, 1) := by decide +kernel
theorem dX7_isOdd_18 : decode cX7_isOdd 18 = .ok (.lconst 1, 1) := by decide +kernel
theorem dX7_isOdd_19 : decode cX7_isOdd 19 = .ok (.land, 1) := by decide +kernel
theorem dX7_isOdd_20 : decode cX7_isOdd 20 = .ok (.lconst 1, 1) := by decide +kernel
theorem dX7_isOdd_21 : decode cX7_isOdd 21 = .ok (.lcmp, 1) := by decide +kernel
theorem dX7_isOdd_22 : decode cX7_isOdd 22 = .ok (.ifCond .ne 7, 3) := by decide +kernel
theorem dX7_isOdd_25 : decode cX7_isOdd 25 = .ok (.iconst 1, 1) := by decide +kernel
theorem dX7_isOdd_26 : decode cX7_isOdd 26 = .ok (.goto 4, 3) := by decide +kernel
theorem dX7_isOdd_29 : decode cX7_isOdd 29 = .ok (.iconst 0, 1) := by decide +kernel
theorem dX7_isOdd_30 : decode cX7_isOdd 30 = .ok (.ireturn, 1) := by decide +kernel
set_option maxRecDepth 20000 in
theorem ggX7_divisor_X7_copy : GoodIn wsX7_divisor wsX7_copy := goodIn_ca (goodIn_r _ [6, 1, 7, 37, 38, 39, 40, 41, 42, 43, 44, 45, 46, 47, 48, 49, 50] (by decide +kernel) (by decide +kernel)) (goodIn_sub (fun _ h => List.mem_cons_of_mem _ (List.mem_append_right _ h)) (by decide +kernel))
set_option maxRecDepth 20000 in
theorem gX7_divisor_X7_copy : GoodIn wsX7_divisor (wsV RX7 66 RX7 yX7_copy wsX7_copy) := goodIn_app (goodIn_of _ (by decide +kernel)) ggX7_divisor_X7_copy
set_option maxRecDepth 20000 in
theorem ggX7_divisor_X7_isOdd : GoodIn wsX7_divisor wsX7_isOdd := goodIn_ca (goodIn_r _ [11, 1, 7, 37, 38, 39, 40, 41, 42, 43, 44, 45, 46, 47, 48, 49, 50] (by decide +kernel) (by decide +kernel)) (goodIn_sub (fun _ h => List.mem_cons_of_mem _ (List.mem_append_right _ h)) (by decide +kernel))
set_option maxRecDepth 20000 in
theorem gX7_divisor_X7_isOdd : GoodIn wsX7_divisor (wsV RX7 69 RX7 yX7_isOdd wsX7_isOdd) := goodIn_app (goodIn_of _ (by decide +kernel)) ggX7_divisor_X7_isOdd
set_option maxRecDepth 20000 in
theorem ggX7_divisor_X7_half : GoodIn wsX7_divisor wsX7_half := goodIn_ca (goodIn_r _ [15, 1, 7, 16, 17, 18, 19, 5, 20, 37, 38, 39, 40, 41, 42, 43, 44, 45, 46, 47, 48, 49, 50] (by decide +kernel) (by decide +kernel)) (goodIn_sub (fun _ h => List.mem_cons_of_mem _ (List.mem_append_right _ h)) (by decide +kernel))
set_option maxRecDepth 20000 in
theorem gX7_divisor_X7_half : GoodIn wsX7_divisor (wsV RX7 73 RX7 yX7_half wsX7_half) := goodIn_app (goodIn_of _ (by decide +kernel)) ggX7_divisor_X7_half
set_option maxRecDepth 20000 in
theorem ggX7_divisor_X7_compared : GoodIn wsX7_divisor wsX7_compared := goodIn_ca (goodIn_r _ [24, 1, 7, 37, 38, 39, 40, 41, 42, 43, 44, 45, 46, 47, 48, 49, 50] (by decide +kernel) (by decide +kernel)) (goodIn_sub (fun _ h => List.mem_cons_of_mem _ (List.mem_append_right _ h)) (by decide +kernel))
set_option maxRecDepth 20000 in
theorem gX7_divisor_X7_compared : GoodIn wsX7_divisor (wsV RX7 58 RX7 yX7_compared wsX7_compared) := goodIn_app (goodIn_of _ (by decide +kernel)) ggX7_divisor_X7_compared
set_option maxRecDepth 20000 in
theorem ggX7_divisor_X7_less : GoodIn wsX7_divisor wsX7_less := goodIn_ca (goodIn_r _ [28, 1, 7, 16, 17, 18, 19, 5, 20, 37, 38, 39, 40, 41, 42, 43, 44, 45, 46, 47, 48, 49, 50] (by decide +kernel) (by decide +kernel)) (goodIn_sub (fun _ h => List.mem_cons_of_mem _ (List.mem_append_right _ h)) (by decide +kernel))
set_option maxRecDepth 20000 in
theorem gX7_divisor_X7_less : GoodIn wsX7_divisor (wsV RX7 62 RX7 yX7_less wsX7_less) := goodIn_app (goodIn_of _ (by decide +kernel)) ggX7_divisor_X7_less
set_option maxRecDepth 20000 in
theorem ggX7_divisor_X7_up : GoodIn wsX7_divisor wsX7_up := goodIn_ca (goodIn_r _ [32, 1, 7, 33, 34, 35, 5, 36, 16, 17, 18, 19, 20, 37, 38, 39, 40, 41, 42, 43, 44, 45, 46, 47, 48, 49, 50] (by decide +kernel) (by decide +kernel)) (goodIn_sub (fun _ h => List.mem_cons_of_mem _ (List.mem_append_right _ h)) (by decide +kernel))
set_option maxRecDepth 20000 in
theorem gX7_divisor_X7_up : GoodIn wsX7_divisor (wsV RX7 76 RX7 yX7_up wsX7_up) := goodIn_app (goodIn_of _ (by decide +kernel)) ggX7_divisor_X7_up
theorem dX7_divisor_0 : decode cX7_divisor 0 = .ok (.aload_n 0, 1) := by decide +kernel
theorem dX7_divisor_1 : decode cX7_divisor 1 = .ok (.getfield 33, 3) := by decide +kernel
theorem dX7_divisor_4 : decode cX7_divisor 4 = .ok (.iload_n 1, 1) := by decide +kernel
theorem dX7_divisor_5 : decode cX7_divisor 5 = .ok (.iaload, 1) := by decide +kernel
theorem dX7_divisor_6 : decode cX7_divisor 6 = .ok (.ifCond .eq 12, 3) := by decide +kernel
theorem dX7_divisor_9 : decode cX7_divisor 9 = .ok (.aload_n 0, 1) := by decide +kernel
theorem dX7_divisor_10 : decode cX7_divisor 10 = .ok (.getfield 33, 3) := by decide +kernel
theorem dX7_divisor_13 : decode cX7_divisor 13 = .ok (.iload_n 2, 1) := by decide +kernel
theorem dX7_divisor_14 : decode cX7_divisor 14 = .ok (.iaload, 1) := by decide +kernel
theorem dX7_divisor_15 : decode cX7_divisor 15 = .ok (.ifCond .ne 23, 3) := by decide +kernel
theorem dX7_divisor_18 : decode cX7_divisor 18 = .ok (.aload_n 0, 1) := by decide +kernel
theorem dX7_divisor_19 : decode cX7_divisor 19 = .ok (.iload_n 1, 1) := by decide +kernel
theorem dX7_divisor_20 : decode cX7_divisor 20 = .ok (.aload_n 0, 1) := by decide +kernel
theorem dX7_divisor_21 : decode cX7_divisor 21 = .ok (.getfield 33, 3) := by decide +kernel
theorem dX7_divisor_24 : decode cX7_divisor 24 = .ok (.iload_n 1, 1) := by decide +kernel
theorem dX7_divisor_25 : decode cX7_divisor 25 = .ok (.iaload, 1) := by decide +kernel
theorem dX7_divisor_26 : decode cX7_divisor 26 = .ok (.ifCond .ne 7, 3) := by decide +kernel
theorem dX7_divisor_29 : decode cX7_divisor 29 = .ok (.iload_n 2, 1) := by decide +kernel
theorem dX7_divisor_30 : decode cX7_divisor 30 = .ok (.goto 4, 3) := by decide +kernel
theorem dX7_divisor_33 : decode cX7_divisor 33 = .ok (.iload_n 1, 1) := by decide +kernel
theorem dX7_divisor_34 : decode cX7_divisor 34 = .ok (.invokevirtual 66, 3) := by decide +kernel
theorem dX7_divisor_37 : decode cX7_divisor 37 = .ok (.return_, 1) := by decide +kernel
theorem dX7_divisor_38 : decode cX7_divisor 38 = .ok (.iconst 0, 1) := by decide +kernel
theorem dX7_divisor_39 : decode cX7_divisor 39 = .ok (.istore_n 3, 1) := by decide +kernel
theorem dX7_divisor_40 : decode cX7_divisor 40 = .ok (.aload_n 0, 1) := by decide +kernel
theorem dX7_divisor_41 : decode cX7_divisor 41 = .ok (.iload_n 1, 1) := by decide +kernel
theorem dX7_divisor_42 : decode cX7_divisor 42 = .ok (.invokevirtual 69, 3) := by decide +kernel
theorem dX7_divisor_45 : decode cX7_divisor 45 = .ok (.ifCond .ne 27, 3) := by decide +kernel
theorem dX7_divisor_48 : decode cX7_divisor 48 = .ok (.aload_n 0, 1) := by decide +kernel
theorem dX7_divisor_49 : decode cX7_divisor 49 = .ok (.iload_n 2, 1) := by decide +kernel
theorem dX7_divisor_50 : decode cX7_divisor 50 = .ok (.invokevirtual 69, 3) := by decide +kernel
theorem dX7_divisor_53 : decode cX7_divisor 53 = .ok (.ifCond .ne 19, 3) := by decide +kernel
theorem dX7_divisor_56 : decode cX7_divisor 56 = .ok (.aload_n 0, 1) := by decide +kernel
theorem dX7_divisor_57 : decode cX7_divisor 57 = .ok (.iload_n 1, 1) := by decide +kernel
theorem dX7_divisor_58 : decode cX7_divisor 58 = .ok (.invokevirtual 73, 3) := by decide +kernel
theorem dX7_divisor_61 : decode cX7_divisor 61 = .ok (.aload_n 0, 1) := by decide +kernel
theorem dX7_divisor_62 : decode cX7_divisor 62 = .ok (.iload_n 2, 1) := by decide +kernel
theorem dX7_divisor_63 : decode cX7_divisor 63 = .ok (.invokevirtual 73, 3) := by decide +kernel
theorem dX7_divisor_66 : decode cX7_divisor 66 = .ok (.iinc 3 1, 3) := by decide +kernel
theorem dX7_divisor_69 : decode cX7_divisor 69 = .ok (.goto (-29), 3) := by decide +kernel
theorem dX7_divisor_72 : decode cX7_divisor 72 = .ok (.aload_n 0, 1) := by decide +kernel
theorem dX7_divisor_73 : decode cX7_divisor 73 = .ok (.getfield 33, 3) := by decide +kernel
theorem dX7_divisor_76 : decode cX7_divisor 76 = .ok (.iload_n 2, 1) := by decide +kernel
theorem dX7_divisor_77 : decode cX7_divisor 77 = .ok (.iaload, 1) := by decide +kernel
theorem dX7_divisor_78 : decode cX7_divisor 78 = .ok (.ifCond .le 73, 3) := by decide +kernel
theorem dX7_divisor_81 : decode cX7_divisor 81 = .ok (.aload_n 0, 1) := by decide +kernel
theorem dX7_divisor_82 : decode cX7_divisor 82 = .ok (.iload_n 1, 1) := by decide +kernel
theorem dX7_divisor_83 : decode cX7_divisor 83 = .ok (.invokevirtual 69, 3) := by decide +kernel
theorem dX7_divisor_86 : decode cX7_divisor 86 = .ok (.ifCond .ne 11, 3) := by decide +kernel
theorem dX7_divisor_89 : decode cX7_divisor 89 = .ok (.aload_n 0, 1) := by decide +kernel
theorem dX7_divisor_90 : decode cX7_divisor 90 = .ok (.iload_n 1, 1) := by decide +kernel
theorem dX7_divisor_91 : decode cX7_divisor 91 = .ok (.invokevirtual 73, 3) := by decide +kernel
theorem dX7_divisor_94 : decode cX7_divisor 94 = .ok (.goto (-13), 3) := by decide +kernel
theorem dX7_divisor_97 : decode cX7_divisor 97 = .ok (.aload_n 0, 1) := by decide +kernel
theorem dX7_divisor_98 : decode cX7_divisor 98 = .ok (.iload_n 2, 1) := by decide +kernel
theorem dX7_divisor_99 : decode cX7_divisor 99 = .ok (.invokevirtual 69, 3) := by decide +kernel
