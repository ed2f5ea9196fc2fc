set_option maxRecDepth 20000 in
theorem ggX5_bits_X5_limbAt : GoodIn wsX5_bits wsX5_limbAt := goodIn_ca (goodIn_r _ [6, 1, 7, 8, 14, 15] (by decide +kernel) (by decide +kernel)) (goodIn_sub (fun _ h => List.mem_cons_of_mem _ (List.mem_append_right _ h)) (by decide +kernel))
set_option maxRecDepth 20000 in
theorem gX5_bits_X5_limbAt : GoodIn wsX5_bits (wsV RX5 44 RX5 yX5_limbAt wsX5_limbAt) := goodIn_app (goodIn_of _ (by decide +kernel)) ggX5_bits_X5_limbAt
set_option maxRecDepth 20000 in
theorem ggX5_bits_J6_numberOfLeadingZeros_0f7a4 : GoodIn wsX5_bits wsJ6_numberOfLeadingZeros_0f7a4 := goodIn_r _ [12, 13] (by decide +kernel) (by decide +kernel)
set_option maxRecDepth 20000 in
theorem gX5_bits_J6_numberOfLeadingZeros_0f7a4 : GoodIn wsX5_bits (va_wsS RX5 56 yJ6_numberOfLeadingZeros_0f7a4 wsJ6_numberOfLeadingZeros_0f7a4) := goodIn_app (goodIn_of _ (by decide +kernel)) ggX5_bits_J6_numberOfLeadingZeros_0f7a4
theorem dX5_bits_0 : decode cX5_bits 0 = .ok (.aload_n 0, 1) := by decide +kernel
theorem dX5_bits_1 : decode cX5_bits 1 = .ok (.getfield 21, 3) := by decide +kernel
theorem dX5_bits_4 : decode cX5_bits 4 = .ok (.ifCond .ne 7, 3) := by decide +kernel
theorem dX5_bits_7 : decode cX5_bits 7 = .ok (.iconst 0, 1) := by decide +kernel
theorem dX5_bits_8 : decode cX5_bits 8 = .ok (.goto 25, 3) := by decide +kernel
theorem dX5_bits_11 : decode cX5_bits 11 = .ok (.bipush 32, 2) := by decide +kernel
theorem dX5_bits_13 : decode cX5_bits 13 = .ok (.aload_n 0, 1) := by decide +kernel
theorem dX5_bits_14 : decode cX5_bits 14 = .ok (.getfield 21, 3) := by decide +kernel
theorem dX5_bits_17 : decode cX5_bits 17 = .ok (.imul, 1) := by decide +kernel
theorem dX5_bits_18 : decode cX5_bits 18 = .ok (.aload_n 0, 1) := by decide +kernel
theorem dX5_bits_19 : decode cX5_bits 19 = .ok (.aload_n 0, 1) := by decide +kernel
theorem dX5_bits_20 : decode cX5_bits 20 = .ok (.getfield 21, 3) := by decide +kernel
theorem dX5_bits_23 : decode cX5_bits 23 = .ok (.iconst 1, 1) := by decide +kernel
theorem dX5_bits_24 : decode cX5_bits 24 = .ok (.isub, 1) := by decide +kernel
theorem dX5_bits_25 : decode cX5_bits 25 = .ok (.invokevirtual 44, 3) := by decide +kernel
theorem dX5_bits_28 : decode cX5_bits 28 = .ok (.l2i, 1) := by decide +kernel
theorem dX5_bits_29 : decode cX5_bits 29 = .ok (.invokestatic 56, 3) := by decide +kernel
theorem dX5_bits_32 : decode cX5_bits 32 = .ok (.isub, 1) := by decide +kernel
theorem dX5_bits_33 : decode cX5_bits 33 = .ok (.ireturn, 1) := by decide +kernel
set_option maxRecDepth 20000 in
theorem ggX5_low_X5_limbAt : GoodIn wsX5_low wsX5_limbAt := goodIn_ca (goodIn_r _ [5, 6, 7, 8, 9, 10] (by decide +kernel) (by decide +kernel)) (goodIn_sub (fun _ h => List.mem_cons_of_mem _ (List.mem_append_right _ h)) (by decide +kernel))
set_option maxRecDepth 20000 in
theorem gX5_low_X5_limbAt : GoodIn wsX5_low (wsV RX5 44 RX5 yX5_limbAt wsX5_limbAt) := goodIn_app (goodIn_of _ (by decide +kernel)) ggX5_low_X5_limbAt
theorem dX5_low_0 : decode cX5_low 0 = .ok (.aload_n 0, 1) := by decide +kernel
theorem dX5_low_1 : decode cX5_low 1 = .ok (.iconst 1, 1) := by decide +kernel
theorem dX5_low_2 : decode cX5_low 2 = .ok (.invokevirtual 44, 3) := by decide +kernel
theorem dX5_low_5 : decode cX5_low 5 = .ok (.bipush 32, 2) := by decide +kernel
theorem dX5_low_7 : decode cX5_low 7 = .ok (.lshl, 1) := by decide +kernel
theorem dX5_low_8 : decode cX5_low 8 = .ok (.aload_n 0, 1) := by decide +kernel
theorem dX5_low_9 : decode cX5_low 9 = .ok (.iconst 0, 1) := by decide +kernel
theorem dX5_low_10 : decode cX5_low 10 = .ok (.invokevirtual 44, 3) := by decide +kernel
theorem dX5_low_13 : decode cX5_low 13 = .ok (.lor, 1) := by decide +kernel
theorem dX5_low_14 : decode cX5_low 14 = .ok (.lreturn, 1) := by decide +kernel
set_option maxRecDepth 20000 in
theorem ggX5_order_X5_limbAt : GoodIn wsX5_order wsX5_limbAt := goodIn_ca (goodIn_r _ [6, 1, 7, 8, 9, 10] (by decide +kernel) (by decide +kernel)) (goodIn_sub (fun _ h => List.mem_cons_of_mem _ (List.mem_append_right _ h)) (by decide +kernel))
set_option maxRecDepth 20000 in
theorem gX5_order_X5_limbAt : GoodIn wsX5_order (wsV RX5 44 RX5 yX5_limbAt wsX5_limbAt) := goodIn_app (goodIn_of _ (by decide +kernel)) ggX5_order_X5_limbAt
theorem dX5_order_0 : decode cX5_order 0 = .ok (.aload_n 0, 1) := by decide +kernel
theorem dX5_order_1 : decode cX5_order 1 = .ok (.getfield 21, 3) := by decide +kernel
theorem dX5_order_4 : decode cX5_order 4 = .ok (.aload_n 1, 1) := by decide +kernel
theorem dX5_order_5 : decode cX5_order 5 = .ok (.getfield 21, 3) := by decide +kernel
theorem dX5_order_8 : decode cX5_order 8 = .ok (.if_icmp .eq 20, 3) := by decide +kernel
theorem dX5_order_11 : decode cX5_order 11 = .ok (.aload_n 0, 1) := by decide +kernel
theorem dX5_order_12 : decode cX5_order 12 = .ok (.getfield 21, 3) := by decide +kernel
theorem dX5_order_15 : decode cX5_order 15 = .ok (.aload_n 1, 1) := by decide +kernel
theorem dX5_order_16 : decode cX5_order 16 = .ok (.getfield 21, 3) := by decide +kernel
theorem dX5_order_19 : decode cX5_order 19 = .ok (.if_icmp .ge 7, 3) := by decide +kernel
theorem dX5_order_22 : decode cX5_order 22 = .ok (.iconst (-1), 1) := by decide +kernel
theorem dX5_order_23 : decode cX5_order 23 = .ok (.goto 4, 3) := by decide +kernel
theorem dX5_order_26 : decode cX5_order 26 = .ok (.iconst 1, 1) := by decide +kernel
theorem dX5_order_27 : decode cX5_order 27 = .ok (.ireturn, 1) := by decide +kernel
theorem dX5_order_28 : decode cX5_order 28 = .ok (.aload_n 0, 1) := by decide +kernel
theorem dX5_order_29 : decode cX5_order 29 = .ok (.getfield 21, 3) := by decide +kernel
theorem dX5_order_32 : decode cX5_order 32 = .ok (.iconst 1, 1) := by decide +kernel
theorem dX5_order_33 : decode cX5_order 33 = .ok (.isub, 1) := by decide +kernel
theorem dX5_order_34 : decode cX5_order 34 = .ok (.istore_n 2, 1) := by decide +kernel
theorem dX5_order_35 : decode cX5_order 35 = .ok (.iload_n 2, 1) := by decide +kernel
theorem dX5_order_36 : decode cX5_order 36 = .ok (.ifCond .lt 43, 3) := by decide +kernel
theorem dX5_order_39 : decode cX5_order 39 = .ok (.aload_n 0, 1) := by decide +kernel
theorem dX5_order_40 : decode cX5_order 40 = .ok (.iload_n 2, 1) := by decide +kernel
theorem dX5_order_41 : decode cX5_order 41 = .ok (.invokevirtual 44, 3) := by decide +kernel
theorem dX5_order_44 : decode cX5_order 44 = .ok (.aload_n 1, 1) := by decide +kernel
theorem dX5_order_45 : decode cX5_order 45 = .ok (.iload_n 2, 1) := by decide +kernel
theorem dX5_order_46 : decode cX5_order 46 = .ok (.invokevirtual 44, 3) := by decide +kernel
theorem dX5_order_49 : decode cX5_order 49 = .ok (.lcmp, 1) := by decide +kernel
theorem dX5_order_50 : decode cX5_order 50 = .ok (.ifCond .eq 23, 3) := by decide +kernel
theorem dX5_order_53 : decode cX5_order 53 = .ok (.aload_n 0, 1) := by decide +kernel
theorem dX5_order_54 : decode cX5_order 54 = .ok (.iload_n 2, 1) := by decide +kernel
theorem dX5_order_55 : decode cX5_order 55 = .ok (.invokevirtual 44, 3) := by decide +kernel
theorem dX5_order_58 : decode cX5_order 58 = .ok (.aload_n 1, 1) := by decide +kernel
theorem dX5_order_59 : decode cX5_order 59 = .ok (.iload_n 2, 1) := by decide +kernel
theorem dX5_order_60 : decode cX5_order 60 = .ok (.invokevirtual 44, 3) := by decide +kernel
theorem dX5_order_63 : decode cX5_order 63 = .ok (.lcmp, 1) := by decide +kernel
theorem dX5_order_64 : decode cX5_order 64 = .ok (.ifCond .ge 7, 3) := by decide +kernel
theorem dX5_order_67 : decode cX5_order 67 = .ok (.iconst (-1), 1) := by decide +kernel
theorem dX5_order_68 : decode cX5_order 68 = .ok (.goto 4, 3) := by decide +kernel
theorem dX5_order_71 : decode cX5_order 71 = .ok (.iconst 1, 1) := by decide +kernel
theorem dX5_order_72 : decode cX5_order 72 = .ok (.ireturn, 1) := by decide +kernel
theorem dX5_order_73 : decode cX5_order 73 = .ok (.iinc 2 (-1), 3) := by decide +kernel
theorem dX5_order_76 : decode cX5_order 76 = .ok (.goto (-41), 3) := by decide +kernel
theorem dX5_order_79 : decode cX5_order 79 = .ok (.iconst 0, 1) := by decide +kernel
theorem dX5_order_80 : decode cX5_order 80 = .ok (.ireturn, 1) := by decide +kernel
set_option maxRecDepth 20000 in
theorem ggX5_add_X5_limbAt : GoodIn wsX5_add wsX5_limbAt := goodIn_ca (goodIn_r _ [14, 1, 6, 15, 24, 25] (by decide +kernel) (by decide +kernel)) (goodIn_sub (fun _ h => List.mem_cons_of_mem _ (List.mem_append_right _ h)) (by decide +kernel))
set_option maxRecDepth 20000 in
theorem gX5_add_X5_limbAt : GoodIn wsX5_add (wsV RX5 44 RX5 yX5_limbAt wsX5_limbAt) := goodIn_app (goodIn_of _ (by decide +kernel)) ggX5_add_X5_limbAt
set_option maxRecDepth 20000 in
theorem ggX5_add_X5_put : GoodIn wsX5_add wsX5_put := goodIn_ca (goodIn_r _ [19, 6, 24, 25] (by decide +kernel) (by decide +kernel)) (goodIn_sub (fun _ h => List.mem_cons_of_mem _ (List.mem_append_right _ h)) (by decide +kernel))
set_option maxRecDepth 20000 in
theorem gX5_add_X5_put : GoodIn wsX5_add (wsV RX5 30 RX5 yX5_put wsX5_put) := goodIn_app (goodIn_of _ (by decide +kernel)) ggX5_add_X5_put
set_option maxRecDepth 20000 in
theorem ggX5_add_X5_trim : GoodIn wsX5_add wsX5_trim := goodIn_ca (goodIn_r _ [23, 6, 7, 8, 4, 9, 2, 3, 5, 1, 24, 25] (by decide +kernel) (by decide +kernel)) (goodIn_sub (fun _ h => List.mem_cons_of_mem _ (List.mem_append_right _ h)) (by decide +kernel))
set_option maxRecDepth 20000 in
theorem gX5_add_X5_trim : GoodIn wsX5_add (wsV RX5 34 RX5 yX5_trim wsX5_trim) := goodIn_app (goodIn_of _ (by decide +kernel)) ggX5_add_X5_trim
theorem dX5_add_0 : decode cX5_add 0 = .ok (.aload_n 0, 1) := by decide +kernel
theorem dX5_add_1 : decode cX5_add 1 = .ok (.getfield 21, 3) := by decide +kernel
theorem dX5_add_4 : decode cX5_add 4 = .ok (.aload_n 1, 1) := by decide +kernel
theorem dX5_add_5 : decode cX5_add 5 = .ok (.getfield 21, 3) := by decide +kernel
theorem dX5_add_8 : decode cX5_add 8 = .ok (.invokestatic 9, 3) := by decide +kernel
theorem dX5_add_11 : decode cX5_add 11 = .ok (.iconst 1, 1) := by decide +kernel
theorem dX5_add_12 : decode cX5_add 12 = .ok (.iadd, 1) := by decide +kernel
theorem dX5_add_13 : decode cX5_add 13 = .ok (.aload_n 0, 1) := by decide +kernel
theorem dX5_add_14 : decode cX5_add 14 = .ok (.getfield 15, 3) := by decide +kernel
theorem dX5_add_17 : decode cX5_add 17 = .ok (.arraylength, 1) := by decide +kernel
theorem dX5_add_18 : decode cX5_add 18 = .ok (.invokestatic 27, 3) := by decide +kernel
theorem dX5_add_21 : decode cX5_add 21 = .ok (.istore_n 2, 1) := by decide +kernel
theorem dX5_add_22 : decode cX5_add 22 = .ok (.lconst 0, 1) := by decide +kernel
theorem dX5_add_23 : decode cX5_add 23 = .ok (.lstore_n 3, 1) := by decide +kernel
theorem dX5_add_24 : decode cX5_add 24 = .ok (.iconst 0, 1) := by decide +kernel
theorem dX5_add_25 : decode cX5_add 25 = .ok (.istore 5, 2) := by decide +kernel
theorem dX5_add_27 : decode cX5_add 27 = .ok (.iload 5, 2) := by decide +kernel
theorem dX5_add_29 : decode cX5_add 29 = .ok (.iload_n 2, 1) := by decide +kernel
theorem dX5_add_30 : decode cX5_add 30 = .ok (.if_icmp .ge 40, 3) := by decide +kernel
theorem dX5_add_33 : decode cX5_add 33 = .ok (.aload_n 0, 1) := by decide +kernel
theorem dX5_add_34 : decode cX5_add 34 = .ok (.iload 5, 2) := by decide +kernel
theorem dX5_add_36 : decode cX5_add 36 = .ok (.invokevirtual 44, 3) := by decide +kernel
theorem dX5_add_39 : decode cX5_add 39 = .ok (.aload_n 1, 1) := by decide +kernel
theorem dX5_add_40 : decode cX5_add 40 = .ok (.iload 5, 2) := by decide +kernel
theorem dX5_add_42 : decode cX5_add 42 = .ok (.invokevirtual 44, 3) := by decide +kernel
theorem dX5_add_45 : decode cX5_add 45 = .ok (.ladd, 1) := by decide +kernel
theorem dX5_add_46 : decode cX5_add 46 = .ok (.lload_n 3, 1) := by decide +kernel
theorem dX5_add_47 : decode cX5_add 47 = .ok (.ladd, 1) := by decide +kernel
theorem dX5_add_48 : decode cX5_add 48 = .ok (.lstore 6, 2) := by decide +kernel
theorem dX5_add_50 : decode cX5_add 50 = .ok (.aload_n 0, 1) := by decide +kernel
theorem dX5_add_51 : decode cX5_add 51 = .ok (.iload 5, 2) := by decide +kernel
theorem dX5_add_53 : decode cX5_add 53 = .ok (.lload 6, 2) := by decide +kernel
theorem dX5_add_55 : decode cX5_add 55 = .ok (.invokevirtual 30, 3) := by decide +kernel
theorem dX5_add_58 : decode cX5_add 58 = .ok (.lload 6, 2) := by decide +kernel
theorem dX5_add_60 : decode cX5_add 60 = .ok (.bipush 32, 2) := by decide +kernel
theorem dX5_add_62 : decode cX5_add 62 = .ok (.lushr, 1) := by decide +kernel
theorem dX5_add_63 : decode cX5_add 63 = .ok (.lstore_n 3, 1) := by decide +kernel
theorem dX5_add_64 : decode cX5_add 64 = .ok (.iinc 5 1, 3) := by decide +kernel
theorem dX5_add_67 : decode cX5_add 67 = .ok (.goto (-40), 3) := by decide +kernel
theorem dX5_add_70 : decode cX5_add 70 = .ok (.aload_n 0, 1) := by decide +kernel
theorem dX5_add_71 : decode cX5_add 71 = .ok (.iload_n 2, 1) := by decide +kernel
theorem dX5_add_72 : decode cX5_add 72 = .ok (.invokevirtual 34, 3) := by decide +kernel
theorem dX5_add_75 : decode cX5_add 75 = .ok (.return_, 1) := by decide +kernel
set_option maxRecDepth 20000 in
theorem ggX5_subtract_X5_limbAt : GoodIn wsX5_subtract wsX5_limbAt := goodIn_ca (goodIn_r _ [6, 1, 7, 8, 24, 25] (by decide +kernel) (by decide +kernel)) (goodIn_sub (fun _ h => List.mem_cons_of_mem _ (List.mem_append_right _ h)) (by decide +kernel))
set_option maxRecDepth 20000 in
theorem gX5_subtract_X5_limbAt : GoodIn wsX5_subtract (wsV RX5 44 RX5 yX5_limbAt wsX5_limbAt) := goodIn_app (goodIn_of _ (by decide +kernel)) ggX5_subtract_X5_limbAt
set_option maxRecDepth 20000 in
theorem ggX5_subtract_X5_put : GoodIn wsX5_subtract wsX5_put := goodIn_ca (goodIn_r _ [12, 7, 24, 25] (by decide +kernel) (by decide +kernel)) (goodIn_sub (fun _ h => List.mem_cons_of_mem _ (List.mem_append_right _ h)) (by decide +kernel))
set_option maxRecDepth 20000 in
theorem gX5_subtract_X5_put : GoodIn wsX5_subtract (wsV RX5 30 RX5 yX5_put wsX5_put) := goodIn_app (goodIn_of _ (by decide +kernel)) ggX5_subtract_X5_put
set_option maxRecDepth 20000 in
theorem ggX5_subtract_X5_trim : GoodIn wsX5_subtract wsX5_trim := goodIn_ca (goodIn_r _ [16, 7, 17, 18, 19, 20, 21, 22, 23, 1, 24, 25] (by decide +kernel) (by decide +kernel)) (goodIn_sub (fun _ h => List.mem_cons_of_mem _ (List.mem_append_right _ h)) (by decide +kernel))
set_option maxRecDepth 20000 in
theorem gX5_subtract_X5_trim : GoodIn wsX5_subtract (wsV RX5 34 RX5 yX5_trim wsX5_trim) := goodIn_app (goodIn_of _ (by decide +kernel)) ggX5_subtract_X5_trim
theorem dX5_subtract_0 : decode cX5_subtract 0 = .ok (.aload_n 1, 1) := by decide +kernel
theorem dX5_subtract_1 : decode cX5_subtract 1 = .ok (.getfield 21, 3) := by decide +kernel
theorem dX5_subtract_4 : decode cX5_subtract 4 = .ok (.istore_n 3, 1) := by decide +kernel
theorem dX5_subtract_5 : decode cX5_subtract 5 = .ok (.lconst 0, 1) := by decide +kernel
theorem dX5_subtract_6 : decode cX5_subtract 6 = .ok (.lstore 4, 2) := by decide +kernel
theorem dX5_subtract_8 : decode cX5_subtract 8 = .ok (.iconst 0, 1) := by decide +kernel
theorem dX5_subtract_9 : decode cX5_subtract 9 = .ok (.istore 6, 2) := by decide +kernel
theorem dX5_subtract_11 : decode cX5_subtract 11 = .ok (.iload 6, 2) := by decide +kernel
theorem dX5_subtract_13 : decode cX5_subtract 13 = .ok (.iload_n 3, 1) := by decide +kernel
theorem dX5_subtract_14 : decode cX5_subtract 14 = .ok (.if_icmp .ge 42, 3) := by decide +kernel
theorem dX5_subtract_17 : decode cX5_subtract 17 = .ok (.aload_n 1, 1) := by decide +kernel
theorem dX5_subtract_18 : decode cX5_subtract 18 = .ok (.iload 6, 2) := by decide +kernel
theorem dX5_subtract_20 : decode cX5_subtract 20 = .ok (.invokevirtual 44, 3) := by decide +kernel
theorem dX5_subtract_23 : decode cX5_subtract 23 = .ok (.aload_n 2, 1) := by decide +kernel
theorem dX5_subtract_24 : decode cX5_subtract 24 = .ok (.iload 6, 2) := by decide +kernel
theorem dX5_subtract_26 : decode cX5_subtract 26 = .ok (.invokevirtual 44, 3) := by decide +kernel
theorem dX5_subtract_29 : decode cX5_subtract 29 = .ok (.lsub, 1) := by decide +kernel
theorem dX5_subtract_30 : decode cX5_subtract 30 = .ok (.lload 4, 2) := by decide +kernel
theorem dX5_subtract_32 : decode cX5_subtract 32 = .ok (.lsub, 1) := by decide +kernel
theorem dX5_subtract_33 : decode cX5_subtract 33 = .ok (.lstore 7, 2) := by decide +kernel
theorem dX5_subtract_35 : decode cX5_subtract 35 = .ok (.aload_n 0, 1) := by decide +kernel
theorem dX5_subtract_36 : decode cX5_subtract 36 = .ok (.iload 6, 2) := by decide +kernel
theorem dX5_subtract_38 : decode cX5_subtract 38 = .ok (.lload 7, 2) := by decide +kernel
theorem dX5_subtract_40 : decode cX5_subtract 40 = .ok (.invokevirtual 30, 3) := by decide +kernel
theorem dX5_subtract_43 : decode cX5_subtract 43 = .ok (.lload 7, 2) := by decide +kernel
theorem dX5_subtract_45 : decode cX5_subtract 45 = .ok (.bipush 63, 2) := by decide +kernel
theorem dX5_subtract_47 : decode cX5_subtract 47 = .ok (.lushr, 1) := by decide +kernel
theorem dX5_subtract_48 : decode cX5_subtract 48 = .ok (.lstore 4, 2) := by decide +kernel
theorem dX5_subtract_50 : decode cX5_subtract 50 = .ok (.iinc 6 1, 3) := by decide +kernel
theorem dX5_subtract_53 : decode cX5_subtract 53 = .ok (.goto (-42), 3) := by decide +kernel
theorem dX5_subtract_56 : decode cX5_subtract 56 = .ok (.aload_n 0, 1) := by decide +kernel
theorem dX5_subtract_57 : decode cX5_subtract 57 = .ok (.iload_n 3, 1) := by decide +kernel
theorem dX5_subtract_58 : decode cX5_subtract 58 = .ok (.invokevirtual 34, 3) := by decide +kernel
theorem dX5_subtract_61 : decode cX5_subtract 61 = .ok (.return_, 1) := by decide +kernel
set_option maxRecDepth 20000 in
theorem ggX5_multiply_X5_clear : GoodIn wsX5_multiply wsX5_clear := goodIn_r _ [5, 6, 36, 37] (by decide +kernel) (by decide +kernel)
set_option maxRecDepth 20000 in
theorem gX5_multiply_X5_clear : GoodIn wsX5_multiply (wsV RX5 62 RX5 yX5_clear wsX5_clear) := goodIn_app (goodIn_of _ (by decide +kernel)) ggX5_multiply_X5_clear
set_option maxRecDepth 20000 in
theorem ggX5_multiply_X5_addProduct : GoodIn wsX5_multiply wsX5_addProduct := goodIn_ca (goodIn_r _ [10, 6, 11, 12, 13, 14, 15, 16, 17, 18, 19, 20, 21, 4, 22, 23, 24, 25, 26, 27, 28, 29, 30, 31, 32, 33, 34, 35, 36, 37] (by decide +kernel) (by decide +kernel)) (goodIn_sub (fun _ h => List.mem_cons_of_mem _ (List.mem_append_right _ h)) (by decide +kernel))
set_option maxRecDepth 20000 in
theorem gX5_multiply_X5_addProduct : GoodIn wsX5_multiply (wsV RX5 65 RX5 yX5_addProduct wsX5_addProduct) := goodIn_app (goodIn_of _ (by decide +kernel)) ggX5_multiply_X5_addProduct
theorem dX5_multiply_0 : decode cX5_multiply 0 = .ok (.aload_n 0, 1) := by decide +kernel
theorem dX5_multiply_1 : decode cX5_multiply 1 = .ok (.invokevirtual 62, 3) := by decide +kernel
theorem dX5_multiply_4 : decode cX5_multiply 4 = .ok (.aload_n 0, 1) := by decide +kernel
theorem dX5_multiply_5 : decode cX5_multiply 5 = .ok (.aload_n 1, 1) := by decide +kernel
theorem dX5_multiply_6 : decode cX5_multiply 6 = .ok (.aload_n 2, 1) := by decide +kernel
theorem dX5_multiply_7 : decode cX5_multiply 7 = .ok (.invokevirtual 65, 3) := by decide +kernel
theorem dX5_multiply_10 : decode cX5_multiply 10 = .ok (.return_, 1) := by decide +kernel
set_option maxRecDepth 20000 in
theorem ggX5_addProduct_X5_put : GoodIn wsX5_addProduct wsX5_put := goodIn_ca (goodIn_r _ [14, 6, 28, 29] (by decide +kernel) (by decide +kernel)) (goodIn_sub (fun _ h => List.mem_cons_of_mem _ (List.mem_append_right _ h)) (by decide +kernel))
set_option maxRecDepth 20000 in
theorem gX5_addProduct_X5_put : GoodIn wsX5_addProduct (wsV RX5 30 RX5 yX5_put wsX5_put) := goodIn_app (goodIn_of _ (by decide +kernel)) ggX5_addProduct_X5_put
set_option maxRecDepth 20000 in
theorem ggX5_addProduct_X5_limbAt : GoodIn wsX5_addProduct wsX5_limbAt := goodIn_ca (goodIn_r _ [18, 1, 6, 19, 28, 29] (by decide +kernel) (by decide +kernel)) (goodIn_sub (fun _ h => List.mem_cons_of_mem _ (List.mem_append_right _ h)) (by decide +kernel))
set_option maxRecDepth 20000 in
theorem gX5_addProduct_X5_limbAt : GoodIn wsX5_addProduct (wsV RX5 44 RX5 yX5_limbAt wsX5_limbAt) := goodIn_app (goodIn_of _ (by decide +kernel)) ggX5_addProduct_X5_limbAt
set_option maxRecDepth 20000 in
theorem ggX5_addProduct_X5_addTimes : GoodIn wsX5_addProduct wsX5_addTimes := goodIn_ca (goodIn_r _ [23, 1, 7, 8, 4, 9, 6, 19, 28, 29] (by decide +kernel) (by decide +kernel)) (goodIn_sub (fun _ h => List.mem_cons_of_mem _ (List.mem_append_right _ h)) (by decide +kernel))
set_option maxRecDepth 20000 in
theorem gX5_addProduct_X5_addTimes : GoodIn wsX5_addProduct (wsV RX5 69 RX5 yX5_addTimes wsX5_addTimes) := goodIn_app (goodIn_of _ (by decide +kernel)) ggX5_addProduct_X5_addTimes
set_option maxRecDepth 20000 in
theorem ggX5_addProduct_X5_trim : GoodIn wsX5_addProduct wsX5_trim := goodIn_ca (goodIn_r _ [27, 6, 7, 8, 4, 9, 2, 3, 5, 1, 28, 29] (by decide +kernel) (by decide +kernel)) (goodIn_sub (fun _ h => List.mem_cons_of_mem _ (List.mem_append_right _ h)) (by decide +kernel))
set_option maxRecDepth 20000 in
theorem gX5_addProduct_X5_trim : GoodIn wsX5_addProduct (wsV RX5 34 RX5 yX5_trim wsX5_trim) := goodIn_app (goodIn_of _ (by decide +kernel)) ggX5_addProduct_X5_trim
theorem dX5_addProduct_0 : decode cX5_addProduct 0 = .ok (.aload_n 0, 1) := by decide +kernel
theorem dX5_addProduct_1 : decode cX5_addProduct 1 = .ok (.getfield 21, 3) := by decide +kernel
theorem dX5_addProduct_4 : decode cX5_addProduct 4 = .ok (.aload_n 1, 1) := by decide +kernel
theorem dX5_addProduct_5 : decode cX5_addProduct 5 = .ok (.getfield 21, 3) := by decide +kernel
theorem dX5_addProduct_8 : decode cX5_addProduct 8 = .ok (.aload_n 2, 1) := by decide +kernel
theorem dX5_addProduct_9 : decode cX5_addProduct 9 = .ok (.getfield 21, 3) := by decide +kernel
theorem dX5_addProduct_12 : decode cX5_addProduct 12 = .ok (.iadd, 1) := by decide +kernel
theorem dX5_addProduct_13 : decode cX5_addProduct 13 = .ok (.invokestatic 9, 3) := by decide +kernel
theorem dX5_addProduct_16 : decode cX5_addProduct 16 = .ok (.iconst 1, 1) := by decide +kernel
theorem dX5_addProduct_17 : decode cX5_addProduct 17 = .ok (.iadd, 1) := by decide +kernel
theorem dX5_addProduct_18 : decode cX5_addProduct 18 = .ok (.aload_n 0, 1) := by decide +kernel
theorem dX5_addProduct_19 : decode cX5_addProduct 19 = .ok (.getfield 15, 3) := by decide +kernel
theorem dX5_addProduct_22 : decode cX5_addProduct 22 = .ok (.arraylength, 1) := by decide +kernel
theorem dX5_addProduct_23 : decode cX5_addProduct 23 = .ok (.invokestatic 27, 3) := by decide +kernel
theorem dX5_addProduct_26 : decode cX5_addProduct 26 = .ok (.istore_n 3, 1) := by decide +kernel
theorem dX5_addProduct_27 : decode cX5_addProduct 27 = .ok (.aload_n 0, 1) := by decide +kernel
theorem dX5_addProduct_28 : decode cX5_addProduct 28 = .ok (.getfield 21, 3) := by decide +kernel
theorem dX5_addProduct_31 : decode cX5_addProduct 31 = .ok (.istore 4, 2) := by decide +kernel
theorem dX5_addProduct_33 : decode cX5_addProduct 33 = .ok (.iload 4, 2) := by decide +kernel
theorem dX5_addProduct_35 : decode cX5_addProduct 35 = .ok (.iload_n 3, 1) := by decide +kernel
theorem dX5_addProduct_36 : decode cX5_addProduct 36 = .ok (.if_icmp .ge 16, 3) := by decide +kernel
theorem dX5_addProduct_39 : decode cX5_addProduct 39 = .ok (.aload_n 0, 1) := by decide +kernel
theorem dX5_addProduct_40 : decode cX5_addProduct 40 = .ok (.iload 4, 2) := by decide +kernel
theorem dX5_addProduct_42 : decode cX5_addProduct 42 = .ok (.lconst 0, 1) := by decide +kernel
theorem dX5_addProduct_43 : decode cX5_addProduct 43 = .ok (.invokevirtual 30, 3) := by decide +kernel
theorem dX5_addProduct_46 : decode cX5_addProduct 46 = .ok (.iinc 4 1, 3) := by decide +kernel
theorem dX5_addProduct_49 : decode cX5_addProduct 49 = .ok (.goto (-16), 3) := by decide +kernel
theorem dX5_addProduct_52 : decode cX5_addProduct 52 = .ok (.aload_n 0, 1) := by decide +kernel
theorem dX5_addProduct_53 : decode cX5_addProduct 53 = .ok (.iload_n 3, 1) := by decide +kernel
theorem dX5_addProduct_54 : decode cX5_addProduct 54 = .ok (.putfield 21, 3) := by decide +kernel
theorem dX5_addProduct_57 : decode cX5_addProduct 57 = .ok (.iconst 0, 1) := by decide +kernel
theorem dX5_addProduct_58 : decode cX5_addProduct 58 = .ok (.istore 4, 2) := by decide +kernel
theorem dX5_addProduct_60 : decode cX5_addProduct 60 = .ok (.iload 4, 2) := by decide +kernel
theorem dX5_addProduct_62 : decode cX5_addProduct 62 = .ok (.aload_n 1, 1) := by decide +kernel
theorem dX5_addProduct_63 : decode cX5_addProduct 63 = .ok (.getfield 21, 3) := by decide +kernel
theorem dX5_addProduct_66 : decode cX5_addProduct 66 = .ok (.if_icmp .ge 22, 3) := by decide +kernel
theorem dX5_addProduct_69 : decode cX5_addProduct 69 = .ok (.aload_n 0, 1) := by decide +kernel
theorem dX5_addProduct_70 : decode cX5_addProduct 70 = .ok (.aload_n 2, 1) := by decide +kernel
theorem dX5_addProduct_71 : decode cX5_addProduct 71 = .ok (.aload_n 1, 1) := by decide +kernel
theorem dX5_addProduct_72 : decode cX5_addProduct 72 = .ok (.iload 4, 2) := by decide +kernel
theorem dX5_addProduct_74 : decode cX5_addProduct 74 = .ok (.invokevirtual 44, 3) := by decide +kernel
theorem dX5_addProduct_77 : decode cX5_addProduct 77 = .ok (.iload 4, 2) := by decide +kernel
theorem dX5_addProduct_79 : decode cX5_addProduct 79 = .ok (.invokevirtual 69, 3) := by decide +kernel
theorem dX5_addProduct_82 : decode cX5_addProduct 82 = .ok (.iinc 4 1, 3) := by decide +kernel
theorem dX5_addProduct_85 : decode cX5_addProduct 85 = .ok (.goto (-25), 3) := by decide +kernel
theorem dX5_addProduct_88 : decode cX5_addProduct 88 = .ok (.aload_n 0, 1) := by decide +kernel
theorem dX5_addProduct_89 : decode cX5_addProduct 89 = .ok (.iload_n 3, 1) := by decide +kernel
theorem dX5_addProduct_90 : decode cX5_addProduct 90 = .ok (.invokevirtual 34, 3) := by decide +kernel
theorem dX5_addProduct_93 : decode cX5_addProduct 93 = .ok (.return_, 1) := by decide +kernel
theorem dX5_addTimes_0 : decode cX5_addTimes 0 = .ok (.aload_n 1, 1) := by decide +kernel
theorem dX5_addTimes_1 : decode cX5_addTimes 1 = .ok (.getfield 21, 3) := by decide +kernel
theorem dX5_addTimes_4 : decode cX5_addTimes 4 = .ok (.aload_n 0, 1) := by decide +kernel
theorem dX5_addTimes_5 : decode cX5_addTimes 5 = .ok (.getfield 21, 3) := by decide +kernel
theorem dX5_addTimes_8 : decode cX5_addTimes 8 = .ok (.iload 4, 2) := by decide +kernel
theorem dX5_addTimes_10 : decode cX5_addTimes 10 = .ok (.isub, 1) := by decide +kernel
theorem dX5_addTimes_11 : decode cX5_addTimes 11 = .ok (.invokestatic 27, 3) := by decide +kernel
theorem dX5_addTimes_14 : decode cX5_addTimes 14 = .ok (.istore 5, 2) := by decide +kernel
theorem dX5_addTimes_16 : decode cX5_addTimes 16 = .ok (.lconst 0, 1) := by decide +kernel
theorem dX5_addTimes_17 : decode cX5_addTimes 17 = .ok (.lstore 6, 2) := by decide +kernel
theorem dX5_addTimes_19 : decode cX5_addTimes 19 = .ok (.iconst 0, 1) := by decide +kernel
theorem dX5_addTimes_20 : decode cX5_addTimes 20 = .ok (.istore 8, 2) := by decide +kernel
theorem dX5_addTimes_22 : decode cX5_addTimes 22 = .ok (.iload 8, 2) := by decide +kernel
theorem dX5_addTimes_24 : decode cX5_addTimes 24 = .ok (.iload 5, 2) := by decide +kernel
theorem dX5_addTimes_26 : decode cX5_addTimes 26 = .ok (.if_icmp .ge 64, 3) := by decide +kernel
theorem dX5_addTimes_29 : decode cX5_addTimes 29 = .ok (.lload_n 2, 1) := by decide +kernel
theorem dX5_addTimes_30 : decode cX5_addTimes 30 = .ok (.aload_n 1, 1) := by decide +kernel
theorem dX5_addTimes_31 : decode cX5_addTimes 31 = .ok (.getfield 15, 3) := by decide +kernel
theorem dX5_addTimes_34 : decode cX5_addTimes 34 = .ok (.iload 8, 2) := by decide +kernel
theorem dX5_addTimes_36 : decode cX5_addTimes 36 = .ok (.iaload, 1) := by decide +kernel
theorem dX5_addTimes_37 : decode cX5_addTimes 37 = .ok (.i2l, 1) := by decide +kernel
theorem dX5_addTimes_38 : decode cX5_addTimes 38 = .ok (.ldc2_w 25, 3) := by decide +kernel
theorem dX5_addTimes_41 : decode cX5_addTimes 41 = .ok (.land, 1) := by decide +kernel
theorem dX5_addTimes_42 : decode cX5_addTimes 42 = .ok (.lmul, 1) := by decide +kernel
theorem dX5_addTimes_43 : decode cX5_addTimes 43 = .ok (.aload_n 0, 1) := by decide +kernel
theorem dX5_addTimes_44 : decode cX5_addTimes 44 = .ok (.getfield 15, 3) := by decide +kernel
theorem dX5_addTimes_47 : decode cX5_addTimes 47 = .ok (.iload 4, 2) := by decide +kernel
theorem dX5_addTimes_49 : decode cX5_addTimes 49 = .ok (.iload 8, 2) := by decide +kernel
theorem dX5_addTimes_51 : decode cX5_addTimes 51 = .ok (.iadd, 1) := by decide +kernel
theorem dX5_addTimes_52 : decode cX5_addTimes 52 = .ok (.iaload, 1) := by decide +kernel
theorem dX5_addTimes_53 : decode cX5_addTimes 53 = .ok (.i2l, 1) := by decide +kernel
theorem dX5_addTimes_54 : decode cX5_addTimes 54 = .ok (.ldc2_w 25, 3) := by decide +kernel
theorem dX5_addTimes_57 : decode cX5_addTimes 57 = .ok (.land, 1) := by decide +kernel
theorem dX5_addTimes_58 : decode cX5_addTimes 58 = .ok (.ladd, 1) := by decide +kernel
theorem dX5_addTimes_59 : decode cX5_addTimes 59 = .ok (.lload 6, 2) := by decide +kernel
theorem dX5_addTimes_61 : decode cX5_addTimes 61 = .ok (.ladd, 1) := by decide +kernel
theorem dX5_addTimes_62 : decode cX5_addTimes 62 = .ok (.lstore 9, 2) := by decide +kernel
theorem dX5_addTimes_64 : decode cX5_addTimes 64 = .ok (.aload_n 0, 1) := by decide +kernel
theorem dX5_addTimes_65 : decode cX5_addTimes 65 = .ok (.getfield 15, 3) := by decide +kernel
theorem dX5_addTimes_68 : decode cX5_addTimes 68 = .ok (.iload 4, 2) := by decide +kernel
theorem dX5_addTimes_70 : decode cX5_addTimes 70 = .ok (.iload 8, 2) := by decide +kernel
theorem dX5_addTimes_72 : decode cX5_addTimes 72 = .ok (.iadd, 1) := by decide +kernel
theorem dX5_addTimes_73 : decode cX5_addTimes 73 = .ok (.lload 9, 2) := by decide +kernel
theorem dX5_addTimes_75 : decode cX5_addTimes 75 = .ok (.l2i, 1) := by decide +kernel
theorem dX5_addTimes_76 : decode cX5_addTimes 76 = .ok (.iastore, 1) := by decide +kernel
theorem dX5_addTimes_77 : decode cX5_addTimes 77 = .ok (.lload 9, 2) := by decide +kernel
theorem dX5_addTimes_79 : decode cX5_addTimes 79 = .ok (.bipush 32, 2) := by decide +kernel
theorem dX5_addTimes_81 : decode cX5_addTimes 81 = .ok (.lushr, 1) := by decide +kernel
theorem dX5_addTimes_82 : decode cX5_addTimes 82 = .ok (.lstore 6, 2) := by decide +kernel
theorem dX5_addTimes_84 : decode cX5_addTimes 84 = .ok (.iinc 8 1, 3) := by decide +kernel
theorem dX5_addTimes_87 : decode cX5_addTimes 87 = .ok (.goto (-65), 3) := by decide +kernel
theorem dX5_addTimes_90 : decode cX5_addTimes 90 = .ok (.iload 4, 2) := by decide +kernel
theorem dX5_addTimes_92 : decode cX5_addTimes 92 = .ok (.iload 5, 2) := by decide +kernel
theorem dX5_addTimes_94 : decode cX5_addTimes 94 = .ok (.iadd, 1) := by decide +kernel
theorem dX5_addTimes_95 : decode cX5_addTimes 95 = .ok (.istore 8, 2) := by decide +kernel
theorem dX5_addTimes_97 : decode cX5_addTimes 97 = .ok (.iload 8, 2) := by decide +kernel
theorem dX5_addTimes_99 : decode cX5_addTimes 99 = .ok (.aload_n 0, 1) := by decide +kernel
theorem dX5_addTimes_100 : decode cX5_addTimes 100 = .ok (.getfield 21, 3) := by decide +kernel
theorem dX5_addTimes_103 : decode cX5_addTimes 103 = .ok (.if_icmp .ge 50, 3) := by decide +kernel
theorem dX5_addTimes_106 : decode cX5_addTimes 106 = .ok (.lload 6, 2) := by decide +kernel
theorem dX5_addTimes_108 : decode cX5_addTimes 108 = .ok (.lconst 0, 1) := by decide +kernel
theorem dX5_addTimes_109 : decode cX5_addTimes 109 = .ok (.lcmp, 1) := by decide +kernel
theorem dX5_addTimes_110 : decode cX5_addTimes 110 = .ok (.ifCond .eq 43, 3) := by decide +kernel
theorem dX5_addTimes_113 : decode cX5_addTimes 113 = .ok (.aload_n 0, 1) := by decide +kernel
theorem dX5_addTimes_114 : decode cX5_addTimes 114 = .ok (.getfield 15, 3) := by decide +kernel
theorem dX5_addTimes_117 : decode cX5_addTimes 117 = .ok (.iload 8, 2) := by decide +kernel
theorem dX5_addTimes_119 : decode cX5_addTimes 119 = .ok (.iaload, 1) := by decide +kernel
theorem dX5_addTimes_120 : decode cX5_addTimes 120 = .ok (.i2l, 1) := by decide +kernel
theorem dX5_addTimes_121 : decode cX5_addTimes 121 = .ok (.ldc2_w 25, 3) := by decide +kernel
theorem dX5_addTimes_124 : decode cX5_addTimes 124 = .ok (.land, 1) := by decide +kernel
theorem dX5_addTimes_125 : decode cX5_addTimes 125 = .ok (.lload 6, 2) := by decide +kernel
theorem dX5_addTimes_127 : decode cX5_addTimes 127 = .ok (.ladd, 1) := by decide +kernel
theorem dX5_addTimes_128 : decode cX5_addTimes 128 = .ok (.lstore 9, 2) := by decide +kernel
theorem dX5_addTimes_130 : decode cX5_addTimes 130 = .ok (.aload_n 0, 1) := by decide +kernel
theorem dX5_addTimes_131 : decode cX5_addTimes 131 = .ok (.getfield 15, 3) := by decide +kernel
theorem dX5_addTimes_134 : decode cX5_addTimes 134 = .ok (.iload 8, 2) := by decide +kernel
theorem dX5_addTimes_136 : decode cX5_addTimes 136 = .ok (.lload 9, 2) := by decide +kernel
theorem dX5_addTimes_138 : decode cX5_addTimes 138 = .ok (.l2i, 1) := by decide +kernel
theorem dX5_addTimes_139 : decode cX5_addTimes 139 = .ok (.iastore, 1) := by decide +kernel
theorem dX5_addTimes_140 : decode cX5_addTimes 140 = .ok (.lload 9, 2) := by decide +kernel
theorem dX5_addTimes_142 : decode cX5_addTimes 142 = .ok (.bipush 32, 2) := by decide +kernel
theorem dX5_addTimes_144 : decode cX5_addTimes 144 = .ok (.lushr, 1) := by decide +kernel
theorem dX5_addTimes_145 : decode cX5_addTimes 145 = .ok (.lstore 6, 2) := by decide +kernel
theorem dX5_addTimes_147 : decode cX5_addTimes 147 = .ok (.iinc 8 1, 3) := by decide +kernel
theorem dX5_addTimes_150 : decode cX5_addTimes 150 = .ok (.goto (-53), 3) := by decide +kernel
theorem dX5_addTimes_153 : decode cX5_addTimes 153 = .ok (.return_, 1) := by decide +kernel
set_option maxRecDepth 20000 in
theorem ggX5_timesPlus_X5_limbAt : GoodIn wsX5_timesPlus wsX5_limbAt := goodIn_ca (goodIn_r _ [11, 1, 2, 12, 24, 25] (by decide +kernel) (by decide +kernel)) (goodIn_sub (fun _ h => List.mem_cons_of_mem _ (List.mem_append_right _ h)) (by decide +kernel))
set_option maxRecDepth 20000 in
theorem gX5_timesPlus_X5_limbAt : GoodIn wsX5_timesPlus (wsV RX5 44 RX5 yX5_limbAt wsX5_limbAt) := goodIn_app (goodIn_of _ (by decide +kernel)) ggX5_timesPlus_X5_limbAt
set_option maxRecDepth 20000 in
theorem ggX5_timesPlus_X5_put : GoodIn wsX5_timesPlus wsX5_put := goodIn_ca (goodIn_r _ [16, 2, 24, 25] (by decide +kernel) (by decide +kernel)) (goodIn_sub (fun _ h => List.mem_cons_of_mem _ (List.mem_append_right _ h)) (by decide +kernel))
set_option maxRecDepth 20000 in
theorem gX5_timesPlus_X5_put : GoodIn wsX5_timesPlus (wsV RX5 30 RX5 yX5_put wsX5_put) := goodIn_app (goodIn_of _ (by decide +kernel)) ggX5_timesPlus_X5_put
set_option maxRecDepth 20000 in
theorem ggX5_timesPlus_X5_trim : GoodIn wsX5_timesPlus wsX5_trim := goodIn_ca (goodIn_r _ [20, 2, 3, 4, 5, 6, 21, 22, 23, 1, 24, 25] (by decide +kernel) (by decide +kernel)) (goodIn_sub (fun _ h => List.mem_cons_of_mem _ (List.mem_append_right _ h)) (by decide +kernel))
set_option maxRecDepth 20000 in
theorem gX5_timesPlus_X5_trim : GoodIn wsX5_timesPlus (wsV RX5 34 RX5 yX5_trim wsX5_trim) := goodIn_app (goodIn_of _ (by decide +kernel)) ggX5_timesPlus_X5_trim
theorem dX5_timesPlus_0 : decode cX5_timesPlus 0 = .ok (.aload_n 0, 1) := by decide +kernel
theorem dX5_timesPlus_1 : decode cX5_timesPlus 1 = .ok (.getfield 21, 3) := by decide +kernel
theorem dX5_timesPlus_4 : decode cX5_timesPlus 4 = .ok (.iconst 1, 1) := by decide +kernel
theorem dX5_timesPlus_5 : decode cX5_timesPlus 5 = .ok (.iadd, 1) := by decide +kernel
theorem dX5_timesPlus_6 : decode cX5_timesPlus 6 = .ok (.aload_n 0, 1) := by decide +kernel
theorem dX5_timesPlus_7 : decode cX5_timesPlus 7 = .ok (.getfield 15, 3) := by decide +kernel
theorem dX5_timesPlus_10 : decode cX5_timesPlus 10 = .ok (.arraylength, 1) := by decide +kernel
theorem dX5_timesPlus_11 : decode cX5_timesPlus 11 = .ok (.invokestatic 27, 3) := by decide +kernel
theorem dX5_timesPlus_14 : decode cX5_timesPlus 14 = .ok (.istore_n 3, 1) := by decide +kernel
theorem dX5_timesPlus_15 : decode cX5_timesPlus 15 = .ok (.iload_n 2, 1) := by decide +kernel
theorem dX5_timesPlus_16 : decode cX5_timesPlus 16 = .ok (.i2l, 1) := by decide +kernel
theorem dX5_timesPlus_17 : decode cX5_timesPlus 17 = .ok (.lstore 4, 2) := by decide +kernel
theorem dX5_timesPlus_19 : decode cX5_timesPlus 19 = .ok (.iconst 0, 1) := by decide +kernel
theorem dX5_timesPlus_20 : decode cX5_timesPlus 20 = .ok (.istore 6, 2) := by decide +kernel
theorem dX5_timesPlus_22 : decode cX5_timesPlus 22 = .ok (.iload 6, 2) := by decide +kernel
theorem dX5_timesPlus_24 : decode cX5_timesPlus 24 = .ok (.iload_n 3, 1) := by decide +kernel
theorem dX5_timesPlus_25 : decode cX5_timesPlus 25 = .ok (.if_icmp .ge 38, 3) := by decide +kernel
theorem dX5_timesPlus_28 : decode cX5_timesPlus 28 = .ok (.aload_n 0, 1) := by decide +kernel
theorem dX5_timesPlus_29 : decode cX5_timesPlus 29 = .ok (.iload 6, 2) := by decide +kernel
theorem dX5_timesPlus_31 : decode cX5_timesPlus 31 = .ok (.invokevirtual 44, 3) := by decide +kernel
theorem dX5_timesPlus_34 : decode cX5_timesPlus 34 = .ok (.iload_n 1, 1) := by decide +kernel
theorem dX5_timesPlus_35 : decode cX5_timesPlus 35 = .ok (.i2l, 1) := by decide +kernel
theorem dX5_timesPlus_36 : decode cX5_timesPlus 36 = .ok (.lmul, 1) := by decide +kernel
theorem dX5_timesPlus_37 : decode cX5_timesPlus 37 = .ok (.lload 4, 2) := by decide +kernel
theorem dX5_timesPlus_39 : decode cX5_timesPlus 39 = .ok (.ladd, 1) := by decide +kernel
theorem dX5_timesPlus_40 : decode cX5_timesPlus 40 = .ok (.lstore 7, 2) := by decide +kernel
theorem dX5_timesPlus_42 : decode cX5_timesPlus 42 = .ok (.aload_n 0, 1) := by decide +kernel
theorem dX5_timesPlus_43 : decode cX5_timesPlus 43 = .ok (.iload 6, 2) := by decide +kernel
theorem dX5_timesPlus_45 : decode cX5_timesPlus 45 = .ok (.lload 7, 2) := by decide +kernel
theorem dX5_timesPlus_47 : decode cX5_timesPlus 47 = .ok (.invokevirtual 30, 3) := by decide +kernel
theorem dX5_timesPlus_50 : decode cX5_timesPlus 50 = .ok (.lload 7, 2) := by decide +kernel
theorem dX5_timesPlus_52 : decode cX5_timesPlus 52 = .ok (.bipush 32, 2) := by decide +kernel
theorem dX5_timesPlus_54 : decode cX5_timesPlus 54 = .ok (.lushr, 1) := by decide +kernel
theorem dX5_timesPlus_55 : decode cX5_timesPlus 55 = .ok (.lstore 4, 2) := by decide +kernel
theorem dX5_timesPlus_57 : decode cX5_timesPlus 57 = .ok (.iinc 6 1, 3) := by decide +kernel
theorem dX5_timesPlus_60 : decode cX5_timesPlus 60 = .ok (.goto (-38), 3) := by decide +kernel
theorem dX5_timesPlus_63 : decode cX5_timesPlus 63 = .ok (.aload_n 0, 1) := by decide +kernel
theorem dX5_timesPlus_64 : decode cX5_timesPlus 64 = .ok (.iload_n 3, 1) := by decide +kernel
theorem dX5_timesPlus_65 : decode cX5_timesPlus 65 = .ok (.invokevirtual 34, 3) := by decide +kernel
theorem dX5_timesPlus_68 : decode cX5_timesPlus 68 = .ok (.return_, 1) := by decide +kernel
set_option maxRecDepth 20000 in
theorem ggX5_divideBy_X5_limbAt : GoodIn wsX5_divideBy wsX5_limbAt := goodIn_ca (goodIn_r _ [6, 1, 7, 8, 24, 25] (by decide +kernel) (by decide +kernel)) (goodIn_sub (fun _ h => List.mem_cons_of_mem _ (List.mem_append_right _ h)) (by decide +kernel))
set_option maxRecDepth 20000 in
theorem gX5_divideBy_X5_limbAt : GoodIn wsX5_divideBy (wsV RX5 44 RX5 yX5_limbAt wsX5_limbAt) := goodIn_app (goodIn_of _ (by decide +kernel)) ggX5_divideBy_X5_limbAt
set_option maxRecDepth 20000 in
theorem ggX5_divideBy_X5_put : GoodIn wsX5_divideBy wsX5_put := goodIn_ca (goodIn_r _ [12, 7, 24, 25] (by decide +kernel) (by decide +kernel)) (goodIn_sub (fun _ h => List.mem_cons_of_mem _ (List.mem_append_right _ h)) (by decide +kernel))
set_option maxRecDepth 20000 in
theorem gX5_divideBy_X5_put : GoodIn wsX5_divideBy (wsV RX5 30 RX5 yX5_put wsX5_put) := goodIn_app (goodIn_of _ (by decide +kernel)) ggX5_divideBy_X5_put
set_option maxRecDepth 20000 in
theorem ggX5_divideBy_X5_trim : GoodIn wsX5_divideBy wsX5_trim := goodIn_ca (goodIn_r _ [16, 7, 17, 18, 19, 20, 21, 22, 23, 1, 24, 25] (by decide +kernel) (by decide +kernel)) (goodIn_sub (fun _ h => List.mem_cons_of_mem _ (List.mem_append_right _ h)) (by decide +kernel))
set_option maxRecDepth 20000 in
theorem gX5_divideBy_X5_trim : GoodIn wsX5_divideBy (wsV RX5 34 RX5 yX5_trim wsX5_trim) := goodIn_app (goodIn_of _ (by decide +kernel)) ggX5_divideBy_X5_trim
theorem dX5_divideBy_0 : decode cX5_divideBy 0 = .ok (.iload_n 1, 1) := by decide +kernel
theorem dX5_divideBy_1 : decode cX5_divideBy 1 = .ok (.ifCond .gt 5, 3) := by decide +kernel
theorem dX5_divideBy_4 : decode cX5_divideBy 4 = .ok (.iconst 0, 1) := by decide +kernel
theorem dX5_divideBy_5 : decode cX5_divideBy 5 = .ok (.ireturn, 1) := by decide +kernel
theorem dX5_divideBy_6 : decode cX5_divideBy 6 = .ok (.lconst 0, 1) := by decide +kernel
theorem dX5_divideBy_7 : decode cX5_divideBy 7 = .ok (.lstore_n 2, 1) := by decide +kernel
theorem dX5_divideBy_8 : decode cX5_divideBy 8 = .ok (.aload_n 0, 1) := by decide +kernel
theorem dX5_divideBy_9 : decode cX5_divideBy 9 = .ok (.getfield 21, 3) := by decide +kernel
theorem dX5_divideBy_12 : decode cX5_divideBy 12 = .ok (.iconst 1, 1) := by decide +kernel
theorem dX5_divideBy_13 : decode cX5_divideBy 13 = .ok (.isub, 1) := by decide +kernel
theorem dX5_divideBy_14 : decode cX5_divideBy 14 = .ok (.istore 4, 2) := by decide +kernel
theorem dX5_divideBy_16 : decode cX5_divideBy 16 = .ok (.iload 4, 2) := by decide +kernel
theorem dX5_divideBy_18 : decode cX5_divideBy 18 = .ok (.ifCond .lt 39, 3) := by decide +kernel
theorem dX5_divideBy_21 : decode cX5_divideBy 21 = .ok (.lload_n 2, 1) := by decide +kernel
theorem dX5_divideBy_22 : decode cX5_divideBy 22 = .ok (.bipush 32, 2) := by decide +kernel
theorem dX5_divideBy_24 : decode cX5_divideBy 24 = .ok (.lshl, 1) := by decide +kernel
theorem dX5_divideBy_25 : decode cX5_divideBy 25 = .ok (.aload_n 0, 1) := by decide +kernel
theorem dX5_divideBy_26 : decode cX5_divideBy 26 = .ok (.iload 4, 2) := by decide +kernel
theorem dX5_divideBy_28 : decode cX5_divideBy 28 = .ok (.invokevirtual 44, 3) := by decide +kernel
theorem dX5_divideBy_31 : decode cX5_divideBy 31 = .ok (.lor, 1) := by decide +kernel
theorem dX5_divideBy_32 : decode cX5_divideBy 32 = .ok (.lstore 5, 2) := by decide +kernel
theorem dX5_divideBy_34 : decode cX5_divideBy 34 = .ok (.aload_n 0, 1) := by decide +kernel
theorem dX5_divideBy_35 : decode cX5_divideBy 35 = .ok (.iload 4, 2) := by decide +kernel
theorem dX5_divideBy_37 : decode cX5_divideBy 37 = .ok (.lload 5, 2) := by decide +kernel
theorem dX5_divideBy_39 : decode cX5_divideBy 39 = .ok (.iload_n 1, 1) := by decide +kernel
theorem dX5_divideBy_40 : decode cX5_divideBy 40 = .ok (.i2l, 1) := by decide +kernel
theorem dX5_divideBy_41 : decode cX5_divideBy 41 = .ok (.ldiv, 1) := by decide +kernel
theorem dX5_divideBy_42 : decode cX5_divideBy 42 = .ok (.invokevirtual 30, 3) := by decide +kernel
theorem dX5_divideBy_45 : decode cX5_divideBy 45 = .ok (.lload 5, 2) := by decide +kernel
theorem dX5_divideBy_47 : decode cX5_divideBy 47 = .ok (.iload_n 1, 1) := by decide +kernel
theorem dX5_divideBy_48 : decode cX5_divideBy 48 = .ok (.i2l, 1) := by decide +kernel
theorem dX5_divideBy_49 : decode cX5_divideBy 49 = .ok (.lrem, 1) := by decide +kernel
theorem dX5_divideBy_50 : decode cX5_divideBy 50 = .ok (.lstore_n 2, 1) := by decide +kernel
theorem dX5_divideBy_51 : decode cX5_divideBy 51 = .ok (.iinc 4 (-1), 3) := by decide +kernel
theorem dX5_divideBy_54 : decode cX5_divideBy 54 = .ok (.goto (-38), 3) := by decide +kernel
theorem dX5_divideBy_57 : decode cX5_divideBy 57 = .ok (.aload_n 0, 1) := by decide +kernel
theorem dX5_divideBy_58 : decode cX5_divideBy 58 = .ok (.aload_n 0, 1) := by decide +kernel
theorem dX5_divideBy_59 : decode cX5_divideBy 59 = .ok (.getfield 21, 3) := by decide +kernel
theorem dX5_divideBy_62 : decode cX5_divideBy 62 = .ok (.invokevirtual 34, 3) := by decide +kernel
theorem dX5_divideBy_65 : decode cX5_divideBy 65 = .ok (.lload_n 2, 1) := by decide +kernel
theorem dX5_divideBy_66 : decode cX5_divideBy 66 = .ok (.l2i, 1) := by decide +kernel
theorem dX5_divideBy_67 : decode cX5_divideBy 67 = .ok (.ireturn, 1) := by decide +kernel
set_option maxRecDepth 20000 in
theorem ggX5_shiftLeft_X5_limbAt : GoodIn wsX5_shiftLeft wsX5_limbAt := goodIn_ca (goodIn_r _ [11, 1, 2, 12, 24, 25] (by decide +kernel) (by decide +kernel)) (goodIn_sub (fun _ h => List.mem_cons_of_mem _ (List.mem_append_right _ h)) (by decide +kernel))
set_option maxRecDepth 20000 in
theorem gX5_shiftLeft_X5_limbAt : GoodIn wsX5_shiftLeft (wsV RX5 44 RX5 yX5_limbAt wsX5_limbAt) := goodIn_app (goodIn_of _ (by decide +kernel)) ggX5_shiftLeft_X5_limbAt
set_option maxRecDepth 20000 in
theorem ggX5_shiftLeft_X5_put : GoodIn wsX5_shiftLeft wsX5_put := goodIn_ca (goodIn_r _ [16, 2, 24, 25] (by decide +kernel) (by decide +kernel)) (goodIn_sub (fun _ h => List.mem_cons_of_mem _ (List.mem_append_right _ h)) (by decide +kernel))
set_option maxRecDepth 20000 in
theorem gX5_shiftLeft_X5_put : GoodIn wsX5_shiftLeft (wsV RX5 30 RX5 yX5_put wsX5_put) := goodIn_app (goodIn_of _ (by decide +kernel)) ggX5_shiftLeft_X5_put
set_option maxRecDepth 20000 in
theorem ggX5_shiftLeft_X5_trim : GoodIn wsX5_shiftLeft wsX5_trim := goodIn_ca (goodIn_r _ [20, 2, 3, 4, 5, 6, 21, 22, 23, 1, 24, 25] (by decide +kernel) (by decide +kernel)) (goodIn_sub (fun _ h => List.mem_cons_of_mem _ (List.mem_append_right _ h)) (by decide +kernel))
set_option maxRecDepth 20000 in
theorem gX5_shiftLeft_X5_trim : GoodIn wsX5_shiftLeft (wsV RX5 34 RX5 yX5_trim wsX5_trim) := goodIn_app (goodIn_of _ (by decide +kernel)) ggX5_shiftLeft_X5_trim
theorem dX5_shiftLeft_0 : decode cX5_shiftLeft 0 = .ok (.iload_n 1, 1) := by decide +kernel
theorem dX5_shiftLeft_1 : decode cX5_shiftLeft 1 = .ok (.ifCond .gt 4, 3) := by decide +kernel
theorem dX5_shiftLeft_4 : decode cX5_shiftLeft 4 = .ok (.return_, 1) := by decide +kernel
theorem dX5_shiftLeft_5 : decode cX5_shiftLeft 5 = .ok (.iload_n 1, 1) := by decide +kernel
theorem dX5_shiftLeft_6 : decode cX5_shiftLeft 6 = .ok (.iconst 5, 1) := by decide +kernel
theorem dX5_shiftLeft_7 : decode cX5_shiftLeft 7 = .ok (.ishr, 1) := by decide +kernel
theorem dX5_shiftLeft_8 : decode cX5_shiftLeft 8 = .ok (.istore_n 2, 1) := by decide +kernel
theorem dX5_shiftLeft_9 : decode cX5_shiftLeft 9 = .ok (.iload_n 1, 1) := by decide +kernel
theorem dX5_shiftLeft_10 : decode cX5_shiftLeft 10 = .ok (.bipush 31, 2) := by decide +kernel
theorem dX5_shiftLeft_12 : decode cX5_shiftLeft 12 = .ok (.iand, 1) := by decide +kernel
theorem dX5_shiftLeft_13 : decode cX5_shiftLeft 13 = .ok (.istore_n 3, 1) := by decide +kernel
theorem dX5_shiftLeft_14 : decode cX5_shiftLeft 14 = .ok (.aload_n 0, 1) := by decide +kernel
theorem dX5_shiftLeft_15 : decode cX5_shiftLeft 15 = .ok (.getfield 21, 3) := by decide +kernel
theorem dX5_shiftLeft_18 : decode cX5_shiftLeft 18 = .ok (.iload_n 2, 1) := by decide +kernel
theorem dX5_shiftLeft_19 : decode cX5_shiftLeft 19 = .ok (.iadd, 1) := by decide +kernel
theorem dX5_shiftLeft_20 : decode cX5_shiftLeft 20 = .ok (.iconst 1, 1) := by decide +kernel
theorem dX5_shiftLeft_21 : decode cX5_shiftLeft 21 = .ok (.iadd, 1) := by decide +kernel
theorem dX5_shiftLeft_22 : decode cX5_shiftLeft 22 = .ok (.aload_n 0, 1) := by decide +kernel
theorem dX5_shiftLeft_23 : decode cX5_shiftLeft 23 = .ok (.getfield 15, 3) := by decide +kernel
theorem dX5_shiftLeft_26 : decode cX5_shiftLeft 26 = .ok (.arraylength, 1) := by decide +kernel
theorem dX5_shiftLeft_27 : decode cX5_shiftLeft 27 = .ok (.invokestatic 27, 3) := by decide +kernel
theorem dX5_shiftLeft_30 : decode cX5_shiftLeft 30 = .ok (.istore 4, 2) := by decide +kernel
theorem dX5_shiftLeft_32 : decode cX5_shiftLeft 32 = .ok (.iload 4, 2) := by decide +kernel
theorem dX5_shiftLeft_34 : decode cX5_shiftLeft 34 = .ok (.iconst 1, 1) := by decide +kernel
theorem dX5_shiftLeft_35 : decode cX5_shiftLeft 35 = .ok (.isub, 1) := by decide +kernel
theorem dX5_shiftLeft_36 : decode cX5_shiftLeft 36 = .ok (.istore 5, 2) := by decide +kernel
theorem dX5_shiftLeft_38 : decode cX5_shiftLeft 38 = .ok (.iload 5, 2) := by decide +kernel
theorem dX5_shiftLeft_40 : decode cX5_shiftLeft 40 = .ok (.ifCond .lt 42, 3) := by decide +kernel
theorem dX5_shiftLeft_43 : decode cX5_shiftLeft 43 = .ok (.aload_n 0, 1) := by decide +kernel
theorem dX5_shiftLeft_44 : decode cX5_shiftLeft 44 = .ok (.iload 5, 2) := by decide +kernel
theorem dX5_shiftLeft_46 : decode cX5_shiftLeft 46 = .ok (.aload_n 0, 1) := by decide +kernel
theorem dX5_shiftLeft_47 : decode cX5_shiftLeft 47 = .ok (.iload 5, 2) := by decide +kernel
theorem dX5_shiftLeft_49 : decode cX5_shiftLeft 49 = .ok (.iload_n 2, 1) := by decide +kernel
theorem dX5_shiftLeft_50 : decode cX5_shiftLeft 50 = .ok (.isub, 1) := by decide +kernel
theorem dX5_shiftLeft_51 : decode cX5_shiftLeft 51 = .ok (.invokevirtual 44, 3) := by decide +kernel
theorem dX5_shiftLeft_54 : decode cX5_shiftLeft 54 = .ok (.bipush 32, 2) := by decide +kernel
theorem dX5_shiftLeft_56 : decode cX5_shiftLeft 56 = .ok (.lshl, 1) := by decide +kernel
theorem dX5_shiftLeft_57 : decode cX5_shiftLeft 57 = .ok (.aload_n 0, 1) := by decide +kernel
theorem dX5_shiftLeft_58 : decode cX5_shiftLeft 58 = .ok (.iload 5, 2) := by decide +kernel
theorem dX5_shiftLeft_60 : decode cX5_shiftLeft 60 = .ok (.iload_n 2, 1) := by decide +kernel
theorem dX5_shiftLeft_61 : decode cX5_shiftLeft 61 = .ok (.isub, 1) := by decide +kernel
theorem dX5_shiftLeft_62 : decode cX5_shiftLeft 62 = .ok (.iconst 1, 1) := by decide +kernel
theorem dX5_shiftLeft_63 : decode cX5_shiftLeft 63 = .ok (.isub, 1) := by decide +kernel
theorem dX5_shiftLeft_64 : decode cX5_shiftLeft 64 = .ok (.invokevirtual 44, 3) := by decide +kernel
theorem dX5_shiftLeft_67 : decode cX5_shiftLeft 67 = .ok (.lor, 1) := by decide +kernel
theorem dX5_shiftLeft_68 : decode cX5_shiftLeft 68 = .ok (.iload_n 3, 1) := by decide +kernel
theorem dX5_shiftLeft_69 : decode cX5_shiftLeft 69 = .ok (.lshl, 1) := by decide +kernel
theorem dX5_shiftLeft_70 : decode cX5_shiftLeft 70 = .ok (.bipush 32, 2) := by decide +kernel
theorem dX5_shiftLeft_72 : decode cX5_shiftLeft 72 = .ok (.lushr, 1) := by decide +kernel
theorem dX5_shiftLeft_73 : decode cX5_shiftLeft 73 = .ok (.invokevirtual 30, 3) := by decide +kernel
theorem dX5_shiftLeft_76 : decode cX5_shiftLeft 76 = .ok (.iinc 5 (-1), 3) := by decide +kernel
theorem dX5_shiftLeft_79 : decode cX5_shiftLeft 79 = .ok (.goto (-41), 3) := by decide +kernel
theorem dX5_shiftLeft_82 : decode cX5_shiftLeft 82 = .ok (.aload_n 0, 1) := by decide +kernel
theorem dX5_shiftLeft_83 : decode cX5_shiftLeft 83 = .ok (.iload 4, 2) := by decide +kernel
theorem dX5_shiftLeft_85 : decode cX5_shiftLeft 85 = .ok (.invokevirtual 34, 3) := by decide +kernel
theorem dX5_shiftLeft_88 : decode cX5_shiftLeft 88 = .ok (.return_, 1) := by decide +kernel
set_option maxRecDepth 20000 in
theorem ggX5_divide_X5_clear : GoodIn wsX5_divide wsX5_clear := goodIn_r _ [7, 1, 56, 57] (by decide +kernel) (by decide +kernel)
set_option maxRecDepth 20000 in
theorem gX5_divide_X5_clear : GoodIn wsX5_divide (wsV RX5 62 RX5 yX5_clear wsX5_clear) := goodIn_app (goodIn_of _ (by decide +kernel)) ggX5_divide_X5_clear
set_option maxRecDepth 20000 in
theorem ggX5_divide_X5_order : GoodIn wsX5_divide wsX5_order := goodIn_ca (goodIn_r _ [11, 1, 12, 13, 14, 6, 15, 16, 2, 56, 57] (by decide +kernel) (by decide +kernel)) (goodIn_sub (fun _ h => List.mem_cons_of_mem _ (List.mem_append_left _ (List.mem_append_right _ h))) (by decide +kernel))
set_option maxRecDepth 20000 in
theorem gX5_divide_X5_order : GoodIn wsX5_divide (wsV RX5 73 RX5 yX5_order wsX5_order) := goodIn_app (goodIn_of _ (by decide +kernel)) ggX5_divide_X5_order
set_option maxRecDepth 20000 in
theorem ggX5_divide_X5_limbAt : GoodIn wsX5_divide wsX5_limbAt := goodIn_ca (goodIn_r _ [15, 1, 16, 2, 56, 57] (by decide +kernel) (by decide +kernel)) (goodIn_sub (fun _ h => List.mem_cons_of_mem _ (List.mem_append_left _ (List.mem_append_right _ h))) (by decide +kernel))
set_option maxRecDepth 20000 in
theorem gX5_divide_X5_limbAt : GoodIn wsX5_divide (wsV RX5 44 RX5 yX5_limbAt wsX5_limbAt) := goodIn_app (goodIn_of _ (by decide +kernel)) ggX5_divide_X5_limbAt
set_option maxRecDepth 20000 in
theorem ggX5_divide_J6_numberOfLeadingZeros_0f7a4 : GoodIn wsX5_divide wsJ6_numberOfLeadingZeros_0f7a4 := goodIn_r _ [20, 21] (by decide +kernel) (by decide +kernel)
set_option maxRecDepth 20000 in
theorem gX5_divide_J6_numberOfLeadingZeros_0f7a4 : GoodIn wsX5_divide (va_wsS RX5 56 yJ6_numberOfLeadingZeros_0f7a4 wsJ6_numberOfLeadingZeros_0f7a4) := goodIn_app (goodIn_of _ (by decide +kernel)) ggX5_divide_J6_numberOfLeadingZeros_0f7a4
set_option maxRecDepth 20000 in
theorem ggX5_divide_X5_pairAt : GoodIn wsX5_divide wsX5_pairAt := goodIn_ca (goodIn_r _ [25, 12, 13, 14, 6, 15, 1, 16, 2, 56, 57] (by decide +kernel) (by decide +kernel)) (goodIn_sub (fun _ h => List.mem_cons_of_mem _ (List.mem_append_left _ (List.mem_append_right _ h))) (by decide +kernel))
set_option maxRecDepth 20000 in
theorem gX5_divide_X5_pairAt : GoodIn wsX5_divide (wsV RX5 77 RX5 yX5_pairAt wsX5_pairAt) := goodIn_app (goodIn_of _ (by decide +kernel)) ggX5_divide_X5_pairAt
set_option maxRecDepth 20000 in
theorem ggX5_divide_X5_guess : GoodIn wsX5_divide wsX5_guess := goodIn_ca (goodIn_r _ [28, 2, 29, 30, 31, 6, 32] (by decide +kernel) (by decide +kernel)) (goodIn_sub (fun _ h => List.mem_cons_of_mem _ (List.mem_append_right _ h)) (by decide +kernel))
set_option maxRecDepth 20000 in
theorem gX5_divide_X5_guess : GoodIn wsX5_divide (va_wsS RX5 81 yX5_guess wsX5_guess) := goodIn_app (goodIn_of _ (by decide +kernel)) ggX5_divide_X5_guess
set_option maxRecDepth 20000 in
theorem ggX5_divide_X5_takeTimes : GoodIn wsX5_divide wsX5_takeTimes := goodIn_ca (goodIn_r _ [36, 1, 37, 38, 39, 40, 16, 2, 12, 13, 14, 6, 15, 56, 57] (by decide +kernel) (by decide +kernel)) (goodIn_sub (fun _ h => List.mem_cons_of_mem _ (List.mem_append_left _ (List.mem_append_right _ h))) (by decide +kernel))
set_option maxRecDepth 20000 in
theorem gX5_divide_X5_takeTimes : GoodIn wsX5_divide (wsV RX5 85 RX5 yX5_takeTimes wsX5_takeTimes) := goodIn_app (goodIn_of _ (by decide +kernel)) ggX5_divide_X5_takeTimes
set_option maxRecDepth 20000 in
theorem ggX5_divide_X5_putBack : GoodIn wsX5_divide wsX5_putBack := goodIn_ca (goodIn_r _ [44, 1, 12, 13, 14, 6, 15, 16, 2, 45, 46, 47, 48, 56, 57] (by decide +kernel) (by decide +kernel)) (goodIn_sub (fun _ h => List.mem_cons_of_mem _ (List.mem_append_left _ (List.mem_append_right _ h))) (by decide +kernel))
set_option maxRecDepth 20000 in
theorem gX5_divide_X5_putBack : GoodIn wsX5_divide (wsV RX5 89 RX5 yX5_putBack wsX5_putBack) := goodIn_app (goodIn_of _ (by decide +kernel)) ggX5_divide_X5_putBack
set_option maxRecDepth 20000 in
theorem ggX5_divide_X5_put : GoodIn wsX5_divide wsX5_put := goodIn_ca (goodIn_r _ [48, 16, 56, 57] (by decide +kernel) (by decide +kernel)) (goodIn_sub (fun _ h => List.mem_cons_of_mem _ (List.mem_append_left _ (List.mem_append_right _ h))) (by decide +kernel))
set_option maxRecDepth 20000 in
theorem gX5_divide_X5_put : GoodIn wsX5_divide (wsV RX5 30 RX5 yX5_put wsX5_put) := goodIn_app (goodIn_of _ (by decide +kernel)) ggX5_divide_X5_put
set_option maxRecDepth 20000 in
theorem ggX5_divide_X5_trim : GoodIn wsX5_divide wsX5_trim := goodIn_ca (goodIn_r _ [52, 16, 37, 38, 39, 40, 53, 54, 55, 1, 56, 57] (by decide +kernel) (by decide +kernel)) (goodIn_sub (fun _ h => List.mem_cons_of_mem _ (List.mem_append_left _ (List.mem_append_right _ h))) (by decide +kernel))
set_option maxRecDepth 20000 in
theorem gX5_divide_X5_trim : GoodIn wsX5_divide (wsV RX5 34 RX5 yX5_trim wsX5_trim) := goodIn_app (goodIn_of _ (by decide +kernel)) ggX5_divide_X5_trim
theorem dX5_divide_0 : decode cX5_divide 0 = .ok (.aload_n 2, 1) := by decide +kernel
theorem dX5_divide_1 : decode cX5_divide 1 = .ok (.invokevirtual 62, 3) := by decide +kernel
theorem dX5_divide_4 : decode cX5_divide 4 = .ok (.aload_n 1, 1) := by decide +kernel
theorem dX5_divide_5 : decode cX5_divide 5 = .ok (.getfield 21, 3) := by decide +kernel
theorem dX5_divide_8 : decode cX5_divide 8 = .ok (.istore_n 3, 1) := by decide +kernel
theorem dX5_divide_9 : decode cX5_divide 9 = .ok (.iload_n 3, 1) := by decide +kernel
theorem dX5_divide_10 : decode cX5_divide 10 = .ok (.ifCond .eq 11, 3) := by decide +kernel
theorem dX5_divide_13 : decode cX5_divide 13 = .ok (.aload_n 0, 1) := by decide +kernel
theorem dX5_divide_14 : decode cX5_divide 14 = .ok (.aload_n 1, 1) := by decide +kernel
theorem dX5_divide_15 : decode cX5_divide 15 = .ok (.invokevirtual 73, 3) := by decide +kernel
theorem dX5_divide_18 : decode cX5_divide 18 = .ok (.ifCond .ge 4, 3) := by decide +kernel
theorem dX5_divide_21 : decode cX5_divide 21 = .ok (.return_, 1) := by decide +kernel
theorem dX5_divide_22 : decode cX5_divide 22 = .ok (.aload_n 1, 1) := by decide +kernel
theorem dX5_divide_23 : decode cX5_divide 23 = .ok (.iload_n 3, 1) := by decide +kernel
theorem dX5_divide_24 : decode cX5_divide 24 = .ok (.iconst 1, 1) := by decide +kernel
theorem dX5_divide_25 : decode cX5_divide 25 = .ok (.isub, 1) := by decide +kernel
theorem dX5_divide_26 : decode cX5_divide 26 = .ok (.invokevirtual 44, 3) := by decide +kernel
theorem dX5_divide_29 : decode cX5_divide 29 = .ok (.l2i, 1) := by decide +kernel
theorem dX5_divide_30 : decode cX5_divide 30 = .ok (.invokestatic 56, 3) := by decide +kernel
theorem dX5_divide_33 : decode cX5_divide 33 = .ok (.istore 4, 2) := by decide +kernel
theorem dX5_divide_35 : decode cX5_divide 35 = .ok (.aload_n 1, 1) := by decide +kernel
theorem dX5_divide_36 : decode cX5_divide 36 = .ok (.iload_n 3, 1) := by decide +kernel
theorem dX5_divide_37 : decode cX5_divide 37 = .ok (.iconst 1, 1) := by decide +kernel
theorem dX5_divide_38 : decode cX5_divide 38 = .ok (.isub, 1) := by decide +kernel
theorem dX5_divide_39 : decode cX5_divide 39 = .ok (.iload 4, 2) := by decide +kernel
theorem dX5_divide_41 : decode cX5_divide 41 = .ok (.invokevirtual 77, 3) := by decide +kernel
theorem dX5_divide_44 : decode cX5_divide 44 = .ok (.lstore 5, 2) := by decide +kernel
theorem dX5_divide_46 : decode cX5_divide 46 = .ok (.aload_n 0, 1) := by decide +kernel
theorem dX5_divide_47 : decode cX5_divide 47 = .ok (.getfield 21, 3) := by decide +kernel
theorem dX5_divide_50 : decode cX5_divide 50 = .ok (.iload_n 3, 1) := by decide +kernel
theorem dX5_divide_51 : decode cX5_divide 51 = .ok (.isub, 1) := by decide +kernel
theorem dX5_divide_52 : decode cX5_divide 52 = .ok (.istore 7, 2) := by decide +kernel
theorem dX5_divide_54 : decode cX5_divide 54 = .ok (.iload 7, 2) := by decide +kernel
theorem dX5_divide_56 : decode cX5_divide 56 = .ok (.istore 8, 2) := by decide +kernel
theorem dX5_divide_58 : decode cX5_divide 58 = .ok (.iload 8, 2) := by decide +kernel
theorem dX5_divide_60 : decode cX5_divide 60 = .ok (.ifCond .lt 96, 3) := by decide +kernel
theorem dX5_divide_63 : decode cX5_divide 63 = .ok (.aload_n 0, 1) := by decide +kernel
theorem dX5_divide_64 : decode cX5_divide 64 = .ok (.iload 8, 2) := by decide +kernel
theorem dX5_divide_66 : decode cX5_divide 66 = .ok (.iload_n 3, 1) := by decide +kernel
theorem dX5_divide_67 : decode cX5_divide 67 = .ok (.iadd, 1) := by decide +kernel
theorem dX5_divide_68 : decode cX5_divide 68 = .ok (.iconst 2, 1) := by decide +kernel
theorem dX5_divide_69 : decode cX5_divide 69 = .ok (.isub, 1) := by decide +kernel
theorem dX5_divide_70 : decode cX5_divide 70 = .ok (.iload 4, 2) := by decide +kernel
theorem dX5_divide_72 : decode cX5_divide 72 = .ok (.invokevirtual 77, 3) := by decide +kernel
theorem dX5_divide_75 : decode cX5_divide 75 = .ok (.bipush 32, 2) := by decide +kernel
theorem dX5_divide_77 : decode cX5_divide 77 = .ok (.lushr, 1) := by decide +kernel
theorem dX5_divide_78 : decode cX5_divide 78 = .ok (.lstore 9, 2) := by decide +kernel
theorem dX5_divide_80 : decode cX5_divide 80 = .ok (.aload_n 0, 1) := by decide +kernel
theorem dX5_divide_81 : decode cX5_divide 81 = .ok (.iload 8, 2) := by decide +kernel
theorem dX5_divide_83 : decode cX5_divide 83 = .ok (.iload_n 3, 1) := by decide +kernel
theorem dX5_divide_84 : decode cX5_divide 84 = .ok (.iadd, 1) := by decide +kernel
theorem dX5_divide_85 : decode cX5_divide 85 = .ok (.iload 4, 2) := by decide +kernel
theorem dX5_divide_87 : decode cX5_divide 87 = .ok (.invokevirtual 77, 3) := by decide +kernel
theorem dX5_divide_90 : decode cX5_divide 90 = .ok (.lload 9, 2) := by decide +kernel
theorem dX5_divide_92 : decode cX5_divide 92 = .ok (.lload 5, 2) := by decide +kernel
theorem dX5_divide_94 : decode cX5_divide 94 = .ok (.bipush 32, 2) := by decide +kernel
theorem dX5_divide_96 : decode cX5_divide 96 = .ok (.lushr, 1) := by decide +kernel
theorem dX5_divide_97 : decode cX5_divide 97 = .ok (.lload 5, 2) := by decide +kernel
theorem dX5_divide_99 : decode cX5_divide 99 = .ok (.ldc2_w 25, 3) := by decide +kernel
theorem dX5_divide_102 : decode cX5_divide 102 = .ok (.land, 1) := by decide +kernel
theorem dX5_divide_103 : decode cX5_divide 103 = .ok (.invokestatic 81, 3) := by decide +kernel
theorem dX5_divide_106 : decode cX5_divide 106 = .ok (.lstore 11, 2) := by decide +kernel
theorem dX5_divide_108 : decode cX5_divide 108 = .ok (.aload_n 0, 1) := by decide +kernel
theorem dX5_divide_109 : decode cX5_divide 109 = .ok (.aload_n 1, 1) := by decide +kernel
theorem dX5_divide_110 : decode cX5_divide 110 = .ok (.lload 11, 2) := by decide +kernel
theorem dX5_divide_112 : decode cX5_divide 112 = .ok (.iload 8, 2) := by decide +kernel
theorem dX5_divide_114 : decode cX5_divide 114 = .ok (.invokevirtual 85, 3) := by decide +kernel
theorem dX5_divide_117 : decode cX5_divide 117 = .ok (.ifCond .ne 16, 3) := by decide +kernel
theorem dX5_divide_120 : decode cX5_divide 120 = .ok (.aload_n 0, 1) := by decide +kernel
theorem dX5_divide_121 : decode cX5_divide 121 = .ok (.aload_n 1, 1) := by decide +kernel
theorem dX5_divide_122 : decode cX5_divide 122 = .ok (.iload 8, 2) := by decide +kernel
theorem dX5_divide_124 : decode cX5_divide 124 = .ok (.invokevirtual 89, 3) := by decide +kernel
theorem dX5_divide_127 : decode cX5_divide 127 = .ok (.lload 11, 2) := by decide +kernel
theorem dX5_divide_129 : decode cX5_divide 129 = .ok (.lconst 1, 1) := by decide +kernel
theorem dX5_divide_130 : decode cX5_divide 130 = .ok (.lsub, 1) := by decide +kernel
theorem dX5_divide_131 : decode cX5_divide 131 = .ok (.lstore 11, 2) := by decide +kernel
theorem dX5_divide_133 : decode cX5_divide 133 = .ok (.aload_n 0, 1) := by decide +kernel
theorem dX5_divide_134 : decode cX5_divide 134 = .ok (.iload 8, 2) := by decide +kernel
theorem dX5_divide_136 : decode cX5_divide 136 = .ok (.iload_n 3, 1) := by decide +kernel
theorem dX5_divide_137 : decode cX5_divide 137 = .ok (.iadd, 1) := by decide +kernel
theorem dX5_divide_138 : decode cX5_divide 138 = .ok (.lconst 0, 1) := by decide +kernel
theorem dX5_divide_139 : decode cX5_divide 139 = .ok (.invokevirtual 30, 3) := by decide +kernel
theorem dX5_divide_142 : decode cX5_divide 142 = .ok (.aload_n 2, 1) := by decide +kernel
theorem dX5_divide_143 : decode cX5_divide 143 = .ok (.iload 8, 2) := by decide +kernel
theorem dX5_divide_145 : decode cX5_divide 145 = .ok (.lload 11, 2) := by decide +kernel
theorem dX5_divide_147 : decode cX5_divide 147 = .ok (.invokevirtual 30, 3) := by decide +kernel
theorem dX5_divide_150 : decode cX5_divide 150 = .ok (.iinc 8 (-1), 3) := by decide +kernel
theorem dX5_divide_153 : decode cX5_divide 153 = .ok (.goto (-95), 3) := by decide +kernel
theorem dX5_divide_156 : decode cX5_divide 156 = .ok (.aload_n 0, 1) := by decide +kernel
theorem dX5_divide_157 : decode cX5_divide 157 = .ok (.aload_n 0, 1) := by decide +kernel
theorem dX5_divide_158 : decode cX5_divide 158 = .ok (.getfield 21, 3) := by decide +kernel
theorem dX5_divide_161 : decode cX5_divide 161 = .ok (.invokevirtual 34, 3) := by decide +kernel
theorem dX5_divide_164 : decode cX5_divide 164 = .ok (.aload_n 2, 1) := by decide +kernel
theorem dX5_divide_165 : decode cX5_divide 165 = .ok (.iload 7, 2) := by decide +kernel
theorem dX5_divide_167 : decode cX5_divide 167 = .ok (.iconst 1, 1) := by decide +kernel
theorem dX5_divide_168 : decode cX5_divide 168 = .ok (.iadd, 1) := by decide +kernel
theorem dX5_divide_169 : decode cX5_divide 169 = .ok (.invokevirtual 34, 3) := by decide +kernel
theorem dX5_divide_172 : decode cX5_divide 172 = .ok (.return_, 1) := by decide +kernel
set_option maxRecDepth 20000 in
theorem ggX5_pairAt_X5_limbAt : GoodIn wsX5_pairAt wsX5_limbAt := goodIn_ca (goodIn_r _ [5, 6, 7, 8, 9, 10] (by decide +kernel) (by decide +kernel)) (goodIn_sub (fun _ h => List.mem_cons_of_mem _ (List.mem_append_right _ h)) (by decide +kernel))
set_option maxRecDepth 20000 in
theorem gX5_pairAt_X5_limbAt : GoodIn wsX5_pairAt (wsV RX5 44 RX5 yX5_limbAt wsX5_limbAt) := goodIn_app (goodIn_of _ (by decide +kernel)) ggX5_pairAt_X5_limbAt
theorem dX5_pairAt_0 : decode cX5_pairAt 0 = .ok (.aload_n 0, 1) := by decide +kernel
theorem dX5_pairAt_1 : decode cX5_pairAt 1 = .ok (.iload_n 1, 1) := by decide +kernel
theorem dX5_pairAt_2 : decode cX5_pairAt 2 = .ok (.invokevirtual 44, 3) := by decide +kernel
theorem dX5_pairAt_5 : decode cX5_pairAt 5 = .ok (.bipush 32, 2) := by decide +kernel
theorem dX5_pairAt_7 : decode cX5_pairAt 7 = .ok (.lshl, 1) := by decide +kernel
theorem dX5_pairAt_8 : decode cX5_pairAt 8 = .ok (.aload_n 0, 1) := by decide +kernel
theorem dX5_pairAt_9 : decode cX5_pairAt 9 = .ok (.iload_n 1, 1) := by decide +kernel
theorem dX5_pairAt_10 : decode cX5_pairAt 10 = .ok (.iconst 1, 1) := by decide +kernel
theorem dX5_pairAt_11 : decode cX5_pairAt 11 = .ok (.isub, 1) := by decide +kernel
theorem dX5_pairAt_12 : decode cX5_pairAt 12 = .ok (.invokevirtual 44, 3) := by decide +kernel
theorem dX5_pairAt_15 : decode cX5_pairAt 15 = .ok (.lor, 1) := by decide +kernel
theorem dX5_pairAt_16 : decode cX5_pairAt 16 = .ok (.iload_n 2, 1) := by decide +kernel
theorem dX5_pairAt_17 : decode cX5_pairAt 17 = .ok (.lshl, 1) := by decide +kernel
theorem dX5_pairAt_18 : decode cX5_pairAt 18 = .ok (.aload_n 0, 1) := by decide +kernel
theorem dX5_pairAt_19 : decode cX5_pairAt 19 = .ok (.iload_n 1, 1) := by decide +kernel
theorem dX5_pairAt_20 : decode cX5_pairAt 20 = .ok (.iconst 2, 1) := by decide +kernel
theorem dX5_pairAt_21 : decode cX5_pairAt 21 = .ok (.isub, 1) := by decide +kernel
theorem dX5_pairAt_22 : decode cX5_pairAt 22 = .ok (.invokevirtual 44, 3) := by decide +kernel
theorem dX5_pairAt_25 : decode cX5_pairAt 25 = .ok (.iload_n 2, 1) := by decide +kernel
theorem dX5_pairAt_26 : decode cX5_pairAt 26 = .ok (.lshl, 1) := by decide +kernel
theorem dX5_pairAt_27 : decode cX5_pairAt 27 = .ok (.bipush 32, 2) := by decide +kernel
theorem dX5_pairAt_29 : decode cX5_pairAt 29 = .ok (.lushr, 1) := by decide +kernel
theorem dX5_pairAt_30 : decode cX5_pairAt 30 = .ok (.lor, 1) := by decide +kernel
theorem dX5_pairAt_31 : decode cX5_pairAt 31 = .ok (.lreturn, 1) := by decide +kernel
set_option maxRecDepth 20000 in
theorem ggX5_guess_X5_quotientOfUnsigned : GoodIn wsX5_guess wsX5_quotientOfUnsigned := goodIn_ca (goodIn_r _ [6] (by decide +kernel) (by decide +kernel)) (goodIn_sub (fun _ h => List.mem_cons_of_mem _ (List.mem_append_right _ h)) (by decide +kernel))
set_option maxRecDepth 20000 in
theorem gX5_guess_X5_quotientOfUnsigned : GoodIn wsX5_guess (va_wsS RX5 93 yX5_quotientOfUnsigned wsX5_quotientOfUnsigned) := goodIn_app (goodIn_of _ (by decide +kernel)) ggX5_guess_X5_quotientOfUnsigned
theorem dX5_guess_0 : decode cX5_guess 0 = .ok (.lload_n 0, 1) := by decide +kernel
theorem dX5_guess_1 : decode cX5_guess 1 = .ok (.lload 4, 2) := by decide +kernel
theorem dX5_guess_3 : decode cX5_guess 3 = .ok (.invokestatic 93, 3) := by decide +kernel
theorem dX5_guess_6 : decode cX5_guess 6 = .ok (.lstore 8, 2) := by decide +kernel
theorem dX5_guess_8 : decode cX5_guess 8 = .ok (.lload_n 0, 1) := by decide +kernel
theorem dX5_guess_9 : decode cX5_guess 9 = .ok (.lload 8, 2) := by decide +kernel
theorem dX5_guess_11 : decode cX5_guess 11 = .ok (.lload 4, 2) := by decide +kernel
theorem dX5_guess_13 : decode cX5_guess 13 = .ok (.lmul, 1) := by decide +kernel
theorem dX5_guess_14 : decode cX5_guess 14 = .ok (.lsub, 1) := by decide +kernel
theorem dX5_guess_15 : decode cX5_guess 15 = .ok (.lstore 10, 2) := by decide +kernel
theorem dX5_guess_17 : decode cX5_guess 17 = .ok (.iconst 0, 1) := by decide +kernel
theorem dX5_guess_18 : decode cX5_guess 18 = .ok (.istore 12, 2) := by decide +kernel
theorem dX5_guess_20 : decode cX5_guess 20 = .ok (.iload 12, 2) := by decide +kernel
theorem dX5_guess_22 : decode cX5_guess 22 = .ok (.iconst 2, 1) := by decide +kernel
theorem dX5_guess_23 : decode cX5_guess 23 = .ok (.if_icmp .ge 64, 3) := by decide +kernel
theorem dX5_guess_26 : decode cX5_guess 26 = .ok (.lload 10, 2) := by decide +kernel
theorem dX5_guess_28 : decode cX5_guess 28 = .ok (.ldc2_w 25, 3) := by decide +kernel
theorem dX5_guess_31 : decode cX5_guess 31 = .ok (.lcmp, 1) := by decide +kernel
theorem dX5_guess_32 : decode cX5_guess 32 = .ok (.ifCond .gt 55, 3) := by decide +kernel
theorem dX5_guess_35 : decode cX5_guess 35 = .ok (.lload 8, 2) := by decide +kernel
theorem dX5_guess_37 : decode cX5_guess 37 = .ok (.ldc2_w 25, 3) := by decide +kernel
theorem dX5_guess_40 : decode cX5_guess 40 = .ok (.lcmp, 1) := by decide +kernel
theorem dX5_guess_41 : decode cX5_guess 41 = .ok (.ifCond .gt 27, 3) := by decide +kernel
theorem dX5_guess_44 : decode cX5_guess 44 = .ok (.lload 8, 2) := by decide +kernel
theorem dX5_guess_46 : decode cX5_guess 46 = .ok (.lload 6, 2) := by decide +kernel
theorem dX5_guess_48 : decode cX5_guess 48 = .ok (.lmul, 1) := by decide +kernel
theorem dX5_guess_49 : decode cX5_guess 49 = .ok (.ldc2_w 97, 3) := by decide +kernel
theorem dX5_guess_52 : decode cX5_guess 52 = .ok (.ladd, 1) := by decide +kernel
theorem dX5_guess_53 : decode cX5_guess 53 = .ok (.lload 10, 2) := by decide +kernel
theorem dX5_guess_55 : decode cX5_guess 55 = .ok (.bipush 32, 2) := by decide +kernel
theorem dX5_guess_57 : decode cX5_guess 57 = .ok (.lshl, 1) := by decide +kernel
theorem dX5_guess_58 : decode cX5_guess 58 = .ok (.lload_n 2, 1) := by decide +kernel
theorem dX5_guess_59 : decode cX5_guess 59 = .ok (.lor, 1) := by decide +kernel
theorem dX5_guess_60 : decode cX5_guess 60 = .ok (.ldc2_w 97, 3) := by decide +kernel
theorem dX5_guess_63 : decode cX5_guess 63 = .ok (.ladd, 1) := by decide +kernel
theorem dX5_guess_64 : decode cX5_guess 64 = .ok (.lcmp, 1) := by decide +kernel
theorem dX5_guess_65 : decode cX5_guess 65 = .ok (.ifCond .le 16, 3) := by decide +kernel
theorem dX5_guess_68 : decode cX5_guess 68 = .ok (.lload 8, 2) := by decide +kernel
theorem dX5_guess_70 : decode cX5_guess 70 = .ok (.lconst 1, 1) := by decide +kernel
theorem dX5_guess_71 : decode cX5_guess 71 = .ok (.lsub, 1) := by decide +kernel
theorem dX5_guess_72 : decode cX5_guess 72 = .ok (.lstore 8, 2) := by decide +kernel
theorem dX5_guess_74 : decode cX5_guess 74 = .ok (.lload 10, 2) := by decide +kernel
theorem dX5_guess_76 : decode cX5_guess 76 = .ok (.lload 4, 2) := by decide +kernel
theorem dX5_guess_78 : decode cX5_guess 78 = .ok (.ladd, 1) := by decide +kernel
theorem dX5_guess_79 : decode cX5_guess 79 = .ok (.lstore 10, 2) := by decide +kernel
theorem dX5_guess_81 : decode cX5_guess 81 = .ok (.iinc 12 1, 3) := by decide +kernel
theorem dX5_guess_84 : decode cX5_guess 84 = .ok (.goto (-64), 3) := by decide +kernel
theorem dX5_guess_87 : decode cX5_guess 87 = .ok (.lload 8, 2) := by decide +kernel
theorem dX5_guess_89 : decode cX5_guess 89 = .ok (.lreturn, 1) := by decide +kernel
theorem dX5_quotientOfUnsigned_0 : decode cX5_quotientOfUnsigned 0 = .ok (.lload_n 2, 1) := by decide +kernel
theorem dX5_quotientOfUnsigned_1 : decode cX5_quotientOfUnsigned 1 = .ok (.lconst 0, 1) := by decide +kernel
theorem dX5_quotientOfUnsigned_2 : decode cX5_quotientOfUnsigned 2 = .ok (.lcmp, 1) := by decide +kernel
theorem dX5_quotientOfUnsigned_3 : decode cX5_quotientOfUnsigned 3 = .ok (.ifCond .gt 5, 3) := by decide +kernel
theorem dX5_quotientOfUnsigned_6 : decode cX5_quotientOfUnsigned 6 = .ok (.lconst 0, 1) := by decide +kernel
theorem dX5_quotientOfUnsigned_7 : decode cX5_quotientOfUnsigned 7 = .ok (.lreturn, 1) := by decide +kernel
theorem dX5_quotientOfUnsigned_8 : decode cX5_quotientOfUnsigned 8 = .ok (.lload_n 0, 1) := by decide +kernel
theorem dX5_quotientOfUnsigned_9 : decode cX5_quotientOfUnsigned 9 = .ok (.iconst 1, 1) := by decide +kernel
theorem dX5_quotientOfUnsigned_10 : decode cX5_quotientOfUnsigned 10 = .ok (.lushr, 1) := by decide +kernel
theorem dX5_quotientOfUnsigned_11 : decode cX5_quotientOfUnsigned 11 = .ok (.lload_n 2, 1) := by decide +kernel
theorem dX5_quotientOfUnsigned_12 : decode cX5_quotientOfUnsigned 12 = .ok (.ldiv, 1) := by decide +kernel
theorem dX5_quotientOfUnsigned_13 : decode cX5_quotientOfUnsigned 13 = .ok (.iconst 1, 1) := by decide +kernel
theorem dX5_quotientOfUnsigned_14 : decode cX5_quotientOfUnsigned 14 = .ok (.lshl, 1) := by decide +kernel
theorem dX5_quotientOfUnsigned_15 : decode cX5_quotientOfUnsigned 15 = .ok (.lstore 4, 2) := by decide +kernel
theorem dX5_quotientOfUnsigned_17 : decode cX5_quotientOfUnsigned 17 = .ok (.lload_n 0, 1) := by decide +kernel
theorem dX5_quotientOfUnsigned_18 : decode cX5_quotientOfUnsigned 18 = .ok (.lload 4, 2) := by decide +kernel
theorem dX5_quotientOfUnsigned_20 : decode cX5_quotientOfUnsigned 20 = .ok (.lload_n 2, 1) := by decide +kernel
theorem dX5_quotientOfUnsigned_21 : decode cX5_quotientOfUnsigned 21 = .ok (.lmul, 1) := by decide +kernel
theorem dX5_quotientOfUnsigned_22 : decode cX5_quotientOfUnsigned 22 = .ok (.lsub, 1) := by decide +kernel
theorem dX5_quotientOfUnsigned_23 : decode cX5_quotientOfUnsigned 23 = .ok (.lload_n 2, 1) := by decide +kernel
theorem dX5_quotientOfUnsigned_24 : decode cX5_quotientOfUnsigned 24 = .ok (.lcmp, 1) := by decide +kernel
theorem dX5_quotientOfUnsigned_25 : decode cX5_quotientOfUnsigned 25 = .ok (.ifCond .lt 10, 3) := by decide +kernel
theorem dX5_quotientOfUnsigned_28 : decode cX5_quotientOfUnsigned 28 = .ok (.lload 4, 2) := by decide +kernel
theorem dX5_quotientOfUnsigned_30 : decode cX5_quotientOfUnsigned 30 = .ok (.lconst 1, 1) := by decide +kernel
theorem dX5_quotientOfUnsigned_31 : decode cX5_quotientOfUnsigned 31 = .ok (.ladd, 1) := by decide +kernel
theorem dX5_quotientOfUnsigned_32 : decode cX5_quotientOfUnsigned 32 = .ok (.goto 5, 3) := by decide +kernel
theorem dX5_quotientOfUnsigned_35 : decode cX5_quotientOfUnsigned 35 = .ok (.lload 4, 2) := by decide +kernel
theorem dX5_quotientOfUnsigned_37 : decode cX5_quotientOfUnsigned 37 = .ok (.lreturn, 1) := by decide +kernel
set_option maxRecDepth 20000 in
theorem ggX5_takeTimes_X5_limbAt : GoodIn wsX5_takeTimes wsX5_limbAt := goodIn_ca (goodIn_r _ [12, 1, 6, 7, 13, 14] (by decide +kernel) (by decide +kernel)) (goodIn_sub (fun _ h => List.mem_cons_of_mem _ (List.mem_append_right _ h)) (by decide +kernel))
set_option maxRecDepth 20000 in
theorem gX5_takeTimes_X5_limbAt : GoodIn wsX5_takeTimes (wsV RX5 44 RX5 yX5_limbAt wsX5_limbAt) := goodIn_app (goodIn_of _ (by decide +kernel)) ggX5_takeTimes_X5_limbAt
theorem dX5_takeTimes_0 : decode cX5_takeTimes 0 = .ok (.aload_n 1, 1) := by decide +kernel
theorem dX5_takeTimes_1 : decode cX5_takeTimes 1 = .ok (.getfield 21, 3) := by decide +kernel
theorem dX5_takeTimes_4 : decode cX5_takeTimes 4 = .ok (.aload_n 0, 1) := by decide +kernel
theorem dX5_takeTimes_5 : decode cX5_takeTimes 5 = .ok (.getfield 21, 3) := by decide +kernel
theorem dX5_takeTimes_8 : decode cX5_takeTimes 8 = .ok (.iload 4, 2) := by decide +kernel
theorem dX5_takeTimes_10 : decode cX5_takeTimes 10 = .ok (.isub, 1) := by decide +kernel
theorem dX5_takeTimes_11 : decode cX5_takeTimes 11 = .ok (.invokestatic 27, 3) := by decide +kernel
theorem dX5_takeTimes_14 : decode cX5_takeTimes 14 = .ok (.istore 5, 2) := by decide +kernel
theorem dX5_takeTimes_16 : decode cX5_takeTimes 16 = .ok (.lconst 0, 1) := by decide +kernel
theorem dX5_takeTimes_17 : decode cX5_takeTimes 17 = .ok (.lstore 6, 2) := by decide +kernel
theorem dX5_takeTimes_19 : decode cX5_takeTimes 19 = .ok (.iconst 0, 1) := by decide +kernel
theorem dX5_takeTimes_20 : decode cX5_takeTimes 20 = .ok (.istore 8, 2) := by decide +kernel
theorem dX5_takeTimes_22 : decode cX5_takeTimes 22 = .ok (.iload 8, 2) := by decide +kernel
theorem dX5_takeTimes_24 : decode cX5_takeTimes 24 = .ok (.iload 5, 2) := by decide +kernel
theorem dX5_takeTimes_26 : decode cX5_takeTimes 26 = .ok (.if_icmp .ge 78, 3) := by decide +kernel
theorem dX5_takeTimes_29 : decode cX5_takeTimes 29 = .ok (.lload_n 2, 1) := by decide +kernel
theorem dX5_takeTimes_30 : decode cX5_takeTimes 30 = .ok (.aload_n 1, 1) := by decide +kernel
theorem dX5_takeTimes_31 : decode cX5_takeTimes 31 = .ok (.getfield 15, 3) := by decide +kernel
theorem dX5_takeTimes_34 : decode cX5_takeTimes 34 = .ok (.iload 8, 2) := by decide +kernel
theorem dX5_takeTimes_36 : decode cX5_takeTimes 36 = .ok (.iaload, 1) := by decide +kernel
theorem dX5_takeTimes_37 : decode cX5_takeTimes 37 = .ok (.i2l, 1) := by decide +kernel
theorem dX5_takeTimes_38 : decode cX5_takeTimes 38 = .ok (.ldc2_w 25, 3) := by decide +kernel
theorem dX5_takeTimes_41 : decode cX5_takeTimes 41 = .ok (.land, 1) := by decide +kernel
theorem dX5_takeTimes_42 : decode cX5_takeTimes 42 = .ok (.lmul, 1) := by decide +kernel
theorem dX5_takeTimes_43 : decode cX5_takeTimes 43 = .ok (.lload 6, 2) := by decide +kernel
theorem dX5_takeTimes_45 : decode cX5_takeTimes 45 = .ok (.ladd, 1) := by decide +kernel
theorem dX5_takeTimes_46 : decode cX5_takeTimes 46 = .ok (.lstore 9, 2) := by decide +kernel
theorem dX5_takeTimes_48 : decode cX5_takeTimes 48 = .ok (.aload_n 0, 1) := by decide +kernel
theorem dX5_takeTimes_49 : decode cX5_takeTimes 49 = .ok (.getfield 15, 3) := by decide +kernel
theorem dX5_takeTimes_52 : decode cX5_takeTimes 52 = .ok (.iload 4, 2) := by decide +kernel
theorem dX5_takeTimes_54 : decode cX5_takeTimes 54 = .ok (.iload 8, 2) := by decide +kernel
theorem dX5_takeTimes_56 : decode cX5_takeTimes 56 = .ok (.iadd, 1) := by decide +kernel
theorem dX5_takeTimes_57 : decode cX5_takeTimes 57 = .ok (.iaload, 1) := by decide +kernel
theorem dX5_takeTimes_58 : decode cX5_takeTimes 58 = .ok (.i2l, 1) := by decide +kernel
theorem dX5_takeTimes_59 : decode cX5_takeTimes 59 = .ok (.ldc2_w 25, 3) := by decide +kernel
theorem dX5_takeTimes_62 : decode cX5_takeTimes 62 = .ok (.land, 1) := by decide +kernel
theorem dX5_takeTimes_63 : decode cX5_takeTimes 63 = .ok (.lload 9, 2) := by decide +kernel
theorem dX5_takeTimes_65 : decode cX5_takeTimes 65 = .ok (.ldc2_w 25, 3) := by decide +kernel
theorem dX5_takeTimes_68 : decode cX5_takeTimes 68 = .ok (.land, 1) := by decide +kernel
theorem dX5_takeTimes_69 : decode cX5_takeTimes 69 = .ok (.lsub, 1) := by decide +kernel
theorem dX5_takeTimes_70 : decode cX5_takeTimes 70 = .ok (.lstore 11, 2) := by decide +kernel
theorem dX5_takeTimes_72 : decode cX5_takeTimes 72 = .ok (.aload_n 0, 1) := by decide +kernel
theorem dX5_takeTimes_73 : decode cX5_takeTimes 73 = .ok (.getfield 15, 3) := by decide +kernel
theorem dX5_takeTimes_76 : decode cX5_takeTimes 76 = .ok (.iload 4, 2) := by decide +kernel
theorem dX5_takeTimes_78 : decode cX5_takeTimes 78 = .ok (.iload 8, 2) := by decide +kernel
theorem dX5_takeTimes_80 : decode cX5_takeTimes 80 = .ok (.iadd, 1) := by decide +kernel
theorem dX5_takeTimes_81 : decode cX5_takeTimes 81 = .ok (.lload 11, 2) := by decide +kernel
theorem dX5_takeTimes_83 : decode cX5_takeTimes 83 = .ok (.l2i, 1) := by decide +kernel
theorem dX5_takeTimes_84 : decode cX5_takeTimes 84 = .ok (.iastore, 1) := by decide +kernel
theorem dX5_takeTimes_85 : decode cX5_takeTimes 85 = .ok (.lload 9, 2) := by decide +kernel
theorem dX5_takeTimes_87 : decode cX5_takeTimes 87 = .ok (.bipush 32, 2) := by decide +kernel
theorem dX5_takeTimes_89 : decode cX5_takeTimes 89 = .ok (.lushr, 1) := by decide +kernel
theorem dX5_takeTimes_90 : decode cX5_takeTimes 90 = .ok (.lload 11, 2) := by decide +kernel
theorem dX5_takeTimes_92 : decode cX5_takeTimes 92 = .ok (.bipush 63, 2) := by decide +kernel
theorem dX5_takeTimes_94 : decode cX5_takeTimes 94 = .ok (.lushr, 1) := by decide +kernel
theorem dX5_takeTimes_95 : decode cX5_takeTimes 95 = .ok (.ladd, 1) := by decide +kernel
theorem dX5_takeTimes_96 : decode cX5_takeTimes 96 = .ok (.lstore 6, 2) := by decide +kernel
theorem dX5_takeTimes_98 : decode cX5_takeTimes 98 = .ok (.iinc 8 1, 3) := by decide +kernel
theorem dX5_takeTimes_101 : decode cX5_takeTimes 101 = .ok (.goto (-79), 3) := by decide +kernel
theorem dX5_takeTimes_104 : decode cX5_takeTimes 104 = .ok (.aload_n 0, 1) := by decide +kernel
theorem dX5_takeTimes_105 : decode cX5_takeTimes 105 = .ok (.iload 4, 2) := by decide +kernel
theorem dX5_takeTimes_107 : decode cX5_takeTimes 107 = .ok (.iload 5, 2) := by decide +kernel
theorem dX5_takeTimes_109 : decode cX5_takeTimes 109 = .ok (.iadd, 1) := by decide +kernel
theorem dX5_takeTimes_110 : decode cX5_takeTimes 110 = .ok (.invokevirtual 44, 3) := by decide +kernel
theorem dX5_takeTimes_113 : decode cX5_takeTimes 113 = .ok (.lload 6, 2) := by decide +kernel
theorem dX5_takeTimes_115 : decode cX5_takeTimes 115 = .ok (.lcmp, 1) := by decide +kernel
theorem dX5_takeTimes_116 : decode cX5_takeTimes 116 = .ok (.ifCond .lt 7, 3) := by decide +kernel
theorem dX5_takeTimes_119 : decode cX5_takeTimes 119 = .ok (.iconst 1, 1) := by decide +kernel
theorem dX5_takeTimes_120 : decode cX5_takeTimes 120 = .ok (.goto 4, 3) := by decide +kernel
theorem dX5_takeTimes_123 : decode cX5_takeTimes 123 = .ok (.iconst 0, 1) := by decide +kernel
theorem dX5_takeTimes_124 : decode cX5_takeTimes 124 = .ok (.ireturn, 1) := by decide +kernel
set_option maxRecDepth 20000 in
theorem ggX5_putBack_X5_limbAt : GoodIn wsX5_putBack wsX5_limbAt := goodIn_ca (goodIn_r _ [6, 1, 7, 8, 13, 14] (by decide +kernel) (by decide +kernel)) (goodIn_sub (fun _ h => List.mem_cons_of_mem _ (List.mem_append_right _ h)) (by decide +kernel))
set_option maxRecDepth 20000 in
theorem gX5_putBack_X5_limbAt : GoodIn wsX5_putBack (wsV RX5 44 RX5 yX5_limbAt wsX5_limbAt) := goodIn_app (goodIn_of _ (by decide +kernel)) ggX5_putBack_X5_limbAt
set_option maxRecDepth 20000 in
theorem ggX5_putBack_X5_put : GoodIn wsX5_putBack wsX5_put := goodIn_ca (goodIn_r _ [12, 7, 13, 14] (by decide +kernel) (by decide +kernel)) (goodIn_sub (fun _ h => List.mem_cons_of_mem _ (List.mem_append_right _ h)) (by decide +kernel))
set_option maxRecDepth 20000 in
theorem gX5_putBack_X5_put : GoodIn wsX5_putBack (wsV RX5 30 RX5 yX5_put wsX5_put) := goodIn_app (goodIn_of _ (by decide +kernel)) ggX5_putBack_X5_put
theorem dX5_putBack_0 : decode cX5_putBack 0 = .ok (.lconst 0, 1) := by decide +kernel
theorem dX5_putBack_1 : decode cX5_putBack 1 = .ok (.lstore_n 3, 1) := by decide +kernel
theorem dX5_putBack_2 : decode cX5_putBack 2 = .ok (.iconst 0, 1) := by decide +kernel
theorem dX5_putBack_3 : decode cX5_putBack 3 = .ok (.istore 5, 2) := by decide +kernel
theorem dX5_putBack_5 : decode cX5_putBack 5 = .ok (.iload 5, 2) := by decide +kernel
theorem dX5_putBack_7 : decode cX5_putBack 7 = .ok (.aload_n 1, 1) := by decide +kernel
theorem dX5_putBack_8 : decode cX5_putBack 8 = .ok (.getfield 21, 3) := by decide +kernel
theorem dX5_putBack_11 : decode cX5_putBack 11 = .ok (.if_icmp .ge 44, 3) := by decide +kernel
theorem dX5_putBack_14 : decode cX5_putBack 14 = .ok (.aload_n 0, 1) := by decide +kernel
theorem dX5_putBack_15 : decode cX5_putBack 15 = .ok (.iload_n 2, 1) := by decide +kernel
theorem dX5_putBack_16 : decode cX5_putBack 16 = .ok (.iload 5, 2) := by decide +kernel
theorem dX5_putBack_18 : decode cX5_putBack 18 = .ok (.iadd, 1) := by decide +kernel
theorem dX5_putBack_19 : decode cX5_putBack 19 = .ok (.invokevirtual 44, 3) := by decide +kernel
theorem dX5_putBack_22 : decode cX5_putBack 22 = .ok (.aload_n 1, 1) := by decide +kernel
theorem dX5_putBack_23 : decode cX5_putBack 23 = .ok (.iload 5, 2) := by decide +kernel
theorem dX5_putBack_25 : decode cX5_putBack 25 = .ok (.invokevirtual 44, 3) := by decide +kernel
theorem dX5_putBack_28 : decode cX5_putBack 28 = .ok (.ladd, 1) := by decide +kernel
theorem dX5_putBack_29 : decode cX5_putBack 29 = .ok (.lload_n 3, 1) := by decide +kernel
theorem dX5_putBack_30 : decode cX5_putBack 30 = .ok (.ladd, 1) := by decide +kernel
theorem dX5_putBack_31 : decode cX5_putBack 31 = .ok (.lstore 6, 2) := by decide +kernel
theorem dX5_putBack_33 : decode cX5_putBack 33 = .ok (.aload_n 0, 1) := by decide +kernel
theorem dX5_putBack_34 : decode cX5_putBack 34 = .ok (.iload_n 2, 1) := by decide +kernel
theorem dX5_putBack_35 : decode cX5_putBack 35 = .ok (.iload 5, 2) := by decide +kernel
theorem dX5_putBack_37 : decode cX5_putBack 37 = .ok (.iadd, 1) := by decide +kernel
theorem dX5_putBack_38 : decode cX5_putBack 38 = .ok (.lload 6, 2) := by decide +kernel
theorem dX5_putBack_40 : decode cX5_putBack 40 = .ok (.invokevirtual 30, 3) := by decide +kernel
theorem dX5_putBack_43 : decode cX5_putBack 43 = .ok (.lload 6, 2) := by decide +kernel
theorem dX5_putBack_45 : decode cX5_putBack 45 = .ok (.bipush 32, 2) := by decide +kernel
theorem dX5_putBack_47 : decode cX5_putBack 47 = .ok (.lushr, 1) := by decide +kernel
theorem dX5_putBack_48 : decode cX5_putBack 48 = .ok (.lstore_n 3, 1) := by decide +kernel
theorem dX5_putBack_49 : decode cX5_putBack 49 = .ok (.iinc 5 1, 3) := by decide +kernel
theorem dX5_putBack_52 : decode cX5_putBack 52 = .ok (.goto (-47), 3) := by decide +kernel
theorem dX5_putBack_55 : decode cX5_putBack 55 = .ok (.return_, 1) := by decide +kernel
set_option maxRecDepth 20000 in
theorem ggX6_init_X2_init : GoodIn wsX6_init wsX2_init := goodIn_ca (goodIn_r _ [29, 30, 2, 3, 31, 32, 33, 34, 35, 36, 37, 38, 39, 40, 41, 42, 43, 44, 45, 46, 47, 101, 102, 103, 130, 131] (by decide +kernel) (by decide +kernel)) (goodIn_sub (fun _ h => List.mem_cons_of_mem _ (List.mem_append_right _ h)) (by decide +kernel))
set_option maxRecDepth 20000 in
theorem gX6_init_X2_init : GoodIn wsX6_init (wsX2_init) := ggX6_init_X2_init
set_option maxRecDepth 20000 in
theorem ggX6_init_X0_init : GoodIn wsX6_init wsX0_init := goodIn_ca (goodIn_r _ [49, 50, 2, 3, 51, 8, 9, 52, 53, 33, 34, 54, 55, 56, 57, 58, 28, 29, 30, 31, 32, 35, 36, 37, 38, 39, 40, 41, 42, 43, 44, 45, 46, 47, 59, 101, 102, 103, 104, 105, 106, 107, 108, 130, 131] (by decide +kernel) (by decide +kernel)) (goodIn_sub (fun _ h => List.mem_cons_of_mem _ (List.mem_append_right _ h)) (by decide +kernel))
set_option maxRecDepth 20000 in
theorem gX6_init_X0_init_n28 : GoodIn wsX6_init (wsX0_init) := ggX6_init_X0_init
set_option maxRecDepth 20000 in
theorem ggX6_init_X1_init : GoodIn wsX6_init wsX1_init := goodIn_ca (goodIn_r _ [61, 62, 2, 3, 63, 33, 34, 64, 65, 66, 67, 68, 69, 70, 71, 72, 73, 74, 38, 39, 40, 41, 42, 43, 44, 45, 46, 47, 130, 131, 109, 110, 111, 112, 113, 114, 115, 116, 117, 118, 119] (by decide +kernel) (by decide +kernel)) (goodIn_sub (fun _ h => List.mem_cons_of_mem _ (List.mem_append_right _ h)) (by decide +kernel))
set_option maxRecDepth 20000 in
theorem gX6_init_X1_init_n35 : GoodIn wsX6_init (wsX1_init) := ggX6_init_X1_init
set_option maxRecDepth 20000 in
theorem ggX6_init_X4_init : GoodIn wsX6_init wsX4_init := goodIn_r _ [76, 77, 2, 3, 78, 79, 80, 81, 82, 83, 120, 121, 122, 123, 124] (by decide +kernel) (by decide +kernel)
set_option maxRecDepth 20000 in
theorem gX6_init_X4_init_n42 : GoodIn wsX6_init (wsX4_init) := ggX6_init_X4_init
set_option maxRecDepth 20000 in
theorem ggX6_init_X3_init : GoodIn wsX6_init wsX3_init := goodIn_ca (goodIn_r _ [85, 86, 2, 3, 78, 87, 88, 89, 33, 34, 90, 91, 92, 93, 38, 39, 40, 41, 42, 43, 44, 45, 46, 47, 125, 126, 127, 128, 129, 130, 131] (by decide +kernel) (by decide +kernel)) (goodIn_sub (fun _ h => List.mem_cons_of_mem _ (List.mem_append_right _ h)) (by decide +kernel))
set_option maxRecDepth 20000 in
theorem gX6_init_X3_init_n49 : GoodIn wsX6_init (wsX3_init) := ggX6_init_X3_init
theorem dX6_init_0 : decode cX6_init 0 = .ok (.aload_n 0, 1) := by decide +kernel
theorem dX6_init_1 : decode cX6_init 1 = .ok (.invokespecial 1, 3) := by decide +kernel
theorem dX6_init_4 : decode cX6_init 4 = .ok (.aload_n 0, 1) := by decide +kernel
theorem dX6_init_5 : decode cX6_init 5 = .ok (.bipush 24, 2) := by decide +kernel
theorem dX6_init_7 : decode cX6_init 7 = .ok (.anewarray 9, 3) := by decide +kernel
theorem dX6_init_10 : decode cX6_init 10 = .ok (.putfield 11, 3) := by decide +kernel
theorem dX6_init_13 : decode cX6_init 13 = .ok (.aload_n 0, 1) := by decide +kernel
theorem dX6_init_14 : decode cX6_init 14 = .ok (.bipush 24, 2) := by decide +kernel
theorem dX6_init_16 : decode cX6_init 16 = .ok (.newarray .boolean, 2) := by decide +kernel
theorem dX6_init_18 : decode cX6_init 18 = .ok (.putfield 15, 3) := by decide +kernel
theorem dX6_init_21 : decode cX6_init 21 = .ok (.iconst 0, 1) := by decide +kernel
theorem dX6_init_22 : decode cX6_init 22 = .ok (.istore_n 1, 1) := by decide +kernel
theorem dX6_init_23 : decode cX6_init 23 = .ok (.iload_n 1, 1) := by decide +kernel
theorem dX6_init_24 : decode cX6_init 24 = .ok (.bipush 24, 2) := by decide +kernel
theorem dX6_init_26 : decode cX6_init 26 = .ok (.if_icmp .ge 24, 3) := by decide +kernel
theorem dX6_init_29 : decode cX6_init 29 = .ok (.aload_n 0, 1) := by decide +kernel
theorem dX6_init_30 : decode cX6_init 30 = .ok (.getfield 11, 3) := by decide +kernel
theorem dX6_init_33 : decode cX6_init 33 = .ok (.iload_n 1, 1) := by decide +kernel
theorem dX6_init_34 : decode cX6_init 34 = .ok (.new 9, 3) := by decide +kernel
theorem dX6_init_37 : decode cX6_init 37 = .ok (.dup, 1) := by decide +kernel
theorem dX6_init_38 : decode cX6_init 38 = .ok (.bipush 16, 2) := by decide +kernel
theorem dX6_init_40 : decode cX6_init 40 = .ok (.invokespecial 19, 3) := by decide +kernel
theorem dX6_init_43 : decode cX6_init 43 = .ok (.aastore, 1) := by decide +kernel
theorem dX6_init_44 : decode cX6_init 44 = .ok (.iinc 1 1, 3) := by decide +kernel
theorem dX6_init_47 : decode cX6_init 47 = .ok (.goto (-24), 3) := by decide +kernel
theorem dX6_init_50 : decode cX6_init 50 = .ok (.aload_n 0, 1) := by decide +kernel
theorem dX6_init_51 : decode cX6_init 51 = .ok (.iconst 0, 1) := by decide +kernel
theorem dX6_init_52 : decode cX6_init 52 = .ok (.putfield 22, 3) := by decide +kernel
theorem dX6_init_55 : decode cX6_init 55 = .ok (.aload_n 0, 1) := by decide +kernel
theorem dX6_init_56 : decode cX6_init 56 = .ok (.new 26, 3) := by decide +kernel
theorem dX6_init_59 : decode cX6_init 59 = .ok (.dup, 1) := by decide +kernel
theorem dX6_init_60 : decode cX6_init 60 = .ok (.invokespecial 28, 3) := by decide +kernel
theorem dX6_init_63 : decode cX6_init 63 = .ok (.putfield 29, 3) := by decide +kernel
theorem dX6_init_66 : decode cX6_init 66 = .ok (.aload_n 0, 1) := by decide +kernel
theorem dX6_init_67 : decode cX6_init 67 = .ok (.new 33, 3) := by decide +kernel
theorem dX6_init_70 : decode cX6_init 70 = .ok (.dup, 1) := by decide +kernel
theorem dX6_init_71 : decode cX6_init 71 = .ok (.invokespecial 35, 3) := by decide +kernel
theorem dX6_init_74 : decode cX6_init 74 = .ok (.putfield 36, 3) := by decide +kernel
theorem dX6_init_77 : decode cX6_init 77 = .ok (.aload_n 0, 1) := by decide +kernel
theorem dX6_init_78 : decode cX6_init 78 = .ok (.new 40, 3) := by decide +kernel
theorem dX6_init_81 : decode cX6_init 81 = .ok (.dup, 1) := by decide +kernel
theorem dX6_init_82 : decode cX6_init 82 = .ok (.invokespecial 42, 3) := by decide +kernel
theorem dX6_init_85 : decode cX6_init 85 = .ok (.putfield 43, 3) := by decide +kernel
theorem dX6_init_88 : decode cX6_init 88 = .ok (.aload_n 0, 1) := by decide +kernel
theorem dX6_init_89 : decode cX6_init 89 = .ok (.new 47, 3) := by decide +kernel
theorem dX6_init_92 : decode cX6_init 92 = .ok (.dup, 1) := by decide +kernel
theorem dX6_init_93 : decode cX6_init 93 = .ok (.invokespecial 49, 3) := by decide +kernel
theorem dX6_init_96 : decode cX6_init 96 = .ok (.putfield 50, 3) := by decide +kernel
theorem dX6_init_99 : decode cX6_init 99 = .ok (.return_, 1) := by decide +kernel
set_option maxRecDepth 20000 in
theorem ggX6_whole_X6_isFull : GoodIn wsX6_whole wsX6_isFull := goodIn_r _ [6, 7, 133, 134, 135, 136, 137, 138, 139] (by decide +kernel) (by decide +kernel)
set_option maxRecDepth 20000 in
theorem gX6_whole_X6_isFull : GoodIn wsX6_whole (wsV RX6 54 RX6 yX6_isFull wsX6_isFull) := goodIn_app (goodIn_of _ (by decide +kernel)) ggX6_whole_X6_isFull
set_option maxRecDepth 20000 in
theorem ggX6_whole_X2_become : GoodIn wsX6_whole wsX2_become := goodIn_ca (goodIn_r _ [12, 13, 14, 15, 16, 17, 18, 19, 20, 21, 22, 23, 24, 25, 26, 27, 28, 29, 30, 31, 32, 33, 34, 35, 36, 37, 145, 146, 147, 148, 149] (by decide +kernel) (by decide +kernel)) (goodIn_sub (fun _ h => List.mem_cons_of_mem _ (List.mem_append_left _ (List.mem_append_right _ h))) (by decide +kernel))
set_option maxRecDepth 20000 in
theorem gX6_whole_X2_become : GoodIn wsX6_whole (wsV RX6 62 RX2 yX2_become wsX2_become) := goodIn_app (goodIn_of _ (by decide +kernel)) ggX6_whole_X2_become
set_option maxRecDepth 20000 in
theorem ggX6_whole_X6_keep : GoodIn wsX6_whole wsX6_keep := goodIn_ca (goodIn_ca (goodIn_r _ [41, 1, 42, 43, 7, 44, 45, 46, 47, 48, 49, 50, 51, 52, 19, 53, 37, 54, 9, 10, 11, 12, 13, 14, 15, 16, 17, 18, 20, 21, 22, 23, 24, 25, 26, 27, 28, 29, 30, 31, 32, 33, 34, 35, 36, 55, 56, 57, 58, 59, 60, 61, 62, 63, 64, 65, 66, 67, 68, 69, 70, 71, 72, 73, 74, 75, 76, 77, 78, 79, 80, 81, 82, 83, 84, 85, 86, 87, 88, 89, 90, 91, 92, 93, 94, 95, 96, 97, 98, 99, 100, 101, 102, 103, 104, 105, 106, 107, 108, 109, 110, 111, 112, 113, 114, 115, 116, 117, 118, 119, 120, 121, 122, 123, 124, 125, 126, 127, 128, 129, 130, 131, 132, 133, 134, 135, 136, 137, 138, 139, 140, 141, 142, 143, 144, 145, 146, 147, 148, 149] (by decide +kernel) (by decide +kernel)) (goodIn_sub (fun _ h => List.mem_cons_of_mem _ (List.mem_append_left _ (List.mem_append_right _ h))) (by decide +kernel))) (goodIn_sub (fun _ h => List.mem_cons_of_mem _ (List.mem_append_right _ h)) (by decide +kernel))
set_option maxRecDepth 20000 in
theorem gX6_whole_X6_keep : GoodIn wsX6_whole (wsV RX6 66 RX6 yX6_keep wsX6_keep) := goodIn_app (goodIn_of _ (by decide +kernel)) ggX6_whole_X6_keep
theorem dX6_whole_0 : decode cX6_whole 0 = .ok (.aload_n 0, 1) := by decide +kernel
theorem dX6_whole_1 : decode cX6_whole 1 = .ok (.invokevirtual 54, 3) := by decide +kernel
theorem dX6_whole_4 : decode cX6_whole 4 = .ok (.ifCond .eq 6, 3) := by decide +kernel
theorem dX6_whole_7 : decode cX6_whole 7 = .ok (.bipush (-3), 2) := by decide +kernel
theorem dX6_whole_9 : decode cX6_whole 9 = .ok (.ireturn, 1) := by decide +kernel
theorem dX6_whole_10 : decode cX6_whole 10 = .ok (.aload_n 0, 1) := by decide +kernel
theorem dX6_whole_11 : decode cX6_whole 11 = .ok (.getfield 29, 3) := by decide +kernel
theorem dX6_whole_14 : decode cX6_whole 14 = .ok (.getfield 58, 3) := by decide +kernel
theorem dX6_whole_17 : decode cX6_whole 17 = .ok (.lload_n 1, 1) := by decide +kernel
theorem dX6_whole_18 : decode cX6_whole 18 = .ok (.lconst 0, 1) := by decide +kernel
theorem dX6_whole_19 : decode cX6_whole 19 = .ok (.lcmp, 1) := by decide +kernel
theorem dX6_whole_20 : decode cX6_whole 20 = .ok (.ifCond .ge 7, 3) := by decide +kernel
theorem dX6_whole_23 : decode cX6_whole 23 = .ok (.iconst (-1), 1) := by decide +kernel
theorem dX6_whole_24 : decode cX6_whole 24 = .ok (.goto 4, 3) := by decide +kernel
theorem dX6_whole_27 : decode cX6_whole 27 = .ok (.iconst 1, 1) := by decide +kernel
theorem dX6_whole_28 : decode cX6_whole 28 = .ok (.lload_n 1, 1) := by decide +kernel
theorem dX6_whole_29 : decode cX6_whole 29 = .ok (.lconst 0, 1) := by decide +kernel
theorem dX6_whole_30 : decode cX6_whole 30 = .ok (.lcmp, 1) := by decide +kernel
theorem dX6_whole_31 : decode cX6_whole 31 = .ok (.ifCond .ge 8, 3) := by decide +kernel
theorem dX6_whole_34 : decode cX6_whole 34 = .ok (.lload_n 1, 1) := by decide +kernel
theorem dX6_whole_35 : decode cX6_whole 35 = .ok (.lneg, 1) := by decide +kernel
theorem dX6_whole_36 : decode cX6_whole 36 = .ok (.goto 4, 3) := by decide +kernel
theorem dX6_whole_39 : decode cX6_whole 39 = .ok (.lload_n 1, 1) := by decide +kernel
theorem dX6_whole_40 : decode cX6_whole 40 = .ok (.invokevirtual 62, 3) := by decide +kernel
theorem dX6_whole_43 : decode cX6_whole 43 = .ok (.aload_n 0, 1) := by decide +kernel
theorem dX6_whole_44 : decode cX6_whole 44 = .ok (.invokevirtual 66, 3) := by decide +kernel
theorem dX6_whole_47 : decode cX6_whole 47 = .ok (.ireturn, 1) := by decide +kernel
set_option maxRecDepth 20000 in
theorem ggX6_shifted_X6_isFull : GoodIn wsX6_shifted wsX6_isFull := goodIn_r _ [9, 10, 146, 147, 148, 149, 150, 151, 152] (by decide +kernel) (by decide +kernel)
set_option maxRecDepth 20000 in
theorem gX6_shifted_X6_isFull : GoodIn wsX6_shifted (wsV RX6 54 RX6 yX6_isFull wsX6_isFull) := goodIn_app (goodIn_of _ (by decide +kernel)) ggX6_shifted_X6_isFull
set_option maxRecDepth 20000 in
theorem ggX6_shifted_X2_become : GoodIn wsX6_shifted wsX2_become := goodIn_ca (goodIn_r _ [15, 16, 17, 18, 19, 20, 21, 22, 23, 24, 25, 26, 27, 28, 29, 30, 31, 32, 33, 34, 35, 36, 37, 38, 39, 40, 158, 159, 160, 161, 162] (by decide +kernel) (by decide +kernel)) (goodIn_sub (fun _ h => List.mem_cons_of_mem _ (List.mem_append_left _ (List.mem_append_right _ h))) (by decide +kernel))
set_option maxRecDepth 20000 in
theorem gX6_shifted_X2_become : GoodIn wsX6_shifted (wsV RX6 62 RX2 yX2_become wsX2_become) := goodIn_app (goodIn_of _ (by decide +kernel)) ggX6_shifted_X2_become
set_option maxRecDepth 20000 in
theorem ggX6_shifted_X5_shiftLeft : GoodIn wsX6_shifted wsX5_shiftLeft := goodIn_ca (goodIn_r _ [44, 40, 28, 33, 34, 35, 36, 45, 46, 47, 22, 48, 49, 24, 25, 26, 27, 29, 30, 31, 32, 37, 38, 39, 161, 162] (by decide +kernel) (by decide +kernel)) (goodIn_sub (fun _ h => List.mem_cons_of_mem _ (List.mem_append_left _ (List.mem_append_right _ h))) (by decide +kernel))
set_option maxRecDepth 20000 in
theorem gX6_shifted_X5_shiftLeft : GoodIn wsX6_shifted (wsV RX6 81 RX5 yX5_shiftLeft wsX5_shiftLeft) := goodIn_app (goodIn_of _ (by decide +kernel)) ggX6_shifted_X5_shiftLeft
set_option maxRecDepth 20000 in
theorem ggX6_shifted_X6_keep : GoodIn wsX6_shifted wsX6_keep := goodIn_ca (goodIn_ca (goodIn_r _ [53, 4, 54, 55, 10, 56, 57, 58, 59, 60, 61, 62, 63, 64, 22, 65, 40, 66, 12, 13, 14, 15, 16, 17, 18, 19, 20, 21, 23, 24, 25, 26, 27, 28, 29, 30, 31, 32, 33, 34, 35, 36, 37, 38, 39, 67, 68, 69, 70, 45, 46, 47, 48, 49, 71, 72, 73, 74, 75, 76, 77, 78, 79, 80, 81, 82, 83, 84, 85, 86, 87, 88, 89, 90, 91, 92, 93, 94, 95, 96, 97, 98, 99, 100, 101, 102, 103, 104, 105, 106, 107, 108, 109, 110, 111, 112, 113, 114, 115, 116, 117, 118, 119, 120, 121, 122, 123, 124, 125, 126, 127, 128, 129, 130, 131, 132, 133, 134, 135, 136, 137, 138, 139, 146, 147, 148, 149, 150, 151, 152, 153, 154, 155, 156, 157, 158, 159, 160, 161, 162] (by decide +kernel) (by decide +kernel)) (goodIn_sub (fun _ h => List.mem_cons_of_mem _ (List.mem_append_left _ (List.mem_append_right _ h))) (by decide +kernel))) (goodIn_sub (fun _ h => List.mem_cons_of_mem _ (List.mem_append_right _ h)) (by decide +kernel))
set_option maxRecDepth 20000 in
theorem gX6_shifted_X6_keep : GoodIn wsX6_shifted (wsV RX6 66 RX6 yX6_keep wsX6_keep) := goodIn_app (goodIn_of _ (by decide +kernel)) ggX6_shifted_X6_keep
theorem dX6_shifted_0 : decode cX6_shifted 0 = .ok (.iload_n 1, 1) := by decide +kernel
theorem dX6_shifted_1 : decode cX6_shifted 1 = .ok (.ifCond .ge 13, 3) := by decide +kernel
theorem dX6_shifted_4 : decode cX6_shifted 4 = .ok (.new 70, 3) := by decide +kernel
theorem dX6_shifted_7 : decode cX6_shifted 7 = .ok (.dup, 1) := by decide +kernel
theorem dX6_shifted_8 : decode cX6_shifted 8 = .ok (.ldc 72, 2) := by decide +kernel
theorem dX6_shifted_10 : decode cX6_shifted 10 = .ok (.invokespecial 74, 3) := by decide +kernel
theorem dX6_shifted_13 : decode cX6_shifted 13 = .ok (.athrow, 1) := by decide +kernel
theorem dX6_shifted_14 : decode cX6_shifted 14 = .ok (.aload_n 0, 1) := by decide +kernel
theorem dX6_shifted_15 : decode cX6_shifted 15 = .ok (.invokevirtual 54, 3) := by decide +kernel
theorem dX6_shifted_18 : decode cX6_shifted 18 = .ok (.ifCond .eq 6, 3) := by decide +kernel
theorem dX6_shifted_21 : decode cX6_shifted 21 = .ok (.bipush (-3), 2) := by decide +kernel
theorem dX6_shifted_23 : decode cX6_shifted 23 = .ok (.ireturn, 1) := by decide +kernel
theorem dX6_shifted_24 : decode cX6_shifted 24 = .ok (.iload_n 1, 1) := by decide +kernel
theorem dX6_shifted_25 : decode cX6_shifted 25 = .ok (.bipush 16, 2) := by decide +kernel
theorem dX6_shifted_27 : decode cX6_shifted 27 = .ok (.if_icmp .lt 6, 3) := by decide +kernel
theorem dX6_shifted_30 : decode cX6_shifted 30 = .ok (.bipush (-4), 2) := by decide +kernel
theorem dX6_shifted_32 : decode cX6_shifted 32 = .ok (.ireturn, 1) := by decide +kernel
theorem dX6_shifted_33 : decode cX6_shifted 33 = .ok (.aload_n 0, 1) := by decide +kernel
theorem dX6_shifted_34 : decode cX6_shifted 34 = .ok (.getfield 29, 3) := by decide +kernel
theorem dX6_shifted_37 : decode cX6_shifted 37 = .ok (.getfield 58, 3) := by decide +kernel
theorem dX6_shifted_40 : decode cX6_shifted 40 = .ok (.iconst 1, 1) := by decide +kernel
theorem dX6_shifted_41 : decode cX6_shifted 41 = .ok (.lconst 1, 1) := by decide +kernel
theorem dX6_shifted_42 : decode cX6_shifted 42 = .ok (.invokevirtual 62, 3) := by decide +kernel
theorem dX6_shifted_45 : decode cX6_shifted 45 = .ok (.aload_n 0, 1) := by decide +kernel
theorem dX6_shifted_46 : decode cX6_shifted 46 = .ok (.getfield 29, 3) := by decide +kernel
theorem dX6_shifted_49 : decode cX6_shifted 49 = .ok (.getfield 58, 3) := by decide +kernel
theorem dX6_shifted_52 : decode cX6_shifted 52 = .ok (.getfield 77, 3) := by decide +kernel
theorem dX6_shifted_55 : decode cX6_shifted 55 = .ok (.bipush 32, 2) := by decide +kernel
theorem dX6_shifted_57 : decode cX6_shifted 57 = .ok (.iload_n 1, 1) := by decide +kernel
theorem dX6_shifted_58 : decode cX6_shifted 58 = .ok (.imul, 1) := by decide +kernel
theorem dX6_shifted_59 : decode cX6_shifted 59 = .ok (.invokevirtual 81, 3) := by decide +kernel
theorem dX6_shifted_62 : decode cX6_shifted 62 = .ok (.aload_n 0, 1) := by decide +kernel
theorem dX6_shifted_63 : decode cX6_shifted 63 = .ok (.invokevirtual 66, 3) := by decide +kernel
theorem dX6_shifted_66 : decode cX6_shifted 66 = .ok (.ireturn, 1) := by decide +kernel
set_option maxRecDepth 20000 in
theorem ggX6_over_X6_find : GoodIn wsX6_over wsX6_find := goodIn_ca (goodIn_r _ [8, 9, 10, 157, 158, 159, 160, 161, 162, 163] (by decide +kernel) (by decide +kernel)) (goodIn_sub (fun _ h => List.mem_cons_of_mem _ (List.mem_append_left _ (List.mem_append_right _ h))) (by decide +kernel))
set_option maxRecDepth 20000 in
theorem gX6_over_X6_find : GoodIn wsX6_over (wsV RX6 86 RX6 yX6_find wsX6_find) := goodIn_app (goodIn_of _ (by decide +kernel)) ggX6_over_X6_find
set_option maxRecDepth 20000 in
theorem ggX6_over_X6_isFull : GoodIn wsX6_over wsX6_isFull := goodIn_r _ [14, 15, 157, 158, 159, 160, 161, 162, 163] (by decide +kernel) (by decide +kernel)
set_option maxRecDepth 20000 in
theorem gX6_over_X6_isFull : GoodIn wsX6_over (wsV RX6 54 RX6 yX6_isFull wsX6_isFull) := goodIn_app (goodIn_of _ (by decide +kernel)) ggX6_over_X6_isFull
set_option maxRecDepth 20000 in
theorem ggX6_over_X0_quotientOf : GoodIn wsX6_over wsX0_quotientOf := goodIn_ca (goodIn_r _ [20, 21, 22, 23, 24, 25, 26, 27, 28, 29, 30, 31, 32, 33, 34, 35, 36, 37, 38, 39, 40, 41, 42, 43, 44, 45, 46, 47, 48, 49, 50, 51, 52, 53, 54, 55, 56, 57, 58, 59, 60, 164, 165, 166, 167, 168, 154, 155, 156, 169, 170] (by decide +kernel) (by decide +kernel)) (goodIn_sub (fun _ h => List.mem_cons_of_mem _ (List.mem_append_left _ (List.mem_append_right _ h))) (by decide +kernel))
set_option maxRecDepth 20000 in
theorem gX6_over_X0_quotientOf : GoodIn wsX6_over (wsV RX6 98 RX0 yX0_quotientOf wsX0_quotientOf) := goodIn_app (goodIn_of _ (by decide +kernel)) ggX6_over_X0_quotientOf
set_option maxRecDepth 20000 in
theorem ggX6_over_X6_keep : GoodIn wsX6_over wsX6_keep := goodIn_ca (goodIn_ca (goodIn_r _ [64, 3, 9, 10, 15, 65, 66, 67, 19, 68, 21, 69, 70, 71, 25, 72, 31, 73, 74, 75, 76, 77, 78, 79, 80, 81, 82, 83, 84, 44, 45, 46, 47, 40, 57, 58, 59, 60, 41, 42, 38, 43, 36, 37, 39, 85, 86, 87, 88, 48, 49, 50, 51, 52, 89, 90, 91, 92, 93, 94, 95, 96, 97, 98, 99, 100, 101, 102, 103, 104, 105, 106, 107, 27, 28, 29, 30, 108, 109, 110, 111, 112, 113, 114, 115, 116, 117, 118, 119, 120, 121, 122, 123, 124, 125, 126, 127, 128, 129, 130, 131, 132, 133, 134, 135, 136, 137, 138, 139, 140, 141, 142, 143, 144, 145, 146, 147, 148, 149, 150, 151, 152, 153, 157, 158, 159, 160, 161, 162, 163, 164, 165, 166, 167, 168, 154, 155, 156, 169, 170] (by decide +kernel) (by decide +kernel)) (goodIn_sub (fun _ h => List.mem_cons_of_mem _ (List.mem_append_left _ (List.mem_append_right _ h))) (by decide +kernel))) (goodIn_sub (fun _ h => List.mem_cons_of_mem _ (List.mem_append_right _ h)) (by decide +kernel))
set_option maxRecDepth 20000 in
theorem gX6_over_X6_keep : GoodIn wsX6_over (wsV RX6 66 RX6 yX6_keep wsX6_keep) := goodIn_app (goodIn_of _ (by decide +kernel)) ggX6_over_X6_keep
theorem dX6_over_0 : decode cX6_over 0 = .ok (.aload_n 0, 1) := by decide +kernel
theorem dX6_over_1 : decode cX6_over 1 = .ok (.iload_n 1, 1) := by decide +kernel
theorem dX6_over_2 : decode cX6_over 2 = .ok (.invokevirtual 86, 3) := by decide +kernel
theorem dX6_over_5 : decode cX6_over 5 = .ok (.astore_n 3, 1) := by decide +kernel
theorem dX6_over_6 : decode cX6_over 6 = .ok (.aload_n 0, 1) := by decide +kernel
theorem dX6_over_7 : decode cX6_over 7 = .ok (.iload_n 2, 1) := by decide +kernel
theorem dX6_over_8 : decode cX6_over 8 = .ok (.invokevirtual 86, 3) := by decide +kernel
theorem dX6_over_11 : decode cX6_over 11 = .ok (.astore 4, 2) := by decide +kernel
theorem dX6_over_13 : decode cX6_over 13 = .ok (.aload_n 3, 1) := by decide +kernel
theorem dX6_over_14 : decode cX6_over 14 = .ok (.ifnull 8, 3) := by decide +kernel
theorem dX6_over_17 : decode cX6_over 17 = .ok (.aload 4, 2) := by decide +kernel
theorem dX6_over_19 : decode cX6_over 19 = .ok (.ifnonnull 5, 3) := by decide +kernel
theorem dX6_over_22 : decode cX6_over 22 = .ok (.iconst (-1), 1) := by decide +kernel
theorem dX6_over_23 : decode cX6_over 23 = .ok (.ireturn, 1) := by decide +kernel
theorem dX6_over_24 : decode cX6_over 24 = .ok (.aload 4, 2) := by decide +kernel
theorem dX6_over_26 : decode cX6_over 26 = .ok (.getfield 90, 3) := by decide +kernel
theorem dX6_over_29 : decode cX6_over 29 = .ok (.ifCond .ne 13, 3) := by decide +kernel
theorem dX6_over_32 : decode cX6_over 32 = .ok (.new 93, 3) := by decide +kernel
theorem dX6_over_35 : decode cX6_over 35 = .ok (.dup, 1) := by decide +kernel
theorem dX6_over_36 : decode cX6_over 36 = .ok (.ldc 95, 2) := by decide +kernel
theorem dX6_over_38 : decode cX6_over 38 = .ok (.invokespecial 97, 3) := by decide +kernel
theorem dX6_over_41 : decode cX6_over 41 = .ok (.athrow, 1) := by decide +kernel
theorem dX6_over_42 : decode cX6_over 42 = .ok (.aload_n 0, 1) := by decide +kernel
theorem dX6_over_43 : decode cX6_over 43 = .ok (.invokevirtual 54, 3) := by decide +kernel
theorem dX6_over_46 : decode cX6_over 46 = .ok (.ifCond .eq 6, 3) := by decide +kernel
theorem dX6_over_49 : decode cX6_over 49 = .ok (.bipush (-3), 2) := by decide +kernel
theorem dX6_over_51 : decode cX6_over 51 = .ok (.ireturn, 1) := by decide +kernel
theorem dX6_over_52 : decode cX6_over 52 = .ok (.aload_n 0, 1) := by decide +kernel
theorem dX6_over_53 : decode cX6_over 53 = .ok (.getfield 29, 3) := by decide +kernel
theorem dX6_over_56 : decode cX6_over 56 = .ok (.aload_n 3, 1) := by decide +kernel
theorem dX6_over_57 : decode cX6_over 57 = .ok (.aload 4, 2) := by decide +kernel
theorem dX6_over_59 : decode cX6_over 59 = .ok (.invokevirtual 98, 3) := by decide +kernel
theorem dX6_over_62 : decode cX6_over 62 = .ok (.aload_n 0, 1) := by decide +kernel
theorem dX6_over_63 : decode cX6_over 63 = .ok (.invokevirtual 66, 3) := by decide +kernel
theorem dX6_over_66 : decode cX6_over 66 = .ok (.ireturn, 1) := by decide +kernel
set_option maxRecDepth 20000 in
theorem ggX6_apply_X6_find : GoodIn wsX6_apply wsX6_find := goodIn_ca (goodIn_r _ [8, 9, 10, 180, 181, 182, 183, 184, 185, 186] (by decide +kernel) (by decide +kernel)) (goodIn_sub (fun _ h => List.mem_cons_of_mem _ (List.mem_append_left _ (List.mem_append_right _ h))) (by decide +kernel))
set_option maxRecDepth 20000 in
theorem gX6_apply_X6_find : GoodIn wsX6_apply (wsV RX6 86 RX6 yX6_find wsX6_find) := goodIn_app (goodIn_of _ (by decide +kernel)) ggX6_apply_X6_find
set_option maxRecDepth 20000 in
theorem ggX6_apply_X6_isFull : GoodIn wsX6_apply wsX6_isFull := goodIn_r _ [14, 15, 180, 181, 182, 183, 184, 185, 186] (by decide +kernel) (by decide +kernel)
set_option maxRecDepth 20000 in
theorem gX6_apply_X6_isFull : GoodIn wsX6_apply (wsV RX6 54 RX6 yX6_isFull wsX6_isFull) := goodIn_app (goodIn_of _ (by decide +kernel)) ggX6_apply_X6_isFull
set_option maxRecDepth 20000 in
theorem ggX6_apply_X0_sumOf : GoodIn wsX6_apply wsX0_sumOf := goodIn_ca (goodIn_r _ [20, 21, 22, 23, 24, 25, 26, 27, 28, 29, 30, 31, 32, 33, 34, 35, 36, 37, 38, 39, 40, 41, 42, 43, 44, 45, 46, 47, 48, 49, 50, 51, 52, 53, 54, 55, 56, 57, 58, 59, 60, 61, 62, 63, 64, 65, 66, 67, 68, 69, 70, 71, 72, 73, 74, 75, 76, 77, 78, 79, 80, 81, 82, 83, 84, 85, 86, 87, 88, 89, 90, 91, 92, 187, 188, 189, 190, 191, 177, 178, 179, 192, 193] (by decide +kernel) (by decide +kernel)) (goodIn_sub (fun _ h => List.mem_cons_of_mem _ (List.mem_append_left _ (List.mem_append_right _ h))) (by decide +kernel))
set_option maxRecDepth 20000 in
theorem gX6_apply_X0_sumOf : GoodIn wsX6_apply (wsV RX6 104 RX0 yX0_sumOf wsX0_sumOf) := goodIn_app (goodIn_of _ (by decide +kernel)) ggX6_apply_X0_sumOf
set_option maxRecDepth 20000 in
theorem ggX6_apply_X0_productOf : GoodIn wsX6_apply wsX0_productOf := goodIn_ca (goodIn_r _ [96, 21, 23, 24, 25, 26, 27, 28, 29, 30, 31, 32, 33, 34, 35, 36, 37, 38, 39, 40, 41, 42, 43, 44, 45, 46, 47, 48, 49, 50, 51, 52, 53, 54, 55, 56, 57, 58, 59, 60, 61, 187, 188, 189, 190, 191, 177, 178, 179, 192, 193] (by decide +kernel) (by decide +kernel)) (goodIn_sub (fun _ h => List.mem_cons_of_mem _ (List.mem_append_left _ (List.mem_append_right _ h))) (by decide +kernel))
set_option maxRecDepth 20000 in
theorem gX6_apply_X0_productOf : GoodIn wsX6_apply (wsV RX6 108 RX0 yX0_productOf wsX0_productOf) := goodIn_app (goodIn_of _ (by decide +kernel)) ggX6_apply_X0_productOf
set_option maxRecDepth 20000 in
theorem ggX6_apply_X0_restOf : GoodIn wsX6_apply wsX0_restOf := goodIn_ca (goodIn_ca (goodIn_r _ [100, 21, 22, 101, 23, 24, 25, 26, 27, 28, 29, 30, 31, 32, 33, 34, 35, 36, 37, 38, 39, 40, 41, 42, 43, 44, 45, 46, 47, 48, 49, 50, 51, 52, 53, 54, 55, 56, 57, 58, 59, 60, 61, 102, 103, 104, 105, 106, 86, 87, 88, 107, 108, 109, 110, 111, 112, 113, 114, 115, 116, 117, 118, 119, 120, 121, 122, 123, 124, 125, 126, 127, 128, 129, 130, 131, 70, 71, 72, 132, 90, 91, 92, 187, 188, 189, 190, 191, 177, 178, 179, 192, 193] (by decide +kernel) (by decide +kernel)) (goodIn_sub (fun _ h => List.mem_cons_of_mem _ (List.mem_append_left _ (List.mem_append_right _ h))) (by decide +kernel))) (goodIn_sub (fun _ h => List.mem_cons_of_mem _ (List.mem_append_right _ h)) (by decide +kernel))
set_option maxRecDepth 20000 in
theorem gX6_apply_X0_restOf : GoodIn wsX6_apply (wsV RX6 111 RX0 yX0_restOf wsX0_restOf) := goodIn_app (goodIn_of _ (by decide +kernel)) ggX6_apply_X0_restOf
set_option maxRecDepth 20000 in
theorem ggX6_apply_X6_keep : GoodIn wsX6_apply wsX6_keep := goodIn_ca (goodIn_ca (goodIn_r _ [136, 3, 9, 10, 15, 137, 138, 139, 19, 140, 21, 131, 70, 71, 26, 72, 32, 141, 142, 143, 65, 144, 68, 67, 145, 146, 147, 148, 149, 45, 46, 47, 48, 41, 58, 59, 60, 61, 42, 43, 39, 44, 37, 38, 40, 150, 151, 152, 153, 49, 50, 51, 52, 53, 154, 155, 156, 157, 158, 159, 101, 160, 74, 75, 76, 77, 78, 79, 80, 102, 103, 104, 105, 28, 29, 30, 31, 106, 86, 87, 88, 107, 108, 109, 110, 111, 112, 113, 114, 115, 116, 117, 118, 119, 120, 121, 122, 123, 124, 125, 126, 127, 128, 129, 130, 161, 162, 163, 164, 22, 165, 166, 167, 168, 169, 170, 171, 172, 173, 174, 175, 176, 73, 180, 181, 182, 183, 184, 185, 186, 187, 188, 189, 190, 191, 177, 178, 179, 192, 193] (by decide +kernel) (by decide +kernel)) (goodIn_sub (fun _ h => List.mem_cons_of_mem _ (List.mem_append_left _ (List.mem_append_right _ h))) (by decide +kernel))) (goodIn_sub (fun _ h => List.mem_cons_of_mem _ (List.mem_append_right _ h)) (by decide +kernel))
set_option maxRecDepth 20000 in
theorem gX6_apply_X6_keep : GoodIn wsX6_apply (wsV RX6 66 RX6 yX6_keep wsX6_keep) := goodIn_app (goodIn_of _ (by decide +kernel)) ggX6_apply_X6_keep
theorem dX6_apply_0 : decode cX6_apply 0 = .ok (.aload_n 0, 1) := by decide +kernel
theorem dX6_apply_1 : decode cX6_apply 1 = .ok (.iload_n 2, 1) := by decide +kernel
theorem dX6_apply_2 : decode cX6_apply 2 = .ok (.invokevirtual 86, 3) := by decide +kernel
theorem dX6_apply_5 : decode cX6_apply 5 = .ok (.astore 4, 2) := by decide +kernel
theorem dX6_apply_7 : decode cX6_apply 7 = .ok (.aload_n 0, 1) := by decide +kernel
theorem dX6_apply_8 : decode cX6_apply 8 = .ok (.iload_n 3, 1) := by decide +kernel
theorem dX6_apply_9 : decode cX6_apply 9 = .ok (.invokevirtual 86, 3) := by decide +kernel
theorem dX6_apply_12 : decode cX6_apply 12 = .ok (.astore 5, 2) := by decide +kernel
theorem dX6_apply_14 : decode cX6_apply 14 = .ok (.aload 4, 2) := by decide +kernel
theorem dX6_apply_16 : decode cX6_apply 16 = .ok (.ifnull 17, 3) := by decide +kernel
theorem dX6_apply_19 : decode cX6_apply 19 = .ok (.aload 5, 2) := by decide +kernel
theorem dX6_apply_21 : decode cX6_apply 21 = .ok (.ifnull 12, 3) := by decide +kernel
theorem dX6_apply_24 : decode cX6_apply 24 = .ok (.iload_n 1, 1) := by decide +kernel
theorem dX6_apply_25 : decode cX6_apply 25 = .ok (.ifCond .lt 8, 3) := by decide +kernel
theorem dX6_apply_28 : decode cX6_apply 28 = .ok (.iload_n 1, 1) := by decide +kernel
theorem dX6_apply_29 : decode cX6_apply 29 = .ok (.iconst 3, 1) := by decide +kernel
theorem dX6_apply_30 : decode cX6_apply 30 = .ok (.if_icmp .le 5, 3) := by decide +kernel
theorem dX6_apply_33 : decode cX6_apply 33 = .ok (.iconst (-1), 1) := by decide +kernel
theorem dX6_apply_34 : decode cX6_apply 34 = .ok (.ireturn, 1) := by decide +kernel
theorem dX6_apply_35 : decode cX6_apply 35 = .ok (.iload_n 1, 1) := by decide +kernel
theorem dX6_apply_36 : decode cX6_apply 36 = .ok (.iconst 3, 1) := by decide +kernel
theorem dX6_apply_37 : decode cX6_apply 37 = .ok (.if_icmp .ne 21, 3) := by decide +kernel
theorem dX6_apply_40 : decode cX6_apply 40 = .ok (.aload 5, 2) := by decide +kernel
