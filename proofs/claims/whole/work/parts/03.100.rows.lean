theorem dX0_init_0 : decode cX0_init 0 = .ok (.aload_n 0, 1) := by decide +kernel
theorem dX0_init_1 : decode cX0_init 1 = .ok (.invokespecial 3, 3) := by decide +kernel
theorem dX0_init_4 : decode cX0_init 4 = .ok (.aload_n 0, 1) := by decide +kernel
theorem dX0_init_5 : decode cX0_init 5 = .ok (.new 9, 3) := by decide +kernel
theorem dX0_init_8 : decode cX0_init 8 = .ok (.dup, 1) := by decide +kernel
theorem dX0_init_9 : decode cX0_init 9 = .ok (.bipush 36, 2) := by decide +kernel
theorem dX0_init_11 : decode cX0_init 11 = .ok (.invokespecial 11, 3) := by decide +kernel
theorem dX0_init_14 : decode cX0_init 14 = .ok (.putfield 14, 3) := by decide +kernel
theorem dX0_init_17 : decode cX0_init 17 = .ok (.aload_n 0, 1) := by decide +kernel
theorem dX0_init_18 : decode cX0_init 18 = .ok (.new 20, 3) := by decide +kernel
theorem dX0_init_21 : decode cX0_init 21 = .ok (.dup, 1) := by decide +kernel
theorem dX0_init_22 : decode cX0_init 22 = .ok (.bipush 36, 2) := by decide +kernel
theorem dX0_init_24 : decode cX0_init 24 = .ok (.invokespecial 22, 3) := by decide +kernel
theorem dX0_init_27 : decode cX0_init 27 = .ok (.putfield 23, 3) := by decide +kernel
theorem dX0_init_30 : decode cX0_init 30 = .ok (.aload_n 0, 1) := by decide +kernel
theorem dX0_init_31 : decode cX0_init 31 = .ok (.new 20, 3) := by decide +kernel
theorem dX0_init_34 : decode cX0_init 34 = .ok (.dup, 1) := by decide +kernel
theorem dX0_init_35 : decode cX0_init 35 = .ok (.bipush 36, 2) := by decide +kernel
theorem dX0_init_37 : decode cX0_init 37 = .ok (.invokespecial 22, 3) := by decide +kernel
theorem dX0_init_40 : decode cX0_init 40 = .ok (.putfield 27, 3) := by decide +kernel
theorem dX0_init_43 : decode cX0_init 43 = .ok (.aload_n 0, 1) := by decide +kernel
theorem dX0_init_44 : decode cX0_init 44 = .ok (.new 20, 3) := by decide +kernel
theorem dX0_init_47 : decode cX0_init 47 = .ok (.dup, 1) := by decide +kernel
theorem dX0_init_48 : decode cX0_init 48 = .ok (.bipush 36, 2) := by decide +kernel
theorem dX0_init_50 : decode cX0_init 50 = .ok (.invokespecial 22, 3) := by decide +kernel
theorem dX0_init_53 : decode cX0_init 53 = .ok (.putfield 30, 3) := by decide +kernel
theorem dX0_init_56 : decode cX0_init 56 = .ok (.aload_n 0, 1) := by decide +kernel
theorem dX0_init_57 : decode cX0_init 57 = .ok (.new 20, 3) := by decide +kernel
theorem dX0_init_60 : decode cX0_init 60 = .ok (.dup, 1) := by decide +kernel
theorem dX0_init_61 : decode cX0_init 61 = .ok (.bipush 36, 2) := by decide +kernel
theorem dX0_init_63 : decode cX0_init 63 = .ok (.invokespecial 22, 3) := by decide +kernel
theorem dX0_init_66 : decode cX0_init 66 = .ok (.putfield 33, 3) := by decide +kernel
theorem dX0_init_69 : decode cX0_init 69 = .ok (.return_, 1) := by decide +kernel
theorem dX0_reduce_0 : decode cX0_reduce 0 = .ok (.aload_n 0, 1) := by decide +kernel
theorem dX0_reduce_1 : decode cX0_reduce 1 = .ok (.getfield 14, 3) := by decide +kernel
theorem dX0_reduce_4 : decode cX0_reduce 4 = .ok (.getfield 36, 3) := by decide +kernel
theorem dX0_reduce_7 : decode cX0_reduce 7 = .ok (.invokevirtual 39, 3) := by decide +kernel
theorem dX0_reduce_10 : decode cX0_reduce 10 = .ok (.ifCond .eq 13, 3) := by decide +kernel
theorem dX0_reduce_13 : decode cX0_reduce 13 = .ok (.aload_n 0, 1) := by decide +kernel
theorem dX0_reduce_14 : decode cX0_reduce 14 = .ok (.getfield 14, 3) := by decide +kernel
theorem dX0_reduce_17 : decode cX0_reduce 17 = .ok (.iconst 0, 1) := by decide +kernel
theorem dX0_reduce_18 : decode cX0_reduce 18 = .ok (.lconst 0, 1) := by decide +kernel
theorem dX0_reduce_19 : decode cX0_reduce 19 = .ok (.invokevirtual 43, 3) := by decide +kernel
theorem dX0_reduce_22 : decode cX0_reduce 22 = .ok (.return_, 1) := by decide +kernel
theorem dX0_reduce_23 : decode cX0_reduce 23 = .ok (.aload_n 0, 1) := by decide +kernel
theorem dX0_reduce_24 : decode cX0_reduce 24 = .ok (.getfield 14, 3) := by decide +kernel
theorem dX0_reduce_27 : decode cX0_reduce 27 = .ok (.getfield 47, 3) := by decide +kernel
theorem dX0_reduce_30 : decode cX0_reduce 30 = .ok (.invokevirtual 50, 3) := by decide +kernel
theorem dX0_reduce_33 : decode cX0_reduce 33 = .ok (.ifCond .eq 4, 3) := by decide +kernel
theorem dX0_reduce_36 : decode cX0_reduce 36 = .ok (.return_, 1) := by decide +kernel
theorem dX0_reduce_37 : decode cX0_reduce 37 = .ok (.aload_n 0, 1) := by decide +kernel
theorem dX0_reduce_38 : decode cX0_reduce 38 = .ok (.aload_n 0, 1) := by decide +kernel
theorem dX0_reduce_39 : decode cX0_reduce 39 = .ok (.getfield 14, 3) := by decide +kernel
theorem dX0_reduce_42 : decode cX0_reduce 42 = .ok (.getfield 36, 3) := by decide +kernel
theorem dX0_reduce_45 : decode cX0_reduce 45 = .ok (.aload_n 0, 1) := by decide +kernel
theorem dX0_reduce_46 : decode cX0_reduce 46 = .ok (.getfield 14, 3) := by decide +kernel
theorem dX0_reduce_49 : decode cX0_reduce 49 = .ok (.getfield 47, 3) := by decide +kernel
theorem dX0_reduce_52 : decode cX0_reduce 52 = .ok (.invokevirtual 53, 3) := by decide +kernel
theorem dX0_reduce_55 : decode cX0_reduce 55 = .ok (.astore_n 1, 1) := by decide +kernel
theorem dX0_reduce_56 : decode cX0_reduce 56 = .ok (.aload_n 1, 1) := by decide +kernel
theorem dX0_reduce_57 : decode cX0_reduce 57 = .ok (.invokevirtual 50, 3) := by decide +kernel
theorem dX0_reduce_60 : decode cX0_reduce 60 = .ok (.ifCond .ne 27, 3) := by decide +kernel
theorem dX0_reduce_63 : decode cX0_reduce 63 = .ok (.aload_n 0, 1) := by decide +kernel
theorem dX0_reduce_64 : decode cX0_reduce 64 = .ok (.aload_n 0, 1) := by decide +kernel
theorem dX0_reduce_65 : decode cX0_reduce 65 = .ok (.getfield 14, 3) := by decide +kernel
theorem dX0_reduce_68 : decode cX0_reduce 68 = .ok (.getfield 36, 3) := by decide +kernel
theorem dX0_reduce_71 : decode cX0_reduce 71 = .ok (.aload_n 1, 1) := by decide +kernel
theorem dX0_reduce_72 : decode cX0_reduce 72 = .ok (.invokevirtual 57, 3) := by decide +kernel
theorem dX0_reduce_75 : decode cX0_reduce 75 = .ok (.aload_n 0, 1) := by decide +kernel
theorem dX0_reduce_76 : decode cX0_reduce 76 = .ok (.aload_n 0, 1) := by decide +kernel
theorem dX0_reduce_77 : decode cX0_reduce 77 = .ok (.getfield 14, 3) := by decide +kernel
theorem dX0_reduce_80 : decode cX0_reduce 80 = .ok (.getfield 47, 3) := by decide +kernel
theorem dX0_reduce_83 : decode cX0_reduce 83 = .ok (.aload_n 1, 1) := by decide +kernel
theorem dX0_reduce_84 : decode cX0_reduce 84 = .ok (.invokevirtual 57, 3) := by decide +kernel
theorem dX0_reduce_87 : decode cX0_reduce 87 = .ok (.return_, 1) := by decide +kernel
theorem dX0_divideOut_0 : decode cX0_divideOut 0 = .ok (.aload_n 0, 1) := by decide +kernel
theorem dX0_divideOut_1 : decode cX0_divideOut 1 = .ok (.getfield 33, 3) := by decide +kernel
theorem dX0_divideOut_4 : decode cX0_divideOut 4 = .ok (.aload_n 1, 1) := by decide +kernel
theorem dX0_divideOut_5 : decode cX0_divideOut 5 = .ok (.invokevirtual 61, 3) := by decide +kernel
theorem dX0_divideOut_8 : decode cX0_divideOut 8 = .ok (.aload_n 0, 1) := by decide +kernel
theorem dX0_divideOut_9 : decode cX0_divideOut 9 = .ok (.getfield 33, 3) := by decide +kernel
theorem dX0_divideOut_12 : decode cX0_divideOut 12 = .ok (.aload_n 2, 1) := by decide +kernel
theorem dX0_divideOut_13 : decode cX0_divideOut 13 = .ok (.aload_n 1, 1) := by decide +kernel
theorem dX0_divideOut_14 : decode cX0_divideOut 14 = .ok (.invokevirtual 65, 3) := by decide +kernel
theorem dX0_divideOut_17 : decode cX0_divideOut 17 = .ok (.return_, 1) := by decide +kernel
theorem dX0_greatestDivisor_0 : decode cX0_greatestDivisor 0 = .ok (.aload_n 0, 1) := by decide +kernel
theorem dX0_greatestDivisor_1 : decode cX0_greatestDivisor 1 = .ok (.getfield 23, 3) := by decide +kernel
theorem dX0_greatestDivisor_4 : decode cX0_greatestDivisor 4 = .ok (.astore_n 3, 1) := by decide +kernel
theorem dX0_greatestDivisor_5 : decode cX0_greatestDivisor 5 = .ok (.aload_n 0, 1) := by decide +kernel
theorem dX0_greatestDivisor_6 : decode cX0_greatestDivisor 6 = .ok (.getfield 27, 3) := by decide +kernel
theorem dX0_greatestDivisor_9 : decode cX0_greatestDivisor 9 = .ok (.astore 4, 2) := by decide +kernel
theorem dX0_greatestDivisor_11 : decode cX0_greatestDivisor 11 = .ok (.aload_n 3, 1) := by decide +kernel
theorem dX0_greatestDivisor_12 : decode cX0_greatestDivisor 12 = .ok (.aload_n 1, 1) := by decide +kernel
theorem dX0_greatestDivisor_13 : decode cX0_greatestDivisor 13 = .ok (.invokevirtual 61, 3) := by decide +kernel
theorem dX0_greatestDivisor_16 : decode cX0_greatestDivisor 16 = .ok (.aload 4, 2) := by decide +kernel
theorem dX0_greatestDivisor_18 : decode cX0_greatestDivisor 18 = .ok (.aload_n 2, 1) := by decide +kernel
theorem dX0_greatestDivisor_19 : decode cX0_greatestDivisor 19 = .ok (.invokevirtual 61, 3) := by decide +kernel
theorem dX0_greatestDivisor_22 : decode cX0_greatestDivisor 22 = .ok (.iconst 0, 1) := by decide +kernel
theorem dX0_greatestDivisor_23 : decode cX0_greatestDivisor 23 = .ok (.istore 5, 2) := by decide +kernel
theorem dX0_greatestDivisor_25 : decode cX0_greatestDivisor 25 = .ok (.iload 5, 2) := by decide +kernel
theorem dX0_greatestDivisor_27 : decode cX0_greatestDivisor 27 = .ok (.sipush 4000, 3) := by decide +kernel
theorem dX0_greatestDivisor_30 : decode cX0_greatestDivisor 30 = .ok (.if_icmp .ge 37, 3) := by decide +kernel
theorem dX0_greatestDivisor_33 : decode cX0_greatestDivisor 33 = .ok (.aload 4, 2) := by decide +kernel
theorem dX0_greatestDivisor_35 : decode cX0_greatestDivisor 35 = .ok (.invokevirtual 39, 3) := by decide +kernel
theorem dX0_greatestDivisor_38 : decode cX0_greatestDivisor 38 = .ok (.ifCond .ne 29, 3) := by decide +kernel
theorem dX0_greatestDivisor_41 : decode cX0_greatestDivisor 41 = .ok (.aload_n 3, 1) := by decide +kernel
theorem dX0_greatestDivisor_42 : decode cX0_greatestDivisor 42 = .ok (.aload 4, 2) := by decide +kernel
theorem dX0_greatestDivisor_44 : decode cX0_greatestDivisor 44 = .ok (.aload_n 0, 1) := by decide +kernel
theorem dX0_greatestDivisor_45 : decode cX0_greatestDivisor 45 = .ok (.getfield 30, 3) := by decide +kernel
theorem dX0_greatestDivisor_48 : decode cX0_greatestDivisor 48 = .ok (.invokevirtual 65, 3) := by decide +kernel
theorem dX0_greatestDivisor_51 : decode cX0_greatestDivisor 51 = .ok (.aload_n 3, 1) := by decide +kernel
theorem dX0_greatestDivisor_52 : decode cX0_greatestDivisor 52 = .ok (.astore 6, 2) := by decide +kernel
theorem dX0_greatestDivisor_54 : decode cX0_greatestDivisor 54 = .ok (.aload 4, 2) := by decide +kernel
theorem dX0_greatestDivisor_56 : decode cX0_greatestDivisor 56 = .ok (.astore_n 3, 1) := by decide +kernel
theorem dX0_greatestDivisor_57 : decode cX0_greatestDivisor 57 = .ok (.aload 6, 2) := by decide +kernel
theorem dX0_greatestDivisor_59 : decode cX0_greatestDivisor 59 = .ok (.astore 4, 2) := by decide +kernel
theorem dX0_greatestDivisor_61 : decode cX0_greatestDivisor 61 = .ok (.iinc 5 1, 3) := by decide +kernel
theorem dX0_greatestDivisor_64 : decode cX0_greatestDivisor 64 = .ok (.goto (-39), 3) := by decide +kernel
theorem dX0_greatestDivisor_67 : decode cX0_greatestDivisor 67 = .ok (.aload_n 3, 1) := by decide +kernel
theorem dX0_greatestDivisor_68 : decode cX0_greatestDivisor 68 = .ok (.areturn, 1) := by decide +kernel
theorem dX0_sumOf_0 : decode cX0_sumOf 0 = .ok (.aload_n 0, 1) := by decide +kernel
theorem dX0_sumOf_1 : decode cX0_sumOf 1 = .ok (.getfield 14, 3) := by decide +kernel
theorem dX0_sumOf_4 : decode cX0_sumOf 4 = .ok (.aload_n 1, 1) := by decide +kernel
theorem dX0_sumOf_5 : decode cX0_sumOf 5 = .ok (.getfield 68, 3) := by decide +kernel
theorem dX0_sumOf_8 : decode cX0_sumOf 8 = .ok (.putfield 68, 3) := by decide +kernel
theorem dX0_sumOf_11 : decode cX0_sumOf 11 = .ok (.aload_n 0, 1) := by decide +kernel
theorem dX0_sumOf_12 : decode cX0_sumOf 12 = .ok (.getfield 14, 3) := by decide +kernel
theorem dX0_sumOf_15 : decode cX0_sumOf 15 = .ok (.getfield 36, 3) := by decide +kernel
theorem dX0_sumOf_18 : decode cX0_sumOf 18 = .ok (.aload_n 1, 1) := by decide +kernel
theorem dX0_sumOf_19 : decode cX0_sumOf 19 = .ok (.getfield 36, 3) := by decide +kernel
theorem dX0_sumOf_22 : decode cX0_sumOf 22 = .ok (.aload_n 2, 1) := by decide +kernel
theorem dX0_sumOf_23 : decode cX0_sumOf 23 = .ok (.getfield 47, 3) := by decide +kernel
theorem dX0_sumOf_26 : decode cX0_sumOf 26 = .ok (.invokevirtual 72, 3) := by decide +kernel
theorem dX0_sumOf_29 : decode cX0_sumOf 29 = .ok (.aload_n 0, 1) := by decide +kernel
theorem dX0_sumOf_30 : decode cX0_sumOf 30 = .ok (.getfield 33, 3) := by decide +kernel
theorem dX0_sumOf_33 : decode cX0_sumOf 33 = .ok (.aload_n 2, 1) := by decide +kernel
theorem dX0_sumOf_34 : decode cX0_sumOf 34 = .ok (.getfield 36, 3) := by decide +kernel
theorem dX0_sumOf_37 : decode cX0_sumOf 37 = .ok (.aload_n 1, 1) := by decide +kernel
theorem dX0_sumOf_38 : decode cX0_sumOf 38 = .ok (.getfield 47, 3) := by decide +kernel
theorem dX0_sumOf_41 : decode cX0_sumOf 41 = .ok (.invokevirtual 72, 3) := by decide +kernel
theorem dX0_sumOf_44 : decode cX0_sumOf 44 = .ok (.aload_n 0, 1) := by decide +kernel
theorem dX0_sumOf_45 : decode cX0_sumOf 45 = .ok (.getfield 14, 3) := by decide +kernel
theorem dX0_sumOf_48 : decode cX0_sumOf 48 = .ok (.iload_n 3, 1) := by decide +kernel
theorem dX0_sumOf_49 : decode cX0_sumOf 49 = .ok (.aload_n 0, 1) := by decide +kernel
theorem dX0_sumOf_50 : decode cX0_sumOf 50 = .ok (.getfield 33, 3) := by decide +kernel
theorem dX0_sumOf_53 : decode cX0_sumOf 53 = .ok (.invokevirtual 75, 3) := by decide +kernel
theorem dX0_sumOf_56 : decode cX0_sumOf 56 = .ok (.aload_n 0, 1) := by decide +kernel
theorem dX0_sumOf_57 : decode cX0_sumOf 57 = .ok (.getfield 14, 3) := by decide +kernel
theorem dX0_sumOf_60 : decode cX0_sumOf 60 = .ok (.getfield 47, 3) := by decide +kernel
theorem dX0_sumOf_63 : decode cX0_sumOf 63 = .ok (.aload_n 1, 1) := by decide +kernel
theorem dX0_sumOf_64 : decode cX0_sumOf 64 = .ok (.getfield 47, 3) := by decide +kernel
theorem dX0_sumOf_67 : decode cX0_sumOf 67 = .ok (.aload_n 2, 1) := by decide +kernel
theorem dX0_sumOf_68 : decode cX0_sumOf 68 = .ok (.getfield 47, 3) := by decide +kernel
theorem dX0_sumOf_71 : decode cX0_sumOf 71 = .ok (.invokevirtual 72, 3) := by decide +kernel
theorem dX0_sumOf_74 : decode cX0_sumOf 74 = .ok (.return_, 1) := by decide +kernel
theorem dX0_productOf_0 : decode cX0_productOf 0 = .ok (.aload_n 0, 1) := by decide +kernel
theorem dX0_productOf_1 : decode cX0_productOf 1 = .ok (.getfield 14, 3) := by decide +kernel
theorem dX0_productOf_4 : decode cX0_productOf 4 = .ok (.aload_n 1, 1) := by decide +kernel
theorem dX0_productOf_5 : decode cX0_productOf 5 = .ok (.getfield 68, 3) := by decide +kernel
theorem dX0_productOf_8 : decode cX0_productOf 8 = .ok (.aload_n 2, 1) := by decide +kernel
theorem dX0_productOf_9 : decode cX0_productOf 9 = .ok (.getfield 68, 3) := by decide +kernel
theorem dX0_productOf_12 : decode cX0_productOf 12 = .ok (.imul, 1) := by decide +kernel
theorem dX0_productOf_13 : decode cX0_productOf 13 = .ok (.putfield 68, 3) := by decide +kernel
theorem dX0_productOf_16 : decode cX0_productOf 16 = .ok (.aload_n 0, 1) := by decide +kernel
theorem dX0_productOf_17 : decode cX0_productOf 17 = .ok (.getfield 14, 3) := by decide +kernel
theorem dX0_productOf_20 : decode cX0_productOf 20 = .ok (.getfield 36, 3) := by decide +kernel
theorem dX0_productOf_23 : decode cX0_productOf 23 = .ok (.aload_n 1, 1) := by decide +kernel
theorem dX0_productOf_24 : decode cX0_productOf 24 = .ok (.getfield 36, 3) := by decide +kernel
theorem dX0_productOf_27 : decode cX0_productOf 27 = .ok (.aload_n 2, 1) := by decide +kernel
theorem dX0_productOf_28 : decode cX0_productOf 28 = .ok (.getfield 36, 3) := by decide +kernel
theorem dX0_productOf_31 : decode cX0_productOf 31 = .ok (.invokevirtual 72, 3) := by decide +kernel
theorem dX0_productOf_34 : decode cX0_productOf 34 = .ok (.aload_n 0, 1) := by decide +kernel
theorem dX0_productOf_35 : decode cX0_productOf 35 = .ok (.getfield 14, 3) := by decide +kernel
theorem dX0_productOf_38 : decode cX0_productOf 38 = .ok (.getfield 47, 3) := by decide +kernel
theorem dX0_productOf_41 : decode cX0_productOf 41 = .ok (.aload_n 1, 1) := by decide +kernel
theorem dX0_productOf_42 : decode cX0_productOf 42 = .ok (.getfield 47, 3) := by decide +kernel
theorem dX0_productOf_45 : decode cX0_productOf 45 = .ok (.aload_n 2, 1) := by decide +kernel
theorem dX0_productOf_46 : decode cX0_productOf 46 = .ok (.getfield 47, 3) := by decide +kernel
theorem dX0_productOf_49 : decode cX0_productOf 49 = .ok (.invokevirtual 72, 3) := by decide +kernel
theorem dX0_productOf_52 : decode cX0_productOf 52 = .ok (.return_, 1) := by decide +kernel
theorem dX0_quotientOf_0 : decode cX0_quotientOf 0 = .ok (.aload_n 0, 1) := by decide +kernel
theorem dX0_quotientOf_1 : decode cX0_quotientOf 1 = .ok (.getfield 14, 3) := by decide +kernel
theorem dX0_quotientOf_4 : decode cX0_quotientOf 4 = .ok (.aload_n 1, 1) := by decide +kernel
theorem dX0_quotientOf_5 : decode cX0_quotientOf 5 = .ok (.getfield 68, 3) := by decide +kernel
theorem dX0_quotientOf_8 : decode cX0_quotientOf 8 = .ok (.aload_n 2, 1) := by decide +kernel
theorem dX0_quotientOf_9 : decode cX0_quotientOf 9 = .ok (.getfield 68, 3) := by decide +kernel
theorem dX0_quotientOf_12 : decode cX0_quotientOf 12 = .ok (.imul, 1) := by decide +kernel
theorem dX0_quotientOf_13 : decode cX0_quotientOf 13 = .ok (.putfield 68, 3) := by decide +kernel
theorem dX0_quotientOf_16 : decode cX0_quotientOf 16 = .ok (.aload_n 0, 1) := by decide +kernel
theorem dX0_quotientOf_17 : decode cX0_quotientOf 17 = .ok (.getfield 14, 3) := by decide +kernel
theorem dX0_quotientOf_20 : decode cX0_quotientOf 20 = .ok (.getfield 36, 3) := by decide +kernel
theorem dX0_quotientOf_23 : decode cX0_quotientOf 23 = .ok (.aload_n 1, 1) := by decide +kernel
theorem dX0_quotientOf_24 : decode cX0_quotientOf 24 = .ok (.getfield 36, 3) := by decide +kernel
theorem dX0_quotientOf_27 : decode cX0_quotientOf 27 = .ok (.aload_n 2, 1) := by decide +kernel
theorem dX0_quotientOf_28 : decode cX0_quotientOf 28 = .ok (.getfield 47, 3) := by decide +kernel
theorem dX0_quotientOf_31 : decode cX0_quotientOf 31 = .ok (.invokevirtual 72, 3) := by decide +kernel
theorem dX0_quotientOf_34 : decode cX0_quotientOf 34 = .ok (.aload_n 0, 1) := by decide +kernel
theorem dX0_quotientOf_35 : decode cX0_quotientOf 35 = .ok (.getfield 14, 3) := by decide +kernel
theorem dX0_quotientOf_38 : decode cX0_quotientOf 38 = .ok (.getfield 47, 3) := by decide +kernel
theorem dX0_quotientOf_41 : decode cX0_quotientOf 41 = .ok (.aload_n 1, 1) := by decide +kernel
theorem dX0_quotientOf_42 : decode cX0_quotientOf 42 = .ok (.getfield 47, 3) := by decide +kernel
theorem dX0_quotientOf_45 : decode cX0_quotientOf 45 = .ok (.aload_n 2, 1) := by decide +kernel
theorem dX0_quotientOf_46 : decode cX0_quotientOf 46 = .ok (.getfield 36, 3) := by decide +kernel
theorem dX0_quotientOf_49 : decode cX0_quotientOf 49 = .ok (.invokevirtual 72, 3) := by decide +kernel
theorem dX0_quotientOf_52 : decode cX0_quotientOf 52 = .ok (.return_, 1) := by decide +kernel
theorem dX0_restOf_0 : decode cX0_restOf 0 = .ok (.aload_n 0, 1) := by decide +kernel
theorem dX0_restOf_1 : decode cX0_restOf 1 = .ok (.getfield 14, 3) := by decide +kernel
theorem dX0_restOf_4 : decode cX0_restOf 4 = .ok (.aload_n 2, 1) := by decide +kernel
theorem dX0_restOf_5 : decode cX0_restOf 5 = .ok (.getfield 68, 3) := by decide +kernel
theorem dX0_restOf_8 : decode cX0_restOf 8 = .ok (.putfield 68, 3) := by decide +kernel
theorem dX0_restOf_11 : decode cX0_restOf 11 = .ok (.aload_n 0, 1) := by decide +kernel
theorem dX0_restOf_12 : decode cX0_restOf 12 = .ok (.getfield 14, 3) := by decide +kernel
theorem dX0_restOf_15 : decode cX0_restOf 15 = .ok (.getfield 36, 3) := by decide +kernel
theorem dX0_restOf_18 : decode cX0_restOf 18 = .ok (.aload_n 1, 1) := by decide +kernel
theorem dX0_restOf_19 : decode cX0_restOf 19 = .ok (.getfield 36, 3) := by decide +kernel
theorem dX0_restOf_22 : decode cX0_restOf 22 = .ok (.aload_n 2, 1) := by decide +kernel
theorem dX0_restOf_23 : decode cX0_restOf 23 = .ok (.getfield 47, 3) := by decide +kernel
theorem dX0_restOf_26 : decode cX0_restOf 26 = .ok (.invokevirtual 72, 3) := by decide +kernel
theorem dX0_restOf_29 : decode cX0_restOf 29 = .ok (.aload_n 0, 1) := by decide +kernel
theorem dX0_restOf_30 : decode cX0_restOf 30 = .ok (.getfield 33, 3) := by decide +kernel
theorem dX0_restOf_33 : decode cX0_restOf 33 = .ok (.aload_n 2, 1) := by decide +kernel
theorem dX0_restOf_34 : decode cX0_restOf 34 = .ok (.getfield 36, 3) := by decide +kernel
theorem dX0_restOf_37 : decode cX0_restOf 37 = .ok (.aload_n 1, 1) := by decide +kernel
theorem dX0_restOf_38 : decode cX0_restOf 38 = .ok (.getfield 47, 3) := by decide +kernel
theorem dX0_restOf_41 : decode cX0_restOf 41 = .ok (.invokevirtual 72, 3) := by decide +kernel
theorem dX0_restOf_44 : decode cX0_restOf 44 = .ok (.aload_n 0, 1) := by decide +kernel
theorem dX0_restOf_45 : decode cX0_restOf 45 = .ok (.getfield 14, 3) := by decide +kernel
theorem dX0_restOf_48 : decode cX0_restOf 48 = .ok (.getfield 36, 3) := by decide +kernel
theorem dX0_restOf_51 : decode cX0_restOf 51 = .ok (.aload_n 0, 1) := by decide +kernel
theorem dX0_restOf_52 : decode cX0_restOf 52 = .ok (.getfield 33, 3) := by decide +kernel
theorem dX0_restOf_55 : decode cX0_restOf 55 = .ok (.aload_n 0, 1) := by decide +kernel
theorem dX0_restOf_56 : decode cX0_restOf 56 = .ok (.getfield 30, 3) := by decide +kernel
theorem dX0_restOf_59 : decode cX0_restOf 59 = .ok (.invokevirtual 65, 3) := by decide +kernel
theorem dX0_restOf_62 : decode cX0_restOf 62 = .ok (.aload_n 1, 1) := by decide +kernel
theorem dX0_restOf_63 : decode cX0_restOf 63 = .ok (.getfield 68, 3) := by decide +kernel
theorem dX0_restOf_66 : decode cX0_restOf 66 = .ok (.aload_n 2, 1) := by decide +kernel
theorem dX0_restOf_67 : decode cX0_restOf 67 = .ok (.getfield 68, 3) := by decide +kernel
theorem dX0_restOf_70 : decode cX0_restOf 70 = .ok (.if_icmp .eq 37, 3) := by decide +kernel
theorem dX0_restOf_73 : decode cX0_restOf 73 = .ok (.aload_n 0, 1) := by decide +kernel
theorem dX0_restOf_74 : decode cX0_restOf 74 = .ok (.getfield 14, 3) := by decide +kernel
theorem dX0_restOf_77 : decode cX0_restOf 77 = .ok (.getfield 36, 3) := by decide +kernel
theorem dX0_restOf_80 : decode cX0_restOf 80 = .ok (.invokevirtual 39, 3) := by decide +kernel
theorem dX0_restOf_83 : decode cX0_restOf 83 = .ok (.ifCond .ne 24, 3) := by decide +kernel
theorem dX0_restOf_86 : decode cX0_restOf 86 = .ok (.aload_n 0, 1) := by decide +kernel
theorem dX0_restOf_87 : decode cX0_restOf 87 = .ok (.getfield 14, 3) := by decide +kernel
theorem dX0_restOf_90 : decode cX0_restOf 90 = .ok (.getfield 36, 3) := by decide +kernel
theorem dX0_restOf_93 : decode cX0_restOf 93 = .ok (.aload_n 0, 1) := by decide +kernel
theorem dX0_restOf_94 : decode cX0_restOf 94 = .ok (.getfield 33, 3) := by decide +kernel
theorem dX0_restOf_97 : decode cX0_restOf 97 = .ok (.aload_n 0, 1) := by decide +kernel
theorem dX0_restOf_98 : decode cX0_restOf 98 = .ok (.getfield 14, 3) := by decide +kernel
theorem dX0_restOf_101 : decode cX0_restOf 101 = .ok (.getfield 36, 3) := by decide +kernel
theorem dX0_restOf_104 : decode cX0_restOf 104 = .ok (.invokevirtual 79, 3) := by decide +kernel
theorem dX0_restOf_107 : decode cX0_restOf 107 = .ok (.aload_n 0, 1) := by decide +kernel
theorem dX0_restOf_108 : decode cX0_restOf 108 = .ok (.getfield 14, 3) := by decide +kernel
theorem dX0_restOf_111 : decode cX0_restOf 111 = .ok (.getfield 47, 3) := by decide +kernel
theorem dX0_restOf_114 : decode cX0_restOf 114 = .ok (.aload_n 1, 1) := by decide +kernel
theorem dX0_restOf_115 : decode cX0_restOf 115 = .ok (.getfield 47, 3) := by decide +kernel
theorem dX0_restOf_118 : decode cX0_restOf 118 = .ok (.aload_n 2, 1) := by decide +kernel
theorem dX0_restOf_119 : decode cX0_restOf 119 = .ok (.getfield 47, 3) := by decide +kernel
theorem dX0_restOf_122 : decode cX0_restOf 122 = .ok (.invokevirtual 72, 3) := by decide +kernel
theorem dX0_restOf_125 : decode cX0_restOf 125 = .ok (.return_, 1) := by decide +kernel
theorem dX0_powerOf_0 : decode cX0_powerOf 0 = .ok (.iload_n 2, 1) := by decide +kernel
theorem dX0_powerOf_1 : decode cX0_powerOf 1 = .ok (.invokestatic 82, 3) := by decide +kernel
theorem dX0_powerOf_4 : decode cX0_powerOf 4 = .ok (.istore_n 3, 1) := by decide +kernel
theorem dX0_powerOf_5 : decode cX0_powerOf 5 = .ok (.aload_n 0, 1) := by decide +kernel
theorem dX0_powerOf_6 : decode cX0_powerOf 6 = .ok (.getfield 14, 3) := by decide +kernel
theorem dX0_powerOf_9 : decode cX0_powerOf 9 = .ok (.iload_n 3, 1) := by decide +kernel
theorem dX0_powerOf_10 : decode cX0_powerOf 10 = .ok (.iconst 1, 1) := by decide +kernel
theorem dX0_powerOf_11 : decode cX0_powerOf 11 = .ok (.iand, 1) := by decide +kernel
theorem dX0_powerOf_12 : decode cX0_powerOf 12 = .ok (.iconst 1, 1) := by decide +kernel
theorem dX0_powerOf_13 : decode cX0_powerOf 13 = .ok (.if_icmp .ne 10, 3) := by decide +kernel
theorem dX0_powerOf_16 : decode cX0_powerOf 16 = .ok (.aload_n 1, 1) := by decide +kernel
theorem dX0_powerOf_17 : decode cX0_powerOf 17 = .ok (.getfield 68, 3) := by decide +kernel
theorem dX0_powerOf_20 : decode cX0_powerOf 20 = .ok (.goto 4, 3) := by decide +kernel
theorem dX0_powerOf_23 : decode cX0_powerOf 23 = .ok (.iconst 1, 1) := by decide +kernel
theorem dX0_powerOf_24 : decode cX0_powerOf 24 = .ok (.putfield 68, 3) := by decide +kernel
theorem dX0_powerOf_27 : decode cX0_powerOf 27 = .ok (.aload_n 0, 1) := by decide +kernel
theorem dX0_powerOf_28 : decode cX0_powerOf 28 = .ok (.aload_n 0, 1) := by decide +kernel
theorem dX0_powerOf_29 : decode cX0_powerOf 29 = .ok (.getfield 14, 3) := by decide +kernel
theorem dX0_powerOf_32 : decode cX0_powerOf 32 = .ok (.getfield 36, 3) := by decide +kernel
theorem dX0_powerOf_35 : decode cX0_powerOf 35 = .ok (.iload_n 2, 1) := by decide +kernel
theorem dX0_powerOf_36 : decode cX0_powerOf 36 = .ok (.ifCond .ge 10, 3) := by decide +kernel
theorem dX0_powerOf_39 : decode cX0_powerOf 39 = .ok (.aload_n 1, 1) := by decide +kernel
theorem dX0_powerOf_40 : decode cX0_powerOf 40 = .ok (.getfield 47, 3) := by decide +kernel
theorem dX0_powerOf_43 : decode cX0_powerOf 43 = .ok (.goto 7, 3) := by decide +kernel
theorem dX0_powerOf_46 : decode cX0_powerOf 46 = .ok (.aload_n 1, 1) := by decide +kernel
theorem dX0_powerOf_47 : decode cX0_powerOf 47 = .ok (.getfield 36, 3) := by decide +kernel
theorem dX0_powerOf_50 : decode cX0_powerOf 50 = .ok (.iload_n 3, 1) := by decide +kernel
theorem dX0_powerOf_51 : decode cX0_powerOf 51 = .ok (.invokevirtual 88, 3) := by decide +kernel
theorem dX0_powerOf_54 : decode cX0_powerOf 54 = .ok (.aload_n 0, 1) := by decide +kernel
theorem dX0_powerOf_55 : decode cX0_powerOf 55 = .ok (.aload_n 0, 1) := by decide +kernel
theorem dX0_powerOf_56 : decode cX0_powerOf 56 = .ok (.getfield 14, 3) := by decide +kernel
theorem dX0_powerOf_59 : decode cX0_powerOf 59 = .ok (.getfield 47, 3) := by decide +kernel
theorem dX0_powerOf_62 : decode cX0_powerOf 62 = .ok (.iload_n 2, 1) := by decide +kernel
theorem dX0_powerOf_63 : decode cX0_powerOf 63 = .ok (.ifCond .ge 10, 3) := by decide +kernel
theorem dX0_powerOf_66 : decode cX0_powerOf 66 = .ok (.aload_n 1, 1) := by decide +kernel
theorem dX0_powerOf_67 : decode cX0_powerOf 67 = .ok (.getfield 36, 3) := by decide +kernel
theorem dX0_powerOf_70 : decode cX0_powerOf 70 = .ok (.goto 7, 3) := by decide +kernel
theorem dX0_powerOf_73 : decode cX0_powerOf 73 = .ok (.aload_n 1, 1) := by decide +kernel
theorem dX0_powerOf_74 : decode cX0_powerOf 74 = .ok (.getfield 47, 3) := by decide +kernel
theorem dX0_powerOf_77 : decode cX0_powerOf 77 = .ok (.iload_n 3, 1) := by decide +kernel
theorem dX0_powerOf_78 : decode cX0_powerOf 78 = .ok (.invokevirtual 88, 3) := by decide +kernel
theorem dX0_powerOf_81 : decode cX0_powerOf 81 = .ok (.return_, 1) := by decide +kernel
theorem dX0_raise_0 : decode cX0_raise 0 = .ok (.aload_n 1, 1) := by decide +kernel
theorem dX0_raise_1 : decode cX0_raise 1 = .ok (.lconst 1, 1) := by decide +kernel
theorem dX0_raise_2 : decode cX0_raise 2 = .ok (.invokevirtual 92, 3) := by decide +kernel
theorem dX0_raise_5 : decode cX0_raise 5 = .ok (.sipush 512, 3) := by decide +kernel
theorem dX0_raise_8 : decode cX0_raise 8 = .ok (.istore 4, 2) := by decide +kernel
theorem dX0_raise_10 : decode cX0_raise 10 = .ok (.iload 4, 2) := by decide +kernel
theorem dX0_raise_12 : decode cX0_raise 12 = .ok (.ifCond .le 31, 3) := by decide +kernel
theorem dX0_raise_15 : decode cX0_raise 15 = .ok (.aload_n 0, 1) := by decide +kernel
theorem dX0_raise_16 : decode cX0_raise 16 = .ok (.aload_n 1, 1) := by decide +kernel
theorem dX0_raise_17 : decode cX0_raise 17 = .ok (.aload_n 1, 1) := by decide +kernel
theorem dX0_raise_18 : decode cX0_raise 18 = .ok (.invokevirtual 95, 3) := by decide +kernel
theorem dX0_raise_21 : decode cX0_raise 21 = .ok (.iload_n 3, 1) := by decide +kernel
theorem dX0_raise_22 : decode cX0_raise 22 = .ok (.iload 4, 2) := by decide +kernel
theorem dX0_raise_24 : decode cX0_raise 24 = .ok (.iand, 1) := by decide +kernel
theorem dX0_raise_25 : decode cX0_raise 25 = .ok (.ifCond .eq 9, 3) := by decide +kernel
theorem dX0_raise_28 : decode cX0_raise 28 = .ok (.aload_n 0, 1) := by decide +kernel
theorem dX0_raise_29 : decode cX0_raise 29 = .ok (.aload_n 1, 1) := by decide +kernel
theorem dX0_raise_30 : decode cX0_raise 30 = .ok (.aload_n 2, 1) := by decide +kernel
theorem dX0_raise_31 : decode cX0_raise 31 = .ok (.invokevirtual 95, 3) := by decide +kernel
theorem dX0_raise_34 : decode cX0_raise 34 = .ok (.iload 4, 2) := by decide +kernel
theorem dX0_raise_36 : decode cX0_raise 36 = .ok (.iconst 1, 1) := by decide +kernel
theorem dX0_raise_37 : decode cX0_raise 37 = .ok (.ishr, 1) := by decide +kernel
theorem dX0_raise_38 : decode cX0_raise 38 = .ok (.istore 4, 2) := by decide +kernel
theorem dX0_raise_40 : decode cX0_raise 40 = .ok (.goto (-30), 3) := by decide +kernel
theorem dX0_raise_43 : decode cX0_raise 43 = .ok (.return_, 1) := by decide +kernel
theorem dX0_grow_0 : decode cX0_grow 0 = .ok (.aload_n 1, 1) := by decide +kernel
theorem dX0_grow_1 : decode cX0_grow 1 = .ok (.invokevirtual 98, 3) := by decide +kernel
theorem dX0_grow_4 : decode cX0_grow 4 = .ok (.sipush 512, 3) := by decide +kernel
theorem dX0_grow_7 : decode cX0_grow 7 = .ok (.if_icmp .gt 20, 3) := by decide +kernel
theorem dX0_grow_10 : decode cX0_grow 10 = .ok (.aload_n 0, 1) := by decide +kernel
theorem dX0_grow_11 : decode cX0_grow 11 = .ok (.getfield 33, 3) := by decide +kernel
theorem dX0_grow_14 : decode cX0_grow 14 = .ok (.aload_n 2, 1) := by decide +kernel
theorem dX0_grow_15 : decode cX0_grow 15 = .ok (.aload_n 1, 1) := by decide +kernel
theorem dX0_grow_16 : decode cX0_grow 16 = .ok (.invokevirtual 72, 3) := by decide +kernel
theorem dX0_grow_19 : decode cX0_grow 19 = .ok (.aload_n 1, 1) := by decide +kernel
theorem dX0_grow_20 : decode cX0_grow 20 = .ok (.aload_n 0, 1) := by decide +kernel
theorem dX0_grow_21 : decode cX0_grow 21 = .ok (.getfield 33, 3) := by decide +kernel
theorem dX0_grow_24 : decode cX0_grow 24 = .ok (.invokevirtual 61, 3) := by decide +kernel
theorem dX0_grow_27 : decode cX0_grow 27 = .ok (.return_, 1) := by decide +kernel
theorem dX0_wholeNear_0 : decode cX0_wholeNear 0 = .ok (.aload_n 0, 1) := by decide +kernel
theorem dX0_wholeNear_1 : decode cX0_wholeNear 1 = .ok (.getfield 33, 3) := by decide +kernel
theorem dX0_wholeNear_4 : decode cX0_wholeNear 4 = .ok (.aload_n 1, 1) := by decide +kernel
theorem dX0_wholeNear_5 : decode cX0_wholeNear 5 = .ok (.getfield 36, 3) := by decide +kernel
theorem dX0_wholeNear_8 : decode cX0_wholeNear 8 = .ok (.invokevirtual 61, 3) := by decide +kernel
theorem dX0_wholeNear_11 : decode cX0_wholeNear 11 = .ok (.aload_n 0, 1) := by decide +kernel
theorem dX0_wholeNear_12 : decode cX0_wholeNear 12 = .ok (.getfield 33, 3) := by decide +kernel
theorem dX0_wholeNear_15 : decode cX0_wholeNear 15 = .ok (.aload_n 1, 1) := by decide +kernel
theorem dX0_wholeNear_16 : decode cX0_wholeNear 16 = .ok (.getfield 47, 3) := by decide +kernel
theorem dX0_wholeNear_19 : decode cX0_wholeNear 19 = .ok (.aload_n 0, 1) := by decide +kernel
theorem dX0_wholeNear_20 : decode cX0_wholeNear 20 = .ok (.getfield 14, 3) := by decide +kernel
theorem dX0_wholeNear_23 : decode cX0_wholeNear 23 = .ok (.getfield 36, 3) := by decide +kernel
theorem dX0_wholeNear_26 : decode cX0_wholeNear 26 = .ok (.invokevirtual 65, 3) := by decide +kernel
theorem dX0_wholeNear_29 : decode cX0_wholeNear 29 = .ok (.iconst 0, 1) := by decide +kernel
theorem dX0_wholeNear_30 : decode cX0_wholeNear 30 = .ok (.istore_n 3, 1) := by decide +kernel
theorem dX0_wholeNear_31 : decode cX0_wholeNear 31 = .ok (.iload_n 2, 1) := by decide +kernel
theorem dX0_wholeNear_32 : decode cX0_wholeNear 32 = .ok (.ifCond .ne 29, 3) := by decide +kernel
theorem dX0_wholeNear_35 : decode cX0_wholeNear 35 = .ok (.aload_n 1, 1) := by decide +kernel
theorem dX0_wholeNear_36 : decode cX0_wholeNear 36 = .ok (.getfield 68, 3) := by decide +kernel
theorem dX0_wholeNear_39 : decode cX0_wholeNear 39 = .ok (.ifCond .ge 17, 3) := by decide +kernel
theorem dX0_wholeNear_42 : decode cX0_wholeNear 42 = .ok (.aload_n 0, 1) := by decide +kernel
theorem dX0_wholeNear_43 : decode cX0_wholeNear 43 = .ok (.getfield 33, 3) := by decide +kernel
theorem dX0_wholeNear_46 : decode cX0_wholeNear 46 = .ok (.invokevirtual 39, 3) := by decide +kernel
theorem dX0_wholeNear_49 : decode cX0_wholeNear 49 = .ok (.ifCond .ne 7, 3) := by decide +kernel
theorem dX0_wholeNear_52 : decode cX0_wholeNear 52 = .ok (.iconst 1, 1) := by decide +kernel
theorem dX0_wholeNear_53 : decode cX0_wholeNear 53 = .ok (.goto 4, 3) := by decide +kernel
theorem dX0_wholeNear_56 : decode cX0_wholeNear 56 = .ok (.iconst 0, 1) := by decide +kernel
theorem dX0_wholeNear_57 : decode cX0_wholeNear 57 = .ok (.istore_n 3, 1) := by decide +kernel
theorem dX0_wholeNear_58 : decode cX0_wholeNear 58 = .ok (.goto 61, 3) := by decide +kernel
theorem dX0_wholeNear_61 : decode cX0_wholeNear 61 = .ok (.iload_n 2, 1) := by decide +kernel
theorem dX0_wholeNear_62 : decode cX0_wholeNear 62 = .ok (.iconst 1, 1) := by decide +kernel
theorem dX0_wholeNear_63 : decode cX0_wholeNear 63 = .ok (.if_icmp .ne 29, 3) := by decide +kernel
theorem dX0_wholeNear_66 : decode cX0_wholeNear 66 = .ok (.aload_n 1, 1) := by decide +kernel
theorem dX0_wholeNear_67 : decode cX0_wholeNear 67 = .ok (.getfield 68, 3) := by decide +kernel
theorem dX0_wholeNear_70 : decode cX0_wholeNear 70 = .ok (.ifCond .le 17, 3) := by decide +kernel
theorem dX0_wholeNear_73 : decode cX0_wholeNear 73 = .ok (.aload_n 0, 1) := by decide +kernel
theorem dX0_wholeNear_74 : decode cX0_wholeNear 74 = .ok (.getfield 33, 3) := by decide +kernel
theorem dX0_wholeNear_77 : decode cX0_wholeNear 77 = .ok (.invokevirtual 39, 3) := by decide +kernel
theorem dX0_wholeNear_80 : decode cX0_wholeNear 80 = .ok (.ifCond .ne 7, 3) := by decide +kernel
theorem dX0_wholeNear_83 : decode cX0_wholeNear 83 = .ok (.iconst 1, 1) := by decide +kernel
theorem dX0_wholeNear_84 : decode cX0_wholeNear 84 = .ok (.goto 4, 3) := by decide +kernel
theorem dX0_wholeNear_87 : decode cX0_wholeNear 87 = .ok (.iconst 0, 1) := by decide +kernel
theorem dX0_wholeNear_88 : decode cX0_wholeNear 88 = .ok (.istore_n 3, 1) := by decide +kernel
theorem dX0_wholeNear_89 : decode cX0_wholeNear 89 = .ok (.goto 30, 3) := by decide +kernel
theorem dX0_wholeNear_92 : decode cX0_wholeNear 92 = .ok (.iload_n 2, 1) := by decide +kernel
theorem dX0_wholeNear_93 : decode cX0_wholeNear 93 = .ok (.iconst 2, 1) := by decide +kernel
theorem dX0_wholeNear_94 : decode cX0_wholeNear 94 = .ok (.if_icmp .ne 25, 3) := by decide +kernel
theorem dX0_wholeNear_97 : decode cX0_wholeNear 97 = .ok (.aload_n 0, 1) := by decide +kernel
theorem dX0_wholeNear_98 : decode cX0_wholeNear 98 = .ok (.getfield 33, 3) := by decide +kernel
theorem dX0_wholeNear_101 : decode cX0_wholeNear 101 = .ok (.aload_n 1, 1) := by decide +kernel
theorem dX0_wholeNear_102 : decode cX0_wholeNear 102 = .ok (.getfield 47, 3) := by decide +kernel
theorem dX0_wholeNear_105 : decode cX0_wholeNear 105 = .ok (.aload_n 0, 1) := by decide +kernel
theorem dX0_wholeNear_106 : decode cX0_wholeNear 106 = .ok (.getfield 14, 3) := by decide +kernel
theorem dX0_wholeNear_109 : decode cX0_wholeNear 109 = .ok (.getfield 36, 3) := by decide +kernel
theorem dX0_wholeNear_112 : decode cX0_wholeNear 112 = .ok (.invokevirtual 102, 3) := by decide +kernel
theorem dX0_wholeNear_115 : decode cX0_wholeNear 115 = .ok (.invokestatic 105, 3) := by decide +kernel
theorem dX0_wholeNear_118 : decode cX0_wholeNear 118 = .ok (.istore_n 3, 1) := by decide +kernel
theorem dX0_wholeNear_119 : decode cX0_wholeNear 119 = .ok (.iload_n 3, 1) := by decide +kernel
theorem dX0_wholeNear_120 : decode cX0_wholeNear 120 = .ok (.ifCond .eq 15, 3) := by decide +kernel
theorem dX0_wholeNear_123 : decode cX0_wholeNear 123 = .ok (.aload_n 0, 1) := by decide +kernel
theorem dX0_wholeNear_124 : decode cX0_wholeNear 124 = .ok (.getfield 14, 3) := by decide +kernel
theorem dX0_wholeNear_127 : decode cX0_wholeNear 127 = .ok (.getfield 36, 3) := by decide +kernel
theorem dX0_wholeNear_130 : decode cX0_wholeNear 130 = .ok (.iconst 1, 1) := by decide +kernel
theorem dX0_wholeNear_131 : decode cX0_wholeNear 131 = .ok (.iconst 1, 1) := by decide +kernel
theorem dX0_wholeNear_132 : decode cX0_wholeNear 132 = .ok (.invokevirtual 109, 3) := by decide +kernel
theorem dX0_wholeNear_135 : decode cX0_wholeNear 135 = .ok (.aload_n 0, 1) := by decide +kernel
theorem dX0_wholeNear_136 : decode cX0_wholeNear 136 = .ok (.getfield 14, 3) := by decide +kernel
theorem dX0_wholeNear_139 : decode cX0_wholeNear 139 = .ok (.aload_n 1, 1) := by decide +kernel
theorem dX0_wholeNear_140 : decode cX0_wholeNear 140 = .ok (.getfield 68, 3) := by decide +kernel
theorem dX0_wholeNear_143 : decode cX0_wholeNear 143 = .ok (.putfield 68, 3) := by decide +kernel
theorem dX0_wholeNear_146 : decode cX0_wholeNear 146 = .ok (.aload_n 0, 1) := by decide +kernel
theorem dX0_wholeNear_147 : decode cX0_wholeNear 147 = .ok (.getfield 14, 3) := by decide +kernel
theorem dX0_wholeNear_150 : decode cX0_wholeNear 150 = .ok (.getfield 47, 3) := by decide +kernel
theorem dX0_wholeNear_153 : decode cX0_wholeNear 153 = .ok (.lconst 1, 1) := by decide +kernel
theorem dX0_wholeNear_154 : decode cX0_wholeNear 154 = .ok (.invokevirtual 92, 3) := by decide +kernel
theorem dX0_wholeNear_157 : decode cX0_wholeNear 157 = .ok (.return_, 1) := by decide +kernel
theorem dX0_isRoundedUp_0 : decode cX0_isRoundedUp 0 = .ok (.aload_n 0, 1) := by decide +kernel
theorem dX0_isRoundedUp_1 : decode cX0_isRoundedUp 1 = .ok (.iconst 1, 1) := by decide +kernel
theorem dX0_isRoundedUp_2 : decode cX0_isRoundedUp 2 = .ok (.invokevirtual 113, 3) := by decide +kernel
theorem dX0_isRoundedUp_5 : decode cX0_isRoundedUp 5 = .ok (.aload_n 0, 1) := by decide +kernel
theorem dX0_isRoundedUp_6 : decode cX0_isRoundedUp 6 = .ok (.aload_n 1, 1) := by decide +kernel
theorem dX0_isRoundedUp_7 : decode cX0_isRoundedUp 7 = .ok (.invokevirtual 116, 3) := by decide +kernel
theorem dX0_isRoundedUp_10 : decode cX0_isRoundedUp 10 = .ok (.istore_n 3, 1) := by decide +kernel
theorem dX0_isRoundedUp_11 : decode cX0_isRoundedUp 11 = .ok (.iload_n 3, 1) := by decide +kernel
theorem dX0_isRoundedUp_12 : decode cX0_isRoundedUp 12 = .ok (.ifCond .gt 11, 3) := by decide +kernel
theorem dX0_isRoundedUp_15 : decode cX0_isRoundedUp 15 = .ok (.iload_n 3, 1) := by decide +kernel
theorem dX0_isRoundedUp_16 : decode cX0_isRoundedUp 16 = .ok (.ifCond .ne 11, 3) := by decide +kernel
theorem dX0_isRoundedUp_19 : decode cX0_isRoundedUp 19 = .ok (.iload_n 2, 1) := by decide +kernel
theorem dX0_isRoundedUp_20 : decode cX0_isRoundedUp 20 = .ok (.ifCond .eq 7, 3) := by decide +kernel
theorem dX0_isRoundedUp_23 : decode cX0_isRoundedUp 23 = .ok (.iconst 1, 1) := by decide +kernel
theorem dX0_isRoundedUp_24 : decode cX0_isRoundedUp 24 = .ok (.goto 4, 3) := by decide +kernel
theorem dX0_isRoundedUp_27 : decode cX0_isRoundedUp 27 = .ok (.iconst 0, 1) := by decide +kernel
theorem dX0_isRoundedUp_28 : decode cX0_isRoundedUp 28 = .ok (.ireturn, 1) := by decide +kernel
theorem dX0_orderOf_0 : decode cX0_orderOf 0 = .ok (.aload_n 1, 1) := by decide +kernel
theorem dX0_orderOf_1 : decode cX0_orderOf 1 = .ok (.getfield 68, 3) := by decide +kernel
theorem dX0_orderOf_4 : decode cX0_orderOf 4 = .ok (.aload_n 2, 1) := by decide +kernel
theorem dX0_orderOf_5 : decode cX0_orderOf 5 = .ok (.getfield 68, 3) := by decide +kernel
theorem dX0_orderOf_8 : decode cX0_orderOf 8 = .ok (.if_icmp .eq 20, 3) := by decide +kernel
theorem dX0_orderOf_11 : decode cX0_orderOf 11 = .ok (.aload_n 1, 1) := by decide +kernel
theorem dX0_orderOf_12 : decode cX0_orderOf 12 = .ok (.getfield 68, 3) := by decide +kernel
theorem dX0_orderOf_15 : decode cX0_orderOf 15 = .ok (.aload_n 2, 1) := by decide +kernel
theorem dX0_orderOf_16 : decode cX0_orderOf 16 = .ok (.getfield 68, 3) := by decide +kernel
theorem dX0_orderOf_19 : decode cX0_orderOf 19 = .ok (.if_icmp .ge 7, 3) := by decide +kernel
theorem dX0_orderOf_22 : decode cX0_orderOf 22 = .ok (.iconst (-1), 1) := by decide +kernel
theorem dX0_orderOf_23 : decode cX0_orderOf 23 = .ok (.goto 4, 3) := by decide +kernel
theorem dX0_orderOf_26 : decode cX0_orderOf 26 = .ok (.iconst 1, 1) := by decide +kernel
theorem dX0_orderOf_27 : decode cX0_orderOf 27 = .ok (.ireturn, 1) := by decide +kernel
theorem dX0_orderOf_28 : decode cX0_orderOf 28 = .ok (.aload_n 0, 1) := by decide +kernel
theorem dX0_orderOf_29 : decode cX0_orderOf 29 = .ok (.getfield 23, 3) := by decide +kernel
theorem dX0_orderOf_32 : decode cX0_orderOf 32 = .ok (.aload_n 1, 1) := by decide +kernel
theorem dX0_orderOf_33 : decode cX0_orderOf 33 = .ok (.getfield 36, 3) := by decide +kernel
theorem dX0_orderOf_36 : decode cX0_orderOf 36 = .ok (.aload_n 2, 1) := by decide +kernel
theorem dX0_orderOf_37 : decode cX0_orderOf 37 = .ok (.getfield 47, 3) := by decide +kernel
theorem dX0_orderOf_40 : decode cX0_orderOf 40 = .ok (.invokevirtual 72, 3) := by decide +kernel
theorem dX0_orderOf_43 : decode cX0_orderOf 43 = .ok (.aload_n 0, 1) := by decide +kernel
theorem dX0_orderOf_44 : decode cX0_orderOf 44 = .ok (.getfield 27, 3) := by decide +kernel
theorem dX0_orderOf_47 : decode cX0_orderOf 47 = .ok (.aload_n 2, 1) := by decide +kernel
theorem dX0_orderOf_48 : decode cX0_orderOf 48 = .ok (.getfield 36, 3) := by decide +kernel
theorem dX0_orderOf_51 : decode cX0_orderOf 51 = .ok (.aload_n 1, 1) := by decide +kernel
theorem dX0_orderOf_52 : decode cX0_orderOf 52 = .ok (.getfield 47, 3) := by decide +kernel
theorem dX0_orderOf_55 : decode cX0_orderOf 55 = .ok (.invokevirtual 72, 3) := by decide +kernel
theorem dX0_orderOf_58 : decode cX0_orderOf 58 = .ok (.aload_n 1, 1) := by decide +kernel
theorem dX0_orderOf_59 : decode cX0_orderOf 59 = .ok (.getfield 68, 3) := by decide +kernel
theorem dX0_orderOf_62 : decode cX0_orderOf 62 = .ok (.aload_n 0, 1) := by decide +kernel
theorem dX0_orderOf_63 : decode cX0_orderOf 63 = .ok (.getfield 23, 3) := by decide +kernel
theorem dX0_orderOf_66 : decode cX0_orderOf 66 = .ok (.aload_n 0, 1) := by decide +kernel
theorem dX0_orderOf_67 : decode cX0_orderOf 67 = .ok (.getfield 27, 3) := by decide +kernel
theorem dX0_orderOf_70 : decode cX0_orderOf 70 = .ok (.invokevirtual 116, 3) := by decide +kernel
theorem dX0_orderOf_73 : decode cX0_orderOf 73 = .ok (.imul, 1) := by decide +kernel
theorem dX0_orderOf_74 : decode cX0_orderOf 74 = .ok (.ireturn, 1) := by decide +kernel
theorem dX0_nearestBits_0 : decode cX0_nearestBits 0 = .ok (.aload_n 1, 1) := by decide +kernel
theorem dX0_nearestBits_1 : decode cX0_nearestBits 1 = .ok (.getfield 68, 3) := by decide +kernel
theorem dX0_nearestBits_4 : decode cX0_nearestBits 4 = .ok (.ifCond .ne 5, 3) := by decide +kernel
theorem dX0_nearestBits_7 : decode cX0_nearestBits 7 = .ok (.lconst 0, 1) := by decide +kernel
theorem dX0_nearestBits_8 : decode cX0_nearestBits 8 = .ok (.lreturn, 1) := by decide +kernel
theorem dX0_nearestBits_9 : decode cX0_nearestBits 9 = .ok (.aload_n 1, 1) := by decide +kernel
theorem dX0_nearestBits_10 : decode cX0_nearestBits 10 = .ok (.getfield 36, 3) := by decide +kernel
theorem dX0_nearestBits_13 : decode cX0_nearestBits 13 = .ok (.invokevirtual 98, 3) := by decide +kernel
theorem dX0_nearestBits_16 : decode cX0_nearestBits 16 = .ok (.aload_n 1, 1) := by decide +kernel
theorem dX0_nearestBits_17 : decode cX0_nearestBits 17 = .ok (.getfield 47, 3) := by decide +kernel
theorem dX0_nearestBits_20 : decode cX0_nearestBits 20 = .ok (.invokevirtual 98, 3) := by decide +kernel
theorem dX0_nearestBits_23 : decode cX0_nearestBits 23 = .ok (.isub, 1) := by decide +kernel
theorem dX0_nearestBits_24 : decode cX0_nearestBits 24 = .ok (.istore 6, 2) := by decide +kernel
theorem dX0_nearestBits_26 : decode cX0_nearestBits 26 = .ok (.aload_n 0, 1) := by decide +kernel
theorem dX0_nearestBits_27 : decode cX0_nearestBits 27 = .ok (.aload_n 1, 1) := by decide +kernel
theorem dX0_nearestBits_28 : decode cX0_nearestBits 28 = .ok (.iload 6, 2) := by decide +kernel
theorem dX0_nearestBits_30 : decode cX0_nearestBits 30 = .ok (.invokevirtual 120, 3) := by decide +kernel
theorem dX0_nearestBits_33 : decode cX0_nearestBits 33 = .ok (.aload_n 0, 1) := by decide +kernel
theorem dX0_nearestBits_34 : decode cX0_nearestBits 34 = .ok (.getfield 23, 3) := by decide +kernel
theorem dX0_nearestBits_37 : decode cX0_nearestBits 37 = .ok (.aload_n 0, 1) := by decide +kernel
theorem dX0_nearestBits_38 : decode cX0_nearestBits 38 = .ok (.getfield 27, 3) := by decide +kernel
theorem dX0_nearestBits_41 : decode cX0_nearestBits 41 = .ok (.invokevirtual 116, 3) := by decide +kernel
theorem dX0_nearestBits_44 : decode cX0_nearestBits 44 = .ok (.ifCond .ge 6, 3) := by decide +kernel
theorem dX0_nearestBits_47 : decode cX0_nearestBits 47 = .ok (.iinc 6 (-1), 3) := by decide +kernel
theorem dX0_nearestBits_50 : decode cX0_nearestBits 50 = .ok (.iload 6, 2) := by decide +kernel
theorem dX0_nearestBits_52 : decode cX0_nearestBits 52 = .ok (.iload_n 2, 1) := by decide +kernel
theorem dX0_nearestBits_53 : decode cX0_nearestBits 53 = .ok (.isub, 1) := by decide +kernel
theorem dX0_nearestBits_54 : decode cX0_nearestBits 54 = .ok (.iconst 1, 1) := by decide +kernel
theorem dX0_nearestBits_55 : decode cX0_nearestBits 55 = .ok (.iadd, 1) := by decide +kernel
theorem dX0_nearestBits_56 : decode cX0_nearestBits 56 = .ok (.iload_n 3, 1) := by decide +kernel
theorem dX0_nearestBits_57 : decode cX0_nearestBits 57 = .ok (.invokestatic 124, 3) := by decide +kernel
theorem dX0_nearestBits_60 : decode cX0_nearestBits 60 = .ok (.istore 7, 2) := by decide +kernel
theorem dX0_nearestBits_62 : decode cX0_nearestBits 62 = .ok (.aload_n 0, 1) := by decide +kernel
theorem dX0_nearestBits_63 : decode cX0_nearestBits 63 = .ok (.aload_n 1, 1) := by decide +kernel
theorem dX0_nearestBits_64 : decode cX0_nearestBits 64 = .ok (.iload 7, 2) := by decide +kernel
theorem dX0_nearestBits_66 : decode cX0_nearestBits 66 = .ok (.invokevirtual 120, 3) := by decide +kernel
theorem dX0_nearestBits_69 : decode cX0_nearestBits 69 = .ok (.aload_n 0, 1) := by decide +kernel
theorem dX0_nearestBits_70 : decode cX0_nearestBits 70 = .ok (.getfield 23, 3) := by decide +kernel
theorem dX0_nearestBits_73 : decode cX0_nearestBits 73 = .ok (.aload_n 0, 1) := by decide +kernel
theorem dX0_nearestBits_74 : decode cX0_nearestBits 74 = .ok (.getfield 27, 3) := by decide +kernel
theorem dX0_nearestBits_77 : decode cX0_nearestBits 77 = .ok (.aload_n 0, 1) := by decide +kernel
theorem dX0_nearestBits_78 : decode cX0_nearestBits 78 = .ok (.getfield 30, 3) := by decide +kernel
theorem dX0_nearestBits_81 : decode cX0_nearestBits 81 = .ok (.invokevirtual 65, 3) := by decide +kernel
theorem dX0_nearestBits_84 : decode cX0_nearestBits 84 = .ok (.iload 7, 2) := by decide +kernel
theorem dX0_nearestBits_86 : decode cX0_nearestBits 86 = .ok (.iload_n 3, 1) := by decide +kernel
theorem dX0_nearestBits_87 : decode cX0_nearestBits 87 = .ok (.isub, 1) := by decide +kernel
theorem dX0_nearestBits_88 : decode cX0_nearestBits 88 = .ok (.i2l, 1) := by decide +kernel
theorem dX0_nearestBits_89 : decode cX0_nearestBits 89 = .ok (.iload_n 2, 1) := by decide +kernel
theorem dX0_nearestBits_90 : decode cX0_nearestBits 90 = .ok (.iconst 1, 1) := by decide +kernel
theorem dX0_nearestBits_91 : decode cX0_nearestBits 91 = .ok (.isub, 1) := by decide +kernel
theorem dX0_nearestBits_92 : decode cX0_nearestBits 92 = .ok (.lshl, 1) := by decide +kernel
theorem dX0_nearestBits_93 : decode cX0_nearestBits 93 = .ok (.aload_n 0, 1) := by decide +kernel
theorem dX0_nearestBits_94 : decode cX0_nearestBits 94 = .ok (.getfield 30, 3) := by decide +kernel
theorem dX0_nearestBits_97 : decode cX0_nearestBits 97 = .ok (.invokevirtual 128, 3) := by decide +kernel
theorem dX0_nearestBits_100 : decode cX0_nearestBits 100 = .ok (.ladd, 1) := by decide +kernel
theorem dX0_nearestBits_101 : decode cX0_nearestBits 101 = .ok (.lstore 8, 2) := by decide +kernel
theorem dX0_nearestBits_103 : decode cX0_nearestBits 103 = .ok (.aload_n 0, 1) := by decide +kernel
theorem dX0_nearestBits_104 : decode cX0_nearestBits 104 = .ok (.getfield 23, 3) := by decide +kernel
theorem dX0_nearestBits_107 : decode cX0_nearestBits 107 = .ok (.aload_n 0, 1) := by decide +kernel
theorem dX0_nearestBits_108 : decode cX0_nearestBits 108 = .ok (.getfield 27, 3) := by decide +kernel
theorem dX0_nearestBits_111 : decode cX0_nearestBits 111 = .ok (.aload_n 0, 1) := by decide +kernel
theorem dX0_nearestBits_112 : decode cX0_nearestBits 112 = .ok (.getfield 30, 3) := by decide +kernel
theorem dX0_nearestBits_115 : decode cX0_nearestBits 115 = .ok (.invokevirtual 102, 3) := by decide +kernel
theorem dX0_nearestBits_118 : decode cX0_nearestBits 118 = .ok (.invokestatic 105, 3) := by decide +kernel
theorem dX0_nearestBits_121 : decode cX0_nearestBits 121 = .ok (.ifCond .eq 9, 3) := by decide +kernel
theorem dX0_nearestBits_124 : decode cX0_nearestBits 124 = .ok (.lload 8, 2) := by decide +kernel
theorem dX0_nearestBits_126 : decode cX0_nearestBits 126 = .ok (.lconst 1, 1) := by decide +kernel
theorem dX0_nearestBits_127 : decode cX0_nearestBits 127 = .ok (.ladd, 1) := by decide +kernel
theorem dX0_nearestBits_128 : decode cX0_nearestBits 128 = .ok (.lstore 8, 2) := by decide +kernel
theorem dX0_nearestBits_130 : decode cX0_nearestBits 130 = .ok (.lload 8, 2) := by decide +kernel
theorem dX0_nearestBits_132 : decode cX0_nearestBits 132 = .ok (.lload 4, 2) := by decide +kernel
theorem dX0_nearestBits_134 : decode cX0_nearestBits 134 = .ok (.invokestatic 132, 3) := by decide +kernel
theorem dX0_nearestBits_137 : decode cX0_nearestBits 137 = .ok (.lreturn, 1) := by decide +kernel
theorem dX0_scale_0 : decode cX0_scale 0 = .ok (.aload_n 0, 1) := by decide +kernel
theorem dX0_scale_1 : decode cX0_scale 1 = .ok (.getfield 23, 3) := by decide +kernel
theorem dX0_scale_4 : decode cX0_scale 4 = .ok (.aload_n 1, 1) := by decide +kernel
theorem dX0_scale_5 : decode cX0_scale 5 = .ok (.getfield 36, 3) := by decide +kernel
theorem dX0_scale_8 : decode cX0_scale 8 = .ok (.invokevirtual 61, 3) := by decide +kernel
theorem dX0_scale_11 : decode cX0_scale 11 = .ok (.aload_n 0, 1) := by decide +kernel
theorem dX0_scale_12 : decode cX0_scale 12 = .ok (.getfield 27, 3) := by decide +kernel
theorem dX0_scale_15 : decode cX0_scale 15 = .ok (.aload_n 1, 1) := by decide +kernel
theorem dX0_scale_16 : decode cX0_scale 16 = .ok (.getfield 47, 3) := by decide +kernel
theorem dX0_scale_19 : decode cX0_scale 19 = .ok (.invokevirtual 61, 3) := by decide +kernel
theorem dX0_scale_22 : decode cX0_scale 22 = .ok (.aload_n 0, 1) := by decide +kernel
theorem dX0_scale_23 : decode cX0_scale 23 = .ok (.getfield 23, 3) := by decide +kernel
theorem dX0_scale_26 : decode cX0_scale 26 = .ok (.iload_n 2, 1) := by decide +kernel
theorem dX0_scale_27 : decode cX0_scale 27 = .ok (.ineg, 1) := by decide +kernel
theorem dX0_scale_28 : decode cX0_scale 28 = .ok (.invokevirtual 113, 3) := by decide +kernel
theorem dX0_scale_31 : decode cX0_scale 31 = .ok (.aload_n 0, 1) := by decide +kernel
theorem dX0_scale_32 : decode cX0_scale 32 = .ok (.getfield 27, 3) := by decide +kernel
theorem dX0_scale_35 : decode cX0_scale 35 = .ok (.iload_n 2, 1) := by decide +kernel
theorem dX0_scale_36 : decode cX0_scale 36 = .ok (.invokevirtual 113, 3) := by decide +kernel
theorem dX0_scale_39 : decode cX0_scale 39 = .ok (.return_, 1) := by decide +kernel
theorem dX0_takeFactors_0 : decode cX0_takeFactors 0 = .ok (.iconst 0, 1) := by decide +kernel
theorem dX0_takeFactors_1 : decode cX0_takeFactors 1 = .ok (.istore_n 3, 1) := by decide +kernel
theorem dX0_takeFactors_2 : decode cX0_takeFactors 2 = .ok (.iload_n 3, 1) := by decide +kernel
theorem dX0_takeFactors_3 : decode cX0_takeFactors 3 = .ok (.sipush 512, 3) := by decide +kernel
theorem dX0_takeFactors_6 : decode cX0_takeFactors 6 = .ok (.if_icmp .ge 38, 3) := by decide +kernel
theorem dX0_takeFactors_9 : decode cX0_takeFactors 9 = .ok (.aload_n 0, 1) := by decide +kernel
theorem dX0_takeFactors_10 : decode cX0_takeFactors 10 = .ok (.getfield 33, 3) := by decide +kernel
theorem dX0_takeFactors_13 : decode cX0_takeFactors 13 = .ok (.aload_n 1, 1) := by decide +kernel
theorem dX0_takeFactors_14 : decode cX0_takeFactors 14 = .ok (.invokevirtual 61, 3) := by decide +kernel
theorem dX0_takeFactors_17 : decode cX0_takeFactors 17 = .ok (.aload_n 0, 1) := by decide +kernel
theorem dX0_takeFactors_18 : decode cX0_takeFactors 18 = .ok (.getfield 33, 3) := by decide +kernel
theorem dX0_takeFactors_21 : decode cX0_takeFactors 21 = .ok (.iload_n 2, 1) := by decide +kernel
theorem dX0_takeFactors_22 : decode cX0_takeFactors 22 = .ok (.invokevirtual 136, 3) := by decide +kernel
theorem dX0_takeFactors_25 : decode cX0_takeFactors 25 = .ok (.ifCond .eq 5, 3) := by decide +kernel
theorem dX0_takeFactors_28 : decode cX0_takeFactors 28 = .ok (.iload_n 3, 1) := by decide +kernel
theorem dX0_takeFactors_29 : decode cX0_takeFactors 29 = .ok (.ireturn, 1) := by decide +kernel
theorem dX0_takeFactors_30 : decode cX0_takeFactors 30 = .ok (.aload_n 1, 1) := by decide +kernel
theorem dX0_takeFactors_31 : decode cX0_takeFactors 31 = .ok (.aload_n 0, 1) := by decide +kernel
theorem dX0_takeFactors_32 : decode cX0_takeFactors 32 = .ok (.getfield 33, 3) := by decide +kernel
theorem dX0_takeFactors_35 : decode cX0_takeFactors 35 = .ok (.invokevirtual 61, 3) := by decide +kernel
theorem dX0_takeFactors_38 : decode cX0_takeFactors 38 = .ok (.iinc 3 1, 3) := by decide +kernel
theorem dX0_takeFactors_41 : decode cX0_takeFactors 41 = .ok (.goto (-39), 3) := by decide +kernel
theorem dX0_takeFactors_44 : decode cX0_takeFactors 44 = .ok (.sipush 512, 3) := by decide +kernel
theorem dX0_takeFactors_47 : decode cX0_takeFactors 47 = .ok (.ireturn, 1) := by decide +kernel
theorem dX1_init_0 : decode cX1_init 0 = .ok (.aload_n 0, 1) := by decide +kernel
theorem dX1_init_1 : decode cX1_init 1 = .ok (.invokespecial 3, 3) := by decide +kernel
theorem dX1_init_4 : decode cX1_init 4 = .ok (.aload_n 0, 1) := by decide +kernel
theorem dX1_init_5 : decode cX1_init 5 = .ok (.new 9, 3) := by decide +kernel
theorem dX1_init_8 : decode cX1_init 8 = .ok (.dup, 1) := by decide +kernel
theorem dX1_init_9 : decode cX1_init 9 = .ok (.bipush 36, 2) := by decide +kernel
theorem dX1_init_11 : decode cX1_init 11 = .ok (.invokespecial 11, 3) := by decide +kernel
theorem dX1_init_14 : decode cX1_init 14 = .ok (.putfield 14, 3) := by decide +kernel
theorem dX1_init_17 : decode cX1_init 17 = .ok (.aload_n 0, 1) := by decide +kernel
theorem dX1_init_18 : decode cX1_init 18 = .ok (.new 9, 3) := by decide +kernel
theorem dX1_init_21 : decode cX1_init 21 = .ok (.dup, 1) := by decide +kernel
theorem dX1_init_22 : decode cX1_init 22 = .ok (.bipush 36, 2) := by decide +kernel
theorem dX1_init_24 : decode cX1_init 24 = .ok (.invokespecial 11, 3) := by decide +kernel
theorem dX1_init_27 : decode cX1_init 27 = .ok (.putfield 20, 3) := by decide +kernel
theorem dX1_init_30 : decode cX1_init 30 = .ok (.aload_n 0, 1) := by decide +kernel
theorem dX1_init_31 : decode cX1_init 31 = .ok (.new 9, 3) := by decide +kernel
theorem dX1_init_34 : decode cX1_init 34 = .ok (.dup, 1) := by decide +kernel
theorem dX1_init_35 : decode cX1_init 35 = .ok (.bipush 36, 2) := by decide +kernel
theorem dX1_init_37 : decode cX1_init 37 = .ok (.invokespecial 11, 3) := by decide +kernel
theorem dX1_init_40 : decode cX1_init 40 = .ok (.putfield 23, 3) := by decide +kernel
theorem dX1_init_43 : decode cX1_init 43 = .ok (.aload_n 0, 1) := by decide +kernel
theorem dX1_init_44 : decode cX1_init 44 = .ok (.new 9, 3) := by decide +kernel
theorem dX1_init_47 : decode cX1_init 47 = .ok (.dup, 1) := by decide +kernel
theorem dX1_init_48 : decode cX1_init 48 = .ok (.bipush 36, 2) := by decide +kernel
theorem dX1_init_50 : decode cX1_init 50 = .ok (.invokespecial 11, 3) := by decide +kernel
theorem dX1_init_53 : decode cX1_init 53 = .ok (.putfield 26, 3) := by decide +kernel
theorem dX1_init_56 : decode cX1_init 56 = .ok (.aload_n 0, 1) := by decide +kernel
theorem dX1_init_57 : decode cX1_init 57 = .ok (.new 9, 3) := by decide +kernel
theorem dX1_init_60 : decode cX1_init 60 = .ok (.dup, 1) := by decide +kernel
theorem dX1_init_61 : decode cX1_init 61 = .ok (.bipush 36, 2) := by decide +kernel
theorem dX1_init_63 : decode cX1_init 63 = .ok (.invokespecial 11, 3) := by decide +kernel
theorem dX1_init_66 : decode cX1_init 66 = .ok (.putfield 29, 3) := by decide +kernel
theorem dX1_init_69 : decode cX1_init 69 = .ok (.aload_n 0, 1) := by decide +kernel
theorem dX1_init_70 : decode cX1_init 70 = .ok (.new 9, 3) := by decide +kernel
theorem dX1_init_73 : decode cX1_init 73 = .ok (.dup, 1) := by decide +kernel
theorem dX1_init_74 : decode cX1_init 74 = .ok (.bipush 36, 2) := by decide +kernel
theorem dX1_init_76 : decode cX1_init 76 = .ok (.invokespecial 11, 3) := by decide +kernel
theorem dX1_init_79 : decode cX1_init 79 = .ok (.putfield 32, 3) := by decide +kernel
theorem dX1_init_82 : decode cX1_init 82 = .ok (.aload_n 0, 1) := by decide +kernel
theorem dX1_init_83 : decode cX1_init 83 = .ok (.new 9, 3) := by decide +kernel
theorem dX1_init_86 : decode cX1_init 86 = .ok (.dup, 1) := by decide +kernel
theorem dX1_init_87 : decode cX1_init 87 = .ok (.bipush 36, 2) := by decide +kernel
theorem dX1_init_89 : decode cX1_init 89 = .ok (.invokespecial 11, 3) := by decide +kernel
theorem dX1_init_92 : decode cX1_init 92 = .ok (.putfield 35, 3) := by decide +kernel
theorem dX1_init_95 : decode cX1_init 95 = .ok (.aload_n 0, 1) := by decide +kernel
theorem dX1_init_96 : decode cX1_init 96 = .ok (.new 9, 3) := by decide +kernel
theorem dX1_init_99 : decode cX1_init 99 = .ok (.dup, 1) := by decide +kernel
theorem dX1_init_100 : decode cX1_init 100 = .ok (.bipush 36, 2) := by decide +kernel
theorem dX1_init_102 : decode cX1_init 102 = .ok (.invokespecial 11, 3) := by decide +kernel
theorem dX1_init_105 : decode cX1_init 105 = .ok (.putfield 38, 3) := by decide +kernel
theorem dX1_init_108 : decode cX1_init 108 = .ok (.aload_n 0, 1) := by decide +kernel
theorem dX1_init_109 : decode cX1_init 109 = .ok (.new 9, 3) := by decide +kernel
theorem dX1_init_112 : decode cX1_init 112 = .ok (.dup, 1) := by decide +kernel
theorem dX1_init_113 : decode cX1_init 113 = .ok (.bipush 36, 2) := by decide +kernel
theorem dX1_init_115 : decode cX1_init 115 = .ok (.invokespecial 11, 3) := by decide +kernel
theorem dX1_init_118 : decode cX1_init 118 = .ok (.putfield 41, 3) := by decide +kernel
theorem dX1_init_121 : decode cX1_init 121 = .ok (.aload_n 0, 1) := by decide +kernel
theorem dX1_init_122 : decode cX1_init 122 = .ok (.new 9, 3) := by decide +kernel
theorem dX1_init_125 : decode cX1_init 125 = .ok (.dup, 1) := by decide +kernel
theorem dX1_init_126 : decode cX1_init 126 = .ok (.bipush 36, 2) := by decide +kernel
theorem dX1_init_128 : decode cX1_init 128 = .ok (.invokespecial 11, 3) := by decide +kernel
theorem dX1_init_131 : decode cX1_init 131 = .ok (.putfield 44, 3) := by decide +kernel
theorem dX1_init_134 : decode cX1_init 134 = .ok (.return_, 1) := by decide +kernel
theorem dX1_begin_0 : decode cX1_begin 0 = .ok (.aload_n 0, 1) := by decide +kernel
theorem dX1_begin_1 : decode cX1_begin 1 = .ok (.aload_n 1, 1) := by decide +kernel
theorem dX1_begin_2 : decode cX1_begin 2 = .ok (.getfield 47, 3) := by decide +kernel
theorem dX1_begin_5 : decode cX1_begin 5 = .ok (.putfield 53, 3) := by decide +kernel
theorem dX1_begin_8 : decode cX1_begin 8 = .ok (.aload_n 0, 1) := by decide +kernel
theorem dX1_begin_9 : decode cX1_begin 9 = .ok (.getfield 20, 3) := by decide +kernel
theorem dX1_begin_12 : decode cX1_begin 12 = .ok (.aload_n 1, 1) := by decide +kernel
theorem dX1_begin_13 : decode cX1_begin 13 = .ok (.getfield 56, 3) := by decide +kernel
theorem dX1_begin_16 : decode cX1_begin 16 = .ok (.invokevirtual 57, 3) := by decide +kernel
theorem dX1_begin_19 : decode cX1_begin 19 = .ok (.aload_n 0, 1) := by decide +kernel
theorem dX1_begin_20 : decode cX1_begin 20 = .ok (.getfield 20, 3) := by decide +kernel
theorem dX1_begin_23 : decode cX1_begin 23 = .ok (.aload_n 1, 1) := by decide +kernel
theorem dX1_begin_24 : decode cX1_begin 24 = .ok (.getfield 61, 3) := by decide +kernel
theorem dX1_begin_27 : decode cX1_begin 27 = .ok (.aload_n 0, 1) := by decide +kernel
theorem dX1_begin_28 : decode cX1_begin 28 = .ok (.getfield 14, 3) := by decide +kernel
theorem dX1_begin_31 : decode cX1_begin 31 = .ok (.invokevirtual 62, 3) := by decide +kernel
theorem dX1_begin_34 : decode cX1_begin 34 = .ok (.aload_n 1, 1) := by decide +kernel
theorem dX1_begin_35 : decode cX1_begin 35 = .ok (.getfield 47, 3) := by decide +kernel
theorem dX1_begin_38 : decode cX1_begin 38 = .ok (.ifCond .ge 37, 3) := by decide +kernel
theorem dX1_begin_41 : decode cX1_begin 41 = .ok (.aload_n 0, 1) := by decide +kernel
theorem dX1_begin_42 : decode cX1_begin 42 = .ok (.getfield 20, 3) := by decide +kernel
theorem dX1_begin_45 : decode cX1_begin 45 = .ok (.invokevirtual 66, 3) := by decide +kernel
theorem dX1_begin_48 : decode cX1_begin 48 = .ok (.ifCond .ne 27, 3) := by decide +kernel
theorem dX1_begin_51 : decode cX1_begin 51 = .ok (.aload_n 0, 1) := by decide +kernel
theorem dX1_begin_52 : decode cX1_begin 52 = .ok (.getfield 14, 3) := by decide +kernel
theorem dX1_begin_55 : decode cX1_begin 55 = .ok (.iconst 1, 1) := by decide +kernel
theorem dX1_begin_56 : decode cX1_begin 56 = .ok (.iconst 1, 1) := by decide +kernel
theorem dX1_begin_57 : decode cX1_begin 57 = .ok (.invokevirtual 70, 3) := by decide +kernel
theorem dX1_begin_60 : decode cX1_begin 60 = .ok (.aload_n 0, 1) := by decide +kernel
theorem dX1_begin_61 : decode cX1_begin 61 = .ok (.getfield 20, 3) := by decide +kernel
theorem dX1_begin_64 : decode cX1_begin 64 = .ok (.aload_n 1, 1) := by decide +kernel
theorem dX1_begin_65 : decode cX1_begin 65 = .ok (.getfield 61, 3) := by decide +kernel
theorem dX1_begin_68 : decode cX1_begin 68 = .ok (.aload_n 0, 1) := by decide +kernel
theorem dX1_begin_69 : decode cX1_begin 69 = .ok (.getfield 20, 3) := by decide +kernel
theorem dX1_begin_72 : decode cX1_begin 72 = .ok (.invokevirtual 74, 3) := by decide +kernel
theorem dX1_begin_75 : decode cX1_begin 75 = .ok (.aload_n 0, 1) := by decide +kernel
theorem dX1_begin_76 : decode cX1_begin 76 = .ok (.getfield 26, 3) := by decide +kernel
theorem dX1_begin_79 : decode cX1_begin 79 = .ok (.aload_n 1, 1) := by decide +kernel
theorem dX1_begin_80 : decode cX1_begin 80 = .ok (.getfield 61, 3) := by decide +kernel
theorem dX1_begin_83 : decode cX1_begin 83 = .ok (.invokevirtual 57, 3) := by decide +kernel
theorem dX1_begin_86 : decode cX1_begin 86 = .ok (.aload_n 0, 1) := by decide +kernel
theorem dX1_begin_87 : decode cX1_begin 87 = .ok (.getfield 29, 3) := by decide +kernel
theorem dX1_begin_90 : decode cX1_begin 90 = .ok (.aload_n 0, 1) := by decide +kernel
theorem dX1_begin_91 : decode cX1_begin 91 = .ok (.getfield 20, 3) := by decide +kernel
theorem dX1_begin_94 : decode cX1_begin 94 = .ok (.invokevirtual 57, 3) := by decide +kernel
theorem dX1_begin_97 : decode cX1_begin 97 = .ok (.return_, 1) := by decide +kernel
theorem dX1_hasMore_0 : decode cX1_hasMore 0 = .ok (.aload_n 0, 1) := by decide +kernel
theorem dX1_hasMore_1 : decode cX1_hasMore 1 = .ok (.getfield 29, 3) := by decide +kernel
theorem dX1_hasMore_4 : decode cX1_hasMore 4 = .ok (.invokevirtual 66, 3) := by decide +kernel
theorem dX1_hasMore_7 : decode cX1_hasMore 7 = .ok (.ifCond .ne 7, 3) := by decide +kernel
theorem dX1_hasMore_10 : decode cX1_hasMore 10 = .ok (.iconst 1, 1) := by decide +kernel
theorem dX1_hasMore_11 : decode cX1_hasMore 11 = .ok (.goto 4, 3) := by decide +kernel
theorem dX1_hasMore_14 : decode cX1_hasMore 14 = .ok (.iconst 0, 1) := by decide +kernel
theorem dX1_hasMore_15 : decode cX1_hasMore 15 = .ok (.ireturn, 1) := by decide +kernel
theorem dX1_cut_0 : decode cX1_cut 0 = .ok (.aload_n 0, 1) := by decide +kernel
theorem dX1_cut_1 : decode cX1_cut 1 = .ok (.getfield 26, 3) := by decide +kernel
theorem dX1_cut_4 : decode cX1_cut 4 = .ok (.aload_n 0, 1) := by decide +kernel
theorem dX1_cut_5 : decode cX1_cut 5 = .ok (.getfield 29, 3) := by decide +kernel
theorem dX1_cut_8 : decode cX1_cut 8 = .ok (.aload_n 0, 1) := by decide +kernel
theorem dX1_cut_9 : decode cX1_cut 9 = .ok (.getfield 23, 3) := by decide +kernel
theorem dX1_cut_12 : decode cX1_cut 12 = .ok (.invokevirtual 62, 3) := by decide +kernel
theorem dX1_cut_15 : decode cX1_cut 15 = .ok (.aload_n 0, 1) := by decide +kernel
theorem dX1_cut_16 : decode cX1_cut 16 = .ok (.getfield 26, 3) := by decide +kernel
theorem dX1_cut_19 : decode cX1_cut 19 = .ok (.astore_n 1, 1) := by decide +kernel
theorem dX1_cut_20 : decode cX1_cut 20 = .ok (.aload_n 0, 1) := by decide +kernel
theorem dX1_cut_21 : decode cX1_cut 21 = .ok (.aload_n 0, 1) := by decide +kernel
theorem dX1_cut_22 : decode cX1_cut 22 = .ok (.getfield 29, 3) := by decide +kernel
theorem dX1_cut_25 : decode cX1_cut 25 = .ok (.putfield 26, 3) := by decide +kernel
theorem dX1_cut_28 : decode cX1_cut 28 = .ok (.aload_n 0, 1) := by decide +kernel
theorem dX1_cut_29 : decode cX1_cut 29 = .ok (.aload_n 1, 1) := by decide +kernel
theorem dX1_cut_30 : decode cX1_cut 30 = .ok (.putfield 29, 3) := by decide +kernel
theorem dX1_cut_33 : decode cX1_cut 33 = .ok (.return_, 1) := by decide +kernel
theorem dX1_length_0 : decode cX1_length 0 = .ok (.iconst 1, 1) := by decide +kernel
theorem dX1_length_1 : decode cX1_length 1 = .ok (.istore_n 1, 1) := by decide +kernel
theorem dX1_length_2 : decode cX1_length 2 = .ok (.iload_n 1, 1) := by decide +kernel
theorem dX1_length_3 : decode cX1_length 3 = .ok (.sipush 4000, 3) := by decide +kernel
theorem dX1_length_6 : decode cX1_length 6 = .ok (.if_icmp .ge 20, 3) := by decide +kernel
theorem dX1_length_9 : decode cX1_length 9 = .ok (.aload_n 0, 1) := by decide +kernel
theorem dX1_length_10 : decode cX1_length 10 = .ok (.invokevirtual 77, 3) := by decide +kernel
theorem dX1_length_13 : decode cX1_length 13 = .ok (.ifCond .eq 13, 3) := by decide +kernel
theorem dX1_length_16 : decode cX1_length 16 = .ok (.aload_n 0, 1) := by decide +kernel
theorem dX1_length_17 : decode cX1_length 17 = .ok (.invokevirtual 80, 3) := by decide +kernel
theorem dX1_length_20 : decode cX1_length 20 = .ok (.iinc 1 1, 3) := by decide +kernel
theorem dX1_length_23 : decode cX1_length 23 = .ok (.goto (-21), 3) := by decide +kernel
theorem dX1_length_26 : decode cX1_length 26 = .ok (.iload_n 1, 1) := by decide +kernel
theorem dX1_length_27 : decode cX1_length 27 = .ok (.ireturn, 1) := by decide +kernel
theorem dX1_goTo_0 : decode cX1_goTo 0 = .ok (.iload_n 1, 1) := by decide +kernel
theorem dX1_goTo_1 : decode cX1_goTo 1 = .ok (.ifCond .lt 10, 3) := by decide +kernel
theorem dX1_goTo_4 : decode cX1_goTo 4 = .ok (.iload_n 1, 1) := by decide +kernel
theorem dX1_goTo_5 : decode cX1_goTo 5 = .ok (.sipush 4000, 3) := by decide +kernel
theorem dX1_goTo_8 : decode cX1_goTo 8 = .ok (.if_icmp .le 5, 3) := by decide +kernel
theorem dX1_goTo_11 : decode cX1_goTo 11 = .ok (.iconst 0, 1) := by decide +kernel
theorem dX1_goTo_12 : decode cX1_goTo 12 = .ok (.ireturn, 1) := by decide +kernel
theorem dX1_goTo_13 : decode cX1_goTo 13 = .ok (.iconst 0, 1) := by decide +kernel
theorem dX1_goTo_14 : decode cX1_goTo 14 = .ok (.istore_n 2, 1) := by decide +kernel
theorem dX1_goTo_15 : decode cX1_goTo 15 = .ok (.iload_n 2, 1) := by decide +kernel
theorem dX1_goTo_16 : decode cX1_goTo 16 = .ok (.iload_n 1, 1) := by decide +kernel
theorem dX1_goTo_17 : decode cX1_goTo 17 = .ok (.if_icmp .ge 20, 3) := by decide +kernel
theorem dX1_goTo_20 : decode cX1_goTo 20 = .ok (.aload_n 0, 1) := by decide +kernel
theorem dX1_goTo_21 : decode cX1_goTo 21 = .ok (.invokevirtual 77, 3) := by decide +kernel
theorem dX1_goTo_24 : decode cX1_goTo 24 = .ok (.ifCond .eq 13, 3) := by decide +kernel
theorem dX1_goTo_27 : decode cX1_goTo 27 = .ok (.aload_n 0, 1) := by decide +kernel
theorem dX1_goTo_28 : decode cX1_goTo 28 = .ok (.invokevirtual 80, 3) := by decide +kernel
theorem dX1_goTo_31 : decode cX1_goTo 31 = .ok (.iinc 2 1, 3) := by decide +kernel
theorem dX1_goTo_34 : decode cX1_goTo 34 = .ok (.goto (-19), 3) := by decide +kernel
theorem dX1_goTo_37 : decode cX1_goTo 37 = .ok (.iload_n 2, 1) := by decide +kernel
theorem dX1_goTo_38 : decode cX1_goTo 38 = .ok (.iload_n 1, 1) := by decide +kernel
theorem dX1_goTo_39 : decode cX1_goTo 39 = .ok (.if_icmp .ne 7, 3) := by decide +kernel
theorem dX1_goTo_42 : decode cX1_goTo 42 = .ok (.iconst 1, 1) := by decide +kernel
theorem dX1_goTo_43 : decode cX1_goTo 43 = .ok (.goto 4, 3) := by decide +kernel
theorem dX1_goTo_46 : decode cX1_goTo 46 = .ok (.iconst 0, 1) := by decide +kernel
theorem dX1_goTo_47 : decode cX1_goTo 47 = .ok (.ireturn, 1) := by decide +kernel
theorem dX1_gather_0 : decode cX1_gather 0 = .ok (.iload_n 1, 1) := by decide +kernel
theorem dX1_gather_1 : decode cX1_gather 1 = .ok (.iconst 1, 1) := by decide +kernel
theorem dX1_gather_2 : decode cX1_gather 2 = .ok (.if_icmp .lt 10, 3) := by decide +kernel
theorem dX1_gather_5 : decode cX1_gather 5 = .ok (.iload_n 1, 1) := by decide +kernel
theorem dX1_gather_6 : decode cX1_gather 6 = .ok (.sipush 4000, 3) := by decide +kernel
theorem dX1_gather_9 : decode cX1_gather 9 = .ok (.if_icmp .le 5, 3) := by decide +kernel
theorem dX1_gather_12 : decode cX1_gather 12 = .ok (.iconst 0, 1) := by decide +kernel
theorem dX1_gather_13 : decode cX1_gather 13 = .ok (.ireturn, 1) := by decide +kernel
theorem dX1_gather_14 : decode cX1_gather 14 = .ok (.aload_n 0, 1) := by decide +kernel
theorem dX1_gather_15 : decode cX1_gather 15 = .ok (.getfield 32, 3) := by decide +kernel
theorem dX1_gather_18 : decode cX1_gather 18 = .ok (.invokevirtual 83, 3) := by decide +kernel
theorem dX1_gather_21 : decode cX1_gather 21 = .ok (.aload_n 0, 1) := by decide +kernel
theorem dX1_gather_22 : decode cX1_gather 22 = .ok (.getfield 35, 3) := by decide +kernel
theorem dX1_gather_25 : decode cX1_gather 25 = .ok (.lconst 1, 1) := by decide +kernel
theorem dX1_gather_26 : decode cX1_gather 26 = .ok (.invokevirtual 86, 3) := by decide +kernel
theorem dX1_gather_29 : decode cX1_gather 29 = .ok (.aload_n 0, 1) := by decide +kernel
theorem dX1_gather_30 : decode cX1_gather 30 = .ok (.getfield 38, 3) := by decide +kernel
theorem dX1_gather_33 : decode cX1_gather 33 = .ok (.lconst 1, 1) := by decide +kernel
theorem dX1_gather_34 : decode cX1_gather 34 = .ok (.invokevirtual 86, 3) := by decide +kernel
theorem dX1_gather_37 : decode cX1_gather 37 = .ok (.aload_n 0, 1) := by decide +kernel
theorem dX1_gather_38 : decode cX1_gather 38 = .ok (.getfield 41, 3) := by decide +kernel
theorem dX1_gather_41 : decode cX1_gather 41 = .ok (.invokevirtual 83, 3) := by decide +kernel
theorem dX1_gather_44 : decode cX1_gather 44 = .ok (.iconst 1, 1) := by decide +kernel
theorem dX1_gather_45 : decode cX1_gather 45 = .ok (.istore_n 2, 1) := by decide +kernel
theorem dX1_gather_46 : decode cX1_gather 46 = .ok (.iload_n 2, 1) := by decide +kernel
theorem dX1_gather_47 : decode cX1_gather 47 = .ok (.iload_n 1, 1) := by decide +kernel
theorem dX1_gather_48 : decode cX1_gather 48 = .ok (.if_icmp .ge 24, 3) := by decide +kernel
theorem dX1_gather_51 : decode cX1_gather 51 = .ok (.aload_n 0, 1) := by decide +kernel
theorem dX1_gather_52 : decode cX1_gather 52 = .ok (.invokevirtual 77, 3) := by decide +kernel
theorem dX1_gather_55 : decode cX1_gather 55 = .ok (.ifCond .eq 17, 3) := by decide +kernel
theorem dX1_gather_58 : decode cX1_gather 58 = .ok (.aload_n 0, 1) := by decide +kernel
theorem dX1_gather_59 : decode cX1_gather 59 = .ok (.invokevirtual 80, 3) := by decide +kernel
theorem dX1_gather_62 : decode cX1_gather 62 = .ok (.aload_n 0, 1) := by decide +kernel
theorem dX1_gather_63 : decode cX1_gather 63 = .ok (.invokevirtual 90, 3) := by decide +kernel
theorem dX1_gather_66 : decode cX1_gather 66 = .ok (.iinc 2 1, 3) := by decide +kernel
theorem dX1_gather_69 : decode cX1_gather 69 = .ok (.goto (-23), 3) := by decide +kernel
theorem dX1_gather_72 : decode cX1_gather 72 = .ok (.iload_n 2, 1) := by decide +kernel
theorem dX1_gather_73 : decode cX1_gather 73 = .ok (.iload_n 1, 1) := by decide +kernel
theorem dX1_gather_74 : decode cX1_gather 74 = .ok (.if_icmp .ne 7, 3) := by decide +kernel
theorem dX1_gather_77 : decode cX1_gather 77 = .ok (.iconst 1, 1) := by decide +kernel
theorem dX1_gather_78 : decode cX1_gather 78 = .ok (.goto 4, 3) := by decide +kernel
theorem dX1_gather_81 : decode cX1_gather 81 = .ok (.iconst 0, 1) := by decide +kernel
theorem dX1_gather_82 : decode cX1_gather 82 = .ok (.ireturn, 1) := by decide +kernel
theorem dX1_join_0 : decode cX1_join 0 = .ok (.aload_n 0, 1) := by decide +kernel
theorem dX1_join_1 : decode cX1_join 1 = .ok (.getfield 38, 3) := by decide +kernel
theorem dX1_join_4 : decode cX1_join 4 = .ok (.aload_n 0, 1) := by decide +kernel
theorem dX1_join_5 : decode cX1_join 5 = .ok (.getfield 23, 3) := by decide +kernel
theorem dX1_join_8 : decode cX1_join 8 = .ok (.aload_n 0, 1) := by decide +kernel
theorem dX1_join_9 : decode cX1_join 9 = .ok (.getfield 32, 3) := by decide +kernel
theorem dX1_join_12 : decode cX1_join 12 = .ok (.invokevirtual 93, 3) := by decide +kernel
theorem dX1_join_15 : decode cX1_join 15 = .ok (.aload_n 0, 1) := by decide +kernel
theorem dX1_join_16 : decode cX1_join 16 = .ok (.getfield 38, 3) := by decide +kernel
theorem dX1_join_19 : decode cX1_join 19 = .ok (.astore_n 1, 1) := by decide +kernel
theorem dX1_join_20 : decode cX1_join 20 = .ok (.aload_n 0, 1) := by decide +kernel
theorem dX1_join_21 : decode cX1_join 21 = .ok (.aload_n 0, 1) := by decide +kernel
theorem dX1_join_22 : decode cX1_join 22 = .ok (.getfield 32, 3) := by decide +kernel
theorem dX1_join_25 : decode cX1_join 25 = .ok (.putfield 38, 3) := by decide +kernel
theorem dX1_join_28 : decode cX1_join 28 = .ok (.aload_n 0, 1) := by decide +kernel
theorem dX1_join_29 : decode cX1_join 29 = .ok (.aload_n 1, 1) := by decide +kernel
theorem dX1_join_30 : decode cX1_join 30 = .ok (.putfield 32, 3) := by decide +kernel
theorem dX1_join_33 : decode cX1_join 33 = .ok (.aload_n 0, 1) := by decide +kernel
theorem dX1_join_34 : decode cX1_join 34 = .ok (.getfield 41, 3) := by decide +kernel
theorem dX1_join_37 : decode cX1_join 37 = .ok (.aload_n 0, 1) := by decide +kernel
theorem dX1_join_38 : decode cX1_join 38 = .ok (.getfield 23, 3) := by decide +kernel
theorem dX1_join_41 : decode cX1_join 41 = .ok (.aload_n 0, 1) := by decide +kernel
theorem dX1_join_42 : decode cX1_join 42 = .ok (.getfield 35, 3) := by decide +kernel
theorem dX1_join_45 : decode cX1_join 45 = .ok (.invokevirtual 93, 3) := by decide +kernel
theorem dX1_join_48 : decode cX1_join 48 = .ok (.aload_n 0, 1) := by decide +kernel
theorem dX1_join_49 : decode cX1_join 49 = .ok (.getfield 41, 3) := by decide +kernel
theorem dX1_join_52 : decode cX1_join 52 = .ok (.astore_n 1, 1) := by decide +kernel
theorem dX1_join_53 : decode cX1_join 53 = .ok (.aload_n 0, 1) := by decide +kernel
theorem dX1_join_54 : decode cX1_join 54 = .ok (.aload_n 0, 1) := by decide +kernel
theorem dX1_join_55 : decode cX1_join 55 = .ok (.getfield 35, 3) := by decide +kernel
theorem dX1_join_58 : decode cX1_join 58 = .ok (.putfield 41, 3) := by decide +kernel
theorem dX1_join_61 : decode cX1_join 61 = .ok (.aload_n 0, 1) := by decide +kernel
theorem dX1_join_62 : decode cX1_join 62 = .ok (.aload_n 1, 1) := by decide +kernel
theorem dX1_join_63 : decode cX1_join 63 = .ok (.putfield 35, 3) := by decide +kernel
theorem dX1_join_66 : decode cX1_join 66 = .ok (.return_, 1) := by decide +kernel
theorem dX1_tell_0 : decode cX1_tell 0 = .ok (.aload_n 1, 1) := by decide +kernel
theorem dX1_tell_1 : decode cX1_tell 1 = .ok (.aload_n 0, 1) := by decide +kernel
theorem dX1_tell_2 : decode cX1_tell 2 = .ok (.getfield 53, 3) := by decide +kernel
theorem dX1_tell_5 : decode cX1_tell 5 = .ok (.putfield 47, 3) := by decide +kernel
theorem dX1_tell_8 : decode cX1_tell 8 = .ok (.aload_n 1, 1) := by decide +kernel
theorem dX1_tell_9 : decode cX1_tell 9 = .ok (.getfield 56, 3) := by decide +kernel
theorem dX1_tell_12 : decode cX1_tell 12 = .ok (.aload_n 0, 1) := by decide +kernel
theorem dX1_tell_13 : decode cX1_tell 13 = .ok (.getfield 14, 3) := by decide +kernel
theorem dX1_tell_16 : decode cX1_tell 16 = .ok (.aload_n 0, 1) := by decide +kernel
theorem dX1_tell_17 : decode cX1_tell 17 = .ok (.getfield 35, 3) := by decide +kernel
theorem dX1_tell_20 : decode cX1_tell 20 = .ok (.invokevirtual 96, 3) := by decide +kernel
theorem dX1_tell_23 : decode cX1_tell 23 = .ok (.aload_n 1, 1) := by decide +kernel
theorem dX1_tell_24 : decode cX1_tell 24 = .ok (.iconst 1, 1) := by decide +kernel
theorem dX1_tell_25 : decode cX1_tell 25 = .ok (.aload_n 0, 1) := by decide +kernel
theorem dX1_tell_26 : decode cX1_tell 26 = .ok (.getfield 32, 3) := by decide +kernel
theorem dX1_tell_29 : decode cX1_tell 29 = .ok (.invokevirtual 99, 3) := by decide +kernel
theorem dX1_tell_32 : decode cX1_tell 32 = .ok (.aload_n 1, 1) := by decide +kernel
theorem dX1_tell_33 : decode cX1_tell 33 = .ok (.getfield 61, 3) := by decide +kernel
theorem dX1_tell_36 : decode cX1_tell 36 = .ok (.aload_n 0, 1) := by decide +kernel
theorem dX1_tell_37 : decode cX1_tell 37 = .ok (.getfield 35, 3) := by decide +kernel
theorem dX1_tell_40 : decode cX1_tell 40 = .ok (.invokevirtual 57, 3) := by decide +kernel
theorem dX1_tell_43 : decode cX1_tell 43 = .ok (.return_, 1) := by decide +kernel
theorem dX1_seekNearest_0 : decode cX1_seekNearest 0 = .ok (.lconst 0, 1) := by decide +kernel
theorem dX1_seekNearest_1 : decode cX1_seekNearest 1 = .ok (.lstore 4, 2) := by decide +kernel
theorem dX1_seekNearest_3 : decode cX1_seekNearest 3 = .ok (.lconst 1, 1) := by decide +kernel
theorem dX1_seekNearest_4 : decode cX1_seekNearest 4 = .ok (.lstore 6, 2) := by decide +kernel
theorem dX1_seekNearest_6 : decode cX1_seekNearest 6 = .ok (.lconst 1, 1) := by decide +kernel
theorem dX1_seekNearest_7 : decode cX1_seekNearest 7 = .ok (.lstore 8, 2) := by decide +kernel
theorem dX1_seekNearest_9 : decode cX1_seekNearest 9 = .ok (.lconst 0, 1) := by decide +kernel
theorem dX1_seekNearest_10 : decode cX1_seekNearest 10 = .ok (.lstore 10, 2) := by decide +kernel
theorem dX1_seekNearest_12 : decode cX1_seekNearest 12 = .ok (.lconst 0, 1) := by decide +kernel
theorem dX1_seekNearest_13 : decode cX1_seekNearest 13 = .ok (.lstore 12, 2) := by decide +kernel
theorem dX1_seekNearest_15 : decode cX1_seekNearest 15 = .ok (.iconst 0, 1) := by decide +kernel
theorem dX1_seekNearest_16 : decode cX1_seekNearest 16 = .ok (.istore 14, 2) := by decide +kernel
theorem dX1_seekNearest_18 : decode cX1_seekNearest 18 = .ok (.iload 14, 2) := by decide +kernel
theorem dX1_seekNearest_20 : decode cX1_seekNearest 20 = .ok (.sipush 4000, 3) := by decide +kernel
theorem dX1_seekNearest_23 : decode cX1_seekNearest 23 = .ok (.if_icmp .ge 97, 3) := by decide +kernel
theorem dX1_seekNearest_26 : decode cX1_seekNearest 26 = .ok (.aload_n 0, 1) := by decide +kernel
theorem dX1_seekNearest_27 : decode cX1_seekNearest 27 = .ok (.invokevirtual 77, 3) := by decide +kernel
theorem dX1_seekNearest_30 : decode cX1_seekNearest 30 = .ok (.ifCond .eq 90, 3) := by decide +kernel
theorem dX1_seekNearest_33 : decode cX1_seekNearest 33 = .ok (.lload 6, 2) := by decide +kernel
theorem dX1_seekNearest_35 : decode cX1_seekNearest 35 = .ok (.lconst 0, 1) := by decide +kernel
theorem dX1_seekNearest_36 : decode cX1_seekNearest 36 = .ok (.lcmp, 1) := by decide +kernel
theorem dX1_seekNearest_37 : decode cX1_seekNearest 37 = .ok (.ifCond .le 83, 3) := by decide +kernel
theorem dX1_seekNearest_40 : decode cX1_seekNearest 40 = .ok (.aload_n 0, 1) := by decide +kernel
theorem dX1_seekNearest_41 : decode cX1_seekNearest 41 = .ok (.invokevirtual 80, 3) := by decide +kernel
theorem dX1_seekNearest_44 : decode cX1_seekNearest 44 = .ok (.lload_n 2, 1) := by decide +kernel
theorem dX1_seekNearest_45 : decode cX1_seekNearest 45 = .ok (.lload 10, 2) := by decide +kernel
theorem dX1_seekNearest_47 : decode cX1_seekNearest 47 = .ok (.lsub, 1) := by decide +kernel
theorem dX1_seekNearest_48 : decode cX1_seekNearest 48 = .ok (.lload 6, 2) := by decide +kernel
theorem dX1_seekNearest_50 : decode cX1_seekNearest 50 = .ok (.ldiv, 1) := by decide +kernel
theorem dX1_seekNearest_51 : decode cX1_seekNearest 51 = .ok (.lstore 12, 2) := by decide +kernel
theorem dX1_seekNearest_53 : decode cX1_seekNearest 53 = .ok (.aload_n 0, 1) := by decide +kernel
theorem dX1_seekNearest_54 : decode cX1_seekNearest 54 = .ok (.getfield 23, 3) := by decide +kernel
theorem dX1_seekNearest_57 : decode cX1_seekNearest 57 = .ok (.lload 12, 2) := by decide +kernel
theorem dX1_seekNearest_59 : decode cX1_seekNearest 59 = .ok (.invokevirtual 103, 3) := by decide +kernel
theorem dX1_seekNearest_62 : decode cX1_seekNearest 62 = .ok (.ifCond .eq 6, 3) := by decide +kernel
theorem dX1_seekNearest_65 : decode cX1_seekNearest 65 = .ok (.goto 55, 3) := by decide +kernel
theorem dX1_seekNearest_68 : decode cX1_seekNearest 68 = .ok (.aload_n 0, 1) := by decide +kernel
theorem dX1_seekNearest_69 : decode cX1_seekNearest 69 = .ok (.getfield 23, 3) := by decide +kernel
theorem dX1_seekNearest_72 : decode cX1_seekNearest 72 = .ok (.invokevirtual 107, 3) := by decide +kernel
theorem dX1_seekNearest_75 : decode cX1_seekNearest 75 = .ok (.lload 4, 2) := by decide +kernel
theorem dX1_seekNearest_77 : decode cX1_seekNearest 77 = .ok (.lmul, 1) := by decide +kernel
theorem dX1_seekNearest_78 : decode cX1_seekNearest 78 = .ok (.lload 8, 2) := by decide +kernel
theorem dX1_seekNearest_80 : decode cX1_seekNearest 80 = .ok (.ladd, 1) := by decide +kernel
theorem dX1_seekNearest_81 : decode cX1_seekNearest 81 = .ok (.lstore 15, 2) := by decide +kernel
theorem dX1_seekNearest_83 : decode cX1_seekNearest 83 = .ok (.aload_n 0, 1) := by decide +kernel
theorem dX1_seekNearest_84 : decode cX1_seekNearest 84 = .ok (.getfield 23, 3) := by decide +kernel
theorem dX1_seekNearest_87 : decode cX1_seekNearest 87 = .ok (.invokevirtual 107, 3) := by decide +kernel
theorem dX1_seekNearest_90 : decode cX1_seekNearest 90 = .ok (.lload 6, 2) := by decide +kernel
theorem dX1_seekNearest_92 : decode cX1_seekNearest 92 = .ok (.lmul, 1) := by decide +kernel
theorem dX1_seekNearest_93 : decode cX1_seekNearest 93 = .ok (.lload 10, 2) := by decide +kernel
theorem dX1_seekNearest_95 : decode cX1_seekNearest 95 = .ok (.ladd, 1) := by decide +kernel
theorem dX1_seekNearest_96 : decode cX1_seekNearest 96 = .ok (.lstore 17, 2) := by decide +kernel
theorem dX1_seekNearest_98 : decode cX1_seekNearest 98 = .ok (.lload 4, 2) := by decide +kernel
theorem dX1_seekNearest_100 : decode cX1_seekNearest 100 = .ok (.lstore 8, 2) := by decide +kernel
theorem dX1_seekNearest_102 : decode cX1_seekNearest 102 = .ok (.lload 6, 2) := by decide +kernel
theorem dX1_seekNearest_104 : decode cX1_seekNearest 104 = .ok (.lstore 10, 2) := by decide +kernel
theorem dX1_seekNearest_106 : decode cX1_seekNearest 106 = .ok (.lload 15, 2) := by decide +kernel
theorem dX1_seekNearest_108 : decode cX1_seekNearest 108 = .ok (.lstore 4, 2) := by decide +kernel
theorem dX1_seekNearest_110 : decode cX1_seekNearest 110 = .ok (.lload 17, 2) := by decide +kernel
theorem dX1_seekNearest_112 : decode cX1_seekNearest 112 = .ok (.lstore 6, 2) := by decide +kernel
theorem dX1_seekNearest_114 : decode cX1_seekNearest 114 = .ok (.iinc 14 1, 3) := by decide +kernel
theorem dX1_seekNearest_117 : decode cX1_seekNearest 117 = .ok (.goto (-99), 3) := by decide +kernel
theorem dX1_seekNearest_120 : decode cX1_seekNearest 120 = .ok (.aload_n 0, 1) := by decide +kernel
theorem dX1_seekNearest_121 : decode cX1_seekNearest 121 = .ok (.aload_n 1, 1) := by decide +kernel
theorem dX1_seekNearest_122 : decode cX1_seekNearest 122 = .ok (.lload 4, 2) := by decide +kernel
theorem dX1_seekNearest_124 : decode cX1_seekNearest 124 = .ok (.lload 6, 2) := by decide +kernel
theorem dX1_seekNearest_126 : decode cX1_seekNearest 126 = .ok (.lload 8, 2) := by decide +kernel
theorem dX1_seekNearest_128 : decode cX1_seekNearest 128 = .ok (.lload 12, 2) := by decide +kernel
theorem dX1_seekNearest_130 : decode cX1_seekNearest 130 = .ok (.lload 4, 2) := by decide +kernel
theorem dX1_seekNearest_132 : decode cX1_seekNearest 132 = .ok (.lmul, 1) := by decide +kernel
theorem dX1_seekNearest_133 : decode cX1_seekNearest 133 = .ok (.ladd, 1) := by decide +kernel
theorem dX1_seekNearest_134 : decode cX1_seekNearest 134 = .ok (.lload 10, 2) := by decide +kernel
theorem dX1_seekNearest_136 : decode cX1_seekNearest 136 = .ok (.lload 12, 2) := by decide +kernel
theorem dX1_seekNearest_138 : decode cX1_seekNearest 138 = .ok (.lload 6, 2) := by decide +kernel
theorem dX1_seekNearest_140 : decode cX1_seekNearest 140 = .ok (.lmul, 1) := by decide +kernel
theorem dX1_seekNearest_141 : decode cX1_seekNearest 141 = .ok (.ladd, 1) := by decide +kernel
theorem dX1_seekNearest_142 : decode cX1_seekNearest 142 = .ok (.invokevirtual 111, 3) := by decide +kernel
theorem dX1_seekNearest_145 : decode cX1_seekNearest 145 = .ok (.return_, 1) := by decide +kernel
theorem dX1_choose_0 : decode cX1_choose 0 = .ok (.aload_n 0, 1) := by decide +kernel
theorem dX1_choose_1 : decode cX1_choose 1 = .ok (.aload_n 0, 1) := by decide +kernel
theorem dX1_choose_2 : decode cX1_choose 2 = .ok (.getfield 26, 3) := by decide +kernel
theorem dX1_choose_5 : decode cX1_choose 5 = .ok (.aload_n 1, 1) := by decide +kernel
theorem dX1_choose_6 : decode cX1_choose 6 = .ok (.lload_n 2, 1) := by decide +kernel
theorem dX1_choose_7 : decode cX1_choose 7 = .ok (.lload 4, 2) := by decide +kernel
theorem dX1_choose_9 : decode cX1_choose 9 = .ok (.lload 8, 2) := by decide +kernel
theorem dX1_choose_11 : decode cX1_choose 11 = .ok (.invokevirtual 115, 3) := by decide +kernel
theorem dX1_choose_14 : decode cX1_choose 14 = .ok (.aload_n 0, 1) := by decide +kernel
theorem dX1_choose_15 : decode cX1_choose 15 = .ok (.aload_n 0, 1) := by decide +kernel
theorem dX1_choose_16 : decode cX1_choose 16 = .ok (.getfield 29, 3) := by decide +kernel
theorem dX1_choose_19 : decode cX1_choose 19 = .ok (.aload_n 1, 1) := by decide +kernel
theorem dX1_choose_20 : decode cX1_choose 20 = .ok (.lload 6, 2) := by decide +kernel
theorem dX1_choose_22 : decode cX1_choose 22 = .ok (.lload 8, 2) := by decide +kernel
theorem dX1_choose_24 : decode cX1_choose 24 = .ok (.lload 4, 2) := by decide +kernel
theorem dX1_choose_26 : decode cX1_choose 26 = .ok (.invokevirtual 115, 3) := by decide +kernel
theorem dX1_choose_29 : decode cX1_choose 29 = .ok (.aload_n 0, 1) := by decide +kernel
theorem dX1_choose_30 : decode cX1_choose 30 = .ok (.getfield 26, 3) := by decide +kernel
theorem dX1_choose_33 : decode cX1_choose 33 = .ok (.aload_n 0, 1) := by decide +kernel
theorem dX1_choose_34 : decode cX1_choose 34 = .ok (.getfield 29, 3) := by decide +kernel
theorem dX1_choose_37 : decode cX1_choose 37 = .ok (.invokevirtual 119, 3) := by decide +kernel
theorem dX1_choose_40 : decode cX1_choose 40 = .ok (.istore 10, 2) := by decide +kernel
theorem dX1_choose_42 : decode cX1_choose 42 = .ok (.iload 10, 2) := by decide +kernel
theorem dX1_choose_44 : decode cX1_choose 44 = .ok (.ifCond .ne 29, 3) := by decide +kernel
theorem dX1_choose_47 : decode cX1_choose 47 = .ok (.lload 4, 2) := by decide +kernel
theorem dX1_choose_49 : decode cX1_choose 49 = .ok (.lload 8, 2) := by decide +kernel
theorem dX1_choose_51 : decode cX1_choose 51 = .ok (.lcmp, 1) := by decide +kernel
theorem dX1_choose_52 : decode cX1_choose 52 = .ok (.ifCond .ne 12, 3) := by decide +kernel
theorem dX1_choose_55 : decode cX1_choose 55 = .ok (.lload_n 2, 1) := by decide +kernel
theorem dX1_choose_56 : decode cX1_choose 56 = .ok (.lload 6, 2) := by decide +kernel
theorem dX1_choose_58 : decode cX1_choose 58 = .ok (.invokestatic 123, 3) := by decide +kernel
theorem dX1_choose_61 : decode cX1_choose 61 = .ok (.goto 10, 3) := by decide +kernel
theorem dX1_choose_64 : decode cX1_choose 64 = .ok (.lload 4, 2) := by decide +kernel
theorem dX1_choose_66 : decode cX1_choose 66 = .ok (.lload 8, 2) := by decide +kernel
theorem dX1_choose_68 : decode cX1_choose 68 = .ok (.invokestatic 123, 3) := by decide +kernel
theorem dX1_choose_71 : decode cX1_choose 71 = .ok (.istore 10, 2) := by decide +kernel
theorem dX1_choose_73 : decode cX1_choose 73 = .ok (.aload_n 0, 1) := by decide +kernel
theorem dX1_choose_74 : decode cX1_choose 74 = .ok (.getfield 32, 3) := by decide +kernel
theorem dX1_choose_77 : decode cX1_choose 77 = .ok (.iload 10, 2) := by decide +kernel
theorem dX1_choose_79 : decode cX1_choose 79 = .ok (.ifCond .gt 7, 3) := by decide +kernel
theorem dX1_choose_82 : decode cX1_choose 82 = .ok (.lload_n 2, 1) := by decide +kernel
theorem dX1_choose_83 : decode cX1_choose 83 = .ok (.goto 5, 3) := by decide +kernel
theorem dX1_choose_86 : decode cX1_choose 86 = .ok (.lload 6, 2) := by decide +kernel
theorem dX1_choose_88 : decode cX1_choose 88 = .ok (.invokevirtual 86, 3) := by decide +kernel
theorem dX1_choose_91 : decode cX1_choose 91 = .ok (.aload_n 0, 1) := by decide +kernel
theorem dX1_choose_92 : decode cX1_choose 92 = .ok (.getfield 35, 3) := by decide +kernel
theorem dX1_choose_95 : decode cX1_choose 95 = .ok (.iload 10, 2) := by decide +kernel
theorem dX1_choose_97 : decode cX1_choose 97 = .ok (.ifCond .gt 8, 3) := by decide +kernel
theorem dX1_choose_100 : decode cX1_choose 100 = .ok (.lload 4, 2) := by decide +kernel
theorem dX1_choose_102 : decode cX1_choose 102 = .ok (.goto 5, 3) := by decide +kernel
theorem dX1_choose_105 : decode cX1_choose 105 = .ok (.lload 8, 2) := by decide +kernel
theorem dX1_choose_107 : decode cX1_choose 107 = .ok (.invokevirtual 86, 3) := by decide +kernel
theorem dX1_choose_110 : decode cX1_choose 110 = .ok (.return_, 1) := by decide +kernel
theorem dX1_gap_0 : decode cX1_gap 0 = .ok (.aload_n 0, 1) := by decide +kernel
theorem dX1_gap_1 : decode cX1_gap 1 = .ok (.getfield 44, 3) := by decide +kernel
theorem dX1_gap_4 : decode cX1_gap 4 = .ok (.lload 5, 2) := by decide +kernel
theorem dX1_gap_6 : decode cX1_gap 6 = .ok (.invokevirtual 86, 3) := by decide +kernel
theorem dX1_gap_9 : decode cX1_gap 9 = .ok (.aload_n 0, 1) := by decide +kernel
theorem dX1_gap_10 : decode cX1_gap 10 = .ok (.getfield 38, 3) := by decide +kernel
theorem dX1_gap_13 : decode cX1_gap 13 = .ok (.aload_n 0, 1) := by decide +kernel
theorem dX1_gap_14 : decode cX1_gap 14 = .ok (.getfield 20, 3) := by decide +kernel
theorem dX1_gap_17 : decode cX1_gap 17 = .ok (.aload_n 0, 1) := by decide +kernel
theorem dX1_gap_18 : decode cX1_gap 18 = .ok (.getfield 44, 3) := by decide +kernel
theorem dX1_gap_21 : decode cX1_gap 21 = .ok (.invokevirtual 96, 3) := by decide +kernel
theorem dX1_gap_24 : decode cX1_gap 24 = .ok (.aload_n 0, 1) := by decide +kernel
theorem dX1_gap_25 : decode cX1_gap 25 = .ok (.getfield 44, 3) := by decide +kernel
theorem dX1_gap_28 : decode cX1_gap 28 = .ok (.lload_n 3, 1) := by decide +kernel
theorem dX1_gap_29 : decode cX1_gap 29 = .ok (.invokevirtual 86, 3) := by decide +kernel
theorem dX1_gap_32 : decode cX1_gap 32 = .ok (.aload_n 0, 1) := by decide +kernel
theorem dX1_gap_33 : decode cX1_gap 33 = .ok (.getfield 41, 3) := by decide +kernel
theorem dX1_gap_36 : decode cX1_gap 36 = .ok (.aload_n 2, 1) := by decide +kernel
theorem dX1_gap_37 : decode cX1_gap 37 = .ok (.aload_n 0, 1) := by decide +kernel
theorem dX1_gap_38 : decode cX1_gap 38 = .ok (.getfield 44, 3) := by decide +kernel
theorem dX1_gap_41 : decode cX1_gap 41 = .ok (.invokevirtual 96, 3) := by decide +kernel
theorem dX1_gap_44 : decode cX1_gap 44 = .ok (.aload_n 0, 1) := by decide +kernel
theorem dX1_gap_45 : decode cX1_gap 45 = .ok (.getfield 38, 3) := by decide +kernel
theorem dX1_gap_48 : decode cX1_gap 48 = .ok (.aload_n 0, 1) := by decide +kernel
theorem dX1_gap_49 : decode cX1_gap 49 = .ok (.getfield 41, 3) := by decide +kernel
theorem dX1_gap_52 : decode cX1_gap 52 = .ok (.invokevirtual 119, 3) := by decide +kernel
theorem dX1_gap_55 : decode cX1_gap 55 = .ok (.ifCond .lt 21, 3) := by decide +kernel
theorem dX1_gap_58 : decode cX1_gap 58 = .ok (.aload_n 0, 1) := by decide +kernel
theorem dX1_gap_59 : decode cX1_gap 59 = .ok (.getfield 38, 3) := by decide +kernel
theorem dX1_gap_62 : decode cX1_gap 62 = .ok (.aload_n 0, 1) := by decide +kernel
theorem dX1_gap_63 : decode cX1_gap 63 = .ok (.getfield 38, 3) := by decide +kernel
theorem dX1_gap_66 : decode cX1_gap 66 = .ok (.aload_n 0, 1) := by decide +kernel
theorem dX1_gap_67 : decode cX1_gap 67 = .ok (.getfield 41, 3) := by decide +kernel
theorem dX1_gap_70 : decode cX1_gap 70 = .ok (.invokevirtual 74, 3) := by decide +kernel
theorem dX1_gap_73 : decode cX1_gap 73 = .ok (.goto 18, 3) := by decide +kernel
theorem dX1_gap_76 : decode cX1_gap 76 = .ok (.aload_n 0, 1) := by decide +kernel
theorem dX1_gap_77 : decode cX1_gap 77 = .ok (.getfield 38, 3) := by decide +kernel
theorem dX1_gap_80 : decode cX1_gap 80 = .ok (.aload_n 0, 1) := by decide +kernel
theorem dX1_gap_81 : decode cX1_gap 81 = .ok (.getfield 41, 3) := by decide +kernel
theorem dX1_gap_84 : decode cX1_gap 84 = .ok (.aload_n 0, 1) := by decide +kernel
theorem dX1_gap_85 : decode cX1_gap 85 = .ok (.getfield 38, 3) := by decide +kernel
theorem dX1_gap_88 : decode cX1_gap 88 = .ok (.invokevirtual 74, 3) := by decide +kernel
theorem dX1_gap_91 : decode cX1_gap 91 = .ok (.aload_n 0, 1) := by decide +kernel
theorem dX1_gap_92 : decode cX1_gap 92 = .ok (.getfield 44, 3) := by decide +kernel
theorem dX1_gap_95 : decode cX1_gap 95 = .ok (.lload 7, 2) := by decide +kernel
theorem dX1_gap_97 : decode cX1_gap 97 = .ok (.invokevirtual 86, 3) := by decide +kernel
theorem dX1_gap_100 : decode cX1_gap 100 = .ok (.aload_n 1, 1) := by decide +kernel
theorem dX1_gap_101 : decode cX1_gap 101 = .ok (.aload_n 0, 1) := by decide +kernel
theorem dX1_gap_102 : decode cX1_gap 102 = .ok (.getfield 38, 3) := by decide +kernel
theorem dX1_gap_105 : decode cX1_gap 105 = .ok (.aload_n 0, 1) := by decide +kernel
theorem dX1_gap_106 : decode cX1_gap 106 = .ok (.getfield 44, 3) := by decide +kernel
theorem dX1_gap_109 : decode cX1_gap 109 = .ok (.invokevirtual 96, 3) := by decide +kernel
theorem dX1_gap_112 : decode cX1_gap 112 = .ok (.return_, 1) := by decide +kernel
theorem dX2_init_0 : decode cX2_init 0 = .ok (.aload_n 0, 1) := by decide +kernel
theorem dX2_init_1 : decode cX2_init 1 = .ok (.invokespecial 3, 3) := by decide +kernel
theorem dX2_init_4 : decode cX2_init 4 = .ok (.aload_n 0, 1) := by decide +kernel
theorem dX2_init_5 : decode cX2_init 5 = .ok (.iconst 0, 1) := by decide +kernel
theorem dX2_init_6 : decode cX2_init 6 = .ok (.putfield 9, 3) := by decide +kernel
theorem dX2_init_9 : decode cX2_init 9 = .ok (.aload_n 0, 1) := by decide +kernel
theorem dX2_init_10 : decode cX2_init 10 = .ok (.new 15, 3) := by decide +kernel
theorem dX2_init_13 : decode cX2_init 13 = .ok (.dup, 1) := by decide +kernel
theorem dX2_init_14 : decode cX2_init 14 = .ok (.iload_n 1, 1) := by decide +kernel
theorem dX2_init_15 : decode cX2_init 15 = .ok (.invokespecial 17, 3) := by decide +kernel
theorem dX2_init_18 : decode cX2_init 18 = .ok (.putfield 20, 3) := by decide +kernel
theorem dX2_init_21 : decode cX2_init 21 = .ok (.aload_n 0, 1) := by decide +kernel
theorem dX2_init_22 : decode cX2_init 22 = .ok (.new 15, 3) := by decide +kernel
theorem dX2_init_25 : decode cX2_init 25 = .ok (.dup, 1) := by decide +kernel
theorem dX2_init_26 : decode cX2_init 26 = .ok (.iload_n 1, 1) := by decide +kernel
theorem dX2_init_27 : decode cX2_init 27 = .ok (.invokespecial 17, 3) := by decide +kernel
theorem dX2_init_30 : decode cX2_init 30 = .ok (.putfield 24, 3) := by decide +kernel
theorem dX2_init_33 : decode cX2_init 33 = .ok (.return_, 1) := by decide +kernel
theorem dX2_copy_0 : decode cX2_copy 0 = .ok (.aload_n 0, 1) := by decide +kernel
theorem dX2_copy_1 : decode cX2_copy 1 = .ok (.aload_n 1, 1) := by decide +kernel
theorem dX2_copy_2 : decode cX2_copy 2 = .ok (.getfield 9, 3) := by decide +kernel
theorem dX2_copy_5 : decode cX2_copy 5 = .ok (.putfield 9, 3) := by decide +kernel
theorem dX2_copy_8 : decode cX2_copy 8 = .ok (.aload_n 0, 1) := by decide +kernel
theorem dX2_copy_9 : decode cX2_copy 9 = .ok (.getfield 20, 3) := by decide +kernel
theorem dX2_copy_12 : decode cX2_copy 12 = .ok (.aload_n 1, 1) := by decide +kernel
theorem dX2_copy_13 : decode cX2_copy 13 = .ok (.getfield 20, 3) := by decide +kernel
theorem dX2_copy_16 : decode cX2_copy 16 = .ok (.invokevirtual 27, 3) := by decide +kernel
theorem dX2_copy_19 : decode cX2_copy 19 = .ok (.aload_n 0, 1) := by decide +kernel
theorem dX2_copy_20 : decode cX2_copy 20 = .ok (.getfield 24, 3) := by decide +kernel
theorem dX2_copy_23 : decode cX2_copy 23 = .ok (.aload_n 1, 1) := by decide +kernel
theorem dX2_copy_24 : decode cX2_copy 24 = .ok (.getfield 24, 3) := by decide +kernel
theorem dX2_copy_27 : decode cX2_copy 27 = .ok (.invokevirtual 27, 3) := by decide +kernel
theorem dX2_copy_30 : decode cX2_copy 30 = .ok (.return_, 1) := by decide +kernel
theorem dX2_become_0 : decode cX2_become 0 = .ok (.aload_n 0, 1) := by decide +kernel
theorem dX2_become_1 : decode cX2_become 1 = .ok (.iload_n 1, 1) := by decide +kernel
theorem dX2_become_2 : decode cX2_become 2 = .ok (.putfield 9, 3) := by decide +kernel
theorem dX2_become_5 : decode cX2_become 5 = .ok (.aload_n 0, 1) := by decide +kernel
theorem dX2_become_6 : decode cX2_become 6 = .ok (.getfield 20, 3) := by decide +kernel
theorem dX2_become_9 : decode cX2_become 9 = .ok (.lload_n 2, 1) := by decide +kernel
theorem dX2_become_10 : decode cX2_become 10 = .ok (.invokevirtual 31, 3) := by decide +kernel
theorem dX2_become_13 : decode cX2_become 13 = .ok (.aload_n 0, 1) := by decide +kernel
theorem dX2_become_14 : decode cX2_become 14 = .ok (.getfield 24, 3) := by decide +kernel
theorem dX2_become_17 : decode cX2_become 17 = .ok (.lconst 1, 1) := by decide +kernel
theorem dX2_become_18 : decode cX2_become 18 = .ok (.invokevirtual 31, 3) := by decide +kernel
theorem dX2_become_21 : decode cX2_become 21 = .ok (.return_, 1) := by decide +kernel
theorem dX2_becomeWhole_0 : decode cX2_becomeWhole 0 = .ok (.aload_n 0, 1) := by decide +kernel
theorem dX2_becomeWhole_1 : decode cX2_becomeWhole 1 = .ok (.iload_n 1, 1) := by decide +kernel
theorem dX2_becomeWhole_2 : decode cX2_becomeWhole 2 = .ok (.putfield 9, 3) := by decide +kernel
theorem dX2_becomeWhole_5 : decode cX2_becomeWhole 5 = .ok (.aload_n 0, 1) := by decide +kernel
theorem dX2_becomeWhole_6 : decode cX2_becomeWhole 6 = .ok (.getfield 20, 3) := by decide +kernel
theorem dX2_becomeWhole_9 : decode cX2_becomeWhole 9 = .ok (.aload_n 2, 1) := by decide +kernel
theorem dX2_becomeWhole_10 : decode cX2_becomeWhole 10 = .ok (.invokevirtual 27, 3) := by decide +kernel
theorem dX2_becomeWhole_13 : decode cX2_becomeWhole 13 = .ok (.aload_n 0, 1) := by decide +kernel
theorem dX2_becomeWhole_14 : decode cX2_becomeWhole 14 = .ok (.getfield 24, 3) := by decide +kernel
theorem dX2_becomeWhole_17 : decode cX2_becomeWhole 17 = .ok (.lconst 1, 1) := by decide +kernel
theorem dX2_becomeWhole_18 : decode cX2_becomeWhole 18 = .ok (.invokevirtual 31, 3) := by decide +kernel
theorem dX2_becomeWhole_21 : decode cX2_becomeWhole 21 = .ok (.return_, 1) := by decide +kernel
theorem dX2_isWhole_0 : decode cX2_isWhole 0 = .ok (.aload_n 0, 1) := by decide +kernel
theorem dX2_isWhole_1 : decode cX2_isWhole 1 = .ok (.getfield 24, 3) := by decide +kernel
theorem dX2_isWhole_4 : decode cX2_isWhole 4 = .ok (.invokevirtual 35, 3) := by decide +kernel
theorem dX2_isWhole_7 : decode cX2_isWhole 7 = .ok (.ireturn, 1) := by decide +kernel
theorem dX2_isWide_0 : decode cX2_isWide 0 = .ok (.aload_n 0, 1) := by decide +kernel
theorem dX2_isWide_1 : decode cX2_isWide 1 = .ok (.getfield 20, 3) := by decide +kernel
theorem dX2_isWide_4 : decode cX2_isWide 4 = .ok (.invokevirtual 39, 3) := by decide +kernel
theorem dX2_isWide_7 : decode cX2_isWide 7 = .ok (.sipush 512, 3) := by decide +kernel
theorem dX2_isWide_10 : decode cX2_isWide 10 = .ok (.if_icmp .gt 16, 3) := by decide +kernel
theorem dX2_isWide_13 : decode cX2_isWide 13 = .ok (.aload_n 0, 1) := by decide +kernel
theorem dX2_isWide_14 : decode cX2_isWide 14 = .ok (.getfield 24, 3) := by decide +kernel
theorem dX2_isWide_17 : decode cX2_isWide 17 = .ok (.invokevirtual 39, 3) := by decide +kernel
theorem dX2_isWide_20 : decode cX2_isWide 20 = .ok (.sipush 512, 3) := by decide +kernel
theorem dX2_isWide_23 : decode cX2_isWide 23 = .ok (.if_icmp .le 7, 3) := by decide +kernel
theorem dX2_isWide_26 : decode cX2_isWide 26 = .ok (.iconst 1, 1) := by decide +kernel
theorem dX2_isWide_27 : decode cX2_isWide 27 = .ok (.goto 4, 3) := by decide +kernel
theorem dX2_isWide_30 : decode cX2_isWide 30 = .ok (.iconst 0, 1) := by decide +kernel
theorem dX2_isWide_31 : decode cX2_isWide 31 = .ok (.ireturn, 1) := by decide +kernel
theorem dX2_fitsLong_0 : decode cX2_fitsLong 0 = .ok (.aload_n 0, 1) := by decide +kernel
theorem dX2_fitsLong_1 : decode cX2_fitsLong 1 = .ok (.getfield 20, 3) := by decide +kernel
theorem dX2_fitsLong_4 : decode cX2_fitsLong 4 = .ok (.invokevirtual 39, 3) := by decide +kernel
theorem dX2_fitsLong_7 : decode cX2_fitsLong 7 = .ok (.bipush 64, 2) := by decide +kernel
theorem dX2_fitsLong_9 : decode cX2_fitsLong 9 = .ok (.if_icmp .lt 36, 3) := by decide +kernel
theorem dX2_fitsLong_12 : decode cX2_fitsLong 12 = .ok (.aload_n 0, 1) := by decide +kernel
theorem dX2_fitsLong_13 : decode cX2_fitsLong 13 = .ok (.getfield 9, 3) := by decide +kernel
theorem dX2_fitsLong_16 : decode cX2_fitsLong 16 = .ok (.ifCond .ge 33, 3) := by decide +kernel
theorem dX2_fitsLong_19 : decode cX2_fitsLong 19 = .ok (.aload_n 0, 1) := by decide +kernel
theorem dX2_fitsLong_20 : decode cX2_fitsLong 20 = .ok (.getfield 20, 3) := by decide +kernel
theorem dX2_fitsLong_23 : decode cX2_fitsLong 23 = .ok (.invokevirtual 39, 3) := by decide +kernel
theorem dX2_fitsLong_26 : decode cX2_fitsLong 26 = .ok (.bipush 64, 2) := by decide +kernel
theorem dX2_fitsLong_28 : decode cX2_fitsLong 28 = .ok (.if_icmp .ne 21, 3) := by decide +kernel
theorem dX2_fitsLong_31 : decode cX2_fitsLong 31 = .ok (.aload_n 0, 1) := by decide +kernel
theorem dX2_fitsLong_32 : decode cX2_fitsLong 32 = .ok (.getfield 20, 3) := by decide +kernel
theorem dX2_fitsLong_35 : decode cX2_fitsLong 35 = .ok (.invokevirtual 43, 3) := by decide +kernel
theorem dX2_fitsLong_38 : decode cX2_fitsLong 38 = .ok (.ldc2_w 47, 3) := by decide +kernel
theorem dX2_fitsLong_41 : decode cX2_fitsLong 41 = .ok (.lcmp, 1) := by decide +kernel
theorem dX2_fitsLong_42 : decode cX2_fitsLong 42 = .ok (.ifCond .ne 7, 3) := by decide +kernel
theorem dX2_fitsLong_45 : decode cX2_fitsLong 45 = .ok (.iconst 1, 1) := by decide +kernel
theorem dX2_fitsLong_46 : decode cX2_fitsLong 46 = .ok (.goto 4, 3) := by decide +kernel
theorem dX2_fitsLong_49 : decode cX2_fitsLong 49 = .ok (.iconst 0, 1) := by decide +kernel
theorem dX2_fitsLong_50 : decode cX2_fitsLong 50 = .ok (.ireturn, 1) := by decide +kernel
theorem dX2_addToTop_0 : decode cX2_addToTop 0 = .ok (.aload_n 0, 1) := by decide +kernel
theorem dX2_addToTop_1 : decode cX2_addToTop 1 = .ok (.getfield 20, 3) := by decide +kernel
theorem dX2_addToTop_4 : decode cX2_addToTop 4 = .ok (.invokevirtual 49, 3) := by decide +kernel
theorem dX2_addToTop_7 : decode cX2_addToTop 7 = .ok (.ifCond .eq 19, 3) := by decide +kernel
theorem dX2_addToTop_10 : decode cX2_addToTop 10 = .ok (.aload_n 0, 1) := by decide +kernel
theorem dX2_addToTop_11 : decode cX2_addToTop 11 = .ok (.iload_n 1, 1) := by decide +kernel
theorem dX2_addToTop_12 : decode cX2_addToTop 12 = .ok (.putfield 9, 3) := by decide +kernel
theorem dX2_addToTop_15 : decode cX2_addToTop 15 = .ok (.aload_n 0, 1) := by decide +kernel
theorem dX2_addToTop_16 : decode cX2_addToTop 16 = .ok (.getfield 20, 3) := by decide +kernel
theorem dX2_addToTop_19 : decode cX2_addToTop 19 = .ok (.aload_n 2, 1) := by decide +kernel
theorem dX2_addToTop_20 : decode cX2_addToTop 20 = .ok (.invokevirtual 27, 3) := by decide +kernel
theorem dX2_addToTop_23 : decode cX2_addToTop 23 = .ok (.goto 65, 3) := by decide +kernel
theorem dX2_addToTop_26 : decode cX2_addToTop 26 = .ok (.aload_n 0, 1) := by decide +kernel
theorem dX2_addToTop_27 : decode cX2_addToTop 27 = .ok (.getfield 9, 3) := by decide +kernel
theorem dX2_addToTop_30 : decode cX2_addToTop 30 = .ok (.iload_n 1, 1) := by decide +kernel
theorem dX2_addToTop_31 : decode cX2_addToTop 31 = .ok (.if_icmp .ne 14, 3) := by decide +kernel
theorem dX2_addToTop_34 : decode cX2_addToTop 34 = .ok (.aload_n 0, 1) := by decide +kernel
theorem dX2_addToTop_35 : decode cX2_addToTop 35 = .ok (.getfield 20, 3) := by decide +kernel
theorem dX2_addToTop_38 : decode cX2_addToTop 38 = .ok (.aload_n 2, 1) := by decide +kernel
theorem dX2_addToTop_39 : decode cX2_addToTop 39 = .ok (.invokevirtual 52, 3) := by decide +kernel
theorem dX2_addToTop_42 : decode cX2_addToTop 42 = .ok (.goto 46, 3) := by decide +kernel
theorem dX2_addToTop_45 : decode cX2_addToTop 45 = .ok (.aload_n 0, 1) := by decide +kernel
theorem dX2_addToTop_46 : decode cX2_addToTop 46 = .ok (.getfield 20, 3) := by decide +kernel
theorem dX2_addToTop_49 : decode cX2_addToTop 49 = .ok (.aload_n 2, 1) := by decide +kernel
theorem dX2_addToTop_50 : decode cX2_addToTop 50 = .ok (.invokevirtual 55, 3) := by decide +kernel
theorem dX2_addToTop_53 : decode cX2_addToTop 53 = .ok (.ifCond .lt 18, 3) := by decide +kernel
theorem dX2_addToTop_56 : decode cX2_addToTop 56 = .ok (.aload_n 0, 1) := by decide +kernel
theorem dX2_addToTop_57 : decode cX2_addToTop 57 = .ok (.getfield 20, 3) := by decide +kernel
theorem dX2_addToTop_60 : decode cX2_addToTop 60 = .ok (.aload_n 0, 1) := by decide +kernel
theorem dX2_addToTop_61 : decode cX2_addToTop 61 = .ok (.getfield 20, 3) := by decide +kernel
theorem dX2_addToTop_64 : decode cX2_addToTop 64 = .ok (.aload_n 2, 1) := by decide +kernel
theorem dX2_addToTop_65 : decode cX2_addToTop 65 = .ok (.invokevirtual 59, 3) := by decide +kernel
theorem dX2_addToTop_68 : decode cX2_addToTop 68 = .ok (.goto 20, 3) := by decide +kernel
theorem dX2_addToTop_71 : decode cX2_addToTop 71 = .ok (.aload_n 0, 1) := by decide +kernel
theorem dX2_addToTop_72 : decode cX2_addToTop 72 = .ok (.iload_n 1, 1) := by decide +kernel
theorem dX2_addToTop_73 : decode cX2_addToTop 73 = .ok (.putfield 9, 3) := by decide +kernel
theorem dX2_addToTop_76 : decode cX2_addToTop 76 = .ok (.aload_n 0, 1) := by decide +kernel
theorem dX2_addToTop_77 : decode cX2_addToTop 77 = .ok (.getfield 20, 3) := by decide +kernel
theorem dX2_addToTop_80 : decode cX2_addToTop 80 = .ok (.aload_n 2, 1) := by decide +kernel
theorem dX2_addToTop_81 : decode cX2_addToTop 81 = .ok (.aload_n 0, 1) := by decide +kernel
theorem dX2_addToTop_82 : decode cX2_addToTop 82 = .ok (.getfield 20, 3) := by decide +kernel
theorem dX2_addToTop_85 : decode cX2_addToTop 85 = .ok (.invokevirtual 59, 3) := by decide +kernel
theorem dX2_addToTop_88 : decode cX2_addToTop 88 = .ok (.return_, 1) := by decide +kernel
theorem dX3_init_0 : decode cX3_init 0 = .ok (.aload_n 0, 1) := by decide +kernel
theorem dX3_init_1 : decode cX3_init 1 = .ok (.invokespecial 3, 3) := by decide +kernel
theorem dX3_init_4 : decode cX3_init 4 = .ok (.aload_n 0, 1) := by decide +kernel
theorem dX3_init_5 : decode cX3_init 5 = .ok (.sipush 320, 3) := by decide +kernel
theorem dX3_init_8 : decode cX3_init 8 = .ok (.newarray .byte, 2) := by decide +kernel
theorem dX3_init_10 : decode cX3_init 10 = .ok (.putfield 9, 3) := by decide +kernel
theorem dX3_init_13 : decode cX3_init 13 = .ok (.aload_n 0, 1) := by decide +kernel
theorem dX3_init_14 : decode cX3_init 14 = .ok (.iconst 0, 1) := by decide +kernel
theorem dX3_init_15 : decode cX3_init 15 = .ok (.putfield 15, 3) := by decide +kernel
theorem dX3_init_18 : decode cX3_init 18 = .ok (.aload_n 0, 1) := by decide +kernel
theorem dX3_init_19 : decode cX3_init 19 = .ok (.new 19, 3) := by decide +kernel
theorem dX3_init_22 : decode cX3_init 22 = .ok (.dup, 1) := by decide +kernel
theorem dX3_init_23 : decode cX3_init 23 = .ok (.bipush 36, 2) := by decide +kernel
theorem dX3_init_25 : decode cX3_init 25 = .ok (.invokespecial 21, 3) := by decide +kernel
theorem dX3_init_28 : decode cX3_init 28 = .ok (.putfield 24, 3) := by decide +kernel
theorem dX3_init_31 : decode cX3_init 31 = .ok (.aload_n 0, 1) := by decide +kernel
theorem dX3_init_32 : decode cX3_init 32 = .ok (.new 19, 3) := by decide +kernel
theorem dX3_init_35 : decode cX3_init 35 = .ok (.dup, 1) := by decide +kernel
theorem dX3_init_36 : decode cX3_init 36 = .ok (.bipush 36, 2) := by decide +kernel
theorem dX3_init_38 : decode cX3_init 38 = .ok (.invokespecial 21, 3) := by decide +kernel
theorem dX3_init_41 : decode cX3_init 41 = .ok (.putfield 28, 3) := by decide +kernel
theorem dX3_init_44 : decode cX3_init 44 = .ok (.aload_n 0, 1) := by decide +kernel
theorem dX3_init_45 : decode cX3_init 45 = .ok (.new 19, 3) := by decide +kernel
theorem dX3_init_48 : decode cX3_init 48 = .ok (.dup, 1) := by decide +kernel
theorem dX3_init_49 : decode cX3_init 49 = .ok (.bipush 36, 2) := by decide +kernel
theorem dX3_init_51 : decode cX3_init 51 = .ok (.invokespecial 21, 3) := by decide +kernel
theorem dX3_init_54 : decode cX3_init 54 = .ok (.putfield 31, 3) := by decide +kernel
theorem dX3_init_57 : decode cX3_init 57 = .ok (.return_, 1) := by decide +kernel
theorem dX3_begin_0 : decode cX3_begin 0 = .ok (.aload_n 0, 1) := by decide +kernel
theorem dX3_begin_1 : decode cX3_begin 1 = .ok (.iconst 0, 1) := by decide +kernel
theorem dX3_begin_2 : decode cX3_begin 2 = .ok (.putfield 15, 3) := by decide +kernel
theorem dX3_begin_5 : decode cX3_begin 5 = .ok (.iload_n 1, 1) := by decide +kernel
theorem dX3_begin_6 : decode cX3_begin 6 = .ok (.ifCond .eq 9, 3) := by decide +kernel
theorem dX3_begin_9 : decode cX3_begin 9 = .ok (.aload_n 0, 1) := by decide +kernel
theorem dX3_begin_10 : decode cX3_begin 10 = .ok (.bipush 45, 2) := by decide +kernel
theorem dX3_begin_12 : decode cX3_begin 12 = .ok (.invokevirtual 34, 3) := by decide +kernel
theorem dX3_begin_15 : decode cX3_begin 15 = .ok (.return_, 1) := by decide +kernel
theorem dX3_add_0 : decode cX3_add 0 = .ok (.aload_n 0, 1) := by decide +kernel
theorem dX3_add_1 : decode cX3_add 1 = .ok (.getfield 15, 3) := by decide +kernel
theorem dX3_add_4 : decode cX3_add 4 = .ok (.sipush 320, 3) := by decide +kernel
theorem dX3_add_7 : decode cX3_add 7 = .ok (.if_icmp .ge 24, 3) := by decide +kernel
theorem dX3_add_10 : decode cX3_add 10 = .ok (.aload_n 0, 1) := by decide +kernel
theorem dX3_add_11 : decode cX3_add 11 = .ok (.getfield 9, 3) := by decide +kernel
theorem dX3_add_14 : decode cX3_add 14 = .ok (.aload_n 0, 1) := by decide +kernel
theorem dX3_add_15 : decode cX3_add 15 = .ok (.getfield 15, 3) := by decide +kernel
theorem dX3_add_18 : decode cX3_add 18 = .ok (.iload_n 1, 1) := by decide +kernel
theorem dX3_add_19 : decode cX3_add 19 = .ok (.i2b, 1) := by decide +kernel
theorem dX3_add_20 : decode cX3_add 20 = .ok (.bastore, 1) := by decide +kernel
theorem dX3_add_21 : decode cX3_add 21 = .ok (.aload_n 0, 1) := by decide +kernel
theorem dX3_add_22 : decode cX3_add 22 = .ok (.dup, 1) := by decide +kernel
theorem dX3_add_23 : decode cX3_add 23 = .ok (.getfield 15, 3) := by decide +kernel
theorem dX3_add_26 : decode cX3_add 26 = .ok (.iconst 1, 1) := by decide +kernel
theorem dX3_add_27 : decode cX3_add 27 = .ok (.iadd, 1) := by decide +kernel
theorem dX3_add_28 : decode cX3_add 28 = .ok (.putfield 15, 3) := by decide +kernel
theorem dX3_add_31 : decode cX3_add 31 = .ok (.return_, 1) := by decide +kernel
theorem dX3_at_0 : decode cX3_at 0 = .ok (.iload_n 1, 1) := by decide +kernel
theorem dX3_at_1 : decode cX3_at 1 = .ok (.ifCond .lt 24, 3) := by decide +kernel
theorem dX3_at_4 : decode cX3_at 4 = .ok (.iload_n 1, 1) := by decide +kernel
theorem dX3_at_5 : decode cX3_at 5 = .ok (.aload_n 0, 1) := by decide +kernel
theorem dX3_at_6 : decode cX3_at 6 = .ok (.getfield 15, 3) := by decide +kernel
theorem dX3_at_9 : decode cX3_at 9 = .ok (.if_icmp .ge 16, 3) := by decide +kernel
theorem dX3_at_12 : decode cX3_at 12 = .ok (.aload_n 0, 1) := by decide +kernel
theorem dX3_at_13 : decode cX3_at 13 = .ok (.getfield 9, 3) := by decide +kernel
theorem dX3_at_16 : decode cX3_at 16 = .ok (.iload_n 1, 1) := by decide +kernel
theorem dX3_at_17 : decode cX3_at 17 = .ok (.baload, 1) := by decide +kernel
theorem dX3_at_18 : decode cX3_at 18 = .ok (.sipush 255, 3) := by decide +kernel
theorem dX3_at_21 : decode cX3_at 21 = .ok (.iand, 1) := by decide +kernel
theorem dX3_at_22 : decode cX3_at 22 = .ok (.goto 5, 3) := by decide +kernel
theorem dX3_at_25 : decode cX3_at 25 = .ok (.bipush (-5), 2) := by decide +kernel
theorem dX3_at_27 : decode cX3_at 27 = .ok (.ireturn, 1) := by decide +kernel
theorem dX3_addSize_0 : decode cX3_addSize 0 = .ok (.aload_n 0, 1) := by decide +kernel
theorem dX3_addSize_1 : decode cX3_addSize 1 = .ok (.getfield 15, 3) := by decide +kernel
theorem dX3_addSize_4 : decode cX3_addSize 4 = .ok (.istore_n 2, 1) := by decide +kernel
theorem dX3_addSize_5 : decode cX3_addSize 5 = .ok (.aload_n 0, 1) := by decide +kernel
theorem dX3_addSize_6 : decode cX3_addSize 6 = .ok (.getfield 24, 3) := by decide +kernel
theorem dX3_addSize_9 : decode cX3_addSize 9 = .ok (.aload_n 1, 1) := by decide +kernel
theorem dX3_addSize_10 : decode cX3_addSize 10 = .ok (.invokevirtual 37, 3) := by decide +kernel
theorem dX3_addSize_13 : decode cX3_addSize 13 = .ok (.aload_n 0, 1) := by decide +kernel
theorem dX3_addSize_14 : decode cX3_addSize 14 = .ok (.bipush 48, 2) := by decide +kernel
theorem dX3_addSize_16 : decode cX3_addSize 16 = .ok (.aload_n 0, 1) := by decide +kernel
theorem dX3_addSize_17 : decode cX3_addSize 17 = .ok (.getfield 24, 3) := by decide +kernel
theorem dX3_addSize_20 : decode cX3_addSize 20 = .ok (.bipush 10, 2) := by decide +kernel
theorem dX3_addSize_22 : decode cX3_addSize 22 = .ok (.invokevirtual 41, 3) := by decide +kernel
theorem dX3_addSize_25 : decode cX3_addSize 25 = .ok (.iadd, 1) := by decide +kernel
theorem dX3_addSize_26 : decode cX3_addSize 26 = .ok (.invokevirtual 34, 3) := by decide +kernel
theorem dX3_addSize_29 : decode cX3_addSize 29 = .ok (.iconst 0, 1) := by decide +kernel
theorem dX3_addSize_30 : decode cX3_addSize 30 = .ok (.istore_n 3, 1) := by decide +kernel
theorem dX3_addSize_31 : decode cX3_addSize 31 = .ok (.iload_n 3, 1) := by decide +kernel
theorem dX3_addSize_32 : decode cX3_addSize 32 = .ok (.sipush 200, 3) := by decide +kernel
theorem dX3_addSize_35 : decode cX3_addSize 35 = .ok (.if_icmp .ge 35, 3) := by decide +kernel
theorem dX3_addSize_38 : decode cX3_addSize 38 = .ok (.aload_n 0, 1) := by decide +kernel
theorem dX3_addSize_39 : decode cX3_addSize 39 = .ok (.getfield 24, 3) := by decide +kernel
theorem dX3_addSize_42 : decode cX3_addSize 42 = .ok (.invokevirtual 45, 3) := by decide +kernel
theorem dX3_addSize_45 : decode cX3_addSize 45 = .ok (.ifCond .ne 25, 3) := by decide +kernel
theorem dX3_addSize_48 : decode cX3_addSize 48 = .ok (.aload_n 0, 1) := by decide +kernel
theorem dX3_addSize_49 : decode cX3_addSize 49 = .ok (.bipush 48, 2) := by decide +kernel
theorem dX3_addSize_51 : decode cX3_addSize 51 = .ok (.aload_n 0, 1) := by decide +kernel
theorem dX3_addSize_52 : decode cX3_addSize 52 = .ok (.getfield 24, 3) := by decide +kernel
theorem dX3_addSize_55 : decode cX3_addSize 55 = .ok (.bipush 10, 2) := by decide +kernel
theorem dX3_addSize_57 : decode cX3_addSize 57 = .ok (.invokevirtual 41, 3) := by decide +kernel
theorem dX3_addSize_60 : decode cX3_addSize 60 = .ok (.iadd, 1) := by decide +kernel
theorem dX3_addSize_61 : decode cX3_addSize 61 = .ok (.invokevirtual 34, 3) := by decide +kernel
theorem dX3_addSize_64 : decode cX3_addSize 64 = .ok (.iinc 3 1, 3) := by decide +kernel
theorem dX3_addSize_67 : decode cX3_addSize 67 = .ok (.goto (-36), 3) := by decide +kernel
theorem dX3_addSize_70 : decode cX3_addSize 70 = .ok (.aload_n 0, 1) := by decide +kernel
theorem dX3_addSize_71 : decode cX3_addSize 71 = .ok (.iload_n 2, 1) := by decide +kernel
theorem dX3_addSize_72 : decode cX3_addSize 72 = .ok (.invokevirtual 49, 3) := by decide +kernel
theorem dX3_addSize_75 : decode cX3_addSize 75 = .ok (.return_, 1) := by decide +kernel
theorem dX3_turnRound_0 : decode cX3_turnRound 0 = .ok (.iload_n 1, 1) := by decide +kernel
theorem dX3_turnRound_1 : decode cX3_turnRound 1 = .ok (.istore_n 2, 1) := by decide +kernel
theorem dX3_turnRound_2 : decode cX3_turnRound 2 = .ok (.aload_n 0, 1) := by decide +kernel
