theorem dX3_turnRound_3 : decode cX3_turnRound 3 = .ok (.getfield 15, 3) := by decide +kernel
theorem dX3_turnRound_6 : decode cX3_turnRound 6 = .ok (.iconst 1, 1) := by decide +kernel
theorem dX3_turnRound_7 : decode cX3_turnRound 7 = .ok (.isub, 1) := by decide +kernel
theorem dX3_turnRound_8 : decode cX3_turnRound 8 = .ok (.istore_n 3, 1) := by decide +kernel
theorem dX3_turnRound_9 : decode cX3_turnRound 9 = .ok (.iload_n 2, 1) := by decide +kernel
theorem dX3_turnRound_10 : decode cX3_turnRound 10 = .ok (.ifCond .lt 52, 3) := by decide +kernel
theorem dX3_turnRound_13 : decode cX3_turnRound 13 = .ok (.iload_n 2, 1) := by decide +kernel
theorem dX3_turnRound_14 : decode cX3_turnRound 14 = .ok (.iload_n 3, 1) := by decide +kernel
theorem dX3_turnRound_15 : decode cX3_turnRound 15 = .ok (.if_icmp .ge 47, 3) := by decide +kernel
theorem dX3_turnRound_18 : decode cX3_turnRound 18 = .ok (.iload_n 3, 1) := by decide +kernel
theorem dX3_turnRound_19 : decode cX3_turnRound 19 = .ok (.sipush 320, 3) := by decide +kernel
theorem dX3_turnRound_22 : decode cX3_turnRound 22 = .ok (.if_icmp .ge 40, 3) := by decide +kernel
theorem dX3_turnRound_25 : decode cX3_turnRound 25 = .ok (.aload_n 0, 1) := by decide +kernel
theorem dX3_turnRound_26 : decode cX3_turnRound 26 = .ok (.getfield 9, 3) := by decide +kernel
theorem dX3_turnRound_29 : decode cX3_turnRound 29 = .ok (.iload_n 2, 1) := by decide +kernel
theorem dX3_turnRound_30 : decode cX3_turnRound 30 = .ok (.baload, 1) := by decide +kernel
theorem dX3_turnRound_31 : decode cX3_turnRound 31 = .ok (.istore 4, 2) := by decide +kernel
theorem dX3_turnRound_33 : decode cX3_turnRound 33 = .ok (.aload_n 0, 1) := by decide +kernel
theorem dX3_turnRound_34 : decode cX3_turnRound 34 = .ok (.getfield 9, 3) := by decide +kernel
theorem dX3_turnRound_37 : decode cX3_turnRound 37 = .ok (.iload_n 2, 1) := by decide +kernel
theorem dX3_turnRound_38 : decode cX3_turnRound 38 = .ok (.aload_n 0, 1) := by decide +kernel
theorem dX3_turnRound_39 : decode cX3_turnRound 39 = .ok (.getfield 9, 3) := by decide +kernel
theorem dX3_turnRound_42 : decode cX3_turnRound 42 = .ok (.iload_n 3, 1) := by decide +kernel
theorem dX3_turnRound_43 : decode cX3_turnRound 43 = .ok (.baload, 1) := by decide +kernel
theorem dX3_turnRound_44 : decode cX3_turnRound 44 = .ok (.bastore, 1) := by decide +kernel
theorem dX3_turnRound_45 : decode cX3_turnRound 45 = .ok (.aload_n 0, 1) := by decide +kernel
theorem dX3_turnRound_46 : decode cX3_turnRound 46 = .ok (.getfield 9, 3) := by decide +kernel
theorem dX3_turnRound_49 : decode cX3_turnRound 49 = .ok (.iload_n 3, 1) := by decide +kernel
theorem dX3_turnRound_50 : decode cX3_turnRound 50 = .ok (.iload 4, 2) := by decide +kernel
theorem dX3_turnRound_52 : decode cX3_turnRound 52 = .ok (.bastore, 1) := by decide +kernel
theorem dX3_turnRound_53 : decode cX3_turnRound 53 = .ok (.iinc 2 1, 3) := by decide +kernel
theorem dX3_turnRound_56 : decode cX3_turnRound 56 = .ok (.iinc 3 (-1), 3) := by decide +kernel
theorem dX3_turnRound_59 : decode cX3_turnRound 59 = .ok (.goto (-50), 3) := by decide +kernel
theorem dX3_turnRound_62 : decode cX3_turnRound 62 = .ok (.return_, 1) := by decide +kernel
theorem dX3_addCut_0 : decode cX3_addCut 0 = .ok (.aload_n 0, 1) := by decide +kernel
theorem dX3_addCut_1 : decode cX3_addCut 1 = .ok (.getfield 28, 3) := by decide +kernel
theorem dX3_addCut_4 : decode cX3_addCut 4 = .ok (.aload_n 1, 1) := by decide +kernel
theorem dX3_addCut_5 : decode cX3_addCut 5 = .ok (.getfield 52, 3) := by decide +kernel
theorem dX3_addCut_8 : decode cX3_addCut 8 = .ok (.invokevirtual 37, 3) := by decide +kernel
theorem dX3_addCut_11 : decode cX3_addCut 11 = .ok (.aload_n 0, 1) := by decide +kernel
theorem dX3_addCut_12 : decode cX3_addCut 12 = .ok (.getfield 28, 3) := by decide +kernel
theorem dX3_addCut_15 : decode cX3_addCut 15 = .ok (.aload_n 1, 1) := by decide +kernel
theorem dX3_addCut_16 : decode cX3_addCut 16 = .ok (.getfield 57, 3) := by decide +kernel
theorem dX3_addCut_19 : decode cX3_addCut 19 = .ok (.aload_n 0, 1) := by decide +kernel
theorem dX3_addCut_20 : decode cX3_addCut 20 = .ok (.getfield 31, 3) := by decide +kernel
theorem dX3_addCut_23 : decode cX3_addCut 23 = .ok (.invokevirtual 60, 3) := by decide +kernel
theorem dX3_addCut_26 : decode cX3_addCut 26 = .ok (.aload_n 0, 1) := by decide +kernel
theorem dX3_addCut_27 : decode cX3_addCut 27 = .ok (.aload_n 0, 1) := by decide +kernel
theorem dX3_addCut_28 : decode cX3_addCut 28 = .ok (.getfield 31, 3) := by decide +kernel
theorem dX3_addCut_31 : decode cX3_addCut 31 = .ok (.invokevirtual 64, 3) := by decide +kernel
theorem dX3_addCut_34 : decode cX3_addCut 34 = .ok (.iload_n 2, 1) := by decide +kernel
theorem dX3_addCut_35 : decode cX3_addCut 35 = .ok (.ifCond .le 9, 3) := by decide +kernel
theorem dX3_addCut_38 : decode cX3_addCut 38 = .ok (.aload_n 0, 1) := by decide +kernel
theorem dX3_addCut_39 : decode cX3_addCut 39 = .ok (.bipush 46, 2) := by decide +kernel
theorem dX3_addCut_41 : decode cX3_addCut 41 = .ok (.invokevirtual 34, 3) := by decide +kernel
theorem dX3_addCut_44 : decode cX3_addCut 44 = .ok (.iconst 0, 1) := by decide +kernel
theorem dX3_addCut_45 : decode cX3_addCut 45 = .ok (.istore_n 3, 1) := by decide +kernel
theorem dX3_addCut_46 : decode cX3_addCut 46 = .ok (.iload_n 3, 1) := by decide +kernel
theorem dX3_addCut_47 : decode cX3_addCut 47 = .ok (.iload_n 2, 1) := by decide +kernel
theorem dX3_addCut_48 : decode cX3_addCut 48 = .ok (.if_icmp .ge 49, 3) := by decide +kernel
theorem dX3_addCut_51 : decode cX3_addCut 51 = .ok (.aload_n 0, 1) := by decide +kernel
theorem dX3_addCut_52 : decode cX3_addCut 52 = .ok (.getfield 28, 3) := by decide +kernel
theorem dX3_addCut_55 : decode cX3_addCut 55 = .ok (.bipush 10, 2) := by decide +kernel
theorem dX3_addCut_57 : decode cX3_addCut 57 = .ok (.iconst 0, 1) := by decide +kernel
theorem dX3_addCut_58 : decode cX3_addCut 58 = .ok (.invokevirtual 67, 3) := by decide +kernel
theorem dX3_addCut_61 : decode cX3_addCut 61 = .ok (.aload_n 0, 1) := by decide +kernel
theorem dX3_addCut_62 : decode cX3_addCut 62 = .ok (.getfield 28, 3) := by decide +kernel
theorem dX3_addCut_65 : decode cX3_addCut 65 = .ok (.aload_n 1, 1) := by decide +kernel
theorem dX3_addCut_66 : decode cX3_addCut 66 = .ok (.getfield 57, 3) := by decide +kernel
theorem dX3_addCut_69 : decode cX3_addCut 69 = .ok (.aload_n 0, 1) := by decide +kernel
theorem dX3_addCut_70 : decode cX3_addCut 70 = .ok (.getfield 31, 3) := by decide +kernel
theorem dX3_addCut_73 : decode cX3_addCut 73 = .ok (.invokevirtual 60, 3) := by decide +kernel
theorem dX3_addCut_76 : decode cX3_addCut 76 = .ok (.aload_n 0, 1) := by decide +kernel
theorem dX3_addCut_77 : decode cX3_addCut 77 = .ok (.bipush 48, 2) := by decide +kernel
theorem dX3_addCut_79 : decode cX3_addCut 79 = .ok (.aload_n 0, 1) := by decide +kernel
theorem dX3_addCut_80 : decode cX3_addCut 80 = .ok (.getfield 31, 3) := by decide +kernel
theorem dX3_addCut_83 : decode cX3_addCut 83 = .ok (.invokevirtual 71, 3) := by decide +kernel
theorem dX3_addCut_86 : decode cX3_addCut 86 = .ok (.l2i, 1) := by decide +kernel
theorem dX3_addCut_87 : decode cX3_addCut 87 = .ok (.iadd, 1) := by decide +kernel
theorem dX3_addCut_88 : decode cX3_addCut 88 = .ok (.invokevirtual 34, 3) := by decide +kernel
theorem dX3_addCut_91 : decode cX3_addCut 91 = .ok (.iinc 3 1, 3) := by decide +kernel
theorem dX3_addCut_94 : decode cX3_addCut 94 = .ok (.goto (-48), 3) := by decide +kernel
theorem dX3_addCut_97 : decode cX3_addCut 97 = .ok (.return_, 1) := by decide +kernel
theorem dX4_init_0 : decode cX4_init 0 = .ok (.aload_n 0, 1) := by decide +kernel
theorem dX4_init_1 : decode cX4_init 1 = .ok (.invokespecial 3, 3) := by decide +kernel
theorem dX4_init_4 : decode cX4_init 4 = .ok (.aload_n 0, 1) := by decide +kernel
theorem dX4_init_5 : decode cX4_init 5 = .ok (.sipush 400, 3) := by decide +kernel
theorem dX4_init_8 : decode cX4_init 8 = .ok (.newarray .byte, 2) := by decide +kernel
theorem dX4_init_10 : decode cX4_init 10 = .ok (.putfield 9, 3) := by decide +kernel
theorem dX4_init_13 : decode cX4_init 13 = .ok (.aload_n 0, 1) := by decide +kernel
theorem dX4_init_14 : decode cX4_init 14 = .ok (.iconst 0, 1) := by decide +kernel
theorem dX4_init_15 : decode cX4_init 15 = .ok (.putfield 15, 3) := by decide +kernel
theorem dX4_init_18 : decode cX4_init 18 = .ok (.aload_n 0, 1) := by decide +kernel
theorem dX4_init_19 : decode cX4_init 19 = .ok (.iconst 0, 1) := by decide +kernel
theorem dX4_init_20 : decode cX4_init 20 = .ok (.putfield 19, 3) := by decide +kernel
theorem dX4_init_23 : decode cX4_init 23 = .ok (.aload_n 0, 1) := by decide +kernel
theorem dX4_init_24 : decode cX4_init 24 = .ok (.iconst 0, 1) := by decide +kernel
theorem dX4_init_25 : decode cX4_init 25 = .ok (.putfield 22, 3) := by decide +kernel
theorem dX4_init_28 : decode cX4_init 28 = .ok (.aload_n 0, 1) := by decide +kernel
theorem dX4_init_29 : decode cX4_init 29 = .ok (.iconst 0, 1) := by decide +kernel
theorem dX4_init_30 : decode cX4_init 30 = .ok (.putfield 25, 3) := by decide +kernel
theorem dX4_init_33 : decode cX4_init 33 = .ok (.return_, 1) := by decide +kernel
theorem dX4_add_0 : decode cX4_add 0 = .ok (.aload_n 0, 1) := by decide +kernel
theorem dX4_add_1 : decode cX4_add 1 = .ok (.getfield 15, 3) := by decide +kernel
theorem dX4_add_4 : decode cX4_add 4 = .ok (.sipush 400, 3) := by decide +kernel
theorem dX4_add_7 : decode cX4_add 7 = .ok (.if_icmp .lt 5, 3) := by decide +kernel
theorem dX4_add_10 : decode cX4_add 10 = .ok (.iconst 0, 1) := by decide +kernel
theorem dX4_add_11 : decode cX4_add 11 = .ok (.ireturn, 1) := by decide +kernel
theorem dX4_add_12 : decode cX4_add 12 = .ok (.aload_n 0, 1) := by decide +kernel
theorem dX4_add_13 : decode cX4_add 13 = .ok (.getfield 9, 3) := by decide +kernel
theorem dX4_add_16 : decode cX4_add 16 = .ok (.aload_n 0, 1) := by decide +kernel
theorem dX4_add_17 : decode cX4_add 17 = .ok (.getfield 15, 3) := by decide +kernel
theorem dX4_add_20 : decode cX4_add 20 = .ok (.iload_n 1, 1) := by decide +kernel
theorem dX4_add_21 : decode cX4_add 21 = .ok (.i2b, 1) := by decide +kernel
theorem dX4_add_22 : decode cX4_add 22 = .ok (.bastore, 1) := by decide +kernel
theorem dX4_add_23 : decode cX4_add 23 = .ok (.aload_n 0, 1) := by decide +kernel
theorem dX4_add_24 : decode cX4_add 24 = .ok (.dup, 1) := by decide +kernel
theorem dX4_add_25 : decode cX4_add 25 = .ok (.getfield 15, 3) := by decide +kernel
theorem dX4_add_28 : decode cX4_add 28 = .ok (.iconst 1, 1) := by decide +kernel
theorem dX4_add_29 : decode cX4_add 29 = .ok (.iadd, 1) := by decide +kernel
theorem dX4_add_30 : decode cX4_add 30 = .ok (.putfield 15, 3) := by decide +kernel
theorem dX4_add_33 : decode cX4_add 33 = .ok (.iconst 1, 1) := by decide +kernel
theorem dX4_add_34 : decode cX4_add 34 = .ok (.ireturn, 1) := by decide +kernel
theorem dX4_clear_0 : decode cX4_clear 0 = .ok (.aload_n 0, 1) := by decide +kernel
theorem dX4_clear_1 : decode cX4_clear 1 = .ok (.iconst 0, 1) := by decide +kernel
theorem dX4_clear_2 : decode cX4_clear 2 = .ok (.putfield 15, 3) := by decide +kernel
theorem dX4_clear_5 : decode cX4_clear 5 = .ok (.return_, 1) := by decide +kernel
theorem dX4_at_0 : decode cX4_at 0 = .ok (.iload_n 1, 1) := by decide +kernel
theorem dX4_at_1 : decode cX4_at 1 = .ok (.ifCond .lt 24, 3) := by decide +kernel
theorem dX4_at_4 : decode cX4_at 4 = .ok (.iload_n 1, 1) := by decide +kernel
theorem dX4_at_5 : decode cX4_at 5 = .ok (.aload_n 0, 1) := by decide +kernel
theorem dX4_at_6 : decode cX4_at 6 = .ok (.getfield 15, 3) := by decide +kernel
theorem dX4_at_9 : decode cX4_at 9 = .ok (.if_icmp .ge 16, 3) := by decide +kernel
theorem dX4_at_12 : decode cX4_at 12 = .ok (.aload_n 0, 1) := by decide +kernel
theorem dX4_at_13 : decode cX4_at 13 = .ok (.getfield 9, 3) := by decide +kernel
theorem dX4_at_16 : decode cX4_at 16 = .ok (.iload_n 1, 1) := by decide +kernel
theorem dX4_at_17 : decode cX4_at 17 = .ok (.baload, 1) := by decide +kernel
theorem dX4_at_18 : decode cX4_at 18 = .ok (.sipush 255, 3) := by decide +kernel
theorem dX4_at_21 : decode cX4_at 21 = .ok (.iand, 1) := by decide +kernel
theorem dX4_at_22 : decode cX4_at 22 = .ok (.goto 4, 3) := by decide +kernel
theorem dX4_at_25 : decode cX4_at 25 = .ok (.iconst (-1), 1) := by decide +kernel
theorem dX4_at_26 : decode cX4_at 26 = .ok (.ireturn, 1) := by decide +kernel
theorem dX4_isFigure_0 : decode cX4_isFigure 0 = .ok (.aload_n 0, 1) := by decide +kernel
theorem dX4_isFigure_1 : decode cX4_isFigure 1 = .ok (.iload_n 1, 1) := by decide +kernel
theorem dX4_isFigure_2 : decode cX4_isFigure 2 = .ok (.invokevirtual 28, 3) := by decide +kernel
theorem dX4_isFigure_5 : decode cX4_isFigure 5 = .ok (.bipush 48, 2) := by decide +kernel
theorem dX4_isFigure_7 : decode cX4_isFigure 7 = .ok (.if_icmp .lt 17, 3) := by decide +kernel
theorem dX4_isFigure_10 : decode cX4_isFigure 10 = .ok (.aload_n 0, 1) := by decide +kernel
theorem dX4_isFigure_11 : decode cX4_isFigure 11 = .ok (.iload_n 1, 1) := by decide +kernel
theorem dX4_isFigure_12 : decode cX4_isFigure 12 = .ok (.invokevirtual 28, 3) := by decide +kernel
theorem dX4_isFigure_15 : decode cX4_isFigure 15 = .ok (.bipush 57, 2) := by decide +kernel
theorem dX4_isFigure_17 : decode cX4_isFigure 17 = .ok (.if_icmp .gt 7, 3) := by decide +kernel
theorem dX4_isFigure_20 : decode cX4_isFigure 20 = .ok (.iconst 1, 1) := by decide +kernel
theorem dX4_isFigure_21 : decode cX4_isFigure 21 = .ok (.goto 4, 3) := by decide +kernel
theorem dX4_isFigure_24 : decode cX4_isFigure 24 = .ok (.iconst 0, 1) := by decide +kernel
theorem dX4_isFigure_25 : decode cX4_isFigure 25 = .ok (.ireturn, 1) := by decide +kernel
theorem dX4_endOfFigures_0 : decode cX4_endOfFigures 0 = .ok (.iload_n 1, 1) := by decide +kernel
theorem dX4_endOfFigures_1 : decode cX4_endOfFigures 1 = .ok (.istore_n 3, 1) := by decide +kernel
theorem dX4_endOfFigures_2 : decode cX4_endOfFigures 2 = .ok (.iload_n 3, 1) := by decide +kernel
theorem dX4_endOfFigures_3 : decode cX4_endOfFigures 3 = .ok (.iload_n 1, 1) := by decide +kernel
theorem dX4_endOfFigures_4 : decode cX4_endOfFigures 4 = .ok (.isub, 1) := by decide +kernel
theorem dX4_endOfFigures_5 : decode cX4_endOfFigures 5 = .ok (.iload_n 2, 1) := by decide +kernel
theorem dX4_endOfFigures_6 : decode cX4_endOfFigures 6 = .ok (.if_icmp .ge 17, 3) := by decide +kernel
theorem dX4_endOfFigures_9 : decode cX4_endOfFigures 9 = .ok (.aload_n 0, 1) := by decide +kernel
theorem dX4_endOfFigures_10 : decode cX4_endOfFigures 10 = .ok (.iload_n 3, 1) := by decide +kernel
theorem dX4_endOfFigures_11 : decode cX4_endOfFigures 11 = .ok (.invokevirtual 32, 3) := by decide +kernel
theorem dX4_endOfFigures_14 : decode cX4_endOfFigures 14 = .ok (.ifCond .eq 9, 3) := by decide +kernel
theorem dX4_endOfFigures_17 : decode cX4_endOfFigures 17 = .ok (.iinc 3 1, 3) := by decide +kernel
theorem dX4_endOfFigures_20 : decode cX4_endOfFigures 20 = .ok (.goto (-18), 3) := by decide +kernel
theorem dX4_endOfFigures_23 : decode cX4_endOfFigures 23 = .ok (.iload_n 3, 1) := by decide +kernel
theorem dX4_endOfFigures_24 : decode cX4_endOfFigures 24 = .ok (.ireturn, 1) := by decide +kernel
theorem dX4_findFault_0 : decode cX4_findFault 0 = .ok (.aload_n 0, 1) := by decide +kernel
theorem dX4_findFault_1 : decode cX4_findFault 1 = .ok (.aload_n 0, 1) := by decide +kernel
theorem dX4_findFault_2 : decode cX4_findFault 2 = .ok (.iconst 0, 1) := by decide +kernel
theorem dX4_findFault_3 : decode cX4_findFault 3 = .ok (.invokevirtual 28, 3) := by decide +kernel
theorem dX4_findFault_6 : decode cX4_findFault 6 = .ok (.bipush 45, 2) := by decide +kernel
theorem dX4_findFault_8 : decode cX4_findFault 8 = .ok (.if_icmp .ne 7, 3) := by decide +kernel
theorem dX4_findFault_11 : decode cX4_findFault 11 = .ok (.iconst 1, 1) := by decide +kernel
theorem dX4_findFault_12 : decode cX4_findFault 12 = .ok (.goto 4, 3) := by decide +kernel
theorem dX4_findFault_15 : decode cX4_findFault 15 = .ok (.iconst 0, 1) := by decide +kernel
theorem dX4_findFault_16 : decode cX4_findFault 16 = .ok (.putfield 19, 3) := by decide +kernel
theorem dX4_findFault_19 : decode cX4_findFault 19 = .ok (.aload_n 0, 1) := by decide +kernel
theorem dX4_findFault_20 : decode cX4_findFault 20 = .ok (.aload_n 0, 1) := by decide +kernel
theorem dX4_findFault_21 : decode cX4_findFault 21 = .ok (.aload_n 0, 1) := by decide +kernel
theorem dX4_findFault_22 : decode cX4_findFault 22 = .ok (.getfield 19, 3) := by decide +kernel
theorem dX4_findFault_25 : decode cX4_findFault 25 = .ok (.sipush 160, 3) := by decide +kernel
theorem dX4_findFault_28 : decode cX4_findFault 28 = .ok (.invokevirtual 36, 3) := by decide +kernel
theorem dX4_findFault_31 : decode cX4_findFault 31 = .ok (.putfield 22, 3) := by decide +kernel
theorem dX4_findFault_34 : decode cX4_findFault 34 = .ok (.aload_n 0, 1) := by decide +kernel
theorem dX4_findFault_35 : decode cX4_findFault 35 = .ok (.aload_n 0, 1) := by decide +kernel
theorem dX4_findFault_36 : decode cX4_findFault 36 = .ok (.getfield 22, 3) := by decide +kernel
theorem dX4_findFault_39 : decode cX4_findFault 39 = .ok (.putfield 25, 3) := by decide +kernel
theorem dX4_findFault_42 : decode cX4_findFault 42 = .ok (.aload_n 0, 1) := by decide +kernel
theorem dX4_findFault_43 : decode cX4_findFault 43 = .ok (.getfield 22, 3) := by decide +kernel
theorem dX4_findFault_46 : decode cX4_findFault 46 = .ok (.aload_n 0, 1) := by decide +kernel
theorem dX4_findFault_47 : decode cX4_findFault 47 = .ok (.getfield 19, 3) := by decide +kernel
theorem dX4_findFault_50 : decode cX4_findFault 50 = .ok (.if_icmp .ne 8, 3) := by decide +kernel
theorem dX4_findFault_53 : decode cX4_findFault 53 = .ok (.aload_n 0, 1) := by decide +kernel
theorem dX4_findFault_54 : decode cX4_findFault 54 = .ok (.getfield 19, 3) := by decide +kernel
theorem dX4_findFault_57 : decode cX4_findFault 57 = .ok (.ireturn, 1) := by decide +kernel
theorem dX4_findFault_58 : decode cX4_findFault 58 = .ok (.aload_n 0, 1) := by decide +kernel
theorem dX4_findFault_59 : decode cX4_findFault 59 = .ok (.aload_n 0, 1) := by decide +kernel
theorem dX4_findFault_60 : decode cX4_findFault 60 = .ok (.getfield 22, 3) := by decide +kernel
theorem dX4_findFault_63 : decode cX4_findFault 63 = .ok (.invokevirtual 28, 3) := by decide +kernel
theorem dX4_findFault_66 : decode cX4_findFault 66 = .ok (.istore_n 1, 1) := by decide +kernel
theorem dX4_findFault_67 : decode cX4_findFault 67 = .ok (.iload_n 1, 1) := by decide +kernel
theorem dX4_findFault_68 : decode cX4_findFault 68 = .ok (.bipush 47, 2) := by decide +kernel
theorem dX4_findFault_70 : decode cX4_findFault 70 = .ok (.if_icmp .eq 9, 3) := by decide +kernel
theorem dX4_findFault_73 : decode cX4_findFault 73 = .ok (.iload_n 1, 1) := by decide +kernel
theorem dX4_findFault_74 : decode cX4_findFault 74 = .ok (.bipush 46, 2) := by decide +kernel
theorem dX4_findFault_76 : decode cX4_findFault 76 = .ok (.if_icmp .ne 62, 3) := by decide +kernel
theorem dX4_findFault_79 : decode cX4_findFault 79 = .ok (.iload_n 1, 1) := by decide +kernel
theorem dX4_findFault_80 : decode cX4_findFault 80 = .ok (.bipush 47, 2) := by decide +kernel
theorem dX4_findFault_82 : decode cX4_findFault 82 = .ok (.if_icmp .ne 9, 3) := by decide +kernel
theorem dX4_findFault_85 : decode cX4_findFault 85 = .ok (.sipush 160, 3) := by decide +kernel
theorem dX4_findFault_88 : decode cX4_findFault 88 = .ok (.goto 16, 3) := by decide +kernel
theorem dX4_findFault_91 : decode cX4_findFault 91 = .ok (.sipush 160, 3) := by decide +kernel
theorem dX4_findFault_94 : decode cX4_findFault 94 = .ok (.aload_n 0, 1) := by decide +kernel
theorem dX4_findFault_95 : decode cX4_findFault 95 = .ok (.getfield 22, 3) := by decide +kernel
theorem dX4_findFault_98 : decode cX4_findFault 98 = .ok (.aload_n 0, 1) := by decide +kernel
theorem dX4_findFault_99 : decode cX4_findFault 99 = .ok (.getfield 19, 3) := by decide +kernel
theorem dX4_findFault_102 : decode cX4_findFault 102 = .ok (.isub, 1) := by decide +kernel
theorem dX4_findFault_103 : decode cX4_findFault 103 = .ok (.isub, 1) := by decide +kernel
theorem dX4_findFault_104 : decode cX4_findFault 104 = .ok (.istore_n 2, 1) := by decide +kernel
theorem dX4_findFault_105 : decode cX4_findFault 105 = .ok (.aload_n 0, 1) := by decide +kernel
theorem dX4_findFault_106 : decode cX4_findFault 106 = .ok (.aload_n 0, 1) := by decide +kernel
theorem dX4_findFault_107 : decode cX4_findFault 107 = .ok (.aload_n 0, 1) := by decide +kernel
theorem dX4_findFault_108 : decode cX4_findFault 108 = .ok (.getfield 22, 3) := by decide +kernel
theorem dX4_findFault_111 : decode cX4_findFault 111 = .ok (.iconst 1, 1) := by decide +kernel
theorem dX4_findFault_112 : decode cX4_findFault 112 = .ok (.iadd, 1) := by decide +kernel
theorem dX4_findFault_113 : decode cX4_findFault 113 = .ok (.iload_n 2, 1) := by decide +kernel
theorem dX4_findFault_114 : decode cX4_findFault 114 = .ok (.invokevirtual 36, 3) := by decide +kernel
theorem dX4_findFault_117 : decode cX4_findFault 117 = .ok (.putfield 25, 3) := by decide +kernel
theorem dX4_findFault_120 : decode cX4_findFault 120 = .ok (.aload_n 0, 1) := by decide +kernel
theorem dX4_findFault_121 : decode cX4_findFault 121 = .ok (.getfield 25, 3) := by decide +kernel
theorem dX4_findFault_124 : decode cX4_findFault 124 = .ok (.aload_n 0, 1) := by decide +kernel
theorem dX4_findFault_125 : decode cX4_findFault 125 = .ok (.getfield 22, 3) := by decide +kernel
theorem dX4_findFault_128 : decode cX4_findFault 128 = .ok (.iconst 1, 1) := by decide +kernel
theorem dX4_findFault_129 : decode cX4_findFault 129 = .ok (.iadd, 1) := by decide +kernel
theorem dX4_findFault_130 : decode cX4_findFault 130 = .ok (.if_icmp .ne 8, 3) := by decide +kernel
theorem dX4_findFault_133 : decode cX4_findFault 133 = .ok (.aload_n 0, 1) := by decide +kernel
theorem dX4_findFault_134 : decode cX4_findFault 134 = .ok (.getfield 25, 3) := by decide +kernel
theorem dX4_findFault_137 : decode cX4_findFault 137 = .ok (.ireturn, 1) := by decide +kernel
theorem dX4_findFault_138 : decode cX4_findFault 138 = .ok (.aload_n 0, 1) := by decide +kernel
theorem dX4_findFault_139 : decode cX4_findFault 139 = .ok (.getfield 25, 3) := by decide +kernel
theorem dX4_findFault_142 : decode cX4_findFault 142 = .ok (.aload_n 0, 1) := by decide +kernel
theorem dX4_findFault_143 : decode cX4_findFault 143 = .ok (.getfield 15, 3) := by decide +kernel
theorem dX4_findFault_146 : decode cX4_findFault 146 = .ok (.if_icmp .ge 10, 3) := by decide +kernel
theorem dX4_findFault_149 : decode cX4_findFault 149 = .ok (.aload_n 0, 1) := by decide +kernel
theorem dX4_findFault_150 : decode cX4_findFault 150 = .ok (.getfield 25, 3) := by decide +kernel
theorem dX4_findFault_153 : decode cX4_findFault 153 = .ok (.goto 4, 3) := by decide +kernel
theorem dX4_findFault_156 : decode cX4_findFault 156 = .ok (.iconst (-1), 1) := by decide +kernel
theorem dX4_findFault_157 : decode cX4_findFault 157 = .ok (.ireturn, 1) := by decide +kernel
theorem dX4_tell_0 : decode cX4_tell 0 = .ok (.aload_n 1, 1) := by decide +kernel
theorem dX4_tell_1 : decode cX4_tell 1 = .ok (.aload_n 0, 1) := by decide +kernel
theorem dX4_tell_2 : decode cX4_tell 2 = .ok (.getfield 19, 3) := by decide +kernel
theorem dX4_tell_5 : decode cX4_tell 5 = .ok (.iconst 1, 1) := by decide +kernel
theorem dX4_tell_6 : decode cX4_tell 6 = .ok (.if_icmp .ne 7, 3) := by decide +kernel
theorem dX4_tell_9 : decode cX4_tell 9 = .ok (.iconst (-1), 1) := by decide +kernel
theorem dX4_tell_10 : decode cX4_tell 10 = .ok (.goto 4, 3) := by decide +kernel
theorem dX4_tell_13 : decode cX4_tell 13 = .ok (.iconst 1, 1) := by decide +kernel
theorem dX4_tell_14 : decode cX4_tell 14 = .ok (.lconst 0, 1) := by decide +kernel
theorem dX4_tell_15 : decode cX4_tell 15 = .ok (.invokevirtual 40, 3) := by decide +kernel
theorem dX4_tell_18 : decode cX4_tell 18 = .ok (.aload_n 0, 1) := by decide +kernel
theorem dX4_tell_19 : decode cX4_tell 19 = .ok (.aload_n 1, 1) := by decide +kernel
theorem dX4_tell_20 : decode cX4_tell 20 = .ok (.getfield 46, 3) := by decide +kernel
theorem dX4_tell_23 : decode cX4_tell 23 = .ok (.aload_n 0, 1) := by decide +kernel
theorem dX4_tell_24 : decode cX4_tell 24 = .ok (.getfield 19, 3) := by decide +kernel
theorem dX4_tell_27 : decode cX4_tell 27 = .ok (.aload_n 0, 1) := by decide +kernel
theorem dX4_tell_28 : decode cX4_tell 28 = .ok (.getfield 22, 3) := by decide +kernel
theorem dX4_tell_31 : decode cX4_tell 31 = .ok (.invokevirtual 50, 3) := by decide +kernel
theorem dX4_tell_34 : decode cX4_tell 34 = .ok (.aload_n 0, 1) := by decide +kernel
theorem dX4_tell_35 : decode cX4_tell 35 = .ok (.aload_n 0, 1) := by decide +kernel
theorem dX4_tell_36 : decode cX4_tell 36 = .ok (.getfield 22, 3) := by decide +kernel
theorem dX4_tell_39 : decode cX4_tell 39 = .ok (.invokevirtual 28, 3) := by decide +kernel
theorem dX4_tell_42 : decode cX4_tell 42 = .ok (.istore_n 2, 1) := by decide +kernel
theorem dX4_tell_43 : decode cX4_tell 43 = .ok (.iload_n 2, 1) := by decide +kernel
theorem dX4_tell_44 : decode cX4_tell 44 = .ok (.bipush 47, 2) := by decide +kernel
theorem dX4_tell_46 : decode cX4_tell 46 = .ok (.if_icmp .ne 31, 3) := by decide +kernel
theorem dX4_tell_49 : decode cX4_tell 49 = .ok (.aload_n 1, 1) := by decide +kernel
theorem dX4_tell_50 : decode cX4_tell 50 = .ok (.getfield 54, 3) := by decide +kernel
theorem dX4_tell_53 : decode cX4_tell 53 = .ok (.invokevirtual 57, 3) := by decide +kernel
theorem dX4_tell_56 : decode cX4_tell 56 = .ok (.aload_n 0, 1) := by decide +kernel
theorem dX4_tell_57 : decode cX4_tell 57 = .ok (.aload_n 1, 1) := by decide +kernel
theorem dX4_tell_58 : decode cX4_tell 58 = .ok (.getfield 54, 3) := by decide +kernel
theorem dX4_tell_61 : decode cX4_tell 61 = .ok (.aload_n 0, 1) := by decide +kernel
theorem dX4_tell_62 : decode cX4_tell 62 = .ok (.getfield 22, 3) := by decide +kernel
theorem dX4_tell_65 : decode cX4_tell 65 = .ok (.iconst 1, 1) := by decide +kernel
theorem dX4_tell_66 : decode cX4_tell 66 = .ok (.iadd, 1) := by decide +kernel
theorem dX4_tell_67 : decode cX4_tell 67 = .ok (.aload_n 0, 1) := by decide +kernel
theorem dX4_tell_68 : decode cX4_tell 68 = .ok (.getfield 25, 3) := by decide +kernel
theorem dX4_tell_71 : decode cX4_tell 71 = .ok (.invokevirtual 50, 3) := by decide +kernel
theorem dX4_tell_74 : decode cX4_tell 74 = .ok (.goto 58, 3) := by decide +kernel
theorem dX4_tell_77 : decode cX4_tell 77 = .ok (.iload_n 2, 1) := by decide +kernel
theorem dX4_tell_78 : decode cX4_tell 78 = .ok (.bipush 46, 2) := by decide +kernel
theorem dX4_tell_80 : decode cX4_tell 80 = .ok (.if_icmp .ne 52, 3) := by decide +kernel
theorem dX4_tell_83 : decode cX4_tell 83 = .ok (.aload_n 0, 1) := by decide +kernel
theorem dX4_tell_84 : decode cX4_tell 84 = .ok (.aload_n 1, 1) := by decide +kernel
theorem dX4_tell_85 : decode cX4_tell 85 = .ok (.getfield 46, 3) := by decide +kernel
theorem dX4_tell_88 : decode cX4_tell 88 = .ok (.aload_n 0, 1) := by decide +kernel
theorem dX4_tell_89 : decode cX4_tell 89 = .ok (.getfield 22, 3) := by decide +kernel
theorem dX4_tell_92 : decode cX4_tell 92 = .ok (.iconst 1, 1) := by decide +kernel
theorem dX4_tell_93 : decode cX4_tell 93 = .ok (.iadd, 1) := by decide +kernel
theorem dX4_tell_94 : decode cX4_tell 94 = .ok (.aload_n 0, 1) := by decide +kernel
theorem dX4_tell_95 : decode cX4_tell 95 = .ok (.getfield 25, 3) := by decide +kernel
theorem dX4_tell_98 : decode cX4_tell 98 = .ok (.invokevirtual 50, 3) := by decide +kernel
theorem dX4_tell_101 : decode cX4_tell 101 = .ok (.aload_n 0, 1) := by decide +kernel
theorem dX4_tell_102 : decode cX4_tell 102 = .ok (.getfield 22, 3) := by decide +kernel
theorem dX4_tell_105 : decode cX4_tell 105 = .ok (.iconst 1, 1) := by decide +kernel
theorem dX4_tell_106 : decode cX4_tell 106 = .ok (.iadd, 1) := by decide +kernel
theorem dX4_tell_107 : decode cX4_tell 107 = .ok (.istore_n 3, 1) := by decide +kernel
theorem dX4_tell_108 : decode cX4_tell 108 = .ok (.iload_n 3, 1) := by decide +kernel
theorem dX4_tell_109 : decode cX4_tell 109 = .ok (.aload_n 0, 1) := by decide +kernel
theorem dX4_tell_110 : decode cX4_tell 110 = .ok (.getfield 25, 3) := by decide +kernel
theorem dX4_tell_113 : decode cX4_tell 113 = .ok (.if_icmp .ge 19, 3) := by decide +kernel
theorem dX4_tell_116 : decode cX4_tell 116 = .ok (.aload_n 1, 1) := by decide +kernel
theorem dX4_tell_117 : decode cX4_tell 117 = .ok (.getfield 54, 3) := by decide +kernel
theorem dX4_tell_120 : decode cX4_tell 120 = .ok (.bipush 10, 2) := by decide +kernel
theorem dX4_tell_122 : decode cX4_tell 122 = .ok (.iconst 0, 1) := by decide +kernel
theorem dX4_tell_123 : decode cX4_tell 123 = .ok (.invokevirtual 62, 3) := by decide +kernel
theorem dX4_tell_126 : decode cX4_tell 126 = .ok (.iinc 3 1, 3) := by decide +kernel
theorem dX4_tell_129 : decode cX4_tell 129 = .ok (.goto (-21), 3) := by decide +kernel
theorem dX4_tell_132 : decode cX4_tell 132 = .ok (.return_, 1) := by decide +kernel
theorem dX4_addFigures_0 : decode cX4_addFigures 0 = .ok (.iload_n 2, 1) := by decide +kernel
theorem dX4_addFigures_1 : decode cX4_addFigures 1 = .ok (.istore 4, 2) := by decide +kernel
theorem dX4_addFigures_3 : decode cX4_addFigures 3 = .ok (.iload 4, 2) := by decide +kernel
theorem dX4_addFigures_5 : decode cX4_addFigures 5 = .ok (.iload_n 3, 1) := by decide +kernel
theorem dX4_addFigures_6 : decode cX4_addFigures 6 = .ok (.if_icmp .ge 24, 3) := by decide +kernel
theorem dX4_addFigures_9 : decode cX4_addFigures 9 = .ok (.aload_n 1, 1) := by decide +kernel
theorem dX4_addFigures_10 : decode cX4_addFigures 10 = .ok (.bipush 10, 2) := by decide +kernel
theorem dX4_addFigures_12 : decode cX4_addFigures 12 = .ok (.aload_n 0, 1) := by decide +kernel
theorem dX4_addFigures_13 : decode cX4_addFigures 13 = .ok (.iload 4, 2) := by decide +kernel
theorem dX4_addFigures_15 : decode cX4_addFigures 15 = .ok (.invokevirtual 28, 3) := by decide +kernel
theorem dX4_addFigures_18 : decode cX4_addFigures 18 = .ok (.bipush 48, 2) := by decide +kernel
theorem dX4_addFigures_20 : decode cX4_addFigures 20 = .ok (.isub, 1) := by decide +kernel
theorem dX4_addFigures_21 : decode cX4_addFigures 21 = .ok (.invokevirtual 62, 3) := by decide +kernel
theorem dX4_addFigures_24 : decode cX4_addFigures 24 = .ok (.iinc 4 1, 3) := by decide +kernel
theorem dX4_addFigures_27 : decode cX4_addFigures 27 = .ok (.goto (-24), 3) := by decide +kernel
theorem dX4_addFigures_30 : decode cX4_addFigures 30 = .ok (.return_, 1) := by decide +kernel
theorem dX5_init_0 : decode cX5_init 0 = .ok (.aload_n 0, 1) := by decide +kernel
theorem dX5_init_1 : decode cX5_init 1 = .ok (.invokespecial 3, 3) := by decide +kernel
theorem dX5_init_4 : decode cX5_init 4 = .ok (.aload_n 0, 1) := by decide +kernel
theorem dX5_init_5 : decode cX5_init 5 = .ok (.iload_n 1, 1) := by decide +kernel
theorem dX5_init_6 : decode cX5_init 6 = .ok (.iconst 2, 1) := by decide +kernel
theorem dX5_init_7 : decode cX5_init 7 = .ok (.invokestatic 9, 3) := by decide +kernel
theorem dX5_init_10 : decode cX5_init 10 = .ok (.newarray .int, 2) := by decide +kernel
theorem dX5_init_12 : decode cX5_init 12 = .ok (.putfield 15, 3) := by decide +kernel
theorem dX5_init_15 : decode cX5_init 15 = .ok (.aload_n 0, 1) := by decide +kernel
theorem dX5_init_16 : decode cX5_init 16 = .ok (.iconst 0, 1) := by decide +kernel
theorem dX5_init_17 : decode cX5_init 17 = .ok (.putfield 21, 3) := by decide +kernel
theorem dX5_init_20 : decode cX5_init 20 = .ok (.return_, 1) := by decide +kernel
theorem dX5_limbAt_0 : decode cX5_limbAt 0 = .ok (.iload_n 1, 1) := by decide +kernel
theorem dX5_limbAt_1 : decode cX5_limbAt 1 = .ok (.ifCond .lt 34, 3) := by decide +kernel
theorem dX5_limbAt_4 : decode cX5_limbAt 4 = .ok (.iload_n 1, 1) := by decide +kernel
theorem dX5_limbAt_5 : decode cX5_limbAt 5 = .ok (.aload_n 0, 1) := by decide +kernel
theorem dX5_limbAt_6 : decode cX5_limbAt 6 = .ok (.getfield 21, 3) := by decide +kernel
theorem dX5_limbAt_9 : decode cX5_limbAt 9 = .ok (.if_icmp .ge 26, 3) := by decide +kernel
theorem dX5_limbAt_12 : decode cX5_limbAt 12 = .ok (.iload_n 1, 1) := by decide +kernel
theorem dX5_limbAt_13 : decode cX5_limbAt 13 = .ok (.aload_n 0, 1) := by decide +kernel
theorem dX5_limbAt_14 : decode cX5_limbAt 14 = .ok (.getfield 15, 3) := by decide +kernel
theorem dX5_limbAt_17 : decode cX5_limbAt 17 = .ok (.arraylength, 1) := by decide +kernel
theorem dX5_limbAt_18 : decode cX5_limbAt 18 = .ok (.if_icmp .ge 17, 3) := by decide +kernel
theorem dX5_limbAt_21 : decode cX5_limbAt 21 = .ok (.aload_n 0, 1) := by decide +kernel
theorem dX5_limbAt_22 : decode cX5_limbAt 22 = .ok (.getfield 15, 3) := by decide +kernel
theorem dX5_limbAt_25 : decode cX5_limbAt 25 = .ok (.iload_n 1, 1) := by decide +kernel
theorem dX5_limbAt_26 : decode cX5_limbAt 26 = .ok (.iaload, 1) := by decide +kernel
theorem dX5_limbAt_27 : decode cX5_limbAt 27 = .ok (.i2l, 1) := by decide +kernel
theorem dX5_limbAt_28 : decode cX5_limbAt 28 = .ok (.ldc2_w 25, 3) := by decide +kernel
theorem dX5_limbAt_31 : decode cX5_limbAt 31 = .ok (.land, 1) := by decide +kernel
theorem dX5_limbAt_32 : decode cX5_limbAt 32 = .ok (.goto 4, 3) := by decide +kernel
theorem dX5_limbAt_35 : decode cX5_limbAt 35 = .ok (.lconst 0, 1) := by decide +kernel
theorem dX5_limbAt_36 : decode cX5_limbAt 36 = .ok (.lreturn, 1) := by decide +kernel
theorem dX5_put_0 : decode cX5_put 0 = .ok (.iload_n 1, 1) := by decide +kernel
theorem dX5_put_1 : decode cX5_put 1 = .ok (.ifCond .lt 20, 3) := by decide +kernel
theorem dX5_put_4 : decode cX5_put 4 = .ok (.iload_n 1, 1) := by decide +kernel
theorem dX5_put_5 : decode cX5_put 5 = .ok (.aload_n 0, 1) := by decide +kernel
theorem dX5_put_6 : decode cX5_put 6 = .ok (.getfield 15, 3) := by decide +kernel
theorem dX5_put_9 : decode cX5_put 9 = .ok (.arraylength, 1) := by decide +kernel
theorem dX5_put_10 : decode cX5_put 10 = .ok (.if_icmp .ge 11, 3) := by decide +kernel
theorem dX5_put_13 : decode cX5_put 13 = .ok (.aload_n 0, 1) := by decide +kernel
theorem dX5_put_14 : decode cX5_put 14 = .ok (.getfield 15, 3) := by decide +kernel
theorem dX5_put_17 : decode cX5_put 17 = .ok (.iload_n 1, 1) := by decide +kernel
theorem dX5_put_18 : decode cX5_put 18 = .ok (.lload_n 2, 1) := by decide +kernel
theorem dX5_put_19 : decode cX5_put 19 = .ok (.l2i, 1) := by decide +kernel
theorem dX5_put_20 : decode cX5_put 20 = .ok (.iastore, 1) := by decide +kernel
theorem dX5_put_21 : decode cX5_put 21 = .ok (.return_, 1) := by decide +kernel
theorem dX5_trim_0 : decode cX5_trim 0 = .ok (.iconst 0, 1) := by decide +kernel
theorem dX5_trim_1 : decode cX5_trim 1 = .ok (.iload_n 1, 1) := by decide +kernel
theorem dX5_trim_2 : decode cX5_trim 2 = .ok (.aload_n 0, 1) := by decide +kernel
theorem dX5_trim_3 : decode cX5_trim 3 = .ok (.getfield 15, 3) := by decide +kernel
theorem dX5_trim_6 : decode cX5_trim 6 = .ok (.arraylength, 1) := by decide +kernel
theorem dX5_trim_7 : decode cX5_trim 7 = .ok (.invokestatic 27, 3) := by decide +kernel
theorem dX5_trim_10 : decode cX5_trim 10 = .ok (.invokestatic 9, 3) := by decide +kernel
theorem dX5_trim_13 : decode cX5_trim 13 = .ok (.istore_n 2, 1) := by decide +kernel
theorem dX5_trim_14 : decode cX5_trim 14 = .ok (.iload_n 2, 1) := by decide +kernel
theorem dX5_trim_15 : decode cX5_trim 15 = .ok (.ifCond .le 20, 3) := by decide +kernel
theorem dX5_trim_18 : decode cX5_trim 18 = .ok (.aload_n 0, 1) := by decide +kernel
theorem dX5_trim_19 : decode cX5_trim 19 = .ok (.getfield 15, 3) := by decide +kernel
theorem dX5_trim_22 : decode cX5_trim 22 = .ok (.iload_n 2, 1) := by decide +kernel
theorem dX5_trim_23 : decode cX5_trim 23 = .ok (.iconst 1, 1) := by decide +kernel
theorem dX5_trim_24 : decode cX5_trim 24 = .ok (.isub, 1) := by decide +kernel
theorem dX5_trim_25 : decode cX5_trim 25 = .ok (.iaload, 1) := by decide +kernel
theorem dX5_trim_26 : decode cX5_trim 26 = .ok (.ifCond .ne 9, 3) := by decide +kernel
theorem dX5_trim_29 : decode cX5_trim 29 = .ok (.iinc 2 (-1), 3) := by decide +kernel
theorem dX5_trim_32 : decode cX5_trim 32 = .ok (.goto (-18), 3) := by decide +kernel
theorem dX5_trim_35 : decode cX5_trim 35 = .ok (.aload_n 0, 1) := by decide +kernel
theorem dX5_trim_36 : decode cX5_trim 36 = .ok (.iload_n 2, 1) := by decide +kernel
theorem dX5_trim_37 : decode cX5_trim 37 = .ok (.putfield 21, 3) := by decide +kernel
theorem dX5_trim_40 : decode cX5_trim 40 = .ok (.return_, 1) := by decide +kernel
theorem dX5_clear_0 : decode cX5_clear 0 = .ok (.aload_n 0, 1) := by decide +kernel
theorem dX5_clear_1 : decode cX5_clear 1 = .ok (.iconst 0, 1) := by decide +kernel
theorem dX5_clear_2 : decode cX5_clear 2 = .ok (.putfield 21, 3) := by decide +kernel
theorem dX5_clear_5 : decode cX5_clear 5 = .ok (.return_, 1) := by decide +kernel
theorem dX5_become_0 : decode cX5_become 0 = .ok (.aload_n 0, 1) := by decide +kernel
theorem dX5_become_1 : decode cX5_become 1 = .ok (.iconst 0, 1) := by decide +kernel
theorem dX5_become_2 : decode cX5_become 2 = .ok (.lload_n 1, 1) := by decide +kernel
theorem dX5_become_3 : decode cX5_become 3 = .ok (.invokevirtual 30, 3) := by decide +kernel
theorem dX5_become_6 : decode cX5_become 6 = .ok (.aload_n 0, 1) := by decide +kernel
theorem dX5_become_7 : decode cX5_become 7 = .ok (.iconst 1, 1) := by decide +kernel
theorem dX5_become_8 : decode cX5_become 8 = .ok (.lload_n 1, 1) := by decide +kernel
theorem dX5_become_9 : decode cX5_become 9 = .ok (.bipush 32, 2) := by decide +kernel
theorem dX5_become_11 : decode cX5_become 11 = .ok (.lushr, 1) := by decide +kernel
theorem dX5_become_12 : decode cX5_become 12 = .ok (.invokevirtual 30, 3) := by decide +kernel
theorem dX5_become_15 : decode cX5_become 15 = .ok (.aload_n 0, 1) := by decide +kernel
theorem dX5_become_16 : decode cX5_become 16 = .ok (.iconst 2, 1) := by decide +kernel
theorem dX5_become_17 : decode cX5_become 17 = .ok (.invokevirtual 34, 3) := by decide +kernel
theorem dX5_become_20 : decode cX5_become 20 = .ok (.return_, 1) := by decide +kernel
theorem dX5_copy_0 : decode cX5_copy 0 = .ok (.aload_n 1, 1) := by decide +kernel
theorem dX5_copy_1 : decode cX5_copy 1 = .ok (.getfield 21, 3) := by decide +kernel
theorem dX5_copy_4 : decode cX5_copy 4 = .ok (.aload_n 0, 1) := by decide +kernel
theorem dX5_copy_5 : decode cX5_copy 5 = .ok (.getfield 15, 3) := by decide +kernel
theorem dX5_copy_8 : decode cX5_copy 8 = .ok (.arraylength, 1) := by decide +kernel
theorem dX5_copy_9 : decode cX5_copy 9 = .ok (.invokestatic 27, 3) := by decide +kernel
theorem dX5_copy_12 : decode cX5_copy 12 = .ok (.istore_n 2, 1) := by decide +kernel
theorem dX5_copy_13 : decode cX5_copy 13 = .ok (.aload_n 1, 1) := by decide +kernel
theorem dX5_copy_14 : decode cX5_copy 14 = .ok (.getfield 15, 3) := by decide +kernel
theorem dX5_copy_17 : decode cX5_copy 17 = .ok (.iconst 0, 1) := by decide +kernel
theorem dX5_copy_18 : decode cX5_copy 18 = .ok (.aload_n 0, 1) := by decide +kernel
theorem dX5_copy_19 : decode cX5_copy 19 = .ok (.getfield 15, 3) := by decide +kernel
theorem dX5_copy_22 : decode cX5_copy 22 = .ok (.iconst 0, 1) := by decide +kernel
theorem dX5_copy_23 : decode cX5_copy 23 = .ok (.iload_n 2, 1) := by decide +kernel
theorem dX5_copy_24 : decode cX5_copy 24 = .ok (.invokestatic 38, 3) := by decide +kernel
theorem dX5_copy_27 : decode cX5_copy 27 = .ok (.aload_n 0, 1) := by decide +kernel
theorem dX5_copy_28 : decode cX5_copy 28 = .ok (.iload_n 2, 1) := by decide +kernel
theorem dX5_copy_29 : decode cX5_copy 29 = .ok (.invokevirtual 34, 3) := by decide +kernel
theorem dX5_copy_32 : decode cX5_copy 32 = .ok (.return_, 1) := by decide +kernel
theorem dX5_isZero_0 : decode cX5_isZero 0 = .ok (.aload_n 0, 1) := by decide +kernel
theorem dX5_isZero_1 : decode cX5_isZero 1 = .ok (.getfield 21, 3) := by decide +kernel
theorem dX5_isZero_4 : decode cX5_isZero 4 = .ok (.ifCond .ne 7, 3) := by decide +kernel
theorem dX5_isZero_7 : decode cX5_isZero 7 = .ok (.iconst 1, 1) := by decide +kernel
theorem dX5_isZero_8 : decode cX5_isZero 8 = .ok (.goto 4, 3) := by decide +kernel
theorem dX5_isZero_11 : decode cX5_isZero 11 = .ok (.iconst 0, 1) := by decide +kernel
theorem dX5_isZero_12 : decode cX5_isZero 12 = .ok (.ireturn, 1) := by decide +kernel
theorem dX5_isOne_0 : decode cX5_isOne 0 = .ok (.aload_n 0, 1) := by decide +kernel
theorem dX5_isOne_1 : decode cX5_isOne 1 = .ok (.getfield 21, 3) := by decide +kernel
theorem dX5_isOne_4 : decode cX5_isOne 4 = .ok (.iconst 1, 1) := by decide +kernel
theorem dX5_isOne_5 : decode cX5_isOne 5 = .ok (.if_icmp .ne 17, 3) := by decide +kernel
theorem dX5_isOne_8 : decode cX5_isOne 8 = .ok (.aload_n 0, 1) := by decide +kernel
theorem dX5_isOne_9 : decode cX5_isOne 9 = .ok (.iconst 0, 1) := by decide +kernel
theorem dX5_isOne_10 : decode cX5_isOne 10 = .ok (.invokevirtual 44, 3) := by decide +kernel
theorem dX5_isOne_13 : decode cX5_isOne 13 = .ok (.lconst 1, 1) := by decide +kernel
theorem dX5_isOne_14 : decode cX5_isOne 14 = .ok (.lcmp, 1) := by decide +kernel
theorem dX5_isOne_15 : decode cX5_isOne 15 = .ok (.ifCond .ne 7, 3) := by decide +kernel
theorem dX5_isOne_18 : decode cX5_isOne 18 = .ok (.iconst 1, 1) := by decide +kernel
theorem dX5_isOne_19 : decode cX5_isOne 19 = .ok (.goto 4, 3) := by decide +kernel
theorem dX5_isOne_22 : decode cX5_isOne 22 = .ok (.iconst 0, 1) := by decide +kernel
theorem dX5_isOne_23 : decode cX5_isOne 23 = .ok (.ireturn, 1) := by decide +kernel
theorem dX5_isOdd_0 : decode cX5_isOdd 0 = .ok (.aload_n 0, 1) := by decide +kernel
theorem dX5_isOdd_1 : decode cX5_isOdd 1 = .ok (.iconst 0, 1) := by decide +kernel
theorem dX5_isOdd_2 : decode cX5_isOdd 2 = .ok (.invokevirtual 44, 3) := by decide +kernel
theorem dX5_isOdd_5 : decode cX5_isOdd 5 = .ok (.lconst 1, 1) := by decide +kernel
theorem dX5_isOdd_6 : decode cX5_isOdd 6 = .ok (.land, 1) := by decide +kernel
theorem dX5_isOdd_7 : decode cX5_isOdd 7 = .ok (.lconst 1, 1) := by decide +kernel
theorem dX5_isOdd_8 : decode cX5_isOdd 8 = .ok (.lcmp, 1) := by decide +kernel
theorem dX5_isOdd_9 : decode cX5_isOdd 9 = .ok (.ifCond .ne 7, 3) := by decide +kernel
theorem dX5_isOdd_12 : decode cX5_isOdd 12 = .ok (.iconst 1, 1) := by decide +kernel
theorem dX5_isOdd_13 : decode cX5_isOdd 13 = .ok (.goto 4, 3) := by decide +kernel
theorem dX5_isOdd_16 : decode cX5_isOdd 16 = .ok (.iconst 0, 1) := by decide +kernel
theorem dX5_isOdd_17 : decode cX5_isOdd 17 = .ok (.ireturn, 1) := by decide +kernel
theorem dX5_isAbove_0 : decode cX5_isAbove 0 = .ok (.aload_n 0, 1) := by decide +kernel
theorem dX5_isAbove_1 : decode cX5_isAbove 1 = .ok (.invokevirtual 48, 3) := by decide +kernel
theorem dX5_isAbove_4 : decode cX5_isAbove 4 = .ok (.bipush 63, 2) := by decide +kernel
theorem dX5_isAbove_6 : decode cX5_isAbove 6 = .ok (.if_icmp .gt 12, 3) := by decide +kernel
theorem dX5_isAbove_9 : decode cX5_isAbove 9 = .ok (.aload_n 0, 1) := by decide +kernel
theorem dX5_isAbove_10 : decode cX5_isAbove 10 = .ok (.invokevirtual 52, 3) := by decide +kernel
theorem dX5_isAbove_13 : decode cX5_isAbove 13 = .ok (.lload_n 1, 1) := by decide +kernel
theorem dX5_isAbove_14 : decode cX5_isAbove 14 = .ok (.lcmp, 1) := by decide +kernel
theorem dX5_isAbove_15 : decode cX5_isAbove 15 = .ok (.ifCond .le 7, 3) := by decide +kernel
theorem dX5_isAbove_18 : decode cX5_isAbove 18 = .ok (.iconst 1, 1) := by decide +kernel
theorem dX5_isAbove_19 : decode cX5_isAbove 19 = .ok (.goto 4, 3) := by decide +kernel
theorem dX5_isAbove_22 : decode cX5_isAbove 22 = .ok (.iconst 0, 1) := by decide +kernel
theorem dX5_isAbove_23 : decode cX5_isAbove 23 = .ok (.ireturn, 1) := by decide +kernel
theorem dX5_bits_0 : decode cX5_bits 0 = .ok (.aload_n 0, 1) := by decide +kernel
theorem dX5_bits_1 : decode cX5_bits 1 = .ok (.getfield 21, 3) := by decide +kernel
theorem dX5_bits_4 : decode cX5_bits 4 = .ok (.ifCond .ne 7, 3) := by decide +kernel
theorem dX5_bits_7 : decode cX5_bits 7 = .ok (.iconst 0, 1) := by decide +kernel
theorem dX5_bits_8 : decode cX5_bits 8 = .ok (.goto 25, 3) := by decide +kernel
theorem dX5_bits_11 : decode cX5_bits 11 = .ok (.bipush 32, 2) := by decide +kernel
theorem dX5_bits_13 : decode cX5_bits 13 = .ok (.aload_n 0, 1) := by decide +kernel
theorem dX5_bits_14 : decode cX5_bits 14 = .ok (.getfield 21, 3) := by decide +kernel
theorem dX5_bits_17 : decode cX5_bits 17 = .ok (.imul, 1) := by decide +kernel
theorem dX5_bits_18 : decode cX5_bits 18 = .ok (.aload_n 0, 1) := by decide +kernel
theorem dX5_bits_19 : decode cX5_bits 19 = .ok (.aload_n 0, 1) := by decide +kernel
theorem dX5_bits_20 : decode cX5_bits 20 = .ok (.getfield 21, 3) := by decide +kernel
theorem dX5_bits_23 : decode cX5_bits 23 = .ok (.iconst 1, 1) := by decide +kernel
theorem dX5_bits_24 : decode cX5_bits 24 = .ok (.isub, 1) := by decide +kernel
theorem dX5_bits_25 : decode cX5_bits 25 = .ok (.invokevirtual 44, 3) := by decide +kernel
theorem dX5_bits_28 : decode cX5_bits 28 = .ok (.l2i, 1) := by decide +kernel
theorem dX5_bits_29 : decode cX5_bits 29 = .ok (.invokestatic 56, 3) := by decide +kernel
theorem dX5_bits_32 : decode cX5_bits 32 = .ok (.isub, 1) := by decide +kernel
theorem dX5_bits_33 : decode cX5_bits 33 = .ok (.ireturn, 1) := by decide +kernel
theorem dX5_low_0 : decode cX5_low 0 = .ok (.aload_n 0, 1) := by decide +kernel
theorem dX5_low_1 : decode cX5_low 1 = .ok (.iconst 1, 1) := by decide +kernel
theorem dX5_low_2 : decode cX5_low 2 = .ok (.invokevirtual 44, 3) := by decide +kernel
theorem dX5_low_5 : decode cX5_low 5 = .ok (.bipush 32, 2) := by decide +kernel
theorem dX5_low_7 : decode cX5_low 7 = .ok (.lshl, 1) := by decide +kernel
theorem dX5_low_8 : decode cX5_low 8 = .ok (.aload_n 0, 1) := by decide +kernel
theorem dX5_low_9 : decode cX5_low 9 = .ok (.iconst 0, 1) := by decide +kernel
theorem dX5_low_10 : decode cX5_low 10 = .ok (.invokevirtual 44, 3) := by decide +kernel
theorem dX5_low_13 : decode cX5_low 13 = .ok (.lor, 1) := by decide +kernel
theorem dX5_low_14 : decode cX5_low 14 = .ok (.lreturn, 1) := by decide +kernel
theorem dX5_order_0 : decode cX5_order 0 = .ok (.aload_n 0, 1) := by decide +kernel
theorem dX5_order_1 : decode cX5_order 1 = .ok (.getfield 21, 3) := by decide +kernel
theorem dX5_order_4 : decode cX5_order 4 = .ok (.aload_n 1, 1) := by decide +kernel
theorem dX5_order_5 : decode cX5_order 5 = .ok (.getfield 21, 3) := by decide +kernel
theorem dX5_order_8 : decode cX5_order 8 = .ok (.if_icmp .eq 20, 3) := by decide +kernel
theorem dX5_order_11 : decode cX5_order 11 = .ok (.aload_n 0, 1) := by decide +kernel
theorem dX5_order_12 : decode cX5_order 12 = .ok (.getfield 21, 3) := by decide +kernel
theorem dX5_order_15 : decode cX5_order 15 = .ok (.aload_n 1, 1) := by decide +kernel
theorem dX5_order_16 : decode cX5_order 16 = .ok (.getfield 21, 3) := by decide +kernel
theorem dX5_order_19 : decode cX5_order 19 = .ok (.if_icmp .ge 7, 3) := by decide +kernel
theorem dX5_order_22 : decode cX5_order 22 = .ok (.iconst (-1), 1) := by decide +kernel
theorem dX5_order_23 : decode cX5_order 23 = .ok (.goto 4, 3) := by decide +kernel
theorem dX5_order_26 : decode cX5_order 26 = .ok (.iconst 1, 1) := by decide +kernel
theorem dX5_order_27 : decode cX5_order 27 = .ok (.ireturn, 1) := by decide +kernel
theorem dX5_order_28 : decode cX5_order 28 = .ok (.aload_n 0, 1) := by decide +kernel
theorem dX5_order_29 : decode cX5_order 29 = .ok (.getfield 21, 3) := by decide +kernel
theorem dX5_order_32 : decode cX5_order 32 = .ok (.iconst 1, 1) := by decide +kernel
theorem dX5_order_33 : decode cX5_order 33 = .ok (.isub, 1) := by decide +kernel
theorem dX5_order_34 : decode cX5_order 34 = .ok (.istore_n 2, 1) := by decide +kernel
theorem dX5_order_35 : decode cX5_order 35 = .ok (.iload_n 2, 1) := by decide +kernel
theorem dX5_order_36 : decode cX5_order 36 = .ok (.ifCond .lt 43, 3) := by decide +kernel
theorem dX5_order_39 : decode cX5_order 39 = .ok (.aload_n 0, 1) := by decide +kernel
theorem dX5_order_40 : decode cX5_order 40 = .ok (.iload_n 2, 1) := by decide +kernel
theorem dX5_order_41 : decode cX5_order 41 = .ok (.invokevirtual 44, 3) := by decide +kernel
theorem dX5_order_44 : decode cX5_order 44 = .ok (.aload_n 1, 1) := by decide +kernel
theorem dX5_order_45 : decode cX5_order 45 = .ok (.iload_n 2, 1) := by decide +kernel
theorem dX5_order_46 : decode cX5_order 46 = .ok (.invokevirtual 44, 3) := by decide +kernel
theorem dX5_order_49 : decode cX5_order 49 = .ok (.lcmp, 1) := by decide +kernel
theorem dX5_order_50 : decode cX5_order 50 = .ok (.ifCond .eq 23, 3) := by decide +kernel
theorem dX5_order_53 : decode cX5_order 53 = .ok (.aload_n 0, 1) := by decide +kernel
theorem dX5_order_54 : decode cX5_order 54 = .ok (.iload_n 2, 1) := by decide +kernel
theorem dX5_order_55 : decode cX5_order 55 = .ok (.invokevirtual 44, 3) := by decide +kernel
theorem dX5_order_58 : decode cX5_order 58 = .ok (.aload_n 1, 1) := by decide +kernel
theorem dX5_order_59 : decode cX5_order 59 = .ok (.iload_n 2, 1) := by decide +kernel
theorem dX5_order_60 : decode cX5_order 60 = .ok (.invokevirtual 44, 3) := by decide +kernel
theorem dX5_order_63 : decode cX5_order 63 = .ok (.lcmp, 1) := by decide +kernel
theorem dX5_order_64 : decode cX5_order 64 = .ok (.ifCond .ge 7, 3) := by decide +kernel
theorem dX5_order_67 : decode cX5_order 67 = .ok (.iconst (-1), 1) := by decide +kernel
theorem dX5_order_68 : decode cX5_order 68 = .ok (.goto 4, 3) := by decide +kernel
theorem dX5_order_71 : decode cX5_order 71 = .ok (.iconst 1, 1) := by decide +kernel
theorem dX5_order_72 : decode cX5_order 72 = .ok (.ireturn, 1) := by decide +kernel
theorem dX5_order_73 : decode cX5_order 73 = .ok (.iinc 2 (-1), 3) := by decide +kernel
theorem dX5_order_76 : decode cX5_order 76 = .ok (.goto (-41), 3) := by decide +kernel
theorem dX5_order_79 : decode cX5_order 79 = .ok (.iconst 0, 1) := by decide +kernel
theorem dX5_order_80 : decode cX5_order 80 = .ok (.ireturn, 1) := by decide +kernel
theorem dX5_add_0 : decode cX5_add 0 = .ok (.aload_n 0, 1) := by decide +kernel
theorem dX5_add_1 : decode cX5_add 1 = .ok (.getfield 21, 3) := by decide +kernel
theorem dX5_add_4 : decode cX5_add 4 = .ok (.aload_n 1, 1) := by decide +kernel
theorem dX5_add_5 : decode cX5_add 5 = .ok (.getfield 21, 3) := by decide +kernel
theorem dX5_add_8 : decode cX5_add 8 = .ok (.invokestatic 9, 3) := by decide +kernel
theorem dX5_add_11 : decode cX5_add 11 = .ok (.iconst 1, 1) := by decide +kernel
theorem dX5_add_12 : decode cX5_add 12 = .ok (.iadd, 1) := by decide +kernel
theorem dX5_add_13 : decode cX5_add 13 = .ok (.aload_n 0, 1) := by decide +kernel
theorem dX5_add_14 : decode cX5_add 14 = .ok (.getfield 15, 3) := by decide +kernel
theorem dX5_add_17 : decode cX5_add 17 = .ok (.arraylength, 1) := by decide +kernel
theorem dX5_add_18 : decode cX5_add 18 = .ok (.invokestatic 27, 3) := by decide +kernel
theorem dX5_add_21 : decode cX5_add 21 = .ok (.istore_n 2, 1) := by decide +kernel
theorem dX5_add_22 : decode cX5_add 22 = .ok (.lconst 0, 1) := by decide +kernel
theorem dX5_add_23 : decode cX5_add 23 = .ok (.lstore_n 3, 1) := by decide +kernel
theorem dX5_add_24 : decode cX5_add 24 = .ok (.iconst 0, 1) := by decide +kernel
theorem dX5_add_25 : decode cX5_add 25 = .ok (.istore 5, 2) := by decide +kernel
theorem dX5_add_27 : decode cX5_add 27 = .ok (.iload 5, 2) := by decide +kernel
theorem dX5_add_29 : decode cX5_add 29 = .ok (.iload_n 2, 1) := by decide +kernel
theorem dX5_add_30 : decode cX5_add 30 = .ok (.if_icmp .ge 40, 3) := by decide +kernel
theorem dX5_add_33 : decode cX5_add 33 = .ok (.aload_n 0, 1) := by decide +kernel
theorem dX5_add_34 : decode cX5_add 34 = .ok (.iload 5, 2) := by decide +kernel
theorem dX5_add_36 : decode cX5_add 36 = .ok (.invokevirtual 44, 3) := by decide +kernel
theorem dX5_add_39 : decode cX5_add 39 = .ok (.aload_n 1, 1) := by decide +kernel
theorem dX5_add_40 : decode cX5_add 40 = .ok (.iload 5, 2) := by decide +kernel
theorem dX5_add_42 : decode cX5_add 42 = .ok (.invokevirtual 44, 3) := by decide +kernel
theorem dX5_add_45 : decode cX5_add 45 = .ok (.ladd, 1) := by decide +kernel
theorem dX5_add_46 : decode cX5_add 46 = .ok (.lload_n 3, 1) := by decide +kernel
theorem dX5_add_47 : decode cX5_add 47 = .ok (.ladd, 1) := by decide +kernel
theorem dX5_add_48 : decode cX5_add 48 = .ok (.lstore 6, 2) := by decide +kernel
theorem dX5_add_50 : decode cX5_add 50 = .ok (.aload_n 0, 1) := by decide +kernel
theorem dX5_add_51 : decode cX5_add 51 = .ok (.iload 5, 2) := by decide +kernel
theorem dX5_add_53 : decode cX5_add 53 = .ok (.lload 6, 2) := by decide +kernel
theorem dX5_add_55 : decode cX5_add 55 = .ok (.invokevirtual 30, 3) := by decide +kernel
theorem dX5_add_58 : decode cX5_add 58 = .ok (.lload 6, 2) := by decide +kernel
theorem dX5_add_60 : decode cX5_add 60 = .ok (.bipush 32, 2) := by decide +kernel
theorem dX5_add_62 : decode cX5_add 62 = .ok (.lushr, 1) := by decide +kernel
theorem dX5_add_63 : decode cX5_add 63 = .ok (.lstore_n 3, 1) := by decide +kernel
theorem dX5_add_64 : decode cX5_add 64 = .ok (.iinc 5 1, 3) := by decide +kernel
theorem dX5_add_67 : decode cX5_add 67 = .ok (.goto (-40), 3) := by decide +kernel
theorem dX5_add_70 : decode cX5_add 70 = .ok (.aload_n 0, 1) := by decide +kernel
theorem dX5_add_71 : decode cX5_add 71 = .ok (.iload_n 2, 1) := by decide +kernel
theorem dX5_add_72 : decode cX5_add 72 = .ok (.invokevirtual 34, 3) := by decide +kernel
theorem dX5_add_75 : decode cX5_add 75 = .ok (.return_, 1) := by decide +kernel
theorem dX5_subtract_0 : decode cX5_subtract 0 = .ok (.aload_n 1, 1) := by decide +kernel
theorem dX5_subtract_1 : decode cX5_subtract 1 = .ok (.getfield 21, 3) := by decide +kernel
theorem dX5_subtract_4 : decode cX5_subtract 4 = .ok (.istore_n 3, 1) := by decide +kernel
theorem dX5_subtract_5 : decode cX5_subtract 5 = .ok (.lconst 0, 1) := by decide +kernel
theorem dX5_subtract_6 : decode cX5_subtract 6 = .ok (.lstore 4, 2) := by decide +kernel
theorem dX5_subtract_8 : decode cX5_subtract 8 = .ok (.iconst 0, 1) := by decide +kernel
theorem dX5_subtract_9 : decode cX5_subtract 9 = .ok (.istore 6, 2) := by decide +kernel
theorem dX5_subtract_11 : decode cX5_subtract 11 = .ok (.iload 6, 2) := by decide +kernel
theorem dX5_subtract_13 : decode cX5_subtract 13 = .ok (.iload_n 3, 1) := by decide +kernel
theorem dX5_subtract_14 : decode cX5_subtract 14 = .ok (.if_icmp .ge 42, 3) := by decide +kernel
theorem dX5_subtract_17 : decode cX5_subtract 17 = .ok (.aload_n 1, 1) := by decide +kernel
theorem dX5_subtract_18 : decode cX5_subtract 18 = .ok (.iload 6, 2) := by decide +kernel
theorem dX5_subtract_20 : decode cX5_subtract 20 = .ok (.invokevirtual 44, 3) := by decide +kernel
theorem dX5_subtract_23 : decode cX5_subtract 23 = .ok (.aload_n 2, 1) := by decide +kernel
theorem dX5_subtract_24 : decode cX5_subtract 24 = .ok (.iload 6, 2) := by decide +kernel
theorem dX5_subtract_26 : decode cX5_subtract 26 = .ok (.invokevirtual 44, 3) := by decide +kernel
theorem dX5_subtract_29 : decode cX5_subtract 29 = .ok (.lsub, 1) := by decide +kernel
theorem dX5_subtract_30 : decode cX5_subtract 30 = .ok (.lload 4, 2) := by decide +kernel
theorem dX5_subtract_32 : decode cX5_subtract 32 = .ok (.lsub, 1) := by decide +kernel
theorem dX5_subtract_33 : decode cX5_subtract 33 = .ok (.lstore 7, 2) := by decide +kernel
theorem dX5_subtract_35 : decode cX5_subtract 35 = .ok (.aload_n 0, 1) := by decide +kernel
theorem dX5_subtract_36 : decode cX5_subtract 36 = .ok (.iload 6, 2) := by decide +kernel
theorem dX5_subtract_38 : decode cX5_subtract 38 = .ok (.lload 7, 2) := by decide +kernel
theorem dX5_subtract_40 : decode cX5_subtract 40 = .ok (.invokevirtual 30, 3) := by decide +kernel
theorem dX5_subtract_43 : decode cX5_subtract 43 = .ok (.lload 7, 2) := by decide +kernel
theorem dX5_subtract_45 : decode cX5_subtract 45 = .ok (.bipush 63, 2) := by decide +kernel
theorem dX5_subtract_47 : decode cX5_subtract 47 = .ok (.lushr, 1) := by decide +kernel
theorem dX5_subtract_48 : decode cX5_subtract 48 = .ok (.lstore 4, 2) := by decide +kernel
theorem dX5_subtract_50 : decode cX5_subtract 50 = .ok (.iinc 6 1, 3) := by decide +kernel
theorem dX5_subtract_53 : decode cX5_subtract 53 = .ok (.goto (-42), 3) := by decide +kernel
theorem dX5_subtract_56 : decode cX5_subtract 56 = .ok (.aload_n 0, 1) := by decide +kernel
theorem dX5_subtract_57 : decode cX5_subtract 57 = .ok (.iload_n 3, 1) := by decide +kernel
theorem dX5_subtract_58 : decode cX5_subtract 58 = .ok (.invokevirtual 34, 3) := by decide +kernel
theorem dX5_subtract_61 : decode cX5_subtract 61 = .ok (.return_, 1) := by decide +kernel
theorem dX5_multiply_0 : decode cX5_multiply 0 = .ok (.aload_n 0, 1) := by decide +kernel
theorem dX5_multiply_1 : decode cX5_multiply 1 = .ok (.invokevirtual 62, 3) := by decide +kernel
theorem dX5_multiply_4 : decode cX5_multiply 4 = .ok (.aload_n 0, 1) := by decide +kernel
theorem dX5_multiply_5 : decode cX5_multiply 5 = .ok (.aload_n 1, 1) := by decide +kernel
theorem dX5_multiply_6 : decode cX5_multiply 6 = .ok (.aload_n 2, 1) := by decide +kernel
theorem dX5_multiply_7 : decode cX5_multiply 7 = .ok (.invokevirtual 65, 3) := by decide +kernel
theorem dX5_multiply_10 : decode cX5_multiply 10 = .ok (.return_, 1) := by decide +kernel
theorem dX5_addProduct_0 : decode cX5_addProduct 0 = .ok (.aload_n 0, 1) := by decide +kernel
theorem dX5_addProduct_1 : decode cX5_addProduct 1 = .ok (.getfield 21, 3) := by decide +kernel
theorem dX5_addProduct_4 : decode cX5_addProduct 4 = .ok (.aload_n 1, 1) := by decide +kernel
theorem dX5_addProduct_5 : decode cX5_addProduct 5 = .ok (.getfield 21, 3) := by decide +kernel
theorem dX5_addProduct_8 : decode cX5_addProduct 8 = .ok (.aload_n 2, 1) := by decide +kernel
theorem dX5_addProduct_9 : decode cX5_addProduct 9 = .ok (.getfield 21, 3) := by decide +kernel
theorem dX5_addProduct_12 : decode cX5_addProduct 12 = .ok (.iadd, 1) := by decide +kernel
theorem dX5_addProduct_13 : decode cX5_addProduct 13 = .ok (.invokestatic 9, 3) := by decide +kernel
theorem dX5_addProduct_16 : decode cX5_addProduct 16 = .ok (.iconst 1, 1) := by decide +kernel
theorem dX5_addProduct_17 : decode cX5_addProduct 17 = .ok (.iadd, 1) := by decide +kernel
theorem dX5_addProduct_18 : decode cX5_addProduct 18 = .ok (.aload_n 0, 1) := by decide +kernel
theorem dX5_addProduct_19 : decode cX5_addProduct 19 = .ok (.getfield 15, 3) := by decide +kernel
theorem dX5_addProduct_22 : decode cX5_addProduct 22 = .ok (.arraylength, 1) := by decide +kernel
theorem dX5_addProduct_23 : decode cX5_addProduct 23 = .ok (.invokestatic 27, 3) := by decide +kernel
theorem dX5_addProduct_26 : decode cX5_addProduct 26 = .ok (.istore_n 3, 1) := by decide +kernel
theorem dX5_addProduct_27 : decode cX5_addProduct 27 = .ok (.aload_n 0, 1) := by decide +kernel
theorem dX5_addProduct_28 : decode cX5_addProduct 28 = .ok (.getfield 21, 3) := by decide +kernel
theorem dX5_addProduct_31 : decode cX5_addProduct 31 = .ok (.istore 4, 2) := by decide +kernel
theorem dX5_addProduct_33 : decode cX5_addProduct 33 = .ok (.iload 4, 2) := by decide +kernel
theorem dX5_addProduct_35 : decode cX5_addProduct 35 = .ok (.iload_n 3, 1) := by decide +kernel
theorem dX5_addProduct_36 : decode cX5_addProduct 36 = .ok (.if_icmp .ge 16, 3) := by decide +kernel
theorem dX5_addProduct_39 : decode cX5_addProduct 39 = .ok (.aload_n 0, 1) := by decide +kernel
theorem dX5_addProduct_40 : decode cX5_addProduct 40 = .ok (.iload 4, 2) := by decide +kernel
theorem dX5_addProduct_42 : decode cX5_addProduct 42 = .ok (.lconst 0, 1) := by decide +kernel
theorem dX5_addProduct_43 : decode cX5_addProduct 43 = .ok (.invokevirtual 30, 3) := by decide +kernel
theorem dX5_addProduct_46 : decode cX5_addProduct 46 = .ok (.iinc 4 1, 3) := by decide +kernel
theorem dX5_addProduct_49 : decode cX5_addProduct 49 = .ok (.goto (-16), 3) := by decide +kernel
theorem dX5_addProduct_52 : decode cX5_addProduct 52 = .ok (.aload_n 0, 1) := by decide +kernel
theorem dX5_addProduct_53 : decode cX5_addProduct 53 = .ok (.iload_n 3, 1) := by decide +kernel
theorem dX5_addProduct_54 : decode cX5_addProduct 54 = .ok (.putfield 21, 3) := by decide +kernel
theorem dX5_addProduct_57 : decode cX5_addProduct 57 = .ok (.iconst 0, 1) := by decide +kernel
theorem dX5_addProduct_58 : decode cX5_addProduct 58 = .ok (.istore 4, 2) := by decide +kernel
theorem dX5_addProduct_60 : decode cX5_addProduct 60 = .ok (.iload 4, 2) := by decide +kernel
theorem dX5_addProduct_62 : decode cX5_addProduct 62 = .ok (.aload_n 1, 1) := by decide +kernel
theorem dX5_addProduct_63 : decode cX5_addProduct 63 = .ok (.getfield 21, 3) := by decide +kernel
theorem dX5_addProduct_66 : decode cX5_addProduct 66 = .ok (.if_icmp .ge 22, 3) := by decide +kernel
theorem dX5_addProduct_69 : decode cX5_addProduct 69 = .ok (.aload_n 0, 1) := by decide +kernel
theorem dX5_addProduct_70 : decode cX5_addProduct 70 = .ok (.aload_n 2, 1) := by decide +kernel
theorem dX5_addProduct_71 : decode cX5_addProduct 71 = .ok (.aload_n 1, 1) := by decide +kernel
theorem dX5_addProduct_72 : decode cX5_addProduct 72 = .ok (.iload 4, 2) := by decide +kernel
theorem dX5_addProduct_74 : decode cX5_addProduct 74 = .ok (.invokevirtual 44, 3) := by decide +kernel
theorem dX5_addProduct_77 : decode cX5_addProduct 77 = .ok (.iload 4, 2) := by decide +kernel
theorem dX5_addProduct_79 : decode cX5_addProduct 79 = .ok (.invokevirtual 69, 3) := by decide +kernel
theorem dX5_addProduct_82 : decode cX5_addProduct 82 = .ok (.iinc 4 1, 3) := by decide +kernel
theorem dX5_addProduct_85 : decode cX5_addProduct 85 = .ok (.goto (-25), 3) := by decide +kernel
theorem dX5_addProduct_88 : decode cX5_addProduct 88 = .ok (.aload_n 0, 1) := by decide +kernel
theorem dX5_addProduct_89 : decode cX5_addProduct 89 = .ok (.iload_n 3, 1) := by decide +kernel
theorem dX5_addProduct_90 : decode cX5_addProduct 90 = .ok (.invokevirtual 34, 3) := by decide +kernel
theorem dX5_addProduct_93 : decode cX5_addProduct 93 = .ok (.return_, 1) := by decide +kernel
theorem dX5_addTimes_0 : decode cX5_addTimes 0 = .ok (.aload_n 1, 1) := by decide +kernel
theorem dX5_addTimes_1 : decode cX5_addTimes 1 = .ok (.getfield 21, 3) := by decide +kernel
theorem dX5_addTimes_4 : decode cX5_addTimes 4 = .ok (.aload_n 0, 1) := by decide +kernel
theorem dX5_addTimes_5 : decode cX5_addTimes 5 = .ok (.getfield 21, 3) := by decide +kernel
theorem dX5_addTimes_8 : decode cX5_addTimes 8 = .ok (.iload 4, 2) := by decide +kernel
theorem dX5_addTimes_10 : decode cX5_addTimes 10 = .ok (.isub, 1) := by decide +kernel
theorem dX5_addTimes_11 : decode cX5_addTimes 11 = .ok (.invokestatic 27, 3) := by decide +kernel
theorem dX5_addTimes_14 : decode cX5_addTimes 14 = .ok (.istore 5, 2) := by decide +kernel
theorem dX5_addTimes_16 : decode cX5_addTimes 16 = .ok (.lconst 0, 1) := by decide +kernel
theorem dX5_addTimes_17 : decode cX5_addTimes 17 = .ok (.lstore 6, 2) := by decide +kernel
theorem dX5_addTimes_19 : decode cX5_addTimes 19 = .ok (.iconst 0, 1) := by decide +kernel
theorem dX5_addTimes_20 : decode cX5_addTimes 20 = .ok (.istore 8, 2) := by decide +kernel
theorem dX5_addTimes_22 : decode cX5_addTimes 22 = .ok (.iload 8, 2) := by decide +kernel
theorem dX5_addTimes_24 : decode cX5_addTimes 24 = .ok (.iload 5, 2) := by decide +kernel
theorem dX5_addTimes_26 : decode cX5_addTimes 26 = .ok (.if_icmp .ge 64, 3) := by decide +kernel
theorem dX5_addTimes_29 : decode cX5_addTimes 29 = .ok (.lload_n 2, 1) := by decide +kernel
theorem dX5_addTimes_30 : decode cX5_addTimes 30 = .ok (.aload_n 1, 1) := by decide +kernel
theorem dX5_addTimes_31 : decode cX5_addTimes 31 = .ok (.getfield 15, 3) := by decide +kernel
theorem dX5_addTimes_34 : decode cX5_addTimes 34 = .ok (.iload 8, 2) := by decide +kernel
theorem dX5_addTimes_36 : decode cX5_addTimes 36 = .ok (.iaload, 1) := by decide +kernel
theorem dX5_addTimes_37 : decode cX5_addTimes 37 = .ok (.i2l, 1) := by decide +kernel
theorem dX5_addTimes_38 : decode cX5_addTimes 38 = .ok (.ldc2_w 25, 3) := by decide +kernel
theorem dX5_addTimes_41 : decode cX5_addTimes 41 = .ok (.land, 1) := by decide +kernel
theorem dX5_addTimes_42 : decode cX5_addTimes 42 = .ok (.lmul, 1) := by decide +kernel
theorem dX5_addTimes_43 : decode cX5_addTimes 43 = .ok (.aload_n 0, 1) := by decide +kernel
theorem dX5_addTimes_44 : decode cX5_addTimes 44 = .ok (.getfield 15, 3) := by decide +kernel
theorem dX5_addTimes_47 : decode cX5_addTimes 47 = .ok (.iload 4, 2) := by decide +kernel
theorem dX5_addTimes_49 : decode cX5_addTimes 49 = .ok (.iload 8, 2) := by decide +kernel
theorem dX5_addTimes_51 : decode cX5_addTimes 51 = .ok (.iadd, 1) := by decide +kernel
theorem dX5_addTimes_52 : decode cX5_addTimes 52 = .ok (.iaload, 1) := by decide +kernel
theorem dX5_addTimes_53 : decode cX5_addTimes 53 = .ok (.i2l, 1) := by decide +kernel
theorem dX5_addTimes_54 : decode cX5_addTimes 54 = .ok (.ldc2_w 25, 3) := by decide +kernel
theorem dX5_addTimes_57 : decode cX5_addTimes 57 = .ok (.land, 1) := by decide +kernel
theorem dX5_addTimes_58 : decode cX5_addTimes 58 = .ok (.ladd, 1) := by decide +kernel
theorem dX5_addTimes_59 : decode cX5_addTimes 59 = .ok (.lload 6, 2) := by decide +kernel
theorem dX5_addTimes_61 : decode cX5_addTimes 61 = .ok (.ladd, 1) := by decide +kernel
theorem dX5_addTimes_62 : decode cX5_addTimes 62 = .ok (.lstore 9, 2) := by decide +kernel
theorem dX5_addTimes_64 : decode cX5_addTimes 64 = .ok (.aload_n 0, 1) := by decide +kernel
theorem dX5_addTimes_65 : decode cX5_addTimes 65 = .ok (.getfield 15, 3) := by decide +kernel
theorem dX5_addTimes_68 : decode cX5_addTimes 68 = .ok (.iload 4, 2) := by decide +kernel
theorem dX5_addTimes_70 : decode cX5_addTimes 70 = .ok (.iload 8, 2) := by decide +kernel
theorem dX5_addTimes_72 : decode cX5_addTimes 72 = .ok (.iadd, 1) := by decide +kernel
theorem dX5_addTimes_73 : decode cX5_addTimes 73 = .ok (.lload 9, 2) := by decide +kernel
theorem dX5_addTimes_75 : decode cX5_addTimes 75 = .ok (.l2i, 1) := by decide +kernel
theorem dX5_addTimes_76 : decode cX5_addTimes 76 = .ok (.iastore, 1) := by decide +kernel
theorem dX5_addTimes_77 : decode cX5_addTimes 77 = .ok (.lload 9, 2) := by decide +kernel
theorem dX5_addTimes_79 : decode cX5_addTimes 79 = .ok (.bipush 32, 2) := by decide +kernel
theorem dX5_addTimes_81 : decode cX5_addTimes 81 = .ok (.lushr, 1) := by decide +kernel
theorem dX5_addTimes_82 : decode cX5_addTimes 82 = .ok (.lstore 6, 2) := by decide +kernel
theorem dX5_addTimes_84 : decode cX5_addTimes 84 = .ok (.iinc 8 1, 3) := by decide +kernel
theorem dX5_addTimes_87 : decode cX5_addTimes 87 = .ok (.goto (-65), 3) := by decide +kernel
theorem dX5_addTimes_90 : decode cX5_addTimes 90 = .ok (.iload 4, 2) := by decide +kernel
theorem dX5_addTimes_92 : decode cX5_addTimes 92 = .ok (.iload 5, 2) := by decide +kernel
theorem dX5_addTimes_94 : decode cX5_addTimes 94 = .ok (.iadd, 1) := by decide +kernel
theorem dX5_addTimes_95 : decode cX5_addTimes 95 = .ok (.istore 8, 2) := by decide +kernel
theorem dX5_addTimes_97 : decode cX5_addTimes 97 = .ok (.iload 8, 2) := by decide +kernel
theorem dX5_addTimes_99 : decode cX5_addTimes 99 = .ok (.aload_n 0, 1) := by decide +kernel
theorem dX5_addTimes_100 : decode cX5_addTimes 100 = .ok (.getfield 21, 3) := by decide +kernel
theorem dX5_addTimes_103 : decode cX5_addTimes 103 = .ok (.if_icmp .ge 50, 3) := by decide +kernel
theorem dX5_addTimes_106 : decode cX5_addTimes 106 = .ok (.lload 6, 2) := by decide +kernel
theorem dX5_addTimes_108 : decode cX5_addTimes 108 = .ok (.lconst 0, 1) := by decide +kernel
theorem dX5_addTimes_109 : decode cX5_addTimes 109 = .ok (.lcmp, 1) := by decide +kernel
theorem dX5_addTimes_110 : decode cX5_addTimes 110 = .ok (.ifCond .eq 43, 3) := by decide +kernel
theorem dX5_addTimes_113 : decode cX5_addTimes 113 = .ok (.aload_n 0, 1) := by decide +kernel
theorem dX5_addTimes_114 : decode cX5_addTimes 114 = .ok (.getfield 15, 3) := by decide +kernel
theorem dX5_addTimes_117 : decode cX5_addTimes 117 = .ok (.iload 8, 2) := by decide +kernel
theorem dX5_addTimes_119 : decode cX5_addTimes 119 = .ok (.iaload, 1) := by decide +kernel
theorem dX5_addTimes_120 : decode cX5_addTimes 120 = .ok (.i2l, 1) := by decide +kernel
theorem dX5_addTimes_121 : decode cX5_addTimes 121 = .ok (.ldc2_w 25, 3) := by decide +kernel
theorem dX5_addTimes_124 : decode cX5_addTimes 124 = .ok (.land, 1) := by decide +kernel
theorem dX5_addTimes_125 : decode cX5_addTimes 125 = .ok (.lload 6, 2) := by decide +kernel
theorem dX5_addTimes_127 : decode cX5_addTimes 127 = .ok (.ladd, 1) := by decide +kernel
theorem dX5_addTimes_128 : decode cX5_addTimes 128 = .ok (.lstore 9, 2) := by decide +kernel
theorem dX5_addTimes_130 : decode cX5_addTimes 130 = .ok (.aload_n 0, 1) := by decide +kernel
theorem dX5_addTimes_131 : decode cX5_addTimes 131 = .ok (.getfield 15, 3) := by decide +kernel
theorem dX5_addTimes_134 : decode cX5_addTimes 134 = .ok (.iload 8, 2) := by decide +kernel
theorem dX5_addTimes_136 : decode cX5_addTimes 136 = .ok (.lload 9, 2) := by decide +kernel
theorem dX5_addTimes_138 : decode cX5_addTimes 138 = .ok (.l2i, 1) := by decide +kernel
theorem dX5_addTimes_139 : decode cX5_addTimes 139 = .ok (.iastore, 1) := by decide +kernel
theorem dX5_addTimes_140 : decode cX5_addTimes 140 = .ok (.lload 9, 2) := by decide +kernel
theorem dX5_addTimes_142 : decode cX5_addTimes 142 = .ok (.bipush 32, 2) := by decide +kernel
theorem dX5_addTimes_144 : decode cX5_addTimes 144 = .ok (.lushr, 1) := by decide +kernel
theorem dX5_addTimes_145 : decode cX5_addTimes 145 = .ok (.lstore 6, 2) := by decide +kernel
theorem dX5_addTimes_147 : decode cX5_addTimes 147 = .ok (.iinc 8 1, 3) := by decide +kernel
theorem dX5_addTimes_150 : decode cX5_addTimes 150 = .ok (.goto (-53), 3) := by decide +kernel
theorem dX5_addTimes_153 : decode cX5_addTimes 153 = .ok (.return_, 1) := by decide +kernel
theorem dX5_timesPlus_0 : decode cX5_timesPlus 0 = .ok (.aload_n 0, 1) := by decide +kernel
theorem dX5_timesPlus_1 : decode cX5_timesPlus 1 = .ok (.getfield 21, 3) := by decide +kernel
theorem dX5_timesPlus_4 : decode cX5_timesPlus 4 = .ok (.iconst 1, 1) := by decide +kernel
theorem dX5_timesPlus_5 : decode cX5_timesPlus 5 = .ok (.iadd, 1) := by decide +kernel
theorem dX5_timesPlus_6 : decode cX5_timesPlus 6 = .ok (.aload_n 0, 1) := by decide +kernel
theorem dX5_timesPlus_7 : decode cX5_timesPlus 7 = .ok (.getfield 15, 3) := by decide +kernel
theorem dX5_timesPlus_10 : decode cX5_timesPlus 10 = .ok (.arraylength, 1) := by decide +kernel
theorem dX5_timesPlus_11 : decode cX5_timesPlus 11 = .ok (.invokestatic 27, 3) := by decide +kernel
theorem dX5_timesPlus_14 : decode cX5_timesPlus 14 = .ok (.istore_n 3, 1) := by decide +kernel
theorem dX5_timesPlus_15 : decode cX5_timesPlus 15 = .ok (.iload_n 2, 1) := by decide +kernel
theorem dX5_timesPlus_16 : decode cX5_timesPlus 16 = .ok (.i2l, 1) := by decide +kernel
theorem dX5_timesPlus_17 : decode cX5_timesPlus 17 = .ok (.lstore 4, 2) := by decide +kernel
theorem dX5_timesPlus_19 : decode cX5_timesPlus 19 = .ok (.iconst 0, 1) := by decide +kernel
theorem dX5_timesPlus_20 : decode cX5_timesPlus 20 = .ok (.istore 6, 2) := by decide +kernel
theorem dX5_timesPlus_22 : decode cX5_timesPlus 22 = .ok (.iload 6, 2) := by decide +kernel
theorem dX5_timesPlus_24 : decode cX5_timesPlus 24 = .ok (.iload_n 3, 1) := by decide +kernel
theorem dX5_timesPlus_25 : decode cX5_timesPlus 25 = .ok (.if_icmp .ge 38, 3) := by decide +kernel
theorem dX5_timesPlus_28 : decode cX5_timesPlus 28 = .ok (.aload_n 0, 1) := by decide +kernel
theorem dX5_timesPlus_29 : decode cX5_timesPlus 29 = .ok (.iload 6, 2) := by decide +kernel
theorem dX5_timesPlus_31 : decode cX5_timesPlus 31 = .ok (.invokevirtual 44, 3) := by decide +kernel
theorem dX5_timesPlus_34 : decode cX5_timesPlus 34 = .ok (.iload_n 1, 1) := by decide +kernel
theorem dX5_timesPlus_35 : decode cX5_timesPlus 35 = .ok (.i2l, 1) := by decide +kernel
theorem dX5_timesPlus_36 : decode cX5_timesPlus 36 = .ok (.lmul, 1) := by decide +kernel
theorem dX5_timesPlus_37 : decode cX5_timesPlus 37 = .ok (.lload 4, 2) := by decide +kernel
theorem dX5_timesPlus_39 : decode cX5_timesPlus 39 = .ok (.ladd, 1) := by decide +kernel
theorem dX5_timesPlus_40 : decode cX5_timesPlus 40 = .ok (.lstore 7, 2) := by decide +kernel
theorem dX5_timesPlus_42 : decode cX5_timesPlus 42 = .ok (.aload_n 0, 1) := by decide +kernel
theorem dX5_timesPlus_43 : decode cX5_timesPlus 43 = .ok (.iload 6, 2) := by decide +kernel
theorem dX5_timesPlus_45 : decode cX5_timesPlus 45 = .ok (.lload 7, 2) := by decide +kernel
theorem dX5_timesPlus_47 : decode cX5_timesPlus 47 = .ok (.invokevirtual 30, 3) := by decide +kernel
theorem dX5_timesPlus_50 : decode cX5_timesPlus 50 = .ok (.lload 7, 2) := by decide +kernel
theorem dX5_timesPlus_52 : decode cX5_timesPlus 52 = .ok (.bipush 32, 2) := by decide +kernel
theorem dX5_timesPlus_54 : decode cX5_timesPlus 54 = .ok (.lushr, 1) := by decide +kernel
theorem dX5_timesPlus_55 : decode cX5_timesPlus 55 = .ok (.lstore 4, 2) := by decide +kernel
theorem dX5_timesPlus_57 : decode cX5_timesPlus 57 = .ok (.iinc 6 1, 3) := by decide +kernel
theorem dX5_timesPlus_60 : decode cX5_timesPlus 60 = .ok (.goto (-38), 3) := by decide +kernel
theorem dX5_timesPlus_63 : decode cX5_timesPlus 63 = .ok (.aload_n 0, 1) := by decide +kernel
theorem dX5_timesPlus_64 : decode cX5_timesPlus 64 = .ok (.iload_n 3, 1) := by decide +kernel
theorem dX5_timesPlus_65 : decode cX5_timesPlus 65 = .ok (.invokevirtual 34, 3) := by decide +kernel
theorem dX5_timesPlus_68 : decode cX5_timesPlus 68 = .ok (.return_, 1) := by decide +kernel
theorem dX5_divideBy_0 : decode cX5_divideBy 0 = .ok (.iload_n 1, 1) := by decide +kernel
theorem dX5_divideBy_1 : decode cX5_divideBy 1 = .ok (.ifCond .gt 5, 3) := by decide +kernel
theorem dX5_divideBy_4 : decode cX5_divideBy 4 = .ok (.iconst 0, 1) := by decide +kernel
theorem dX5_divideBy_5 : decode cX5_divideBy 5 = .ok (.ireturn, 1) := by decide +kernel
theorem dX5_divideBy_6 : decode cX5_divideBy 6 = .ok (.lconst 0, 1) := by decide +kernel
theorem dX5_divideBy_7 : decode cX5_divideBy 7 = .ok (.lstore_n 2, 1) := by decide +kernel
theorem dX5_divideBy_8 : decode cX5_divideBy 8 = .ok (.aload_n 0, 1) := by decide +kernel
theorem dX5_divideBy_9 : decode cX5_divideBy 9 = .ok (.getfield 21, 3) := by decide +kernel
theorem dX5_divideBy_12 : decode cX5_divideBy 12 = .ok (.iconst 1, 1) := by decide +kernel
theorem dX5_divideBy_13 : decode cX5_divideBy 13 = .ok (.isub, 1) := by decide +kernel
theorem dX5_divideBy_14 : decode cX5_divideBy 14 = .ok (.istore 4, 2) := by decide +kernel
theorem dX5_divideBy_16 : decode cX5_divideBy 16 = .ok (.iload 4, 2) := by decide +kernel
theorem dX5_divideBy_18 : decode cX5_divideBy 18 = .ok (.ifCond .lt 39, 3) := by decide +kernel
theorem dX5_divideBy_21 : decode cX5_divideBy 21 = .ok (.lload_n 2, 1) := by decide +kernel
theorem dX5_divideBy_22 : decode cX5_divideBy 22 = .ok (.bipush 32, 2) := by decide +kernel
theorem dX5_divideBy_24 : decode cX5_divideBy 24 = .ok (.lshl, 1) := by decide +kernel
theorem dX5_divideBy_25 : decode cX5_divideBy 25 = .ok (.aload_n 0, 1) := by decide +kernel
theorem dX5_divideBy_26 : decode cX5_divideBy 26 = .ok (.iload 4, 2) := by decide +kernel
theorem dX5_divideBy_28 : decode cX5_divideBy 28 = .ok (.invokevirtual 44, 3) := by decide +kernel
theorem dX5_divideBy_31 : decode cX5_divideBy 31 = .ok (.lor, 1) := by decide +kernel
theorem dX5_divideBy_32 : decode cX5_divideBy 32 = .ok (.lstore 5, 2) := by decide +kernel
theorem dX5_divideBy_34 : decode cX5_divideBy 34 = .ok (.aload_n 0, 1) := by decide +kernel
theorem dX5_divideBy_35 : decode cX5_divideBy 35 = .ok (.iload 4, 2) := by decide +kernel
theorem dX5_divideBy_37 : decode cX5_divideBy 37 = .ok (.lload 5, 2) := by decide +kernel
theorem dX5_divideBy_39 : decode cX5_divideBy 39 = .ok (.iload_n 1, 1) := by decide +kernel
theorem dX5_divideBy_40 : decode cX5_divideBy 40 = .ok (.i2l, 1) := by decide +kernel
theorem dX5_divideBy_41 : decode cX5_divideBy 41 = .ok (.ldiv, 1) := by decide +kernel
theorem dX5_divideBy_42 : decode cX5_divideBy 42 = .ok (.invokevirtual 30, 3) := by decide +kernel
theorem dX5_divideBy_45 : decode cX5_divideBy 45 = .ok (.lload 5, 2) := by decide +kernel
theorem dX5_divideBy_47 : decode cX5_divideBy 47 = .ok (.iload_n 1, 1) := by decide +kernel
theorem dX5_divideBy_48 : decode cX5_divideBy 48 = .ok (.i2l, 1) := by decide +kernel
theorem dX5_divideBy_49 : decode cX5_divideBy 49 = .ok (.lrem, 1) := by decide +kernel
theorem dX5_divideBy_50 : decode cX5_divideBy 50 = .ok (.lstore_n 2, 1) := by decide +kernel
theorem dX5_divideBy_51 : decode cX5_divideBy 51 = .ok (.iinc 4 (-1), 3) := by decide +kernel
theorem dX5_divideBy_54 : decode cX5_divideBy 54 = .ok (.goto (-38), 3) := by decide +kernel
theorem dX5_divideBy_57 : decode cX5_divideBy 57 = .ok (.aload_n 0, 1) := by decide +kernel
theorem dX5_divideBy_58 : decode cX5_divideBy 58 = .ok (.aload_n 0, 1) := by decide +kernel
theorem dX5_divideBy_59 : decode cX5_divideBy 59 = .ok (.getfield 21, 3) := by decide +kernel
theorem dX5_divideBy_62 : decode cX5_divideBy 62 = .ok (.invokevirtual 34, 3) := by decide +kernel
theorem dX5_divideBy_65 : decode cX5_divideBy 65 = .ok (.lload_n 2, 1) := by decide +kernel
theorem dX5_divideBy_66 : decode cX5_divideBy 66 = .ok (.l2i, 1) := by decide +kernel
theorem dX5_divideBy_67 : decode cX5_divideBy 67 = .ok (.ireturn, 1) := by decide +kernel
theorem dX5_shiftLeft_0 : decode cX5_shiftLeft 0 = .ok (.iload_n 1, 1) := by decide +kernel
theorem dX5_shiftLeft_1 : decode cX5_shiftLeft 1 = .ok (.ifCond .gt 4, 3) := by decide +kernel
theorem dX5_shiftLeft_4 : decode cX5_shiftLeft 4 = .ok (.return_, 1) := by decide +kernel
theorem dX5_shiftLeft_5 : decode cX5_shiftLeft 5 = .ok (.iload_n 1, 1) := by decide +kernel
theorem dX5_shiftLeft_6 : decode cX5_shiftLeft 6 = .ok (.iconst 5, 1) := by decide +kernel
theorem dX5_shiftLeft_7 : decode cX5_shiftLeft 7 = .ok (.ishr, 1) := by decide +kernel
theorem dX5_shiftLeft_8 : decode cX5_shiftLeft 8 = .ok (.istore_n 2, 1) := by decide +kernel
theorem dX5_shiftLeft_9 : decode cX5_shiftLeft 9 = .ok (.iload_n 1, 1) := by decide +kernel
theorem dX5_shiftLeft_10 : decode cX5_shiftLeft 10 = .ok (.bipush 31, 2) := by decide +kernel
theorem dX5_shiftLeft_12 : decode cX5_shiftLeft 12 = .ok (.iand, 1) := by decide +kernel
theorem dX5_shiftLeft_13 : decode cX5_shiftLeft 13 = .ok (.istore_n 3, 1) := by decide +kernel
theorem dX5_shiftLeft_14 : decode cX5_shiftLeft 14 = .ok (.aload_n 0, 1) := by decide +kernel
theorem dX5_shiftLeft_15 : decode cX5_shiftLeft 15 = .ok (.getfield 21, 3) := by decide +kernel
theorem dX5_shiftLeft_18 : decode cX5_shiftLeft 18 = .ok (.iload_n 2, 1) := by decide +kernel
theorem dX5_shiftLeft_19 : decode cX5_shiftLeft 19 = .ok (.iadd, 1) := by decide +kernel
theorem dX5_shiftLeft_20 : decode cX5_shiftLeft 20 = .ok (.iconst 1, 1) := by decide +kernel
theorem dX5_shiftLeft_21 : decode cX5_shiftLeft 21 = .ok (.iadd, 1) := by decide +kernel
theorem dX5_shiftLeft_22 : decode cX5_shiftLeft 22 = .ok (.aload_n 0, 1) := by decide +kernel
theorem dX5_shiftLeft_23 : decode cX5_shiftLeft 23 = .ok (.getfield 15, 3) := by decide +kernel
theorem dX5_shiftLeft_26 : decode cX5_shiftLeft 26 = .ok (.arraylength, 1) := by decide +kernel
theorem dX5_shiftLeft_27 : decode cX5_shiftLeft 27 = .ok (.invokestatic 27, 3) := by decide +kernel
theorem dX5_shiftLeft_30 : decode cX5_shiftLeft 30 = .ok (.istore 4, 2) := by decide +kernel
theorem dX5_shiftLeft_32 : decode cX5_shiftLeft 32 = .ok (.iload 4, 2) := by decide +kernel
theorem dX5_shiftLeft_34 : decode cX5_shiftLeft 34 = .ok (.iconst 1, 1) := by decide +kernel
theorem dX5_shiftLeft_35 : decode cX5_shiftLeft 35 = .ok (.isub, 1) := by decide +kernel
theorem dX5_shiftLeft_36 : decode cX5_shiftLeft 36 = .ok (.istore 5, 2) := by decide +kernel
theorem dX5_shiftLeft_38 : decode cX5_shiftLeft 38 = .ok (.iload 5, 2) := by decide +kernel
theorem dX5_shiftLeft_40 : decode cX5_shiftLeft 40 = .ok (.ifCond .lt 42, 3) := by decide +kernel
theorem dX5_shiftLeft_43 : decode cX5_shiftLeft 43 = .ok (.aload_n 0, 1) := by decide +kernel
theorem dX5_shiftLeft_44 : decode cX5_shiftLeft 44 = .ok (.iload 5, 2) := by decide +kernel
theorem dX5_shiftLeft_46 : decode cX5_shiftLeft 46 = .ok (.aload_n 0, 1) := by decide +kernel
theorem dX5_shiftLeft_47 : decode cX5_shiftLeft 47 = .ok (.iload 5, 2) := by decide +kernel
theorem dX5_shiftLeft_49 : decode cX5_shiftLeft 49 = .ok (.iload_n 2, 1) := by decide +kernel
theorem dX5_shiftLeft_50 : decode cX5_shiftLeft 50 = .ok (.isub, 1) := by decide +kernel
theorem dX5_shiftLeft_51 : decode cX5_shiftLeft 51 = .ok (.invokevirtual 44, 3) := by decide +kernel
theorem dX5_shiftLeft_54 : decode cX5_shiftLeft 54 = .ok (.bipush 32, 2) := by decide +kernel
theorem dX5_shiftLeft_56 : decode cX5_shiftLeft 56 = .ok (.lshl, 1) := by decide +kernel
theorem dX5_shiftLeft_57 : decode cX5_shiftLeft 57 = .ok (.aload_n 0, 1) := by decide +kernel
theorem dX5_shiftLeft_58 : decode cX5_shiftLeft 58 = .ok (.iload 5, 2) := by decide +kernel
theorem dX5_shiftLeft_60 : decode cX5_shiftLeft 60 = .ok (.iload_n 2, 1) := by decide +kernel
theorem dX5_shiftLeft_61 : decode cX5_shiftLeft 61 = .ok (.isub, 1) := by decide +kernel
theorem dX5_shiftLeft_62 : decode cX5_shiftLeft 62 = .ok (.iconst 1, 1) := by decide +kernel
theorem dX5_shiftLeft_63 : decode cX5_shiftLeft 63 = .ok (.isub, 1) := by decide +kernel
theorem dX5_shiftLeft_64 : decode cX5_shiftLeft 64 = .ok (.invokevirtual 44, 3) := by decide +kernel
theorem dX5_shiftLeft_67 : decode cX5_shiftLeft 67 = .ok (.lor, 1) := by decide +kernel
theorem dX5_shiftLeft_68 : decode cX5_shiftLeft 68 = .ok (.iload_n 3, 1) := by decide +kernel
theorem dX5_shiftLeft_69 : decode cX5_shiftLeft 69 = .ok (.lshl, 1) := by decide +kernel
theorem dX5_shiftLeft_70 : decode cX5_shiftLeft 70 = .ok (.bipush 32, 2) := by decide +kernel
theorem dX5_shiftLeft_72 : decode cX5_shiftLeft 72 = .ok (.lushr, 1) := by decide +kernel
theorem dX5_shiftLeft_73 : decode cX5_shiftLeft 73 = .ok (.invokevirtual 30, 3) := by decide +kernel
theorem dX5_shiftLeft_76 : decode cX5_shiftLeft 76 = .ok (.iinc 5 (-1), 3) := by decide +kernel
theorem dX5_shiftLeft_79 : decode cX5_shiftLeft 79 = .ok (.goto (-41), 3) := by decide +kernel
theorem dX5_shiftLeft_82 : decode cX5_shiftLeft 82 = .ok (.aload_n 0, 1) := by decide +kernel
theorem dX5_shiftLeft_83 : decode cX5_shiftLeft 83 = .ok (.iload 4, 2) := by decide +kernel
theorem dX5_shiftLeft_85 : decode cX5_shiftLeft 85 = .ok (.invokevirtual 34, 3) := by decide +kernel
theorem dX5_shiftLeft_88 : decode cX5_shiftLeft 88 = .ok (.return_, 1) := by decide +kernel
theorem dX5_divide_0 : decode cX5_divide 0 = .ok (.aload_n 2, 1) := by decide +kernel
theorem dX5_divide_1 : decode cX5_divide 1 = .ok (.invokevirtual 62, 3) := by decide +kernel
theorem dX5_divide_4 : decode cX5_divide 4 = .ok (.aload_n 1, 1) := by decide +kernel
theorem dX5_divide_5 : decode cX5_divide 5 = .ok (.getfield 21, 3) := by decide +kernel
theorem dX5_divide_8 : decode cX5_divide 8 = .ok (.istore_n 3, 1) := by decide +kernel
theorem dX5_divide_9 : decode cX5_divide 9 = .ok (.iload_n 3, 1) := by decide +kernel
theorem dX5_divide_10 : decode cX5_divide 10 = .ok (.ifCond .eq 11, 3) := by decide +kernel
theorem dX5_divide_13 : decode cX5_divide 13 = .ok (.aload_n 0, 1) := by decide +kernel
theorem dX5_divide_14 : decode cX5_divide 14 = .ok (.aload_n 1, 1) := by decide +kernel
theorem dX5_divide_15 : decode cX5_divide 15 = .ok (.invokevirtual 73, 3) := by decide +kernel
theorem dX5_divide_18 : decode cX5_divide 18 = .ok (.ifCond .ge 4, 3) := by decide +kernel
theorem dX5_divide_21 : decode cX5_divide 21 = .ok (.return_, 1) := by decide +kernel
theorem dX5_divide_22 : decode cX5_divide 22 = .ok (.aload_n 1, 1) := by decide +kernel
theorem dX5_divide_23 : decode cX5_divide 23 = .ok (.iload_n 3, 1) := by decide +kernel
theorem dX5_divide_24 : decode cX5_divide 24 = .ok (.iconst 1, 1) := by decide +kernel
theorem dX5_divide_25 : decode cX5_divide 25 = .ok (.isub, 1) := by decide +kernel
theorem dX5_divide_26 : decode cX5_divide 26 = .ok (.invokevirtual 44, 3) := by decide +kernel
theorem dX5_divide_29 : decode cX5_divide 29 = .ok (.l2i, 1) := by decide +kernel
theorem dX5_divide_30 : decode cX5_divide 30 = .ok (.invokestatic 56, 3) := by decide +kernel
theorem dX5_divide_33 : decode cX5_divide 33 = .ok (.istore 4, 2) := by decide +kernel
theorem dX5_divide_35 : decode cX5_divide 35 = .ok (.aload_n 1, 1) := by decide +kernel
theorem dX5_divide_36 : decode cX5_divide 36 = .ok (.iload_n 3, 1) := by decide +kernel
theorem dX5_divide_37 : decode cX5_divide 37 = .ok (.iconst 1, 1) := by decide +kernel
theorem dX5_divide_38 : decode cX5_divide 38 = .ok (.isub, 1) := by decide +kernel
theorem dX5_divide_39 : decode cX5_divide 39 = .ok (.iload 4, 2) := by decide +kernel
theorem dX5_divide_41 : decode cX5_divide 41 = .ok (.invokevirtual 77, 3) := by decide +kernel
theorem dX5_divide_44 : decode cX5_divide 44 = .ok (.lstore 5, 2) := by decide +kernel
theorem dX5_divide_46 : decode cX5_divide 46 = .ok (.aload_n 0, 1) := by decide +kernel
theorem dX5_divide_47 : decode cX5_divide 47 = .ok (.getfield 21, 3) := by decide +kernel
theorem dX5_divide_50 : decode cX5_divide 50 = .ok (.iload_n 3, 1) := by decide +kernel
theorem dX5_divide_51 : decode cX5_divide 51 = .ok (.isub, 1) := by decide +kernel
theorem dX5_divide_52 : decode cX5_divide 52 = .ok (.istore 7, 2) := by decide +kernel
theorem dX5_divide_54 : decode cX5_divide 54 = .ok (.iload 7, 2) := by decide +kernel
theorem dX5_divide_56 : decode cX5_divide 56 = .ok (.istore 8, 2) := by decide +kernel
theorem dX5_divide_58 : decode cX5_divide 58 = .ok (.iload 8, 2) := by decide +kernel
theorem dX5_divide_60 : decode cX5_divide 60 = .ok (.ifCond .lt 96, 3) := by decide +kernel
theorem dX5_divide_63 : decode cX5_divide 63 = .ok (.aload_n 0, 1) := by decide +kernel
theorem dX5_divide_64 : decode cX5_divide 64 = .ok (.iload 8, 2) := by decide +kernel
theorem dX5_divide_66 : decode cX5_divide 66 = .ok (.iload_n 3, 1) := by decide +kernel
theorem dX5_divide_67 : decode cX5_divide 67 = .ok (.iadd, 1) := by decide +kernel
theorem dX5_divide_68 : decode cX5_divide 68 = .ok (.iconst 2, 1) := by decide +kernel
theorem dX5_divide_69 : decode cX5_divide 69 = .ok (.isub, 1) := by decide +kernel
theorem dX5_divide_70 : decode cX5_divide 70 = .ok (.iload 4, 2) := by decide +kernel
theorem dX5_divide_72 : decode cX5_divide 72 = .ok (.invokevirtual 77, 3) := by decide +kernel
theorem dX5_divide_75 : decode cX5_divide 75 = .ok (.bipush 32, 2) := by decide +kernel
theorem dX5_divide_77 : decode cX5_divide 77 = .ok (.lushr, 1) := by decide +kernel
theorem dX5_divide_78 : decode cX5_divide 78 = .ok (.lstore 9, 2) := by decide +kernel
theorem dX5_divide_80 : decode cX5_divide 80 = .ok (.aload_n 0, 1) := by decide +kernel
theorem dX5_divide_81 : decode cX5_divide 81 = .ok (.iload 8, 2) := by decide +kernel
theorem dX5_divide_83 : decode cX5_divide 83 = .ok (.iload_n 3, 1) := by decide +kernel
theorem dX5_divide_84 : decode cX5_divide 84 = .ok (.iadd, 1) := by decide +kernel
theorem dX5_divide_85 : decode cX5_divide 85 = .ok (.iload 4, 2) := by decide +kernel
theorem dX5_divide_87 : decode cX5_divide 87 = .ok (.invokevirtual 77, 3) := by decide +kernel
theorem dX5_divide_90 : decode cX5_divide 90 = .ok (.lload 9, 2) := by decide +kernel
theorem dX5_divide_92 : decode cX5_divide 92 = .ok (.lload 5, 2) := by decide +kernel
theorem dX5_divide_94 : decode cX5_divide 94 = .ok (.bipush 32, 2) := by decide +kernel
theorem dX5_divide_96 : decode cX5_divide 96 = .ok (.lushr, 1) := by decide +kernel
theorem dX5_divide_97 : decode cX5_divide 97 = .ok (.lload 5, 2) := by decide +kernel
theorem dX5_divide_99 : decode cX5_divide 99 = .ok (.ldc2_w 25, 3) := by decide +kernel
theorem dX5_divide_102 : decode cX5_divide 102 = .ok (.land, 1) := by decide +kernel
theorem dX5_divide_103 : decode cX5_divide 103 = .ok (.invokestatic 81, 3) := by decide +kernel
theorem dX5_divide_106 : decode cX5_divide 106 = .ok (.lstore 11, 2) := by decide +kernel
theorem dX5_divide_108 : decode cX5_divide 108 = .ok (.aload_n 0, 1) := by decide +kernel
theorem dX5_divide_109 : decode cX5_divide 109 = .ok (.aload_n 1, 1) := by decide +kernel
theorem dX5_divide_110 : decode cX5_divide 110 = .ok (.lload 11, 2) := by decide +kernel
theorem dX5_divide_112 : decode cX5_divide 112 = .ok (.iload 8, 2) := by decide +kernel
theorem dX5_divide_114 : decode cX5_divide 114 = .ok (.invokevirtual 85, 3) := by decide +kernel
theorem dX5_divide_117 : decode cX5_divide 117 = .ok (.ifCond .ne 16, 3) := by decide +kernel
theorem dX5_divide_120 : decode cX5_divide 120 = .ok (.aload_n 0, 1) := by decide +kernel
theorem dX5_divide_121 : decode cX5_divide 121 = .ok (.aload_n 1, 1) := by decide +kernel
theorem dX5_divide_122 : decode cX5_divide 122 = .ok (.iload 8, 2) := by decide +kernel
theorem dX5_divide_124 : decode cX5_divide 124 = .ok (.invokevirtual 89, 3) := by decide +kernel
theorem dX5_divide_127 : decode cX5_divide 127 = .ok (.lload 11, 2) := by decide +kernel
theorem dX5_divide_129 : decode cX5_divide 129 = .ok (.lconst 1, 1) := by decide +kernel
theorem dX5_divide_130 : decode cX5_divide 130 = .ok (.lsub, 1) := by decide +kernel
theorem dX5_divide_131 : decode cX5_divide 131 = .ok (.lstore 11, 2) := by decide +kernel
theorem dX5_divide_133 : decode cX5_divide 133 = .ok (.aload_n 0, 1) := by decide +kernel
theorem dX5_divide_134 : decode cX5_divide 134 = .ok (.iload 8, 2) := by decide +kernel
theorem dX5_divide_136 : decode cX5_divide 136 = .ok (.iload_n 3, 1) := by decide +kernel
theorem dX5_divide_137 : decode cX5_divide 137 = .ok (.iadd, 1) := by decide +kernel
theorem dX5_divide_138 : decode cX5_divide 138 = .ok (.lconst 0, 1) := by decide +kernel
theorem dX5_divide_139 : decode cX5_divide 139 = .ok (.invokevirtual 30, 3) := by decide +kernel
theorem dX5_divide_142 : decode cX5_divide 142 = .ok (.aload_n 2, 1) := by decide +kernel
theorem dX5_divide_143 : decode cX5_divide 143 = .ok (.iload 8, 2) := by decide +kernel
theorem dX5_divide_145 : decode cX5_divide 145 = .ok (.lload 11, 2) := by decide +kernel
theorem dX5_divide_147 : decode cX5_divide 147 = .ok (.invokevirtual 30, 3) := by decide +kernel
theorem dX5_divide_150 : decode cX5_divide 150 = .ok (.iinc 8 (-1), 3) := by decide +kernel
theorem dX5_divide_153 : decode cX5_divide 153 = .ok (.goto (-95), 3) := by decide +kernel
theorem dX5_divide_156 : decode cX5_divide 156 = .ok (.aload_n 0, 1) := by decide +kernel
theorem dX5_divide_157 : decode cX5_divide 157 = .ok (.aload_n 0, 1) := by decide +kernel
theorem dX5_divide_158 : decode cX5_divide 158 = .ok (.getfield 21, 3) := by decide +kernel
theorem dX5_divide_161 : decode cX5_divide 161 = .ok (.invokevirtual 34, 3) := by decide +kernel
theorem dX5_divide_164 : decode cX5_divide 164 = .ok (.aload_n 2, 1) := by decide +kernel
theorem dX5_divide_165 : decode cX5_divide 165 = .ok (.iload 7, 2) := by decide +kernel
theorem dX5_divide_167 : decode cX5_divide 167 = .ok (.iconst 1, 1) := by decide +kernel
theorem dX5_divide_168 : decode cX5_divide 168 = .ok (.iadd, 1) := by decide +kernel
theorem dX5_divide_169 : decode cX5_divide 169 = .ok (.invokevirtual 34, 3) := by decide +kernel
theorem dX5_divide_172 : decode cX5_divide 172 = .ok (.return_, 1) := by decide +kernel
theorem dX5_pairAt_0 : decode cX5_pairAt 0 = .ok (.aload_n 0, 1) := by decide +kernel
theorem dX5_pairAt_1 : decode cX5_pairAt 1 = .ok (.iload_n 1, 1) := by decide +kernel
theorem dX5_pairAt_2 : decode cX5_pairAt 2 = .ok (.invokevirtual 44, 3) := by decide +kernel
theorem dX5_pairAt_5 : decode cX5_pairAt 5 = .ok (.bipush 32, 2) := by decide +kernel
theorem dX5_pairAt_7 : decode cX5_pairAt 7 = .ok (.lshl, 1) := by decide +kernel
theorem dX5_pairAt_8 : decode cX5_pairAt 8 = .ok (.aload_n 0, 1) := by decide +kernel
theorem dX5_pairAt_9 : decode cX5_pairAt 9 = .ok (.iload_n 1, 1) := by decide +kernel
theorem dX5_pairAt_10 : decode cX5_pairAt 10 = .ok (.iconst 1, 1) := by decide +kernel
theorem dX5_pairAt_11 : decode cX5_pairAt 11 = .ok (.isub, 1) := by decide +kernel
theorem dX5_pairAt_12 : decode cX5_pairAt 12 = .ok (.invokevirtual 44, 3) := by decide +kernel
theorem dX5_pairAt_15 : decode cX5_pairAt 15 = .ok (.lor, 1) := by decide +kernel
theorem dX5_pairAt_16 : decode cX5_pairAt 16 = .ok (.iload_n 2, 1) := by decide +kernel
theorem dX5_pairAt_17 : decode cX5_pairAt 17 = .ok (.lshl, 1) := by decide +kernel
theorem dX5_pairAt_18 : decode cX5_pairAt 18 = .ok (.aload_n 0, 1) := by decide +kernel
theorem dX5_pairAt_19 : decode cX5_pairAt 19 = .ok (.iload_n 1, 1) := by decide +kernel
theorem dX5_pairAt_20 : decode cX5_pairAt 20 = .ok (.iconst 2, 1) := by decide +kernel
theorem dX5_pairAt_21 : decode cX5_pairAt 21 = .ok (.isub, 1) := by decide +kernel
theorem dX5_pairAt_22 : decode cX5_pairAt 22 = .ok (.invokevirtual 44, 3) := by decide +kernel
theorem dX5_pairAt_25 : decode cX5_pairAt 25 = .ok (.iload_n 2, 1) := by decide +kernel
theorem dX5_pairAt_26 : decode cX5_pairAt 26 = .ok (.lshl, 1) := by decide +kernel
theorem dX5_pairAt_27 : decode cX5_pairAt 27 = .ok (.bipush 32, 2) := by decide +kernel
theorem dX5_pairAt_29 : decode cX5_pairAt 29 = .ok (.lushr, 1) := by decide +kernel
theorem dX5_pairAt_30 : decode cX5_pairAt 30 = .ok (.lor, 1) := by decide +kernel
theorem dX5_pairAt_31 : decode cX5_pairAt 31 = .ok (.lreturn, 1) := by decide +kernel
theorem dX5_guess_0 : decode cX5_guess 0 = .ok (.lload_n 0, 1) := by decide +kernel
theorem dX5_guess_1 : decode cX5_guess 1 = .ok (.lload 4, 2) := by decide +kernel
theorem dX5_guess_3 : decode cX5_guess 3 = .ok (.invokestatic 93, 3) := by decide +kernel
theorem dX5_guess_6 : decode cX5_guess 6 = .ok (.lstore 8, 2) := by decide +kernel
theorem dX5_guess_8 : decode cX5_guess 8 = .ok (.lload_n 0, 1) := by decide +kernel
theorem dX5_guess_9 : decode cX5_guess 9 = .ok (.lload 8, 2) := by decide +kernel
theorem dX5_guess_11 : decode cX5_guess 11 = .ok (.lload 4, 2) := by decide +kernel
theorem dX5_guess_13 : decode cX5_guess 13 = .ok (.lmul, 1) := by decide +kernel
theorem dX5_guess_14 : decode cX5_guess 14 = .ok (.lsub, 1) := by decide +kernel
theorem dX5_guess_15 : decode cX5_guess 15 = .ok (.lstore 10, 2) := by decide +kernel
theorem dX5_guess_17 : decode cX5_guess 17 = .ok (.iconst 0, 1) := by decide +kernel
theorem dX5_guess_18 : decode cX5_guess 18 = .ok (.istore 12, 2) := by decide +kernel
theorem dX5_guess_20 : decode cX5_guess 20 = .ok (.iload 12, 2) := by decide +kernel
theorem dX5_guess_22 : decode cX5_guess 22 = .ok (.iconst 2, 1) := by decide +kernel
theorem dX5_guess_23 : decode cX5_guess 23 = .ok (.if_icmp .ge 64, 3) := by decide +kernel
theorem dX5_guess_26 : decode cX5_guess 26 = .ok (.lload 10, 2) := by decide +kernel
theorem dX5_guess_28 : decode cX5_guess 28 = .ok (.ldc2_w 25, 3) := by decide +kernel
theorem dX5_guess_31 : decode cX5_guess 31 = .ok (.lcmp, 1) := by decide +kernel
theorem dX5_guess_32 : decode cX5_guess 32 = .ok (.ifCond .gt 55, 3) := by decide +kernel
theorem dX5_guess_35 : decode cX5_guess 35 = .ok (.lload 8, 2) := by decide +kernel
theorem dX5_guess_37 : decode cX5_guess 37 = .ok (.ldc2_w 25, 3) := by decide +kernel
theorem dX5_guess_40 : decode cX5_guess 40 = .ok (.lcmp, 1) := by decide +kernel
theorem dX5_guess_41 : decode cX5_guess 41 = .ok (.ifCond .gt 27, 3) := by decide +kernel
theorem dX5_guess_44 : decode cX5_guess 44 = .ok (.lload 8, 2) := by decide +kernel
theorem dX5_guess_46 : decode cX5_guess 46 = .ok (.lload 6, 2) := by decide +kernel
theorem dX5_guess_48 : decode cX5_guess 48 = .ok (.lmul, 1) := by decide +kernel
theorem dX5_guess_49 : decode cX5_guess 49 = .ok (.ldc2_w 97, 3) := by decide +kernel
theorem dX5_guess_52 : decode cX5_guess 52 = .ok (.ladd, 1) := by decide +kernel
theorem dX5_guess_53 : decode cX5_guess 53 = .ok (.lload 10, 2) := by decide +kernel
theorem dX5_guess_55 : decode cX5_guess 55 = .ok (.bipush 32, 2) := by decide +kernel
theorem dX5_guess_57 : decode cX5_guess 57 = .ok (.lshl, 1) := by decide +kernel
theorem dX5_guess_58 : decode cX5_guess 58 = .ok (.lload_n 2, 1) := by decide +kernel
theorem dX5_guess_59 : decode cX5_guess 59 = .ok (.lor, 1) := by decide +kernel
theorem dX5_guess_60 : decode cX5_guess 60 = .ok (.ldc2_w 97, 3) := by decide +kernel
theorem dX5_guess_63 : decode cX5_guess 63 = .ok (.ladd, 1) := by decide +kernel
theorem dX5_guess_64 : decode cX5_guess 64 = .ok (.lcmp, 1) := by decide +kernel
theorem dX5_guess_65 : decode cX5_guess 65 = .ok (.ifCond .le 16, 3) := by decide +kernel
theorem dX5_guess_68 : decode cX5_guess 68 = .ok (.lload 8, 2) := by decide +kernel
theorem dX5_guess_70 : decode cX5_guess 70 = .ok (.lconst 1, 1) := by decide +kernel
theorem dX5_guess_71 : decode cX5_guess 71 = .ok (.lsub, 1) := by decide +kernel
theorem dX5_guess_72 : decode cX5_guess 72 = .ok (.lstore 8, 2) := by decide +kernel
theorem dX5_guess_74 : decode cX5_guess 74 = .ok (.lload 10, 2) := by decide +kernel
theorem dX5_guess_76 : decode cX5_guess 76 = .ok (.lload 4, 2) := by decide +kernel
theorem dX5_guess_78 : decode cX5_guess 78 = .ok (.ladd, 1) := by decide +kernel
theorem dX5_guess_79 : decode cX5_guess 79 = .ok (.lstore 10, 2) := by decide +kernel
theorem dX5_guess_81 : decode cX5_guess 81 = .ok (.iinc 12 1, 3) := by decide +kernel
theorem dX5_guess_84 : decode cX5_guess 84 = .ok (.goto (-64), 3) := by decide +kernel
theorem dX5_guess_87 : decode cX5_guess 87 = .ok (.lload 8, 2) := by decide +kernel
theorem dX5_guess_89 : decode cX5_guess 89 = .ok (.lreturn, 1) := by decide +kernel
theorem dX5_quotientOfUnsigned_0 : decode cX5_quotientOfUnsigned 0 = .ok (.lload_n 2, 1) := by decide +kernel
theorem dX5_quotientOfUnsigned_1 : decode cX5_quotientOfUnsigned 1 = .ok (.lconst 0, 1) := by decide +kernel
theorem dX5_quotientOfUnsigned_2 : decode cX5_quotientOfUnsigned 2 = .ok (.lcmp, 1) := by decide +kernel
theorem dX5_quotientOfUnsigned_3 : decode cX5_quotientOfUnsigned 3 = .ok (.ifCond .gt 5, 3) := by decide +kernel
theorem dX5_quotientOfUnsigned_6 : decode cX5_quotientOfUnsigned 6 = .ok (.lconst 0, 1) := by decide +kernel
theorem dX5_quotientOfUnsigned_7 : decode cX5_quotientOfUnsigned 7 = .ok (.lreturn, 1) := by decide +kernel
theorem dX5_quotientOfUnsigned_8 : decode cX5_quotientOfUnsigned 8 = .ok (.lload_n 0, 1) := by decide +kernel
theorem dX5_quotientOfUnsigned_9 : decode cX5_quotientOfUnsigned 9 = .ok (.iconst 1, 1) := by decide +kernel
theorem dX5_quotientOfUnsigned_10 : decode cX5_quotientOfUnsigned 10 = .ok (.lushr, 1) := by decide +kernel
theorem dX5_quotientOfUnsigned_11 : decode cX5_quotientOfUnsigned 11 = .ok (.lload_n 2, 1) := by decide +kernel
theorem dX5_quotientOfUnsigned_12 : decode cX5_quotientOfUnsigned 12 = .ok (.ldiv, 1) := by decide +kernel
theorem dX5_quotientOfUnsigned_13 : decode cX5_quotientOfUnsigned 13 = .ok (.iconst 1, 1) := by decide +kernel
theorem dX5_quotientOfUnsigned_14 : decode cX5_quotientOfUnsigned 14 = .ok (.lshl, 1) := by decide +kernel
theorem dX5_quotientOfUnsigned_15 : decode cX5_quotientOfUnsigned 15 = .ok (.lstore 4, 2) := by decide +kernel
theorem dX5_quotientOfUnsigned_17 : decode cX5_quotientOfUnsigned 17 = .ok (.lload_n 0, 1) := by decide +kernel
theorem dX5_quotientOfUnsigned_18 : decode cX5_quotientOfUnsigned 18 = .ok (.lload 4, 2) := by decide +kernel
theorem dX5_quotientOfUnsigned_20 : decode cX5_quotientOfUnsigned 20 = .ok (.lload_n 2, 1) := by decide +kernel
theorem dX5_quotientOfUnsigned_21 : decode cX5_quotientOfUnsigned 21 = .ok (.lmul, 1) := by decide +kernel
theorem dX5_quotientOfUnsigned_22 : decode cX5_quotientOfUnsigned 22 = .ok (.lsub, 1) := by decide +kernel
theorem dX5_quotientOfUnsigned_23 : decode cX5_quotientOfUnsigned 23 = .ok (.lload_n 2, 1) := by decide +kernel
theorem dX5_quotientOfUnsigned_24 : decode cX5_quotientOfUnsigned 24 = .ok (.lcmp, 1) := by decide +kernel
theorem dX5_quotientOfUnsigned_25 : decode cX5_quotientOfUnsigned 25 = .ok (.ifCond .lt 10, 3) := by decide +kernel
theorem dX5_quotientOfUnsigned_28 : decode cX5_quotientOfUnsigned 28 = .ok (.lload 4, 2) := by decide +kernel
theorem dX5_quotientOfUnsigned_30 : decode cX5_quotientOfUnsigned 30 = .ok (.lconst 1, 1) := by decide +kernel
theorem dX5_quotientOfUnsigned_31 : decode cX5_quotientOfUnsigned 31 = .ok (.ladd, 1) := by decide +kernel
theorem dX5_quotientOfUnsigned_32 : decode cX5_quotientOfUnsigned 32 = .ok (.goto 5, 3) := by decide +kernel
theorem dX5_quotientOfUnsigned_35 : decode cX5_quotientOfUnsigned 35 = .ok (.lload 4, 2) := by decide +kernel
theorem dX5_quotientOfUnsigned_37 : decode cX5_quotientOfUnsigned 37 = .ok (.lreturn, 1) := by decide +kernel
theorem dX5_takeTimes_0 : decode cX5_takeTimes 0 = .ok (.aload_n 1, 1) := by decide +kernel
theorem dX5_takeTimes_1 : decode cX5_takeTimes 1 = .ok (.getfield 21, 3) := by decide +kernel
theorem dX5_takeTimes_4 : decode cX5_takeTimes 4 = .ok (.aload_n 0, 1) := by decide +kernel
theorem dX5_takeTimes_5 : decode cX5_takeTimes 5 = .ok (.getfield 21, 3) := by decide +kernel
theorem dX5_takeTimes_8 : decode cX5_takeTimes 8 = .ok (.iload 4, 2) := by decide +kernel
theorem dX5_takeTimes_10 : decode cX5_takeTimes 10 = .ok (.isub, 1) := by decide +kernel
theorem dX5_takeTimes_11 : decode cX5_takeTimes 11 = .ok (.invokestatic 27, 3) := by decide +kernel
theorem dX5_takeTimes_14 : decode cX5_takeTimes 14 = .ok (.istore 5, 2) := by decide +kernel
theorem dX5_takeTimes_16 : decode cX5_takeTimes 16 = .ok (.lconst 0, 1) := by decide +kernel
theorem dX5_takeTimes_17 : decode cX5_takeTimes 17 = .ok (.lstore 6, 2) := by decide +kernel
theorem dX5_takeTimes_19 : decode cX5_takeTimes 19 = .ok (.iconst 0, 1) := by decide +kernel
theorem dX5_takeTimes_20 : decode cX5_takeTimes 20 = .ok (.istore 8, 2) := by decide +kernel
theorem dX5_takeTimes_22 : decode cX5_takeTimes 22 = .ok (.iload 8, 2) := by decide +kernel
theorem dX5_takeTimes_24 : decode cX5_takeTimes 24 = .ok (.iload 5, 2) := by decide +kernel
theorem dX5_takeTimes_26 : decode cX5_takeTimes 26 = .ok (.if_icmp .ge 78, 3) := by decide +kernel
theorem dX5_takeTimes_29 : decode cX5_takeTimes 29 = .ok (.lload_n 2, 1) := by decide +kernel
theorem dX5_takeTimes_30 : decode cX5_takeTimes 30 = .ok (.aload_n 1, 1) := by decide +kernel
theorem dX5_takeTimes_31 : decode cX5_takeTimes 31 = .ok (.getfield 15, 3) := by decide +kernel
theorem dX5_takeTimes_34 : decode cX5_takeTimes 34 = .ok (.iload 8, 2) := by decide +kernel
theorem dX5_takeTimes_36 : decode cX5_takeTimes 36 = .ok (.iaload, 1) := by decide +kernel
theorem dX5_takeTimes_37 : decode cX5_takeTimes 37 = .ok (.i2l, 1) := by decide +kernel
theorem dX5_takeTimes_38 : decode cX5_takeTimes 38 = .ok (.ldc2_w 25, 3) := by decide +kernel
theorem dX5_takeTimes_41 : decode cX5_takeTimes 41 = .ok (.land, 1) := by decide +kernel
theorem dX5_takeTimes_42 : decode cX5_takeTimes 42 = .ok (.lmul, 1) := by decide +kernel
theorem dX5_takeTimes_43 : decode cX5_takeTimes 43 = .ok (.lload 6, 2) := by decide +kernel
theorem dX5_takeTimes_45 : decode cX5_takeTimes 45 = .ok (.ladd, 1) := by decide +kernel
theorem dX5_takeTimes_46 : decode cX5_takeTimes 46 = .ok (.lstore 9, 2) := by decide +kernel
theorem dX5_takeTimes_48 : decode cX5_takeTimes 48 = .ok (.aload_n 0, 1) := by decide +kernel
theorem dX5_takeTimes_49 : decode cX5_takeTimes 49 = .ok (.getfield 15, 3) := by decide +kernel
theorem dX5_takeTimes_52 : decode cX5_takeTimes 52 = .ok (.iload 4, 2) := by decide +kernel
theorem dX5_takeTimes_54 : decode cX5_takeTimes 54 = .ok (.iload 8, 2) := by decide +kernel
theorem dX5_takeTimes_56 : decode cX5_takeTimes 56 = .ok (.iadd, 1) := by decide +kernel
theorem dX5_takeTimes_57 : decode cX5_takeTimes 57 = .ok (.iaload, 1) := by decide +kernel
theorem dX5_takeTimes_58 : decode cX5_takeTimes 58 = .ok (.i2l, 1) := by decide +kernel
theorem dX5_takeTimes_59 : decode cX5_takeTimes 59 = .ok (.ldc2_w 25, 3) := by decide +kernel
theorem dX5_takeTimes_62 : decode cX5_takeTimes 62 = .ok (.land, 1) := by decide +kernel
theorem dX5_takeTimes_63 : decode cX5_takeTimes 63 = .ok (.lload 9, 2) := by decide +kernel
theorem dX5_takeTimes_65 : decode cX5_takeTimes 65 = .ok (.ldc2_w 25, 3) := by decide +kernel
theorem dX5_takeTimes_68 : decode cX5_takeTimes 68 = .ok (.land, 1) := by decide +kernel
theorem dX5_takeTimes_69 : decode cX5_takeTimes 69 = .ok (.lsub, 1) := by decide +kernel
theorem dX5_takeTimes_70 : decode cX5_takeTimes 70 = .ok (.lstore 11, 2) := by decide +kernel
theorem dX5_takeTimes_72 : decode cX5_takeTimes 72 = .ok (.aload_n 0, 1) := by decide +kernel
theorem dX5_takeTimes_73 : decode cX5_takeTimes 73 = .ok (.getfield 15, 3) := by decide +kernel
theorem dX5_takeTimes_76 : decode cX5_takeTimes 76 = .ok (.iload 4, 2) := by decide +kernel
theorem dX5_takeTimes_78 : decode cX5_takeTimes 78 = .ok (.iload 8, 2) := by decide +kernel
theorem dX5_takeTimes_80 : decode cX5_takeTimes 80 = .ok (.iadd, 1) := by decide +kernel
theorem dX5_takeTimes_81 : decode cX5_takeTimes 81 = .ok (.lload 11, 2) := by decide +kernel
theorem dX5_takeTimes_83 : decode cX5_takeTimes 83 = .ok (.l2i, 1) := by decide +kernel
theorem dX5_takeTimes_84 : decode cX5_takeTimes 84 = .ok (.iastore, 1) := by decide +kernel
theorem dX5_takeTimes_85 : decode cX5_takeTimes 85 = .ok (.lload 9, 2) := by decide +kernel
theorem dX5_takeTimes_87 : decode cX5_takeTimes 87 = .ok (.bipush 32, 2) := by decide +kernel
theorem dX5_takeTimes_89 : decode cX5_takeTimes 89 = .ok (.lushr, 1) := by decide +kernel
theorem dX5_takeTimes_90 : decode cX5_takeTimes 90 = .ok (.lload 11, 2) := by decide +kernel
theorem dX5_takeTimes_92 : decode cX5_takeTimes 92 = .ok (.bipush 63, 2) := by decide +kernel
theorem dX5_takeTimes_94 : decode cX5_takeTimes 94 = .ok (.lushr, 1) := by decide +kernel
theorem dX5_takeTimes_95 : decode cX5_takeTimes 95 = .ok (.ladd, 1) := by decide +kernel
theorem dX5_takeTimes_96 : decode cX5_takeTimes 96 = .ok (.lstore 6, 2) := by decide +kernel
theorem dX5_takeTimes_98 : decode cX5_takeTimes 98 = .ok (.iinc 8 1, 3) := by decide +kernel
theorem dX5_takeTimes_101 : decode cX5_takeTimes 101 = .ok (.goto (-79), 3) := by decide +kernel
theorem dX5_takeTimes_104 : decode cX5_takeTimes 104 = .ok (.aload_n 0, 1) := by decide +kernel
theorem dX5_takeTimes_105 : decode cX5_takeTimes 105 = .ok (.iload 4, 2) := by decide +kernel
theorem dX5_takeTimes_107 : decode cX5_takeTimes 107 = .ok (.iload 5, 2) := by decide +kernel
theorem dX5_takeTimes_109 : decode cX5_takeTimes 109 = .ok (.iadd, 1) := by decide +kernel
theorem dX5_takeTimes_110 : decode cX5_takeTimes 110 = .ok (.invokevirtual 44, 3) := by decide +kernel
theorem dX5_takeTimes_113 : decode cX5_takeTimes 113 = .ok (.lload 6, 2) := by decide +kernel
theorem dX5_takeTimes_115 : decode cX5_takeTimes 115 = .ok (.lcmp, 1) := by decide +kernel
theorem dX5_takeTimes_116 : decode cX5_takeTimes 116 = .ok (.ifCond .lt 7, 3) := by decide +kernel
theorem dX5_takeTimes_119 : decode cX5_takeTimes 119 = .ok (.iconst 1, 1) := by decide +kernel
theorem dX5_takeTimes_120 : decode cX5_takeTimes 120 = .ok (.goto 4, 3) := by decide +kernel
theorem dX5_takeTimes_123 : decode cX5_takeTimes 123 = .ok (.iconst 0, 1) := by decide +kernel
theorem dX5_takeTimes_124 : decode cX5_takeTimes 124 = .ok (.ireturn, 1) := by decide +kernel
theorem dX5_putBack_0 : decode cX5_putBack 0 = .ok (.lconst 0, 1) := by decide +kernel
theorem dX5_putBack_1 : decode cX5_putBack 1 = .ok (.lstore_n 3, 1) := by decide +kernel
theorem dX5_putBack_2 : decode cX5_putBack 2 = .ok (.iconst 0, 1) := by decide +kernel
theorem dX5_putBack_3 : decode cX5_putBack 3 = .ok (.istore 5, 2) := by decide +kernel
theorem dX5_putBack_5 : decode cX5_putBack 5 = .ok (.iload 5, 2) := by decide +kernel
theorem dX5_putBack_7 : decode cX5_putBack 7 = .ok (.aload_n 1, 1) := by decide +kernel
theorem dX5_putBack_8 : decode cX5_putBack 8 = .ok (.getfield 21, 3) := by decide +kernel
theorem dX5_putBack_11 : decode cX5_putBack 11 = .ok (.if_icmp .ge 44, 3) := by decide +kernel
theorem dX5_putBack_14 : decode cX5_putBack 14 = .ok (.aload_n 0, 1) := by decide +kernel
theorem dX5_putBack_15 : decode cX5_putBack 15 = .ok (.iload_n 2, 1) := by decide +kernel
theorem dX5_putBack_16 : decode cX5_putBack 16 = .ok (.iload 5, 2) := by decide +kernel
theorem dX5_putBack_18 : decode cX5_putBack 18 = .ok (.iadd, 1) := by decide +kernel
theorem dX5_putBack_19 : decode cX5_putBack 19 = .ok (.invokevirtual 44, 3) := by decide +kernel
theorem dX5_putBack_22 : decode cX5_putBack 22 = .ok (.aload_n 1, 1) := by decide +kernel
theorem dX5_putBack_23 : decode cX5_putBack 23 = .ok (.iload 5, 2) := by decide +kernel
theorem dX5_putBack_25 : decode cX5_putBack 25 = .ok (.invokevirtual 44, 3) := by decide +kernel
theorem dX5_putBack_28 : decode cX5_putBack 28 = .ok (.ladd, 1) := by decide +kernel
theorem dX5_putBack_29 : decode cX5_putBack 29 = .ok (.lload_n 3, 1) := by decide +kernel
theorem dX5_putBack_30 : decode cX5_putBack 30 = .ok (.ladd, 1) := by decide +kernel
theorem dX5_putBack_31 : decode cX5_putBack 31 = .ok (.lstore 6, 2) := by decide +kernel
theorem dX5_putBack_33 : decode cX5_putBack 33 = .ok (.aload_n 0, 1) := by decide +kernel
theorem dX5_putBack_34 : decode cX5_putBack 34 = .ok (.iload_n 2, 1) := by decide +kernel
theorem dX5_putBack_35 : decode cX5_putBack 35 = .ok (.iload 5, 2) := by decide +kernel
theorem dX5_putBack_37 : decode cX5_putBack 37 = .ok (.iadd, 1) := by decide +kernel
theorem dX5_putBack_38 : decode cX5_putBack 38 = .ok (.lload 6, 2) := by decide +kernel
theorem dX5_putBack_40 : decode cX5_putBack 40 = .ok (.invokevirtual 30, 3) := by decide +kernel
theorem dX5_putBack_43 : decode cX5_putBack 43 = .ok (.lload 6, 2) := by decide +kernel
theorem dX5_putBack_45 : decode cX5_putBack 45 = .ok (.bipush 32, 2) := by decide +kernel
theorem dX5_putBack_47 : decode cX5_putBack 47 = .ok (.lushr, 1) := by decide +kernel
theorem dX5_putBack_48 : decode cX5_putBack 48 = .ok (.lstore_n 3, 1) := by decide +kernel
theorem dX5_putBack_49 : decode cX5_putBack 49 = .ok (.iinc 5 1, 3) := by decide +kernel
theorem dX5_putBack_52 : decode cX5_putBack 52 = .ok (.goto (-47), 3) := by decide +kernel
theorem dX5_putBack_55 : decode cX5_putBack 55 = .ok (.return_, 1) := by decide +kernel
theorem dX6_init_0 : decode cX6_init 0 = .ok (.aload_n 0, 1) := by decide +kernel
theorem dX6_init_1 : decode cX6_init 1 = .ok (.invokespecial 1, 3) := by decide +kernel
theorem dX6_init_4 : decode cX6_init 4 = .ok (.aload_n 0, 1) := by decide +kernel
theorem dX6_init_5 : decode cX6_init 5 = .ok (.bipush 24, 2) := by decide +kernel
theorem dX6_init_7 : decode cX6_init 7 = .ok (.anewarray 9, 3) := by decide +kernel
theorem dX6_init_10 : decode cX6_init 10 = .ok (.putfield 11, 3) := by decide +kernel
theorem dX6_init_13 : decode cX6_init 13 = .ok (.aload_n 0, 1) := by decide +kernel
theorem dX6_init_14 : decode cX6_init 14 = .ok (.bipush 24, 2) := by decide +kernel
theorem dX6_init_16 : decode cX6_init 16 = .ok (.newarray .boolean, 2) := by decide +kernel
theorem dX6_init_18 : decode cX6_init 18 = .ok (.putfield 15, 3) := by decide +kernel
theorem dX6_init_21 : decode cX6_init 21 = .ok (.iconst 0, 1) := by decide +kernel
theorem dX6_init_22 : decode cX6_init 22 = .ok (.istore_n 1, 1) := by decide +kernel
theorem dX6_init_23 : decode cX6_init 23 = .ok (.iload_n 1, 1) := by decide +kernel
theorem dX6_init_24 : decode cX6_init 24 = .ok (.bipush 24, 2) := by decide +kernel
theorem dX6_init_26 : decode cX6_init 26 = .ok (.if_icmp .ge 24, 3) := by decide +kernel
theorem dX6_init_29 : decode cX6_init 29 = .ok (.aload_n 0, 1) := by decide +kernel
theorem dX6_init_30 : decode cX6_init 30 = .ok (.getfield 11, 3) := by decide +kernel
theorem dX6_init_33 : decode cX6_init 33 = .ok (.iload_n 1, 1) := by decide +kernel
theorem dX6_init_34 : decode cX6_init 34 = .ok (.new 9, 3) := by decide +kernel
theorem dX6_init_37 : decode cX6_init 37 = .ok (.dup, 1) := by decide +kernel
theorem dX6_init_38 : decode cX6_init 38 = .ok (.bipush 16, 2) := by decide +kernel
theorem dX6_init_40 : decode cX6_init 40 = .ok (.invokespecial 19, 3) := by decide +kernel
theorem dX6_init_43 : decode cX6_init 43 = .ok (.aastore, 1) := by decide +kernel
theorem dX6_init_44 : decode cX6_init 44 = .ok (.iinc 1 1, 3) := by decide +kernel
theorem dX6_init_47 : decode cX6_init 47 = .ok (.goto (-24), 3) := by decide +kernel
theorem dX6_init_50 : decode cX6_init 50 = .ok (.aload_n 0, 1) := by decide +kernel
theorem dX6_init_51 : decode cX6_init 51 = .ok (.iconst 0, 1) := by decide +kernel
theorem dX6_init_52 : decode cX6_init 52 = .ok (.putfield 22, 3) := by decide +kernel
theorem dX6_init_55 : decode cX6_init 55 = .ok (.aload_n 0, 1) := by decide +kernel
theorem dX6_init_56 : decode cX6_init 56 = .ok (.new 26, 3) := by decide +kernel
theorem dX6_init_59 : decode cX6_init 59 = .ok (.dup, 1) := by decide +kernel
theorem dX6_init_60 : decode cX6_init 60 = .ok (.invokespecial 28, 3) := by decide +kernel
theorem dX6_init_63 : decode cX6_init 63 = .ok (.putfield 29, 3) := by decide +kernel
theorem dX6_init_66 : decode cX6_init 66 = .ok (.aload_n 0, 1) := by decide +kernel
theorem dX6_init_67 : decode cX6_init 67 = .ok (.new 33, 3) := by decide +kernel
theorem dX6_init_70 : decode cX6_init 70 = .ok (.dup, 1) := by decide +kernel
theorem dX6_init_71 : decode cX6_init 71 = .ok (.invokespecial 35, 3) := by decide +kernel
theorem dX6_init_74 : decode cX6_init 74 = .ok (.putfield 36, 3) := by decide +kernel
theorem dX6_init_77 : decode cX6_init 77 = .ok (.aload_n 0, 1) := by decide +kernel
theorem dX6_init_78 : decode cX6_init 78 = .ok (.new 40, 3) := by decide +kernel
theorem dX6_init_81 : decode cX6_init 81 = .ok (.dup, 1) := by decide +kernel
theorem dX6_init_82 : decode cX6_init 82 = .ok (.invokespecial 42, 3) := by decide +kernel
theorem dX6_init_85 : decode cX6_init 85 = .ok (.putfield 43, 3) := by decide +kernel
theorem dX6_init_88 : decode cX6_init 88 = .ok (.aload_n 0, 1) := by decide +kernel
theorem dX6_init_89 : decode cX6_init 89 = .ok (.new 47, 3) := by decide +kernel
theorem dX6_init_92 : decode cX6_init 92 = .ok (.dup, 1) := by decide +kernel
theorem dX6_init_93 : decode cX6_init 93 = .ok (.invokespecial 49, 3) := by decide +kernel
theorem dX6_init_96 : decode cX6_init 96 = .ok (.putfield 50, 3) := by decide +kernel
theorem dX6_init_99 : decode cX6_init 99 = .ok (.return_, 1) := by decide +kernel
theorem dX6_whole_0 : decode cX6_whole 0 = .ok (.aload_n 0, 1) := by decide +kernel
theorem dX6_whole_1 : decode cX6_whole 1 = .ok (.invokevirtual 54, 3) := by decide +kernel
theorem dX6_whole_4 : decode cX6_whole 4 = .ok (.ifCond .eq 6, 3) := by decide +kernel
theorem dX6_whole_7 : decode cX6_whole 7 = .ok (.bipush (-3), 2) := by decide +kernel
theorem dX6_whole_9 : decode cX6_whole 9 = .ok (.ireturn, 1) := by decide +kernel
theorem dX6_whole_10 : decode cX6_whole 10 = .ok (.aload_n 0, 1) := by decide +kernel
theorem dX6_whole_11 : decode cX6_whole 11 = .ok (.getfield 29, 3) := by decide +kernel
theorem dX6_whole_14 : decode cX6_whole 14 = .ok (.getfield 58, 3) := by decide +kernel
theorem dX6_whole_17 : decode cX6_whole 17 = .ok (.lload_n 1, 1) := by decide +kernel
theorem dX6_whole_18 : decode cX6_whole 18 = .ok (.lconst 0, 1) := by decide +kernel
theorem dX6_whole_19 : decode cX6_whole 19 = .ok (.lcmp, 1) := by decide +kernel
theorem dX6_whole_20 : decode cX6_whole 20 = .ok (.ifCond .ge 7, 3) := by decide +kernel
theorem dX6_whole_23 : decode cX6_whole 23 = .ok (.iconst (-1), 1) := by decide +kernel
theorem dX6_whole_24 : decode cX6_whole 24 = .ok (.goto 4, 3) := by decide +kernel
theorem dX6_whole_27 : decode cX6_whole 27 = .ok (.iconst 1, 1) := by decide +kernel
theorem dX6_whole_28 : decode cX6_whole 28 = .ok (.lload_n 1, 1) := by decide +kernel
theorem dX6_whole_29 : decode cX6_whole 29 = .ok (.lconst 0, 1) := by decide +kernel
theorem dX6_whole_30 : decode cX6_whole 30 = .ok (.lcmp, 1) := by decide +kernel
theorem dX6_whole_31 : decode cX6_whole 31 = .ok (.ifCond .ge 8, 3) := by decide +kernel
theorem dX6_whole_34 : decode cX6_whole 34 = .ok (.lload_n 1, 1) := by decide +kernel
theorem dX6_whole_35 : decode cX6_whole 35 = .ok (.lneg, 1) := by decide +kernel
theorem dX6_whole_36 : decode cX6_whole 36 = .ok (.goto 4, 3) := by decide +kernel
theorem dX6_whole_39 : decode cX6_whole 39 = .ok (.lload_n 1, 1) := by decide +kernel
theorem dX6_whole_40 : decode cX6_whole 40 = .ok (.invokevirtual 62, 3) := by decide +kernel
theorem dX6_whole_43 : decode cX6_whole 43 = .ok (.aload_n 0, 1) := by decide +kernel
