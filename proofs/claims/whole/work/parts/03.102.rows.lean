theorem dX6_whole_44 : decode cX6_whole 44 = .ok (.invokevirtual 66, 3) := by decide +kernel
theorem dX6_whole_47 : decode cX6_whole 47 = .ok (.ireturn, 1) := by decide +kernel
theorem dX6_shifted_0 : decode cX6_shifted 0 = .ok (.iload_n 1, 1) := by decide +kernel
theorem dX6_shifted_1 : decode cX6_shifted 1 = .ok (.ifCond .ge 13, 3) := by decide +kernel
theorem dX6_shifted_4 : decode cX6_shifted 4 = .ok (.new 70, 3) := by decide +kernel
theorem dX6_shifted_7 : decode cX6_shifted 7 = .ok (.dup, 1) := by decide +kernel
theorem dX6_shifted_8 : decode cX6_shifted 8 = .ok (.ldc 72, 2) := by decide +kernel
theorem dX6_shifted_10 : decode cX6_shifted 10 = .ok (.invokespecial 74, 3) := by decide +kernel
theorem dX6_shifted_13 : decode cX6_shifted 13 = .ok (.athrow, 1) := by decide +kernel
theorem dX6_shifted_14 : decode cX6_shifted 14 = .ok (.aload_n 0, 1) := by decide +kernel
theorem dX6_shifted_15 : decode cX6_shifted 15 = .ok (.invokevirtual 54, 3) := by decide +kernel
theorem dX6_shifted_18 : decode cX6_shifted 18 = .ok (.ifCond .eq 6, 3) := by decide +kernel
theorem dX6_shifted_21 : decode cX6_shifted 21 = .ok (.bipush (-3), 2) := by decide +kernel
theorem dX6_shifted_23 : decode cX6_shifted 23 = .ok (.ireturn, 1) := by decide +kernel
theorem dX6_shifted_24 : decode cX6_shifted 24 = .ok (.iload_n 1, 1) := by decide +kernel
theorem dX6_shifted_25 : decode cX6_shifted 25 = .ok (.bipush 16, 2) := by decide +kernel
theorem dX6_shifted_27 : decode cX6_shifted 27 = .ok (.if_icmp .lt 6, 3) := by decide +kernel
theorem dX6_shifted_30 : decode cX6_shifted 30 = .ok (.bipush (-4), 2) := by decide +kernel
theorem dX6_shifted_32 : decode cX6_shifted 32 = .ok (.ireturn, 1) := by decide +kernel
theorem dX6_shifted_33 : decode cX6_shifted 33 = .ok (.aload_n 0, 1) := by decide +kernel
theorem dX6_shifted_34 : decode cX6_shifted 34 = .ok (.getfield 29, 3) := by decide +kernel
theorem dX6_shifted_37 : decode cX6_shifted 37 = .ok (.getfield 58, 3) := by decide +kernel
theorem dX6_shifted_40 : decode cX6_shifted 40 = .ok (.iconst 1, 1) := by decide +kernel
theorem dX6_shifted_41 : decode cX6_shifted 41 = .ok (.lconst 1, 1) := by decide +kernel
theorem dX6_shifted_42 : decode cX6_shifted 42 = .ok (.invokevirtual 62, 3) := by decide +kernel
theorem dX6_shifted_45 : decode cX6_shifted 45 = .ok (.aload_n 0, 1) := by decide +kernel
theorem dX6_shifted_46 : decode cX6_shifted 46 = .ok (.getfield 29, 3) := by decide +kernel
theorem dX6_shifted_49 : decode cX6_shifted 49 = .ok (.getfield 58, 3) := by decide +kernel
theorem dX6_shifted_52 : decode cX6_shifted 52 = .ok (.getfield 77, 3) := by decide +kernel
theorem dX6_shifted_55 : decode cX6_shifted 55 = .ok (.bipush 32, 2) := by decide +kernel
theorem dX6_shifted_57 : decode cX6_shifted 57 = .ok (.iload_n 1, 1) := by decide +kernel
theorem dX6_shifted_58 : decode cX6_shifted 58 = .ok (.imul, 1) := by decide +kernel
theorem dX6_shifted_59 : decode cX6_shifted 59 = .ok (.invokevirtual 81, 3) := by decide +kernel
theorem dX6_shifted_62 : decode cX6_shifted 62 = .ok (.aload_n 0, 1) := by decide +kernel
theorem dX6_shifted_63 : decode cX6_shifted 63 = .ok (.invokevirtual 66, 3) := by decide +kernel
theorem dX6_shifted_66 : decode cX6_shifted 66 = .ok (.ireturn, 1) := by decide +kernel
theorem dX6_over_0 : decode cX6_over 0 = .ok (.aload_n 0, 1) := by decide +kernel
theorem dX6_over_1 : decode cX6_over 1 = .ok (.iload_n 1, 1) := by decide +kernel
theorem dX6_over_2 : decode cX6_over 2 = .ok (.invokevirtual 86, 3) := by decide +kernel
theorem dX6_over_5 : decode cX6_over 5 = .ok (.astore_n 3, 1) := by decide +kernel
theorem dX6_over_6 : decode cX6_over 6 = .ok (.aload_n 0, 1) := by decide +kernel
theorem dX6_over_7 : decode cX6_over 7 = .ok (.iload_n 2, 1) := by decide +kernel
theorem dX6_over_8 : decode cX6_over 8 = .ok (.invokevirtual 86, 3) := by decide +kernel
theorem dX6_over_11 : decode cX6_over 11 = .ok (.astore 4, 2) := by decide +kernel
theorem dX6_over_13 : decode cX6_over 13 = .ok (.aload_n 3, 1) := by decide +kernel
theorem dX6_over_14 : decode cX6_over 14 = .ok (.ifnull 8, 3) := by decide +kernel
theorem dX6_over_17 : decode cX6_over 17 = .ok (.aload 4, 2) := by decide +kernel
theorem dX6_over_19 : decode cX6_over 19 = .ok (.ifnonnull 5, 3) := by decide +kernel
theorem dX6_over_22 : decode cX6_over 22 = .ok (.iconst (-1), 1) := by decide +kernel
theorem dX6_over_23 : decode cX6_over 23 = .ok (.ireturn, 1) := by decide +kernel
theorem dX6_over_24 : decode cX6_over 24 = .ok (.aload 4, 2) := by decide +kernel
theorem dX6_over_26 : decode cX6_over 26 = .ok (.getfield 90, 3) := by decide +kernel
theorem dX6_over_29 : decode cX6_over 29 = .ok (.ifCond .ne 13, 3) := by decide +kernel
theorem dX6_over_32 : decode cX6_over 32 = .ok (.new 93, 3) := by decide +kernel
theorem dX6_over_35 : decode cX6_over 35 = .ok (.dup, 1) := by decide +kernel
theorem dX6_over_36 : decode cX6_over 36 = .ok (.ldc 95, 2) := by decide +kernel
theorem dX6_over_38 : decode cX6_over 38 = .ok (.invokespecial 97, 3) := by decide +kernel
theorem dX6_over_41 : decode cX6_over 41 = .ok (.athrow, 1) := by decide +kernel
theorem dX6_over_42 : decode cX6_over 42 = .ok (.aload_n 0, 1) := by decide +kernel
theorem dX6_over_43 : decode cX6_over 43 = .ok (.invokevirtual 54, 3) := by decide +kernel
theorem dX6_over_46 : decode cX6_over 46 = .ok (.ifCond .eq 6, 3) := by decide +kernel
theorem dX6_over_49 : decode cX6_over 49 = .ok (.bipush (-3), 2) := by decide +kernel
theorem dX6_over_51 : decode cX6_over 51 = .ok (.ireturn, 1) := by decide +kernel
theorem dX6_over_52 : decode cX6_over 52 = .ok (.aload_n 0, 1) := by decide +kernel
theorem dX6_over_53 : decode cX6_over 53 = .ok (.getfield 29, 3) := by decide +kernel
theorem dX6_over_56 : decode cX6_over 56 = .ok (.aload_n 3, 1) := by decide +kernel
theorem dX6_over_57 : decode cX6_over 57 = .ok (.aload 4, 2) := by decide +kernel
theorem dX6_over_59 : decode cX6_over 59 = .ok (.invokevirtual 98, 3) := by decide +kernel
theorem dX6_over_62 : decode cX6_over 62 = .ok (.aload_n 0, 1) := by decide +kernel
theorem dX6_over_63 : decode cX6_over 63 = .ok (.invokevirtual 66, 3) := by decide +kernel
theorem dX6_over_66 : decode cX6_over 66 = .ok (.ireturn, 1) := by decide +kernel
theorem dX6_apply_0 : decode cX6_apply 0 = .ok (.aload_n 0, 1) := by decide +kernel
theorem dX6_apply_1 : decode cX6_apply 1 = .ok (.iload_n 2, 1) := by decide +kernel
theorem dX6_apply_2 : decode cX6_apply 2 = .ok (.invokevirtual 86, 3) := by decide +kernel
theorem dX6_apply_5 : decode cX6_apply 5 = .ok (.astore 4, 2) := by decide +kernel
theorem dX6_apply_7 : decode cX6_apply 7 = .ok (.aload_n 0, 1) := by decide +kernel
theorem dX6_apply_8 : decode cX6_apply 8 = .ok (.iload_n 3, 1) := by decide +kernel
theorem dX6_apply_9 : decode cX6_apply 9 = .ok (.invokevirtual 86, 3) := by decide +kernel
theorem dX6_apply_12 : decode cX6_apply 12 = .ok (.astore 5, 2) := by decide +kernel
theorem dX6_apply_14 : decode cX6_apply 14 = .ok (.aload 4, 2) := by decide +kernel
theorem dX6_apply_16 : decode cX6_apply 16 = .ok (.ifnull 17, 3) := by decide +kernel
theorem dX6_apply_19 : decode cX6_apply 19 = .ok (.aload 5, 2) := by decide +kernel
theorem dX6_apply_21 : decode cX6_apply 21 = .ok (.ifnull 12, 3) := by decide +kernel
theorem dX6_apply_24 : decode cX6_apply 24 = .ok (.iload_n 1, 1) := by decide +kernel
theorem dX6_apply_25 : decode cX6_apply 25 = .ok (.ifCond .lt 8, 3) := by decide +kernel
theorem dX6_apply_28 : decode cX6_apply 28 = .ok (.iload_n 1, 1) := by decide +kernel
theorem dX6_apply_29 : decode cX6_apply 29 = .ok (.iconst 3, 1) := by decide +kernel
theorem dX6_apply_30 : decode cX6_apply 30 = .ok (.if_icmp .le 5, 3) := by decide +kernel
theorem dX6_apply_33 : decode cX6_apply 33 = .ok (.iconst (-1), 1) := by decide +kernel
theorem dX6_apply_34 : decode cX6_apply 34 = .ok (.ireturn, 1) := by decide +kernel
theorem dX6_apply_35 : decode cX6_apply 35 = .ok (.iload_n 1, 1) := by decide +kernel
theorem dX6_apply_36 : decode cX6_apply 36 = .ok (.iconst 3, 1) := by decide +kernel
theorem dX6_apply_37 : decode cX6_apply 37 = .ok (.if_icmp .ne 21, 3) := by decide +kernel
theorem dX6_apply_40 : decode cX6_apply 40 = .ok (.aload 5, 2) := by decide +kernel
theorem dX6_apply_42 : decode cX6_apply 42 = .ok (.getfield 90, 3) := by decide +kernel
theorem dX6_apply_45 : decode cX6_apply 45 = .ok (.ifCond .ne 13, 3) := by decide +kernel
theorem dX6_apply_48 : decode cX6_apply 48 = .ok (.new 93, 3) := by decide +kernel
theorem dX6_apply_51 : decode cX6_apply 51 = .ok (.dup, 1) := by decide +kernel
theorem dX6_apply_52 : decode cX6_apply 52 = .ok (.ldc 102, 2) := by decide +kernel
theorem dX6_apply_54 : decode cX6_apply 54 = .ok (.invokespecial 97, 3) := by decide +kernel
theorem dX6_apply_57 : decode cX6_apply 57 = .ok (.athrow, 1) := by decide +kernel
theorem dX6_apply_58 : decode cX6_apply 58 = .ok (.aload_n 0, 1) := by decide +kernel
theorem dX6_apply_59 : decode cX6_apply 59 = .ok (.invokevirtual 54, 3) := by decide +kernel
theorem dX6_apply_62 : decode cX6_apply 62 = .ok (.ifCond .eq 6, 3) := by decide +kernel
theorem dX6_apply_65 : decode cX6_apply 65 = .ok (.bipush (-3), 2) := by decide +kernel
theorem dX6_apply_67 : decode cX6_apply 67 = .ok (.ireturn, 1) := by decide +kernel
theorem dX6_apply_68 : decode cX6_apply 68 = .ok (.iload_n 1, 1) := by decide +kernel
theorem dX6_apply_69 : decode cX6_apply 69 = .ok (.tableswitch 80 0 2 #[27, 46, 66], 27) := by decide +kernel
theorem dX6_apply_96 : decode cX6_apply 96 = .ok (.aload_n 0, 1) := by decide +kernel
theorem dX6_apply_97 : decode cX6_apply 97 = .ok (.getfield 29, 3) := by decide +kernel
theorem dX6_apply_100 : decode cX6_apply 100 = .ok (.aload 4, 2) := by decide +kernel
theorem dX6_apply_102 : decode cX6_apply 102 = .ok (.aload 5, 2) := by decide +kernel
theorem dX6_apply_104 : decode cX6_apply 104 = .ok (.aload 5, 2) := by decide +kernel
theorem dX6_apply_106 : decode cX6_apply 106 = .ok (.getfield 90, 3) := by decide +kernel
theorem dX6_apply_109 : decode cX6_apply 109 = .ok (.invokevirtual 104, 3) := by decide +kernel
theorem dX6_apply_112 : decode cX6_apply 112 = .ok (.goto 48, 3) := by decide +kernel
theorem dX6_apply_115 : decode cX6_apply 115 = .ok (.aload_n 0, 1) := by decide +kernel
theorem dX6_apply_116 : decode cX6_apply 116 = .ok (.getfield 29, 3) := by decide +kernel
theorem dX6_apply_119 : decode cX6_apply 119 = .ok (.aload 4, 2) := by decide +kernel
theorem dX6_apply_121 : decode cX6_apply 121 = .ok (.aload 5, 2) := by decide +kernel
theorem dX6_apply_123 : decode cX6_apply 123 = .ok (.aload 5, 2) := by decide +kernel
theorem dX6_apply_125 : decode cX6_apply 125 = .ok (.getfield 90, 3) := by decide +kernel
theorem dX6_apply_128 : decode cX6_apply 128 = .ok (.ineg, 1) := by decide +kernel
theorem dX6_apply_129 : decode cX6_apply 129 = .ok (.invokevirtual 104, 3) := by decide +kernel
theorem dX6_apply_132 : decode cX6_apply 132 = .ok (.goto 28, 3) := by decide +kernel
theorem dX6_apply_135 : decode cX6_apply 135 = .ok (.aload_n 0, 1) := by decide +kernel
theorem dX6_apply_136 : decode cX6_apply 136 = .ok (.getfield 29, 3) := by decide +kernel
theorem dX6_apply_139 : decode cX6_apply 139 = .ok (.aload 4, 2) := by decide +kernel
theorem dX6_apply_141 : decode cX6_apply 141 = .ok (.aload 5, 2) := by decide +kernel
theorem dX6_apply_143 : decode cX6_apply 143 = .ok (.invokevirtual 108, 3) := by decide +kernel
theorem dX6_apply_146 : decode cX6_apply 146 = .ok (.goto 14, 3) := by decide +kernel
theorem dX6_apply_149 : decode cX6_apply 149 = .ok (.aload_n 0, 1) := by decide +kernel
theorem dX6_apply_150 : decode cX6_apply 150 = .ok (.getfield 29, 3) := by decide +kernel
theorem dX6_apply_153 : decode cX6_apply 153 = .ok (.aload 4, 2) := by decide +kernel
theorem dX6_apply_155 : decode cX6_apply 155 = .ok (.aload 5, 2) := by decide +kernel
theorem dX6_apply_157 : decode cX6_apply 157 = .ok (.invokevirtual 111, 3) := by decide +kernel
theorem dX6_apply_160 : decode cX6_apply 160 = .ok (.aload_n 0, 1) := by decide +kernel
theorem dX6_apply_161 : decode cX6_apply 161 = .ok (.invokevirtual 66, 3) := by decide +kernel
theorem dX6_apply_164 : decode cX6_apply 164 = .ok (.ireturn, 1) := by decide +kernel
theorem dX6_power_0 : decode cX6_power 0 = .ok (.aload_n 0, 1) := by decide +kernel
theorem dX6_power_1 : decode cX6_power 1 = .ok (.iload_n 1, 1) := by decide +kernel
theorem dX6_power_2 : decode cX6_power 2 = .ok (.invokevirtual 86, 3) := by decide +kernel
theorem dX6_power_5 : decode cX6_power 5 = .ok (.astore_n 3, 1) := by decide +kernel
theorem dX6_power_6 : decode cX6_power 6 = .ok (.aload_n 3, 1) := by decide +kernel
theorem dX6_power_7 : decode cX6_power 7 = .ok (.ifnull 17, 3) := by decide +kernel
theorem dX6_power_10 : decode cX6_power 10 = .ok (.iload_n 2, 1) := by decide +kernel
theorem dX6_power_11 : decode cX6_power 11 = .ok (.sipush (-512), 3) := by decide +kernel
theorem dX6_power_14 : decode cX6_power 14 = .ok (.if_icmp .lt 10, 3) := by decide +kernel
theorem dX6_power_17 : decode cX6_power 17 = .ok (.iload_n 2, 1) := by decide +kernel
theorem dX6_power_18 : decode cX6_power 18 = .ok (.sipush 512, 3) := by decide +kernel
theorem dX6_power_21 : decode cX6_power 21 = .ok (.if_icmp .le 5, 3) := by decide +kernel
theorem dX6_power_24 : decode cX6_power 24 = .ok (.iconst (-1), 1) := by decide +kernel
theorem dX6_power_25 : decode cX6_power 25 = .ok (.ireturn, 1) := by decide +kernel
theorem dX6_power_26 : decode cX6_power 26 = .ok (.iload_n 2, 1) := by decide +kernel
theorem dX6_power_27 : decode cX6_power 27 = .ok (.ifCond .ge 20, 3) := by decide +kernel
theorem dX6_power_30 : decode cX6_power 30 = .ok (.aload_n 3, 1) := by decide +kernel
theorem dX6_power_31 : decode cX6_power 31 = .ok (.getfield 90, 3) := by decide +kernel
theorem dX6_power_34 : decode cX6_power 34 = .ok (.ifCond .ne 13, 3) := by decide +kernel
theorem dX6_power_37 : decode cX6_power 37 = .ok (.new 93, 3) := by decide +kernel
theorem dX6_power_40 : decode cX6_power 40 = .ok (.dup, 1) := by decide +kernel
theorem dX6_power_41 : decode cX6_power 41 = .ok (.ldc 114, 2) := by decide +kernel
theorem dX6_power_43 : decode cX6_power 43 = .ok (.invokespecial 97, 3) := by decide +kernel
theorem dX6_power_46 : decode cX6_power 46 = .ok (.athrow, 1) := by decide +kernel
theorem dX6_power_47 : decode cX6_power 47 = .ok (.aload_n 0, 1) := by decide +kernel
theorem dX6_power_48 : decode cX6_power 48 = .ok (.invokevirtual 54, 3) := by decide +kernel
theorem dX6_power_51 : decode cX6_power 51 = .ok (.ifCond .eq 6, 3) := by decide +kernel
theorem dX6_power_54 : decode cX6_power 54 = .ok (.bipush (-3), 2) := by decide +kernel
theorem dX6_power_56 : decode cX6_power 56 = .ok (.ireturn, 1) := by decide +kernel
theorem dX6_power_57 : decode cX6_power 57 = .ok (.aload_n 0, 1) := by decide +kernel
theorem dX6_power_58 : decode cX6_power 58 = .ok (.getfield 29, 3) := by decide +kernel
theorem dX6_power_61 : decode cX6_power 61 = .ok (.aload_n 3, 1) := by decide +kernel
theorem dX6_power_62 : decode cX6_power 62 = .ok (.iload_n 2, 1) := by decide +kernel
theorem dX6_power_63 : decode cX6_power 63 = .ok (.invokevirtual 116, 3) := by decide +kernel
theorem dX6_power_66 : decode cX6_power 66 = .ok (.aload_n 0, 1) := by decide +kernel
theorem dX6_power_67 : decode cX6_power 67 = .ok (.invokevirtual 66, 3) := by decide +kernel
theorem dX6_power_70 : decode cX6_power 70 = .ok (.ireturn, 1) := by decide +kernel
theorem dX6_near_0 : decode cX6_near 0 = .ok (.aload_n 0, 1) := by decide +kernel
theorem dX6_near_1 : decode cX6_near 1 = .ok (.iload_n 1, 1) := by decide +kernel
theorem dX6_near_2 : decode cX6_near 2 = .ok (.invokevirtual 86, 3) := by decide +kernel
theorem dX6_near_5 : decode cX6_near 5 = .ok (.astore_n 3, 1) := by decide +kernel
theorem dX6_near_6 : decode cX6_near 6 = .ok (.aload_n 3, 1) := by decide +kernel
theorem dX6_near_7 : decode cX6_near 7 = .ok (.ifnull 12, 3) := by decide +kernel
theorem dX6_near_10 : decode cX6_near 10 = .ok (.iload_n 2, 1) := by decide +kernel
theorem dX6_near_11 : decode cX6_near 11 = .ok (.ifCond .lt 8, 3) := by decide +kernel
theorem dX6_near_14 : decode cX6_near 14 = .ok (.iload_n 2, 1) := by decide +kernel
theorem dX6_near_15 : decode cX6_near 15 = .ok (.iconst 3, 1) := by decide +kernel
theorem dX6_near_16 : decode cX6_near 16 = .ok (.if_icmp .le 5, 3) := by decide +kernel
theorem dX6_near_19 : decode cX6_near 19 = .ok (.iconst (-1), 1) := by decide +kernel
theorem dX6_near_20 : decode cX6_near 20 = .ok (.ireturn, 1) := by decide +kernel
theorem dX6_near_21 : decode cX6_near 21 = .ok (.aload_n 0, 1) := by decide +kernel
theorem dX6_near_22 : decode cX6_near 22 = .ok (.invokevirtual 54, 3) := by decide +kernel
theorem dX6_near_25 : decode cX6_near 25 = .ok (.ifCond .eq 6, 3) := by decide +kernel
theorem dX6_near_28 : decode cX6_near 28 = .ok (.bipush (-3), 2) := by decide +kernel
theorem dX6_near_30 : decode cX6_near 30 = .ok (.ireturn, 1) := by decide +kernel
theorem dX6_near_31 : decode cX6_near 31 = .ok (.aload_n 0, 1) := by decide +kernel
theorem dX6_near_32 : decode cX6_near 32 = .ok (.getfield 29, 3) := by decide +kernel
theorem dX6_near_35 : decode cX6_near 35 = .ok (.aload_n 3, 1) := by decide +kernel
theorem dX6_near_36 : decode cX6_near 36 = .ok (.iload_n 2, 1) := by decide +kernel
theorem dX6_near_37 : decode cX6_near 37 = .ok (.invokevirtual 120, 3) := by decide +kernel
theorem dX6_near_40 : decode cX6_near 40 = .ok (.aload_n 0, 1) := by decide +kernel
theorem dX6_near_41 : decode cX6_near 41 = .ok (.invokevirtual 66, 3) := by decide +kernel
theorem dX6_near_44 : decode cX6_near 44 = .ok (.ireturn, 1) := by decide +kernel
theorem dX6_common_0 : decode cX6_common 0 = .ok (.aload_n 0, 1) := by decide +kernel
theorem dX6_common_1 : decode cX6_common 1 = .ok (.iload_n 1, 1) := by decide +kernel
theorem dX6_common_2 : decode cX6_common 2 = .ok (.invokevirtual 86, 3) := by decide +kernel
theorem dX6_common_5 : decode cX6_common 5 = .ok (.astore_n 3, 1) := by decide +kernel
theorem dX6_common_6 : decode cX6_common 6 = .ok (.aload_n 0, 1) := by decide +kernel
theorem dX6_common_7 : decode cX6_common 7 = .ok (.iload_n 2, 1) := by decide +kernel
theorem dX6_common_8 : decode cX6_common 8 = .ok (.invokevirtual 86, 3) := by decide +kernel
theorem dX6_common_11 : decode cX6_common 11 = .ok (.astore 4, 2) := by decide +kernel
theorem dX6_common_13 : decode cX6_common 13 = .ok (.aload_n 3, 1) := by decide +kernel
theorem dX6_common_14 : decode cX6_common 14 = .ok (.ifnull 8, 3) := by decide +kernel
theorem dX6_common_17 : decode cX6_common 17 = .ok (.aload 4, 2) := by decide +kernel
theorem dX6_common_19 : decode cX6_common 19 = .ok (.ifnonnull 5, 3) := by decide +kernel
theorem dX6_common_22 : decode cX6_common 22 = .ok (.iconst (-1), 1) := by decide +kernel
theorem dX6_common_23 : decode cX6_common 23 = .ok (.ireturn, 1) := by decide +kernel
theorem dX6_common_24 : decode cX6_common 24 = .ok (.aload_n 3, 1) := by decide +kernel
theorem dX6_common_25 : decode cX6_common 25 = .ok (.invokevirtual 123, 3) := by decide +kernel
theorem dX6_common_28 : decode cX6_common 28 = .ok (.ifCond .eq 11, 3) := by decide +kernel
theorem dX6_common_31 : decode cX6_common 31 = .ok (.aload 4, 2) := by decide +kernel
theorem dX6_common_33 : decode cX6_common 33 = .ok (.invokevirtual 123, 3) := by decide +kernel
theorem dX6_common_36 : decode cX6_common 36 = .ok (.ifCond .ne 6, 3) := by decide +kernel
theorem dX6_common_39 : decode cX6_common 39 = .ok (.bipush (-2), 2) := by decide +kernel
theorem dX6_common_41 : decode cX6_common 41 = .ok (.ireturn, 1) := by decide +kernel
theorem dX6_common_42 : decode cX6_common 42 = .ok (.aload_n 0, 1) := by decide +kernel
theorem dX6_common_43 : decode cX6_common 43 = .ok (.invokevirtual 54, 3) := by decide +kernel
theorem dX6_common_46 : decode cX6_common 46 = .ok (.ifCond .eq 6, 3) := by decide +kernel
theorem dX6_common_49 : decode cX6_common 49 = .ok (.bipush (-3), 2) := by decide +kernel
theorem dX6_common_51 : decode cX6_common 51 = .ok (.ireturn, 1) := by decide +kernel
theorem dX6_common_52 : decode cX6_common 52 = .ok (.aload_n 0, 1) := by decide +kernel
theorem dX6_common_53 : decode cX6_common 53 = .ok (.getfield 29, 3) := by decide +kernel
theorem dX6_common_56 : decode cX6_common 56 = .ok (.getfield 58, 3) := by decide +kernel
theorem dX6_common_59 : decode cX6_common 59 = .ok (.iconst 1, 1) := by decide +kernel
theorem dX6_common_60 : decode cX6_common 60 = .ok (.aload_n 0, 1) := by decide +kernel
theorem dX6_common_61 : decode cX6_common 61 = .ok (.getfield 29, 3) := by decide +kernel
theorem dX6_common_64 : decode cX6_common 64 = .ok (.aload_n 3, 1) := by decide +kernel
theorem dX6_common_65 : decode cX6_common 65 = .ok (.getfield 77, 3) := by decide +kernel
theorem dX6_common_68 : decode cX6_common 68 = .ok (.aload 4, 2) := by decide +kernel
theorem dX6_common_70 : decode cX6_common 70 = .ok (.getfield 77, 3) := by decide +kernel
theorem dX6_common_73 : decode cX6_common 73 = .ok (.invokevirtual 126, 3) := by decide +kernel
theorem dX6_common_76 : decode cX6_common 76 = .ok (.invokevirtual 130, 3) := by decide +kernel
theorem dX6_common_79 : decode cX6_common 79 = .ok (.aload_n 0, 1) := by decide +kernel
theorem dX6_common_80 : decode cX6_common 80 = .ok (.invokevirtual 66, 3) := by decide +kernel
theorem dX6_common_83 : decode cX6_common 83 = .ok (.ireturn, 1) := by decide +kernel
theorem dX6_drop_0 : decode cX6_drop 0 = .ok (.aload_n 0, 1) := by decide +kernel
theorem dX6_drop_1 : decode cX6_drop 1 = .ok (.iload_n 1, 1) := by decide +kernel
theorem dX6_drop_2 : decode cX6_drop 2 = .ok (.invokevirtual 86, 3) := by decide +kernel
theorem dX6_drop_5 : decode cX6_drop 5 = .ok (.ifnonnull 5, 3) := by decide +kernel
theorem dX6_drop_8 : decode cX6_drop 8 = .ok (.iconst (-1), 1) := by decide +kernel
theorem dX6_drop_9 : decode cX6_drop 9 = .ok (.ireturn, 1) := by decide +kernel
theorem dX6_drop_10 : decode cX6_drop 10 = .ok (.aload_n 0, 1) := by decide +kernel
theorem dX6_drop_11 : decode cX6_drop 11 = .ok (.getfield 15, 3) := by decide +kernel
theorem dX6_drop_14 : decode cX6_drop 14 = .ok (.iload_n 1, 1) := by decide +kernel
theorem dX6_drop_15 : decode cX6_drop 15 = .ok (.iconst 0, 1) := by decide +kernel
theorem dX6_drop_16 : decode cX6_drop 16 = .ok (.bastore, 1) := by decide +kernel
theorem dX6_drop_17 : decode cX6_drop 17 = .ok (.aload_n 0, 1) := by decide +kernel
theorem dX6_drop_18 : decode cX6_drop 18 = .ok (.dup, 1) := by decide +kernel
theorem dX6_drop_19 : decode cX6_drop 19 = .ok (.getfield 22, 3) := by decide +kernel
theorem dX6_drop_22 : decode cX6_drop 22 = .ok (.iconst 1, 1) := by decide +kernel
theorem dX6_drop_23 : decode cX6_drop 23 = .ok (.isub, 1) := by decide +kernel
theorem dX6_drop_24 : decode cX6_drop 24 = .ok (.putfield 22, 3) := by decide +kernel
theorem dX6_drop_27 : decode cX6_drop 27 = .ok (.aload_n 0, 1) := by decide +kernel
theorem dX6_drop_28 : decode cX6_drop 28 = .ok (.getfield 22, 3) := by decide +kernel
theorem dX6_drop_31 : decode cX6_drop 31 = .ok (.ireturn, 1) := by decide +kernel
theorem dX6_count_0 : decode cX6_count 0 = .ok (.aload_n 0, 1) := by decide +kernel
theorem dX6_count_1 : decode cX6_count 1 = .ok (.getfield 22, 3) := by decide +kernel
theorem dX6_count_4 : decode cX6_count 4 = .ok (.ireturn, 1) := by decide +kernel
theorem dX6_compare_0 : decode cX6_compare 0 = .ok (.aload_n 0, 1) := by decide +kernel
theorem dX6_compare_1 : decode cX6_compare 1 = .ok (.iload_n 1, 1) := by decide +kernel
theorem dX6_compare_2 : decode cX6_compare 2 = .ok (.invokevirtual 86, 3) := by decide +kernel
theorem dX6_compare_5 : decode cX6_compare 5 = .ok (.astore_n 3, 1) := by decide +kernel
theorem dX6_compare_6 : decode cX6_compare 6 = .ok (.aload_n 0, 1) := by decide +kernel
theorem dX6_compare_7 : decode cX6_compare 7 = .ok (.iload_n 2, 1) := by decide +kernel
theorem dX6_compare_8 : decode cX6_compare 8 = .ok (.invokevirtual 86, 3) := by decide +kernel
theorem dX6_compare_11 : decode cX6_compare 11 = .ok (.astore 4, 2) := by decide +kernel
theorem dX6_compare_13 : decode cX6_compare 13 = .ok (.aload_n 3, 1) := by decide +kernel
theorem dX6_compare_14 : decode cX6_compare 14 = .ok (.ifnull 8, 3) := by decide +kernel
theorem dX6_compare_17 : decode cX6_compare 17 = .ok (.aload 4, 2) := by decide +kernel
theorem dX6_compare_19 : decode cX6_compare 19 = .ok (.ifnonnull 5, 3) := by decide +kernel
theorem dX6_compare_22 : decode cX6_compare 22 = .ok (.iconst (-1), 1) := by decide +kernel
theorem dX6_compare_23 : decode cX6_compare 23 = .ok (.ireturn, 1) := by decide +kernel
theorem dX6_compare_24 : decode cX6_compare 24 = .ok (.aload_n 0, 1) := by decide +kernel
theorem dX6_compare_25 : decode cX6_compare 25 = .ok (.getfield 29, 3) := by decide +kernel
theorem dX6_compare_28 : decode cX6_compare 28 = .ok (.aload_n 3, 1) := by decide +kernel
theorem dX6_compare_29 : decode cX6_compare 29 = .ok (.aload 4, 2) := by decide +kernel
theorem dX6_compare_31 : decode cX6_compare 31 = .ok (.invokevirtual 134, 3) := by decide +kernel
theorem dX6_compare_34 : decode cX6_compare 34 = .ok (.ireturn, 1) := by decide +kernel
theorem dX6_of_0 : decode cX6_of 0 = .ok (.aload_n 0, 1) := by decide +kernel
theorem dX6_of_1 : decode cX6_of 1 = .ok (.iload_n 1, 1) := by decide +kernel
theorem dX6_of_2 : decode cX6_of 2 = .ok (.invokevirtual 86, 3) := by decide +kernel
theorem dX6_of_5 : decode cX6_of 5 = .ok (.astore_n 3, 1) := by decide +kernel
theorem dX6_of_6 : decode cX6_of 6 = .ok (.aload_n 3, 1) := by decide +kernel
theorem dX6_of_7 : decode cX6_of 7 = .ok (.ifnonnull 5, 3) := by decide +kernel
theorem dX6_of_10 : decode cX6_of 10 = .ok (.iconst (-1), 1) := by decide +kernel
theorem dX6_of_11 : decode cX6_of 11 = .ok (.ireturn, 1) := by decide +kernel
theorem dX6_of_12 : decode cX6_of 12 = .ok (.iload_n 2, 1) := by decide +kernel
theorem dX6_of_13 : decode cX6_of 13 = .ok (.tableswitch 65 0 3 #[31, 36, 49, 57], 31) := by decide +kernel
theorem dX6_of_44 : decode cX6_of 44 = .ok (.aload_n 3, 1) := by decide +kernel
theorem dX6_of_45 : decode cX6_of 45 = .ok (.getfield 90, 3) := by decide +kernel
theorem dX6_of_48 : decode cX6_of 48 = .ok (.ireturn, 1) := by decide +kernel
theorem dX6_of_49 : decode cX6_of 49 = .ok (.aload_n 3, 1) := by decide +kernel
theorem dX6_of_50 : decode cX6_of 50 = .ok (.invokevirtual 123, 3) := by decide +kernel
theorem dX6_of_53 : decode cX6_of 53 = .ok (.ifCond .eq 7, 3) := by decide +kernel
theorem dX6_of_56 : decode cX6_of 56 = .ok (.iconst 1, 1) := by decide +kernel
theorem dX6_of_57 : decode cX6_of 57 = .ok (.goto 4, 3) := by decide +kernel
theorem dX6_of_60 : decode cX6_of 60 = .ok (.iconst 0, 1) := by decide +kernel
theorem dX6_of_61 : decode cX6_of 61 = .ok (.ireturn, 1) := by decide +kernel
theorem dX6_of_62 : decode cX6_of 62 = .ok (.aload_n 3, 1) := by decide +kernel
theorem dX6_of_63 : decode cX6_of 63 = .ok (.getfield 77, 3) := by decide +kernel
theorem dX6_of_66 : decode cX6_of 66 = .ok (.invokevirtual 138, 3) := by decide +kernel
theorem dX6_of_69 : decode cX6_of 69 = .ok (.ireturn, 1) := by decide +kernel
theorem dX6_of_70 : decode cX6_of 70 = .ok (.aload_n 3, 1) := by decide +kernel
theorem dX6_of_71 : decode cX6_of 71 = .ok (.getfield 141, 3) := by decide +kernel
theorem dX6_of_74 : decode cX6_of 74 = .ok (.invokevirtual 138, 3) := by decide +kernel
theorem dX6_of_77 : decode cX6_of 77 = .ok (.ireturn, 1) := by decide +kernel
theorem dX6_of_78 : decode cX6_of 78 = .ok (.iconst (-1), 1) := by decide +kernel
theorem dX6_of_79 : decode cX6_of 79 = .ok (.ireturn, 1) := by decide +kernel
theorem dX6_limb_0 : decode cX6_limb 0 = .ok (.aload_n 0, 1) := by decide +kernel
theorem dX6_limb_1 : decode cX6_limb 1 = .ok (.iload_n 1, 1) := by decide +kernel
theorem dX6_limb_2 : decode cX6_limb 2 = .ok (.invokevirtual 86, 3) := by decide +kernel
theorem dX6_limb_5 : decode cX6_limb 5 = .ok (.astore 4, 2) := by decide +kernel
theorem dX6_limb_7 : decode cX6_limb 7 = .ok (.aload 4, 2) := by decide +kernel
theorem dX6_limb_9 : decode cX6_limb 9 = .ok (.ifnull 12, 3) := by decide +kernel
theorem dX6_limb_12 : decode cX6_limb 12 = .ok (.iload_n 2, 1) := by decide +kernel
theorem dX6_limb_13 : decode cX6_limb 13 = .ok (.ifCond .lt 8, 3) := by decide +kernel
theorem dX6_limb_16 : decode cX6_limb 16 = .ok (.iload_n 2, 1) := by decide +kernel
theorem dX6_limb_17 : decode cX6_limb 17 = .ok (.iconst 1, 1) := by decide +kernel
theorem dX6_limb_18 : decode cX6_limb 18 = .ok (.if_icmp .le 5, 3) := by decide +kernel
theorem dX6_limb_21 : decode cX6_limb 21 = .ok (.iconst (-1), 1) := by decide +kernel
theorem dX6_limb_22 : decode cX6_limb 22 = .ok (.ireturn, 1) := by decide +kernel
theorem dX6_limb_23 : decode cX6_limb 23 = .ok (.iload_n 2, 1) := by decide +kernel
theorem dX6_limb_24 : decode cX6_limb 24 = .ok (.ifCond .ne 11, 3) := by decide +kernel
theorem dX6_limb_27 : decode cX6_limb 27 = .ok (.aload 4, 2) := by decide +kernel
theorem dX6_limb_29 : decode cX6_limb 29 = .ok (.getfield 77, 3) := by decide +kernel
theorem dX6_limb_32 : decode cX6_limb 32 = .ok (.goto 8, 3) := by decide +kernel
theorem dX6_limb_35 : decode cX6_limb 35 = .ok (.aload 4, 2) := by decide +kernel
theorem dX6_limb_37 : decode cX6_limb 37 = .ok (.getfield 141, 3) := by decide +kernel
theorem dX6_limb_40 : decode cX6_limb 40 = .ok (.astore 5, 2) := by decide +kernel
theorem dX6_limb_42 : decode cX6_limb 42 = .ok (.iload_n 3, 1) := by decide +kernel
theorem dX6_limb_43 : decode cX6_limb 43 = .ok (.ifCond .lt 12, 3) := by decide +kernel
theorem dX6_limb_46 : decode cX6_limb 46 = .ok (.iload_n 3, 1) := by decide +kernel
theorem dX6_limb_47 : decode cX6_limb 47 = .ok (.aload 5, 2) := by decide +kernel
theorem dX6_limb_49 : decode cX6_limb 49 = .ok (.getfield 144, 3) := by decide +kernel
theorem dX6_limb_52 : decode cX6_limb 52 = .ok (.if_icmp .lt 13, 3) := by decide +kernel
theorem dX6_limb_55 : decode cX6_limb 55 = .ok (.new 147, 3) := by decide +kernel
theorem dX6_limb_58 : decode cX6_limb 58 = .ok (.dup, 1) := by decide +kernel
theorem dX6_limb_59 : decode cX6_limb 59 = .ok (.ldc 149, 2) := by decide +kernel
theorem dX6_limb_61 : decode cX6_limb 61 = .ok (.invokespecial 151, 3) := by decide +kernel
theorem dX6_limb_64 : decode cX6_limb 64 = .ok (.athrow, 1) := by decide +kernel
theorem dX6_limb_65 : decode cX6_limb 65 = .ok (.aload 5, 2) := by decide +kernel
theorem dX6_limb_67 : decode cX6_limb 67 = .ok (.iload_n 3, 1) := by decide +kernel
theorem dX6_limb_68 : decode cX6_limb 68 = .ok (.invokevirtual 152, 3) := by decide +kernel
theorem dX6_limb_71 : decode cX6_limb 71 = .ok (.l2i, 1) := by decide +kernel
theorem dX6_limb_72 : decode cX6_limb 72 = .ok (.ireturn, 1) := by decide +kernel
theorem dX6_terms_0 : decode cX6_terms 0 = .ok (.aload_n 0, 1) := by decide +kernel
theorem dX6_terms_1 : decode cX6_terms 1 = .ok (.iload_n 1, 1) := by decide +kernel
theorem dX6_terms_2 : decode cX6_terms 2 = .ok (.invokevirtual 86, 3) := by decide +kernel
theorem dX6_terms_5 : decode cX6_terms 5 = .ok (.astore_n 2, 1) := by decide +kernel
theorem dX6_terms_6 : decode cX6_terms 6 = .ok (.aload_n 2, 1) := by decide +kernel
theorem dX6_terms_7 : decode cX6_terms 7 = .ok (.ifnonnull 5, 3) := by decide +kernel
theorem dX6_terms_10 : decode cX6_terms 10 = .ok (.iconst (-1), 1) := by decide +kernel
theorem dX6_terms_11 : decode cX6_terms 11 = .ok (.ireturn, 1) := by decide +kernel
theorem dX6_terms_12 : decode cX6_terms 12 = .ok (.aload_n 0, 1) := by decide +kernel
theorem dX6_terms_13 : decode cX6_terms 13 = .ok (.getfield 36, 3) := by decide +kernel
theorem dX6_terms_16 : decode cX6_terms 16 = .ok (.aload_n 2, 1) := by decide +kernel
theorem dX6_terms_17 : decode cX6_terms 17 = .ok (.invokevirtual 156, 3) := by decide +kernel
theorem dX6_terms_20 : decode cX6_terms 20 = .ok (.aload_n 0, 1) := by decide +kernel
theorem dX6_terms_21 : decode cX6_terms 21 = .ok (.getfield 36, 3) := by decide +kernel
theorem dX6_terms_24 : decode cX6_terms 24 = .ok (.invokevirtual 160, 3) := by decide +kernel
theorem dX6_terms_27 : decode cX6_terms 27 = .ok (.ireturn, 1) := by decide +kernel
theorem dX6_term_0 : decode cX6_term 0 = .ok (.aload_n 0, 1) := by decide +kernel
theorem dX6_term_1 : decode cX6_term 1 = .ok (.iload_n 1, 1) := by decide +kernel
theorem dX6_term_2 : decode cX6_term 2 = .ok (.invokevirtual 86, 3) := by decide +kernel
theorem dX6_term_5 : decode cX6_term 5 = .ok (.astore_n 3, 1) := by decide +kernel
theorem dX6_term_6 : decode cX6_term 6 = .ok (.aload_n 3, 1) := by decide +kernel
theorem dX6_term_7 : decode cX6_term 7 = .ok (.ifnonnull 5, 3) := by decide +kernel
theorem dX6_term_10 : decode cX6_term 10 = .ok (.iconst (-1), 1) := by decide +kernel
theorem dX6_term_11 : decode cX6_term 11 = .ok (.ireturn, 1) := by decide +kernel
theorem dX6_term_12 : decode cX6_term 12 = .ok (.aload_n 0, 1) := by decide +kernel
theorem dX6_term_13 : decode cX6_term 13 = .ok (.getfield 36, 3) := by decide +kernel
theorem dX6_term_16 : decode cX6_term 16 = .ok (.aload_n 3, 1) := by decide +kernel
theorem dX6_term_17 : decode cX6_term 17 = .ok (.invokevirtual 156, 3) := by decide +kernel
theorem dX6_term_20 : decode cX6_term 20 = .ok (.aload_n 0, 1) := by decide +kernel
theorem dX6_term_21 : decode cX6_term 21 = .ok (.getfield 36, 3) := by decide +kernel
theorem dX6_term_24 : decode cX6_term 24 = .ok (.iload_n 2, 1) := by decide +kernel
theorem dX6_term_25 : decode cX6_term 25 = .ok (.invokevirtual 163, 3) := by decide +kernel
theorem dX6_term_28 : decode cX6_term 28 = .ok (.ifCond .ne 5, 3) := by decide +kernel
theorem dX6_term_31 : decode cX6_term 31 = .ok (.iconst (-1), 1) := by decide +kernel
theorem dX6_term_32 : decode cX6_term 32 = .ok (.ireturn, 1) := by decide +kernel
theorem dX6_term_33 : decode cX6_term 33 = .ok (.aload_n 0, 1) := by decide +kernel
theorem dX6_term_34 : decode cX6_term 34 = .ok (.invokevirtual 54, 3) := by decide +kernel
theorem dX6_term_37 : decode cX6_term 37 = .ok (.ifCond .eq 6, 3) := by decide +kernel
theorem dX6_term_40 : decode cX6_term 40 = .ok (.bipush (-3), 2) := by decide +kernel
theorem dX6_term_42 : decode cX6_term 42 = .ok (.ireturn, 1) := by decide +kernel
theorem dX6_term_43 : decode cX6_term 43 = .ok (.iload_n 2, 1) := by decide +kernel
theorem dX6_term_44 : decode cX6_term 44 = .ok (.ifCond .ne 30, 3) := by decide +kernel
theorem dX6_term_47 : decode cX6_term 47 = .ok (.aload_n 0, 1) := by decide +kernel
theorem dX6_term_48 : decode cX6_term 48 = .ok (.getfield 29, 3) := by decide +kernel
theorem dX6_term_51 : decode cX6_term 51 = .ok (.getfield 58, 3) := by decide +kernel
theorem dX6_term_54 : decode cX6_term 54 = .ok (.aload_n 0, 1) := by decide +kernel
theorem dX6_term_55 : decode cX6_term 55 = .ok (.getfield 36, 3) := by decide +kernel
theorem dX6_term_58 : decode cX6_term 58 = .ok (.getfield 167, 3) := by decide +kernel
theorem dX6_term_61 : decode cX6_term 61 = .ok (.aload_n 0, 1) := by decide +kernel
theorem dX6_term_62 : decode cX6_term 62 = .ok (.getfield 36, 3) := by decide +kernel
theorem dX6_term_65 : decode cX6_term 65 = .ok (.getfield 170, 3) := by decide +kernel
theorem dX6_term_68 : decode cX6_term 68 = .ok (.invokevirtual 130, 3) := by decide +kernel
theorem dX6_term_71 : decode cX6_term 71 = .ok (.goto 21, 3) := by decide +kernel
theorem dX6_term_74 : decode cX6_term 74 = .ok (.aload_n 0, 1) := by decide +kernel
theorem dX6_term_75 : decode cX6_term 75 = .ok (.getfield 29, 3) := by decide +kernel
theorem dX6_term_78 : decode cX6_term 78 = .ok (.getfield 58, 3) := by decide +kernel
theorem dX6_term_81 : decode cX6_term 81 = .ok (.iconst 1, 1) := by decide +kernel
theorem dX6_term_82 : decode cX6_term 82 = .ok (.aload_n 0, 1) := by decide +kernel
theorem dX6_term_83 : decode cX6_term 83 = .ok (.getfield 36, 3) := by decide +kernel
theorem dX6_term_86 : decode cX6_term 86 = .ok (.getfield 173, 3) := by decide +kernel
theorem dX6_term_89 : decode cX6_term 89 = .ok (.invokevirtual 130, 3) := by decide +kernel
theorem dX6_term_92 : decode cX6_term 92 = .ok (.aload_n 0, 1) := by decide +kernel
theorem dX6_term_93 : decode cX6_term 93 = .ok (.invokevirtual 66, 3) := by decide +kernel
theorem dX6_term_96 : decode cX6_term 96 = .ok (.ireturn, 1) := by decide +kernel
theorem dX6_part_0 : decode cX6_part 0 = .ok (.aload_n 0, 1) := by decide +kernel
theorem dX6_part_1 : decode cX6_part 1 = .ok (.iload_n 1, 1) := by decide +kernel
theorem dX6_part_2 : decode cX6_part 2 = .ok (.invokevirtual 86, 3) := by decide +kernel
theorem dX6_part_5 : decode cX6_part 5 = .ok (.astore_n 3, 1) := by decide +kernel
theorem dX6_part_6 : decode cX6_part 6 = .ok (.aload_n 3, 1) := by decide +kernel
theorem dX6_part_7 : decode cX6_part 7 = .ok (.ifnonnull 5, 3) := by decide +kernel
theorem dX6_part_10 : decode cX6_part 10 = .ok (.iconst (-1), 1) := by decide +kernel
theorem dX6_part_11 : decode cX6_part 11 = .ok (.ireturn, 1) := by decide +kernel
theorem dX6_part_12 : decode cX6_part 12 = .ok (.aload_n 0, 1) := by decide +kernel
theorem dX6_part_13 : decode cX6_part 13 = .ok (.getfield 36, 3) := by decide +kernel
theorem dX6_part_16 : decode cX6_part 16 = .ok (.aload_n 3, 1) := by decide +kernel
theorem dX6_part_17 : decode cX6_part 17 = .ok (.invokevirtual 156, 3) := by decide +kernel
theorem dX6_part_20 : decode cX6_part 20 = .ok (.aload_n 0, 1) := by decide +kernel
theorem dX6_part_21 : decode cX6_part 21 = .ok (.getfield 36, 3) := by decide +kernel
theorem dX6_part_24 : decode cX6_part 24 = .ok (.iload_n 2, 1) := by decide +kernel
theorem dX6_part_25 : decode cX6_part 25 = .ok (.invokevirtual 176, 3) := by decide +kernel
theorem dX6_part_28 : decode cX6_part 28 = .ok (.ifCond .ne 5, 3) := by decide +kernel
theorem dX6_part_31 : decode cX6_part 31 = .ok (.iconst (-1), 1) := by decide +kernel
theorem dX6_part_32 : decode cX6_part 32 = .ok (.ireturn, 1) := by decide +kernel
theorem dX6_part_33 : decode cX6_part 33 = .ok (.aload_n 0, 1) := by decide +kernel
theorem dX6_part_34 : decode cX6_part 34 = .ok (.invokevirtual 54, 3) := by decide +kernel
theorem dX6_part_37 : decode cX6_part 37 = .ok (.ifCond .eq 6, 3) := by decide +kernel
theorem dX6_part_40 : decode cX6_part 40 = .ok (.bipush (-3), 2) := by decide +kernel
theorem dX6_part_42 : decode cX6_part 42 = .ok (.ireturn, 1) := by decide +kernel
theorem dX6_part_43 : decode cX6_part 43 = .ok (.aload_n 0, 1) := by decide +kernel
theorem dX6_part_44 : decode cX6_part 44 = .ok (.getfield 36, 3) := by decide +kernel
theorem dX6_part_47 : decode cX6_part 47 = .ok (.aload_n 0, 1) := by decide +kernel
theorem dX6_part_48 : decode cX6_part 48 = .ok (.getfield 29, 3) := by decide +kernel
theorem dX6_part_51 : decode cX6_part 51 = .ok (.getfield 58, 3) := by decide +kernel
theorem dX6_part_54 : decode cX6_part 54 = .ok (.invokevirtual 179, 3) := by decide +kernel
theorem dX6_part_57 : decode cX6_part 57 = .ok (.aload_n 0, 1) := by decide +kernel
theorem dX6_part_58 : decode cX6_part 58 = .ok (.invokevirtual 66, 3) := by decide +kernel
theorem dX6_part_61 : decode cX6_part 61 = .ok (.ireturn, 1) := by decide +kernel
theorem dX6_best_0 : decode cX6_best 0 = .ok (.aload_n 0, 1) := by decide +kernel
theorem dX6_best_1 : decode cX6_best 1 = .ok (.iload_n 1, 1) := by decide +kernel
theorem dX6_best_2 : decode cX6_best 2 = .ok (.invokevirtual 86, 3) := by decide +kernel
theorem dX6_best_5 : decode cX6_best 5 = .ok (.astore 4, 2) := by decide +kernel
theorem dX6_best_7 : decode cX6_best 7 = .ok (.aload 4, 2) := by decide +kernel
theorem dX6_best_9 : decode cX6_best 9 = .ok (.ifnull 9, 3) := by decide +kernel
theorem dX6_best_12 : decode cX6_best 12 = .ok (.lload_n 2, 1) := by decide +kernel
theorem dX6_best_13 : decode cX6_best 13 = .ok (.lconst 1, 1) := by decide +kernel
theorem dX6_best_14 : decode cX6_best 14 = .ok (.lcmp, 1) := by decide +kernel
theorem dX6_best_15 : decode cX6_best 15 = .ok (.ifCond .ge 5, 3) := by decide +kernel
theorem dX6_best_18 : decode cX6_best 18 = .ok (.iconst (-1), 1) := by decide +kernel
theorem dX6_best_19 : decode cX6_best 19 = .ok (.ireturn, 1) := by decide +kernel
theorem dX6_best_20 : decode cX6_best 20 = .ok (.aload_n 0, 1) := by decide +kernel
theorem dX6_best_21 : decode cX6_best 21 = .ok (.invokevirtual 54, 3) := by decide +kernel
theorem dX6_best_24 : decode cX6_best 24 = .ok (.ifCond .eq 6, 3) := by decide +kernel
theorem dX6_best_27 : decode cX6_best 27 = .ok (.bipush (-3), 2) := by decide +kernel
theorem dX6_best_29 : decode cX6_best 29 = .ok (.ireturn, 1) := by decide +kernel
theorem dX6_best_30 : decode cX6_best 30 = .ok (.aload 4, 2) := by decide +kernel
theorem dX6_best_32 : decode cX6_best 32 = .ok (.getfield 141, 3) := by decide +kernel
theorem dX6_best_35 : decode cX6_best 35 = .ok (.lload_n 2, 1) := by decide +kernel
theorem dX6_best_36 : decode cX6_best 36 = .ok (.invokevirtual 182, 3) := by decide +kernel
theorem dX6_best_39 : decode cX6_best 39 = .ok (.ifCond .eq 42, 3) := by decide +kernel
theorem dX6_best_42 : decode cX6_best 42 = .ok (.aload_n 0, 1) := by decide +kernel
theorem dX6_best_43 : decode cX6_best 43 = .ok (.getfield 36, 3) := by decide +kernel
theorem dX6_best_46 : decode cX6_best 46 = .ok (.aload 4, 2) := by decide +kernel
theorem dX6_best_48 : decode cX6_best 48 = .ok (.invokevirtual 156, 3) := by decide +kernel
theorem dX6_best_51 : decode cX6_best 51 = .ok (.aload_n 0, 1) := by decide +kernel
theorem dX6_best_52 : decode cX6_best 52 = .ok (.getfield 36, 3) := by decide +kernel
theorem dX6_best_55 : decode cX6_best 55 = .ok (.aload 4, 2) := by decide +kernel
theorem dX6_best_57 : decode cX6_best 57 = .ok (.getfield 141, 3) := by decide +kernel
theorem dX6_best_60 : decode cX6_best 60 = .ok (.lload_n 2, 1) := by decide +kernel
theorem dX6_best_61 : decode cX6_best 61 = .ok (.invokevirtual 186, 3) := by decide +kernel
theorem dX6_best_64 : decode cX6_best 64 = .ok (.aload_n 0, 1) := by decide +kernel
theorem dX6_best_65 : decode cX6_best 65 = .ok (.getfield 36, 3) := by decide +kernel
theorem dX6_best_68 : decode cX6_best 68 = .ok (.aload_n 0, 1) := by decide +kernel
theorem dX6_best_69 : decode cX6_best 69 = .ok (.getfield 29, 3) := by decide +kernel
theorem dX6_best_72 : decode cX6_best 72 = .ok (.getfield 58, 3) := by decide +kernel
theorem dX6_best_75 : decode cX6_best 75 = .ok (.invokevirtual 179, 3) := by decide +kernel
theorem dX6_best_78 : decode cX6_best 78 = .ok (.goto 15, 3) := by decide +kernel
theorem dX6_best_81 : decode cX6_best 81 = .ok (.aload_n 0, 1) := by decide +kernel
theorem dX6_best_82 : decode cX6_best 82 = .ok (.getfield 29, 3) := by decide +kernel
theorem dX6_best_85 : decode cX6_best 85 = .ok (.getfield 58, 3) := by decide +kernel
theorem dX6_best_88 : decode cX6_best 88 = .ok (.aload 4, 2) := by decide +kernel
theorem dX6_best_90 : decode cX6_best 90 = .ok (.invokevirtual 190, 3) := by decide +kernel
theorem dX6_best_93 : decode cX6_best 93 = .ok (.aload_n 0, 1) := by decide +kernel
theorem dX6_best_94 : decode cX6_best 94 = .ok (.invokevirtual 66, 3) := by decide +kernel
theorem dX6_best_97 : decode cX6_best 97 = .ok (.ireturn, 1) := by decide +kernel
theorem dX6_exact_0 : decode cX6_exact 0 = .ok (.aload_n 0, 1) := by decide +kernel
theorem dX6_exact_1 : decode cX6_exact 1 = .ok (.iload_n 1, 1) := by decide +kernel
theorem dX6_exact_2 : decode cX6_exact 2 = .ok (.invokevirtual 86, 3) := by decide +kernel
theorem dX6_exact_5 : decode cX6_exact 5 = .ok (.astore_n 3, 1) := by decide +kernel
theorem dX6_exact_6 : decode cX6_exact 6 = .ok (.aload_n 3, 1) := by decide +kernel
theorem dX6_exact_7 : decode cX6_exact 7 = .ok (.ifnull 23, 3) := by decide +kernel
theorem dX6_exact_10 : decode cX6_exact 10 = .ok (.iload_n 2, 1) := by decide +kernel
theorem dX6_exact_11 : decode cX6_exact 11 = .ok (.ifCond .lt 19, 3) := by decide +kernel
theorem dX6_exact_14 : decode cX6_exact 14 = .ok (.iload_n 2, 1) := by decide +kernel
theorem dX6_exact_15 : decode cX6_exact 15 = .ok (.getstatic 193, 3) := by decide +kernel
theorem dX6_exact_18 : decode cX6_exact 18 = .ok (.arraylength, 1) := by decide +kernel
theorem dX6_exact_19 : decode cX6_exact 19 = .ok (.if_icmp .ge 11, 3) := by decide +kernel
theorem dX6_exact_22 : decode cX6_exact 22 = .ok (.iload_n 2, 1) := by decide +kernel
theorem dX6_exact_23 : decode cX6_exact 23 = .ok (.getstatic 197, 3) := by decide +kernel
theorem dX6_exact_26 : decode cX6_exact 26 = .ok (.arraylength, 1) := by decide +kernel
theorem dX6_exact_27 : decode cX6_exact 27 = .ok (.if_icmp .lt 7, 3) := by decide +kernel
theorem dX6_exact_30 : decode cX6_exact 30 = .ok (.ldc2_w 200, 3) := by decide +kernel
theorem dX6_exact_33 : decode cX6_exact 33 = .ok (.lreturn, 1) := by decide +kernel
theorem dX6_exact_34 : decode cX6_exact 34 = .ok (.aload_n 3, 1) := by decide +kernel
theorem dX6_exact_35 : decode cX6_exact 35 = .ok (.invokevirtual 123, 3) := by decide +kernel
theorem dX6_exact_38 : decode cX6_exact 38 = .ok (.ifCond .eq 10, 3) := by decide +kernel
theorem dX6_exact_41 : decode cX6_exact 41 = .ok (.aload_n 3, 1) := by decide +kernel
theorem dX6_exact_42 : decode cX6_exact 42 = .ok (.invokevirtual 202, 3) := by decide +kernel
theorem dX6_exact_45 : decode cX6_exact 45 = .ok (.ifCond .ne 13, 3) := by decide +kernel
theorem dX6_exact_48 : decode cX6_exact 48 = .ok (.new 93, 3) := by decide +kernel
theorem dX6_exact_51 : decode cX6_exact 51 = .ok (.dup, 1) := by decide +kernel
theorem dX6_exact_52 : decode cX6_exact 52 = .ok (.ldc 205, 2) := by decide +kernel
theorem dX6_exact_54 : decode cX6_exact 54 = .ok (.invokespecial 97, 3) := by decide +kernel
theorem dX6_exact_57 : decode cX6_exact 57 = .ok (.athrow, 1) := by decide +kernel
theorem dX6_exact_58 : decode cX6_exact 58 = .ok (.aload_n 3, 1) := by decide +kernel
theorem dX6_exact_59 : decode cX6_exact 59 = .ok (.getfield 90, 3) := by decide +kernel
theorem dX6_exact_62 : decode cX6_exact 62 = .ok (.ifCond .ge 14, 3) := by decide +kernel
theorem dX6_exact_65 : decode cX6_exact 65 = .ok (.aload_n 3, 1) := by decide +kernel
theorem dX6_exact_66 : decode cX6_exact 66 = .ok (.getfield 77, 3) := by decide +kernel
theorem dX6_exact_69 : decode cX6_exact 69 = .ok (.invokevirtual 207, 3) := by decide +kernel
theorem dX6_exact_72 : decode cX6_exact 72 = .ok (.lneg, 1) := by decide +kernel
theorem dX6_exact_73 : decode cX6_exact 73 = .ok (.goto 10, 3) := by decide +kernel
theorem dX6_exact_76 : decode cX6_exact 76 = .ok (.aload_n 3, 1) := by decide +kernel
theorem dX6_exact_77 : decode cX6_exact 77 = .ok (.getfield 77, 3) := by decide +kernel
theorem dX6_exact_80 : decode cX6_exact 80 = .ok (.invokevirtual 207, 3) := by decide +kernel
theorem dX6_exact_83 : decode cX6_exact 83 = .ok (.lstore 4, 2) := by decide +kernel
theorem dX6_exact_85 : decode cX6_exact 85 = .ok (.lload 4, 2) := by decide +kernel
theorem dX6_exact_87 : decode cX6_exact 87 = .ok (.getstatic 193, 3) := by decide +kernel
theorem dX6_exact_90 : decode cX6_exact 90 = .ok (.iload_n 2, 1) := by decide +kernel
theorem dX6_exact_91 : decode cX6_exact 91 = .ok (.laload, 1) := by decide +kernel
theorem dX6_exact_92 : decode cX6_exact 92 = .ok (.lcmp, 1) := by decide +kernel
theorem dX6_exact_93 : decode cX6_exact 93 = .ok (.ifCond .lt 14, 3) := by decide +kernel
theorem dX6_exact_96 : decode cX6_exact 96 = .ok (.lload 4, 2) := by decide +kernel
theorem dX6_exact_98 : decode cX6_exact 98 = .ok (.getstatic 197, 3) := by decide +kernel
theorem dX6_exact_101 : decode cX6_exact 101 = .ok (.iload_n 2, 1) := by decide +kernel
theorem dX6_exact_102 : decode cX6_exact 102 = .ok (.laload, 1) := by decide +kernel
theorem dX6_exact_103 : decode cX6_exact 103 = .ok (.lcmp, 1) := by decide +kernel
theorem dX6_exact_104 : decode cX6_exact 104 = .ok (.ifCond .le 13, 3) := by decide +kernel
theorem dX6_exact_107 : decode cX6_exact 107 = .ok (.new 93, 3) := by decide +kernel
theorem dX6_exact_110 : decode cX6_exact 110 = .ok (.dup, 1) := by decide +kernel
theorem dX6_exact_111 : decode cX6_exact 111 = .ok (.ldc 211, 2) := by decide +kernel
theorem dX6_exact_113 : decode cX6_exact 113 = .ok (.invokespecial 97, 3) := by decide +kernel
theorem dX6_exact_116 : decode cX6_exact 116 = .ok (.athrow, 1) := by decide +kernel
theorem dX6_exact_117 : decode cX6_exact 117 = .ok (.lload 4, 2) := by decide +kernel
theorem dX6_exact_119 : decode cX6_exact 119 = .ok (.lreturn, 1) := by decide +kernel
theorem dX6_real_0 : decode cX6_real 0 = .ok (.aload_n 0, 1) := by decide +kernel
theorem dX6_real_1 : decode cX6_real 1 = .ok (.iload_n 1, 1) := by decide +kernel
theorem dX6_real_2 : decode cX6_real 2 = .ok (.invokevirtual 86, 3) := by decide +kernel
theorem dX6_real_5 : decode cX6_real 5 = .ok (.astore_n 2, 1) := by decide +kernel
theorem dX6_real_6 : decode cX6_real 6 = .ok (.aload_n 2, 1) := by decide +kernel
theorem dX6_real_7 : decode cX6_real 7 = .ok (.ifnonnull 7, 3) := by decide +kernel
theorem dX6_real_10 : decode cX6_real 10 = .ok (.ldc2_w 200, 3) := by decide +kernel
theorem dX6_real_13 : decode cX6_real 13 = .ok (.lreturn, 1) := by decide +kernel
theorem dX6_real_14 : decode cX6_real 14 = .ok (.aload_n 0, 1) := by decide +kernel
theorem dX6_real_15 : decode cX6_real 15 = .ok (.getfield 29, 3) := by decide +kernel
theorem dX6_real_18 : decode cX6_real 18 = .ok (.aload_n 2, 1) := by decide +kernel
theorem dX6_real_19 : decode cX6_real 19 = .ok (.bipush 53, 2) := by decide +kernel
theorem dX6_real_21 : decode cX6_real 21 = .ok (.sipush (-1074), 3) := by decide +kernel
theorem dX6_real_24 : decode cX6_real 24 = .ok (.ldc2_w 213, 3) := by decide +kernel
theorem dX6_real_27 : decode cX6_real 27 = .ok (.invokevirtual 215, 3) := by decide +kernel
theorem dX6_real_30 : decode cX6_real 30 = .ok (.lstore_n 3, 1) := by decide +kernel
theorem dX6_real_31 : decode cX6_real 31 = .ok (.aload_n 2, 1) := by decide +kernel
theorem dX6_real_32 : decode cX6_real 32 = .ok (.getfield 90, 3) := by decide +kernel
theorem dX6_real_35 : decode cX6_real 35 = .ok (.ifCond .ge 11, 3) := by decide +kernel
theorem dX6_real_38 : decode cX6_real 38 = .ok (.lload_n 3, 1) := by decide +kernel
theorem dX6_real_39 : decode cX6_real 39 = .ok (.ldc2_w 219, 3) := by decide +kernel
theorem dX6_real_42 : decode cX6_real 42 = .ok (.lor, 1) := by decide +kernel
theorem dX6_real_43 : decode cX6_real 43 = .ok (.goto 4, 3) := by decide +kernel
theorem dX6_real_46 : decode cX6_real 46 = .ok (.lload_n 3, 1) := by decide +kernel
theorem dX6_real_47 : decode cX6_real 47 = .ok (.lreturn, 1) := by decide +kernel
theorem dX6_single_0 : decode cX6_single 0 = .ok (.aload_n 0, 1) := by decide +kernel
theorem dX6_single_1 : decode cX6_single 1 = .ok (.iload_n 1, 1) := by decide +kernel
theorem dX6_single_2 : decode cX6_single 2 = .ok (.invokevirtual 86, 3) := by decide +kernel
theorem dX6_single_5 : decode cX6_single 5 = .ok (.astore_n 2, 1) := by decide +kernel
theorem dX6_single_6 : decode cX6_single 6 = .ok (.aload_n 2, 1) := by decide +kernel
theorem dX6_single_7 : decode cX6_single 7 = .ok (.ifnonnull 5, 3) := by decide +kernel
theorem dX6_single_10 : decode cX6_single 10 = .ok (.iconst (-1), 1) := by decide +kernel
theorem dX6_single_11 : decode cX6_single 11 = .ok (.ireturn, 1) := by decide +kernel
theorem dX6_single_12 : decode cX6_single 12 = .ok (.aload_n 0, 1) := by decide +kernel
theorem dX6_single_13 : decode cX6_single 13 = .ok (.getfield 29, 3) := by decide +kernel
theorem dX6_single_16 : decode cX6_single 16 = .ok (.aload_n 2, 1) := by decide +kernel
theorem dX6_single_17 : decode cX6_single 17 = .ok (.bipush 24, 2) := by decide +kernel
theorem dX6_single_19 : decode cX6_single 19 = .ok (.sipush (-149), 3) := by decide +kernel
theorem dX6_single_22 : decode cX6_single 22 = .ok (.ldc2_w 221, 3) := by decide +kernel
theorem dX6_single_25 : decode cX6_single 25 = .ok (.invokevirtual 215, 3) := by decide +kernel
theorem dX6_single_28 : decode cX6_single 28 = .ok (.lstore_n 3, 1) := by decide +kernel
theorem dX6_single_29 : decode cX6_single 29 = .ok (.aload_n 2, 1) := by decide +kernel
theorem dX6_single_30 : decode cX6_single 30 = .ok (.getfield 90, 3) := by decide +kernel
theorem dX6_single_33 : decode cX6_single 33 = .ok (.ifCond .ge 11, 3) := by decide +kernel
theorem dX6_single_36 : decode cX6_single 36 = .ok (.lload_n 3, 1) := by decide +kernel
theorem dX6_single_37 : decode cX6_single 37 = .ok (.ldc2_w 223, 3) := by decide +kernel
theorem dX6_single_40 : decode cX6_single 40 = .ok (.lor, 1) := by decide +kernel
theorem dX6_single_41 : decode cX6_single 41 = .ok (.goto 4, 3) := by decide +kernel
theorem dX6_single_44 : decode cX6_single 44 = .ok (.lload_n 3, 1) := by decide +kernel
theorem dX6_single_45 : decode cX6_single 45 = .ok (.l2i, 1) := by decide +kernel
theorem dX6_single_46 : decode cX6_single 46 = .ok (.ireturn, 1) := by decide +kernel
theorem dX6_ofReal_0 : decode cX6_ofReal 0 = .ok (.lload_n 1, 1) := by decide +kernel
theorem dX6_ofReal_1 : decode cX6_ofReal 1 = .ok (.bipush 52, 2) := by decide +kernel
theorem dX6_ofReal_3 : decode cX6_ofReal 3 = .ok (.lushr, 1) := by decide +kernel
theorem dX6_ofReal_4 : decode cX6_ofReal 4 = .ok (.l2i, 1) := by decide +kernel
theorem dX6_ofReal_5 : decode cX6_ofReal 5 = .ok (.sipush 2047, 3) := by decide +kernel
theorem dX6_ofReal_8 : decode cX6_ofReal 8 = .ok (.iand, 1) := by decide +kernel
theorem dX6_ofReal_9 : decode cX6_ofReal 9 = .ok (.istore_n 3, 1) := by decide +kernel
theorem dX6_ofReal_10 : decode cX6_ofReal 10 = .ok (.iload_n 3, 1) := by decide +kernel
theorem dX6_ofReal_11 : decode cX6_ofReal 11 = .ok (.sipush 2047, 3) := by decide +kernel
theorem dX6_ofReal_14 : decode cX6_ofReal 14 = .ok (.if_icmp .ne 13, 3) := by decide +kernel
theorem dX6_ofReal_17 : decode cX6_ofReal 17 = .ok (.new 93, 3) := by decide +kernel
theorem dX6_ofReal_20 : decode cX6_ofReal 20 = .ok (.dup, 1) := by decide +kernel
theorem dX6_ofReal_21 : decode cX6_ofReal 21 = .ok (.ldc 225, 2) := by decide +kernel
theorem dX6_ofReal_23 : decode cX6_ofReal 23 = .ok (.invokespecial 97, 3) := by decide +kernel
theorem dX6_ofReal_26 : decode cX6_ofReal 26 = .ok (.athrow, 1) := by decide +kernel
theorem dX6_ofReal_27 : decode cX6_ofReal 27 = .ok (.aload_n 0, 1) := by decide +kernel
theorem dX6_ofReal_28 : decode cX6_ofReal 28 = .ok (.invokevirtual 54, 3) := by decide +kernel
theorem dX6_ofReal_31 : decode cX6_ofReal 31 = .ok (.ifCond .eq 6, 3) := by decide +kernel
theorem dX6_ofReal_34 : decode cX6_ofReal 34 = .ok (.bipush (-3), 2) := by decide +kernel
theorem dX6_ofReal_36 : decode cX6_ofReal 36 = .ok (.ireturn, 1) := by decide +kernel
theorem dX6_ofReal_37 : decode cX6_ofReal 37 = .ok (.lload_n 1, 1) := by decide +kernel
theorem dX6_ofReal_38 : decode cX6_ofReal 38 = .ok (.ldc2_w 227, 3) := by decide +kernel
theorem dX6_ofReal_41 : decode cX6_ofReal 41 = .ok (.land, 1) := by decide +kernel
theorem dX6_ofReal_42 : decode cX6_ofReal 42 = .ok (.lstore 4, 2) := by decide +kernel
theorem dX6_ofReal_44 : decode cX6_ofReal 44 = .ok (.iload_n 3, 1) := by decide +kernel
theorem dX6_ofReal_45 : decode cX6_ofReal 45 = .ok (.ifCond .ne 8, 3) := by decide +kernel
theorem dX6_ofReal_48 : decode cX6_ofReal 48 = .ok (.lload 4, 2) := by decide +kernel
theorem dX6_ofReal_50 : decode cX6_ofReal 50 = .ok (.goto 9, 3) := by decide +kernel
theorem dX6_ofReal_53 : decode cX6_ofReal 53 = .ok (.lload 4, 2) := by decide +kernel
theorem dX6_ofReal_55 : decode cX6_ofReal 55 = .ok (.ldc2_w 229, 3) := by decide +kernel
theorem dX6_ofReal_58 : decode cX6_ofReal 58 = .ok (.lor, 1) := by decide +kernel
theorem dX6_ofReal_59 : decode cX6_ofReal 59 = .ok (.lstore 6, 2) := by decide +kernel
theorem dX6_ofReal_61 : decode cX6_ofReal 61 = .ok (.iload_n 3, 1) := by decide +kernel
theorem dX6_ofReal_62 : decode cX6_ofReal 62 = .ok (.iconst 1, 1) := by decide +kernel
theorem dX6_ofReal_63 : decode cX6_ofReal 63 = .ok (.invokestatic 231, 3) := by decide +kernel
theorem dX6_ofReal_66 : decode cX6_ofReal 66 = .ok (.iconst 1, 1) := by decide +kernel
theorem dX6_ofReal_67 : decode cX6_ofReal 67 = .ok (.isub, 1) := by decide +kernel
theorem dX6_ofReal_68 : decode cX6_ofReal 68 = .ok (.sipush (-1074), 3) := by decide +kernel
theorem dX6_ofReal_71 : decode cX6_ofReal 71 = .ok (.iadd, 1) := by decide +kernel
theorem dX6_ofReal_72 : decode cX6_ofReal 72 = .ok (.istore 8, 2) := by decide +kernel
theorem dX6_ofReal_74 : decode cX6_ofReal 74 = .ok (.aload_n 0, 1) := by decide +kernel
theorem dX6_ofReal_75 : decode cX6_ofReal 75 = .ok (.getfield 29, 3) := by decide +kernel
theorem dX6_ofReal_78 : decode cX6_ofReal 78 = .ok (.getfield 58, 3) := by decide +kernel
theorem dX6_ofReal_81 : decode cX6_ofReal 81 = .ok (.lload_n 1, 1) := by decide +kernel
theorem dX6_ofReal_82 : decode cX6_ofReal 82 = .ok (.lconst 0, 1) := by decide +kernel
theorem dX6_ofReal_83 : decode cX6_ofReal 83 = .ok (.lcmp, 1) := by decide +kernel
theorem dX6_ofReal_84 : decode cX6_ofReal 84 = .ok (.ifCond .ge 7, 3) := by decide +kernel
theorem dX6_ofReal_87 : decode cX6_ofReal 87 = .ok (.iconst (-1), 1) := by decide +kernel
theorem dX6_ofReal_88 : decode cX6_ofReal 88 = .ok (.goto 4, 3) := by decide +kernel
theorem dX6_ofReal_91 : decode cX6_ofReal 91 = .ok (.iconst 1, 1) := by decide +kernel
theorem dX6_ofReal_92 : decode cX6_ofReal 92 = .ok (.lload 6, 2) := by decide +kernel
theorem dX6_ofReal_94 : decode cX6_ofReal 94 = .ok (.invokevirtual 62, 3) := by decide +kernel
theorem dX6_ofReal_97 : decode cX6_ofReal 97 = .ok (.aload_n 0, 1) := by decide +kernel
theorem dX6_ofReal_98 : decode cX6_ofReal 98 = .ok (.getfield 29, 3) := by decide +kernel
theorem dX6_ofReal_101 : decode cX6_ofReal 101 = .ok (.getfield 58, 3) := by decide +kernel
theorem dX6_ofReal_104 : decode cX6_ofReal 104 = .ok (.getfield 77, 3) := by decide +kernel
theorem dX6_ofReal_107 : decode cX6_ofReal 107 = .ok (.iload 8, 2) := by decide +kernel
theorem dX6_ofReal_109 : decode cX6_ofReal 109 = .ok (.invokevirtual 81, 3) := by decide +kernel
theorem dX6_ofReal_112 : decode cX6_ofReal 112 = .ok (.aload_n 0, 1) := by decide +kernel
theorem dX6_ofReal_113 : decode cX6_ofReal 113 = .ok (.getfield 29, 3) := by decide +kernel
theorem dX6_ofReal_116 : decode cX6_ofReal 116 = .ok (.getfield 58, 3) := by decide +kernel
theorem dX6_ofReal_119 : decode cX6_ofReal 119 = .ok (.getfield 141, 3) := by decide +kernel
theorem dX6_ofReal_122 : decode cX6_ofReal 122 = .ok (.iload 8, 2) := by decide +kernel
theorem dX6_ofReal_124 : decode cX6_ofReal 124 = .ok (.ineg, 1) := by decide +kernel
theorem dX6_ofReal_125 : decode cX6_ofReal 125 = .ok (.invokevirtual 81, 3) := by decide +kernel
theorem dX6_ofReal_128 : decode cX6_ofReal 128 = .ok (.aload_n 0, 1) := by decide +kernel
theorem dX6_ofReal_129 : decode cX6_ofReal 129 = .ok (.invokevirtual 66, 3) := by decide +kernel
theorem dX6_ofReal_132 : decode cX6_ofReal 132 = .ok (.ireturn, 1) := by decide +kernel
theorem dX6_feed_0 : decode cX6_feed 0 = .ok (.iload_n 1, 1) := by decide +kernel
theorem dX6_feed_1 : decode cX6_feed 1 = .ok (.ifCond .lt 10, 3) := by decide +kernel
theorem dX6_feed_4 : decode cX6_feed 4 = .ok (.iload_n 1, 1) := by decide +kernel
theorem dX6_feed_5 : decode cX6_feed 5 = .ok (.sipush 255, 3) := by decide +kernel
theorem dX6_feed_8 : decode cX6_feed 8 = .ok (.if_icmp .le 5, 3) := by decide +kernel
theorem dX6_feed_11 : decode cX6_feed 11 = .ok (.iconst (-1), 1) := by decide +kernel
theorem dX6_feed_12 : decode cX6_feed 12 = .ok (.ireturn, 1) := by decide +kernel
theorem dX6_feed_13 : decode cX6_feed 13 = .ok (.aload_n 0, 1) := by decide +kernel
theorem dX6_feed_14 : decode cX6_feed 14 = .ok (.getfield 43, 3) := by decide +kernel
theorem dX6_feed_17 : decode cX6_feed 17 = .ok (.iload_n 1, 1) := by decide +kernel
theorem dX6_feed_18 : decode cX6_feed 18 = .ok (.invokevirtual 237, 3) := by decide +kernel
theorem dX6_feed_21 : decode cX6_feed 21 = .ok (.ifCond .eq 13, 3) := by decide +kernel
theorem dX6_feed_24 : decode cX6_feed 24 = .ok (.aload_n 0, 1) := by decide +kernel
theorem dX6_feed_25 : decode cX6_feed 25 = .ok (.getfield 43, 3) := by decide +kernel
theorem dX6_feed_28 : decode cX6_feed 28 = .ok (.getfield 240, 3) := by decide +kernel
theorem dX6_feed_31 : decode cX6_feed 31 = .ok (.goto 5, 3) := by decide +kernel
theorem dX6_feed_34 : decode cX6_feed 34 = .ok (.bipush (-3), 2) := by decide +kernel
theorem dX6_feed_36 : decode cX6_feed 36 = .ok (.ireturn, 1) := by decide +kernel
theorem dX6_read_0 : decode cX6_read 0 = .ok (.aload_n 0, 1) := by decide +kernel
theorem dX6_read_1 : decode cX6_read 1 = .ok (.getfield 43, 3) := by decide +kernel
theorem dX6_read_4 : decode cX6_read 4 = .ok (.invokevirtual 242, 3) := by decide +kernel
theorem dX6_read_7 : decode cX6_read 7 = .ok (.istore_n 1, 1) := by decide +kernel
theorem dX6_read_8 : decode cX6_read 8 = .ok (.iload_n 1, 1) := by decide +kernel
theorem dX6_read_9 : decode cX6_read 9 = .ok (.ifCond .lt 15, 3) := by decide +kernel
theorem dX6_read_12 : decode cX6_read 12 = .ok (.aload_n 0, 1) := by decide +kernel
theorem dX6_read_13 : decode cX6_read 13 = .ok (.getfield 43, 3) := by decide +kernel
theorem dX6_read_16 : decode cX6_read 16 = .ok (.invokevirtual 245, 3) := by decide +kernel
theorem dX6_read_19 : decode cX6_read 19 = .ok (.bipush (-10), 2) := by decide +kernel
theorem dX6_read_21 : decode cX6_read 21 = .ok (.iload_n 1, 1) := by decide +kernel
theorem dX6_read_22 : decode cX6_read 22 = .ok (.isub, 1) := by decide +kernel
theorem dX6_read_23 : decode cX6_read 23 = .ok (.ireturn, 1) := by decide +kernel
theorem dX6_read_24 : decode cX6_read 24 = .ok (.aload_n 0, 1) := by decide +kernel
theorem dX6_read_25 : decode cX6_read 25 = .ok (.invokevirtual 54, 3) := by decide +kernel
theorem dX6_read_28 : decode cX6_read 28 = .ok (.ifCond .eq 6, 3) := by decide +kernel
theorem dX6_read_31 : decode cX6_read 31 = .ok (.bipush (-3), 2) := by decide +kernel
theorem dX6_read_33 : decode cX6_read 33 = .ok (.ireturn, 1) := by decide +kernel
theorem dX6_read_34 : decode cX6_read 34 = .ok (.aload_n 0, 1) := by decide +kernel
theorem dX6_read_35 : decode cX6_read 35 = .ok (.getfield 43, 3) := by decide +kernel
theorem dX6_read_38 : decode cX6_read 38 = .ok (.aload_n 0, 1) := by decide +kernel
theorem dX6_read_39 : decode cX6_read 39 = .ok (.getfield 29, 3) := by decide +kernel
theorem dX6_read_42 : decode cX6_read 42 = .ok (.getfield 58, 3) := by decide +kernel
theorem dX6_read_45 : decode cX6_read 45 = .ok (.invokevirtual 248, 3) := by decide +kernel
theorem dX6_read_48 : decode cX6_read 48 = .ok (.aload_n 0, 1) := by decide +kernel
theorem dX6_read_49 : decode cX6_read 49 = .ok (.getfield 43, 3) := by decide +kernel
theorem dX6_read_52 : decode cX6_read 52 = .ok (.invokevirtual 245, 3) := by decide +kernel
theorem dX6_read_55 : decode cX6_read 55 = .ok (.aload_n 0, 1) := by decide +kernel
theorem dX6_read_56 : decode cX6_read 56 = .ok (.getfield 29, 3) := by decide +kernel
theorem dX6_read_59 : decode cX6_read 59 = .ok (.getfield 58, 3) := by decide +kernel
theorem dX6_read_62 : decode cX6_read 62 = .ok (.getfield 141, 3) := by decide +kernel
theorem dX6_read_65 : decode cX6_read 65 = .ok (.invokevirtual 249, 3) := by decide +kernel
theorem dX6_read_68 : decode cX6_read 68 = .ok (.ifCond .eq 13, 3) := by decide +kernel
theorem dX6_read_71 : decode cX6_read 71 = .ok (.new 93, 3) := by decide +kernel
theorem dX6_read_74 : decode cX6_read 74 = .ok (.dup, 1) := by decide +kernel
theorem dX6_read_75 : decode cX6_read 75 = .ok (.ldc 252, 2) := by decide +kernel
theorem dX6_read_77 : decode cX6_read 77 = .ok (.invokespecial 97, 3) := by decide +kernel
theorem dX6_read_80 : decode cX6_read 80 = .ok (.athrow, 1) := by decide +kernel
theorem dX6_read_81 : decode cX6_read 81 = .ok (.aload_n 0, 1) := by decide +kernel
theorem dX6_read_82 : decode cX6_read 82 = .ok (.invokevirtual 66, 3) := by decide +kernel
theorem dX6_read_85 : decode cX6_read 85 = .ok (.ireturn, 1) := by decide +kernel
theorem dX6_text_0 : decode cX6_text 0 = .ok (.aload_n 0, 1) := by decide +kernel
theorem dX6_text_1 : decode cX6_text 1 = .ok (.iload_n 1, 1) := by decide +kernel
theorem dX6_text_2 : decode cX6_text 2 = .ok (.invokevirtual 86, 3) := by decide +kernel
theorem dX6_text_5 : decode cX6_text 5 = .ok (.astore_n 2, 1) := by decide +kernel
theorem dX6_text_6 : decode cX6_text 6 = .ok (.aload_n 2, 1) := by decide +kernel
theorem dX6_text_7 : decode cX6_text 7 = .ok (.ifnonnull 5, 3) := by decide +kernel
theorem dX6_text_10 : decode cX6_text 10 = .ok (.iconst (-1), 1) := by decide +kernel
theorem dX6_text_11 : decode cX6_text 11 = .ok (.ireturn, 1) := by decide +kernel
theorem dX6_text_12 : decode cX6_text 12 = .ok (.aload_n 0, 1) := by decide +kernel
theorem dX6_text_13 : decode cX6_text 13 = .ok (.getfield 50, 3) := by decide +kernel
theorem dX6_text_16 : decode cX6_text 16 = .ok (.aload_n 2, 1) := by decide +kernel
theorem dX6_text_17 : decode cX6_text 17 = .ok (.getfield 90, 3) := by decide +kernel
theorem dX6_text_20 : decode cX6_text 20 = .ok (.ifCond .ge 7, 3) := by decide +kernel
theorem dX6_text_23 : decode cX6_text 23 = .ok (.iconst 1, 1) := by decide +kernel
theorem dX6_text_24 : decode cX6_text 24 = .ok (.goto 4, 3) := by decide +kernel
theorem dX6_text_27 : decode cX6_text 27 = .ok (.iconst 0, 1) := by decide +kernel
theorem dX6_text_28 : decode cX6_text 28 = .ok (.invokevirtual 254, 3) := by decide +kernel
theorem dX6_text_31 : decode cX6_text 31 = .ok (.aload_n 0, 1) := by decide +kernel
theorem dX6_text_32 : decode cX6_text 32 = .ok (.getfield 50, 3) := by decide +kernel
theorem dX6_text_35 : decode cX6_text 35 = .ok (.aload_n 2, 1) := by decide +kernel
theorem dX6_text_36 : decode cX6_text 36 = .ok (.getfield 77, 3) := by decide +kernel
theorem dX6_text_39 : decode cX6_text 39 = .ok (.invokevirtual 257, 3) := by decide +kernel
theorem dX6_text_42 : decode cX6_text 42 = .ok (.aload_n 2, 1) := by decide +kernel
theorem dX6_text_43 : decode cX6_text 43 = .ok (.invokevirtual 123, 3) := by decide +kernel
theorem dX6_text_46 : decode cX6_text 46 = .ok (.ifCond .ne 23, 3) := by decide +kernel
theorem dX6_text_49 : decode cX6_text 49 = .ok (.aload_n 0, 1) := by decide +kernel
theorem dX6_text_50 : decode cX6_text 50 = .ok (.getfield 50, 3) := by decide +kernel
theorem dX6_text_53 : decode cX6_text 53 = .ok (.bipush 47, 2) := by decide +kernel
theorem dX6_text_55 : decode cX6_text 55 = .ok (.invokevirtual 261, 3) := by decide +kernel
theorem dX6_text_58 : decode cX6_text 58 = .ok (.aload_n 0, 1) := by decide +kernel
theorem dX6_text_59 : decode cX6_text 59 = .ok (.getfield 50, 3) := by decide +kernel
theorem dX6_text_62 : decode cX6_text 62 = .ok (.aload_n 2, 1) := by decide +kernel
theorem dX6_text_63 : decode cX6_text 63 = .ok (.getfield 141, 3) := by decide +kernel
theorem dX6_text_66 : decode cX6_text 66 = .ok (.invokevirtual 257, 3) := by decide +kernel
theorem dX6_text_69 : decode cX6_text 69 = .ok (.aload_n 0, 1) := by decide +kernel
theorem dX6_text_70 : decode cX6_text 70 = .ok (.getfield 50, 3) := by decide +kernel
theorem dX6_text_73 : decode cX6_text 73 = .ok (.getfield 263, 3) := by decide +kernel
theorem dX6_text_76 : decode cX6_text 76 = .ok (.ireturn, 1) := by decide +kernel
theorem dX6_figures_0 : decode cX6_figures 0 = .ok (.aload_n 0, 1) := by decide +kernel
theorem dX6_figures_1 : decode cX6_figures 1 = .ok (.iload_n 1, 1) := by decide +kernel
theorem dX6_figures_2 : decode cX6_figures 2 = .ok (.invokevirtual 86, 3) := by decide +kernel
theorem dX6_figures_5 : decode cX6_figures 5 = .ok (.astore_n 3, 1) := by decide +kernel
theorem dX6_figures_6 : decode cX6_figures 6 = .ok (.aload_n 3, 1) := by decide +kernel
theorem dX6_figures_7 : decode cX6_figures 7 = .ok (.ifnull 13, 3) := by decide +kernel
theorem dX6_figures_10 : decode cX6_figures 10 = .ok (.iload_n 2, 1) := by decide +kernel
theorem dX6_figures_11 : decode cX6_figures 11 = .ok (.ifCond .lt 9, 3) := by decide +kernel
theorem dX6_figures_14 : decode cX6_figures 14 = .ok (.iload_n 2, 1) := by decide +kernel
theorem dX6_figures_15 : decode cX6_figures 15 = .ok (.bipush 100, 2) := by decide +kernel
theorem dX6_figures_17 : decode cX6_figures 17 = .ok (.if_icmp .le 5, 3) := by decide +kernel
theorem dX6_figures_20 : decode cX6_figures 20 = .ok (.iconst (-1), 1) := by decide +kernel
theorem dX6_figures_21 : decode cX6_figures 21 = .ok (.ireturn, 1) := by decide +kernel
theorem dX6_figures_22 : decode cX6_figures 22 = .ok (.aload_n 0, 1) := by decide +kernel
theorem dX6_figures_23 : decode cX6_figures 23 = .ok (.getfield 50, 3) := by decide +kernel
theorem dX6_figures_26 : decode cX6_figures 26 = .ok (.aload_n 3, 1) := by decide +kernel
theorem dX6_figures_27 : decode cX6_figures 27 = .ok (.getfield 90, 3) := by decide +kernel
theorem dX6_figures_30 : decode cX6_figures 30 = .ok (.ifCond .ge 7, 3) := by decide +kernel
theorem dX6_figures_33 : decode cX6_figures 33 = .ok (.iconst 1, 1) := by decide +kernel
theorem dX6_figures_34 : decode cX6_figures 34 = .ok (.goto 4, 3) := by decide +kernel
theorem dX6_figures_37 : decode cX6_figures 37 = .ok (.iconst 0, 1) := by decide +kernel
theorem dX6_figures_38 : decode cX6_figures 38 = .ok (.invokevirtual 254, 3) := by decide +kernel
theorem dX6_figures_41 : decode cX6_figures 41 = .ok (.aload_n 0, 1) := by decide +kernel
theorem dX6_figures_42 : decode cX6_figures 42 = .ok (.getfield 50, 3) := by decide +kernel
theorem dX6_figures_45 : decode cX6_figures 45 = .ok (.aload_n 3, 1) := by decide +kernel
theorem dX6_figures_46 : decode cX6_figures 46 = .ok (.iload_n 2, 1) := by decide +kernel
theorem dX6_figures_47 : decode cX6_figures 47 = .ok (.invokevirtual 264, 3) := by decide +kernel
theorem dX6_figures_50 : decode cX6_figures 50 = .ok (.aload_n 0, 1) := by decide +kernel
theorem dX6_figures_51 : decode cX6_figures 51 = .ok (.getfield 50, 3) := by decide +kernel
theorem dX6_figures_54 : decode cX6_figures 54 = .ok (.getfield 263, 3) := by decide +kernel
theorem dX6_figures_57 : decode cX6_figures 57 = .ok (.ireturn, 1) := by decide +kernel
theorem dX6_out_0 : decode cX6_out 0 = .ok (.aload_n 0, 1) := by decide +kernel
theorem dX6_out_1 : decode cX6_out 1 = .ok (.getfield 50, 3) := by decide +kernel
theorem dX6_out_4 : decode cX6_out 4 = .ok (.iload_n 1, 1) := by decide +kernel
theorem dX6_out_5 : decode cX6_out 5 = .ok (.invokevirtual 267, 3) := by decide +kernel
theorem dX6_out_8 : decode cX6_out 8 = .ok (.ireturn, 1) := by decide +kernel
theorem dX6_period_0 : decode cX6_period 0 = .ok (.aload_n 0, 1) := by decide +kernel
theorem dX6_period_1 : decode cX6_period 1 = .ok (.iload_n 1, 1) := by decide +kernel
theorem dX6_period_2 : decode cX6_period 2 = .ok (.invokevirtual 86, 3) := by decide +kernel
theorem dX6_period_5 : decode cX6_period 5 = .ok (.astore_n 3, 1) := by decide +kernel
theorem dX6_period_6 : decode cX6_period 6 = .ok (.aload_n 3, 1) := by decide +kernel
theorem dX6_period_7 : decode cX6_period 7 = .ok (.ifnull 12, 3) := by decide +kernel
theorem dX6_period_10 : decode cX6_period 10 = .ok (.iload_n 2, 1) := by decide +kernel
theorem dX6_period_11 : decode cX6_period 11 = .ok (.ifCond .lt 8, 3) := by decide +kernel
theorem dX6_period_14 : decode cX6_period 14 = .ok (.iload_n 2, 1) := by decide +kernel
theorem dX6_period_15 : decode cX6_period 15 = .ok (.iconst 1, 1) := by decide +kernel
theorem dX6_period_16 : decode cX6_period 16 = .ok (.if_icmp .le 5, 3) := by decide +kernel
theorem dX6_period_19 : decode cX6_period 19 = .ok (.iconst (-1), 1) := by decide +kernel
theorem dX6_period_20 : decode cX6_period 20 = .ok (.ireturn, 1) := by decide +kernel
theorem dX6_period_21 : decode cX6_period 21 = .ok (.aload_n 0, 1) := by decide +kernel
theorem dX6_period_22 : decode cX6_period 22 = .ok (.getfield 29, 3) := by decide +kernel
theorem dX6_period_25 : decode cX6_period 25 = .ok (.getfield 271, 3) := by decide +kernel
theorem dX6_period_28 : decode cX6_period 28 = .ok (.astore 4, 2) := by decide +kernel
theorem dX6_period_30 : decode cX6_period 30 = .ok (.aload 4, 2) := by decide +kernel
theorem dX6_period_32 : decode cX6_period 32 = .ok (.aload_n 3, 1) := by decide +kernel
theorem dX6_period_33 : decode cX6_period 33 = .ok (.getfield 141, 3) := by decide +kernel
theorem dX6_period_36 : decode cX6_period 36 = .ok (.invokevirtual 274, 3) := by decide +kernel
theorem dX6_period_39 : decode cX6_period 39 = .ok (.aload_n 0, 1) := by decide +kernel
theorem dX6_period_40 : decode cX6_period 40 = .ok (.getfield 29, 3) := by decide +kernel
theorem dX6_period_43 : decode cX6_period 43 = .ok (.aload 4, 2) := by decide +kernel
theorem dX6_period_45 : decode cX6_period 45 = .ok (.iconst 2, 1) := by decide +kernel
theorem dX6_period_46 : decode cX6_period 46 = .ok (.invokevirtual 276, 3) := by decide +kernel
theorem dX6_period_49 : decode cX6_period 49 = .ok (.istore 5, 2) := by decide +kernel
theorem dX6_period_51 : decode cX6_period 51 = .ok (.aload_n 0, 1) := by decide +kernel
theorem dX6_period_52 : decode cX6_period 52 = .ok (.getfield 29, 3) := by decide +kernel
theorem dX6_period_55 : decode cX6_period 55 = .ok (.aload 4, 2) := by decide +kernel
theorem dX6_period_57 : decode cX6_period 57 = .ok (.iconst 5, 1) := by decide +kernel
theorem dX6_period_58 : decode cX6_period 58 = .ok (.invokevirtual 276, 3) := by decide +kernel
theorem dX6_period_61 : decode cX6_period 61 = .ok (.istore 6, 2) := by decide +kernel
theorem dX6_period_63 : decode cX6_period 63 = .ok (.aload 4, 2) := by decide +kernel
theorem dX6_period_65 : decode cX6_period 65 = .ok (.ldc2_w 280, 3) := by decide +kernel
theorem dX6_period_68 : decode cX6_period 68 = .ok (.invokevirtual 182, 3) := by decide +kernel
theorem dX6_period_71 : decode cX6_period 71 = .ok (.ifCond .eq 6, 3) := by decide +kernel
theorem dX6_period_74 : decode cX6_period 74 = .ok (.bipush (-2), 2) := by decide +kernel
theorem dX6_period_76 : decode cX6_period 76 = .ok (.ireturn, 1) := by decide +kernel
theorem dX6_period_77 : decode cX6_period 77 = .ok (.iload_n 2, 1) := by decide +kernel
theorem dX6_period_78 : decode cX6_period 78 = .ok (.ifCond .ne 13, 3) := by decide +kernel
theorem dX6_period_81 : decode cX6_period 81 = .ok (.iload 5, 2) := by decide +kernel
theorem dX6_period_83 : decode cX6_period 83 = .ok (.iload 6, 2) := by decide +kernel
theorem dX6_period_85 : decode cX6_period 85 = .ok (.invokestatic 231, 3) := by decide +kernel
theorem dX6_period_88 : decode cX6_period 88 = .ok (.goto 12, 3) := by decide +kernel
theorem dX6_period_91 : decode cX6_period 91 = .ok (.aload 4, 2) := by decide +kernel
theorem dX6_period_93 : decode cX6_period 93 = .ok (.invokevirtual 207, 3) := by decide +kernel
theorem dX6_period_96 : decode cX6_period 96 = .ok (.l2i, 1) := by decide +kernel
theorem dX6_period_97 : decode cX6_period 97 = .ok (.invokestatic 282, 3) := by decide +kernel
theorem dX6_period_100 : decode cX6_period 100 = .ok (.ireturn, 1) := by decide +kernel
theorem dX6_find_0 : decode cX6_find 0 = .ok (.iload_n 1, 1) := by decide +kernel
theorem dX6_find_1 : decode cX6_find 1 = .ok (.ifCond .lt 27, 3) := by decide +kernel
theorem dX6_find_4 : decode cX6_find 4 = .ok (.iload_n 1, 1) := by decide +kernel
theorem dX6_find_5 : decode cX6_find 5 = .ok (.bipush 24, 2) := by decide +kernel
theorem dX6_find_7 : decode cX6_find 7 = .ok (.if_icmp .ge 21, 3) := by decide +kernel
theorem dX6_find_10 : decode cX6_find 10 = .ok (.aload_n 0, 1) := by decide +kernel
theorem dX6_find_11 : decode cX6_find 11 = .ok (.getfield 15, 3) := by decide +kernel
theorem dX6_find_14 : decode cX6_find 14 = .ok (.iload_n 1, 1) := by decide +kernel
theorem dX6_find_15 : decode cX6_find 15 = .ok (.baload, 1) := by decide +kernel
theorem dX6_find_16 : decode cX6_find 16 = .ok (.ifCond .eq 12, 3) := by decide +kernel
theorem dX6_find_19 : decode cX6_find 19 = .ok (.aload_n 0, 1) := by decide +kernel
theorem dX6_find_20 : decode cX6_find 20 = .ok (.getfield 11, 3) := by decide +kernel
theorem dX6_find_23 : decode cX6_find 23 = .ok (.iload_n 1, 1) := by decide +kernel
theorem dX6_find_24 : decode cX6_find 24 = .ok (.aaload, 1) := by decide +kernel
theorem dX6_find_25 : decode cX6_find 25 = .ok (.goto 4, 3) := by decide +kernel
theorem dX6_find_28 : decode cX6_find 28 = .ok (.aconst_null, 1) := by decide +kernel
theorem dX6_find_29 : decode cX6_find 29 = .ok (.areturn, 1) := by decide +kernel
theorem dX6_isFull_0 : decode cX6_isFull 0 = .ok (.aload_n 0, 1) := by decide +kernel
theorem dX6_isFull_1 : decode cX6_isFull 1 = .ok (.getfield 22, 3) := by decide +kernel
theorem dX6_isFull_4 : decode cX6_isFull 4 = .ok (.bipush 24, 2) := by decide +kernel
theorem dX6_isFull_6 : decode cX6_isFull 6 = .ok (.if_icmp .lt 7, 3) := by decide +kernel
theorem dX6_isFull_9 : decode cX6_isFull 9 = .ok (.iconst 1, 1) := by decide +kernel
theorem dX6_isFull_10 : decode cX6_isFull 10 = .ok (.goto 4, 3) := by decide +kernel
theorem dX6_isFull_13 : decode cX6_isFull 13 = .ok (.iconst 0, 1) := by decide +kernel
theorem dX6_isFull_14 : decode cX6_isFull 14 = .ok (.ireturn, 1) := by decide +kernel
theorem dX6_keep_0 : decode cX6_keep 0 = .ok (.aload_n 0, 1) := by decide +kernel
theorem dX6_keep_1 : decode cX6_keep 1 = .ok (.getfield 29, 3) := by decide +kernel
theorem dX6_keep_4 : decode cX6_keep 4 = .ok (.invokevirtual 285, 3) := by decide +kernel
theorem dX6_keep_7 : decode cX6_keep 7 = .ok (.aload_n 0, 1) := by decide +kernel
theorem dX6_keep_8 : decode cX6_keep 8 = .ok (.getfield 29, 3) := by decide +kernel
theorem dX6_keep_11 : decode cX6_keep 11 = .ok (.getfield 58, 3) := by decide +kernel
theorem dX6_keep_14 : decode cX6_keep 14 = .ok (.invokevirtual 288, 3) := by decide +kernel
theorem dX6_keep_17 : decode cX6_keep 17 = .ok (.ifCond .eq 6, 3) := by decide +kernel
theorem dX6_keep_20 : decode cX6_keep 20 = .ok (.bipush (-4), 2) := by decide +kernel
theorem dX6_keep_22 : decode cX6_keep 22 = .ok (.ireturn, 1) := by decide +kernel
theorem dX6_keep_23 : decode cX6_keep 23 = .ok (.iconst 0, 1) := by decide +kernel
theorem dX6_keep_24 : decode cX6_keep 24 = .ok (.istore_n 1, 1) := by decide +kernel
theorem dX6_keep_25 : decode cX6_keep 25 = .ok (.iload_n 1, 1) := by decide +kernel
theorem dX6_keep_26 : decode cX6_keep 26 = .ok (.bipush 24, 2) := by decide +kernel
theorem dX6_keep_28 : decode cX6_keep 28 = .ok (.if_icmp .ge 53, 3) := by decide +kernel
theorem dX6_keep_31 : decode cX6_keep 31 = .ok (.aload_n 0, 1) := by decide +kernel
theorem dX6_keep_32 : decode cX6_keep 32 = .ok (.getfield 15, 3) := by decide +kernel
theorem dX6_keep_35 : decode cX6_keep 35 = .ok (.iload_n 1, 1) := by decide +kernel
theorem dX6_keep_36 : decode cX6_keep 36 = .ok (.baload, 1) := by decide +kernel
theorem dX6_keep_37 : decode cX6_keep 37 = .ok (.ifCond .ne 38, 3) := by decide +kernel
theorem dX6_keep_40 : decode cX6_keep 40 = .ok (.aload_n 0, 1) := by decide +kernel
theorem dX6_keep_41 : decode cX6_keep 41 = .ok (.getfield 11, 3) := by decide +kernel
theorem dX6_keep_44 : decode cX6_keep 44 = .ok (.iload_n 1, 1) := by decide +kernel
theorem dX6_keep_45 : decode cX6_keep 45 = .ok (.aaload, 1) := by decide +kernel
theorem dX6_keep_46 : decode cX6_keep 46 = .ok (.aload_n 0, 1) := by decide +kernel
theorem dX6_keep_47 : decode cX6_keep 47 = .ok (.getfield 29, 3) := by decide +kernel
theorem dX6_keep_50 : decode cX6_keep 50 = .ok (.getfield 58, 3) := by decide +kernel
theorem dX6_keep_53 : decode cX6_keep 53 = .ok (.invokevirtual 190, 3) := by decide +kernel
theorem dX6_keep_56 : decode cX6_keep 56 = .ok (.aload_n 0, 1) := by decide +kernel
theorem dX6_keep_57 : decode cX6_keep 57 = .ok (.getfield 15, 3) := by decide +kernel
theorem dX6_keep_60 : decode cX6_keep 60 = .ok (.iload_n 1, 1) := by decide +kernel
theorem dX6_keep_61 : decode cX6_keep 61 = .ok (.iconst 1, 1) := by decide +kernel
theorem dX6_keep_62 : decode cX6_keep 62 = .ok (.bastore, 1) := by decide +kernel
theorem dX6_keep_63 : decode cX6_keep 63 = .ok (.aload_n 0, 1) := by decide +kernel
theorem dX6_keep_64 : decode cX6_keep 64 = .ok (.dup, 1) := by decide +kernel
theorem dX6_keep_65 : decode cX6_keep 65 = .ok (.getfield 22, 3) := by decide +kernel
theorem dX6_keep_68 : decode cX6_keep 68 = .ok (.iconst 1, 1) := by decide +kernel
theorem dX6_keep_69 : decode cX6_keep 69 = .ok (.iadd, 1) := by decide +kernel
theorem dX6_keep_70 : decode cX6_keep 70 = .ok (.putfield 22, 3) := by decide +kernel
theorem dX6_keep_73 : decode cX6_keep 73 = .ok (.iload_n 1, 1) := by decide +kernel
theorem dX6_keep_74 : decode cX6_keep 74 = .ok (.ireturn, 1) := by decide +kernel
theorem dX6_keep_75 : decode cX6_keep 75 = .ok (.iinc 1 1, 3) := by decide +kernel
theorem dX6_keep_78 : decode cX6_keep 78 = .ok (.goto (-53), 3) := by decide +kernel
theorem dX6_keep_81 : decode cX6_keep 81 = .ok (.bipush (-3), 2) := by decide +kernel
theorem dX6_keep_83 : decode cX6_keep 83 = .ok (.ireturn, 1) := by decide +kernel
theorem dX6_orderOfTen_0 : decode cX6_orderOfTen 0 = .ok (.iload_n 0, 1) := by decide +kernel
theorem dX6_orderOfTen_1 : decode cX6_orderOfTen 1 = .ok (.iconst 2, 1) := by decide +kernel
theorem dX6_orderOfTen_2 : decode cX6_orderOfTen 2 = .ok (.if_icmp .ge 5, 3) := by decide +kernel
theorem dX6_orderOfTen_5 : decode cX6_orderOfTen 5 = .ok (.iconst 0, 1) := by decide +kernel
theorem dX6_orderOfTen_6 : decode cX6_orderOfTen 6 = .ok (.ireturn, 1) := by decide +kernel
theorem dX6_orderOfTen_7 : decode cX6_orderOfTen 7 = .ok (.iload_n 0, 1) := by decide +kernel
theorem dX6_orderOfTen_8 : decode cX6_orderOfTen 8 = .ok (.invokestatic 291, 3) := by decide +kernel
theorem dX6_orderOfTen_11 : decode cX6_orderOfTen 11 = .ok (.istore_n 1, 1) := by decide +kernel
theorem dX6_orderOfTen_12 : decode cX6_orderOfTen 12 = .ok (.iload_n 1, 1) := by decide +kernel
theorem dX6_orderOfTen_13 : decode cX6_orderOfTen 13 = .ok (.istore_n 2, 1) := by decide +kernel
theorem dX6_orderOfTen_14 : decode cX6_orderOfTen 14 = .ok (.iconst 0, 1) := by decide +kernel
theorem dX6_orderOfTen_15 : decode cX6_orderOfTen 15 = .ok (.istore_n 3, 1) := by decide +kernel
theorem dX6_orderOfTen_16 : decode cX6_orderOfTen 16 = .ok (.iload_n 3, 1) := by decide +kernel
theorem dX6_orderOfTen_17 : decode cX6_orderOfTen 17 = .ok (.bipush 32, 2) := by decide +kernel
theorem dX6_orderOfTen_19 : decode cX6_orderOfTen 19 = .ok (.if_icmp .ge 42, 3) := by decide +kernel
theorem dX6_orderOfTen_22 : decode cX6_orderOfTen 22 = .ok (.iload_n 2, 1) := by decide +kernel
theorem dX6_orderOfTen_23 : decode cX6_orderOfTen 23 = .ok (.iconst 1, 1) := by decide +kernel
theorem dX6_orderOfTen_24 : decode cX6_orderOfTen 24 = .ok (.if_icmp .le 37, 3) := by decide +kernel
theorem dX6_orderOfTen_27 : decode cX6_orderOfTen 27 = .ok (.iload_n 2, 1) := by decide +kernel
theorem dX6_orderOfTen_28 : decode cX6_orderOfTen 28 = .ok (.invokestatic 294, 3) := by decide +kernel
theorem dX6_orderOfTen_31 : decode cX6_orderOfTen 31 = .ok (.istore 4, 2) := by decide +kernel
theorem dX6_orderOfTen_33 : decode cX6_orderOfTen 33 = .ok (.iload_n 2, 1) := by decide +kernel
theorem dX6_orderOfTen_34 : decode cX6_orderOfTen 34 = .ok (.iload 4, 2) := by decide +kernel
theorem dX6_orderOfTen_36 : decode cX6_orderOfTen 36 = .ok (.idiv, 1) := by decide +kernel
theorem dX6_orderOfTen_37 : decode cX6_orderOfTen 37 = .ok (.istore_n 2, 1) := by decide +kernel
theorem dX6_orderOfTen_38 : decode cX6_orderOfTen 38 = .ok (.iload_n 1, 1) := by decide +kernel
theorem dX6_orderOfTen_39 : decode cX6_orderOfTen 39 = .ok (.iload 4, 2) := by decide +kernel
theorem dX6_orderOfTen_41 : decode cX6_orderOfTen 41 = .ok (.idiv, 1) := by decide +kernel
theorem dX6_orderOfTen_42 : decode cX6_orderOfTen 42 = .ok (.iload_n 0, 1) := by decide +kernel
theorem dX6_orderOfTen_43 : decode cX6_orderOfTen 43 = .ok (.invokestatic 297, 3) := by decide +kernel
theorem dX6_orderOfTen_46 : decode cX6_orderOfTen 46 = .ok (.iconst 1, 1) := by decide +kernel
theorem dX6_orderOfTen_47 : decode cX6_orderOfTen 47 = .ok (.if_icmp .ne 8, 3) := by decide +kernel
theorem dX6_orderOfTen_50 : decode cX6_orderOfTen 50 = .ok (.iload_n 1, 1) := by decide +kernel
theorem dX6_orderOfTen_51 : decode cX6_orderOfTen 51 = .ok (.iload 4, 2) := by decide +kernel
theorem dX6_orderOfTen_53 : decode cX6_orderOfTen 53 = .ok (.idiv, 1) := by decide +kernel
theorem dX6_orderOfTen_54 : decode cX6_orderOfTen 54 = .ok (.istore_n 1, 1) := by decide +kernel
theorem dX6_orderOfTen_55 : decode cX6_orderOfTen 55 = .ok (.iinc 3 1, 3) := by decide +kernel
theorem dX6_orderOfTen_58 : decode cX6_orderOfTen 58 = .ok (.goto (-42), 3) := by decide +kernel
theorem dX6_orderOfTen_61 : decode cX6_orderOfTen 61 = .ok (.iload_n 1, 1) := by decide +kernel
theorem dX6_orderOfTen_62 : decode cX6_orderOfTen 62 = .ok (.ireturn, 1) := by decide +kernel
theorem dX6_totient_0 : decode cX6_totient 0 = .ok (.iload_n 0, 1) := by decide +kernel
theorem dX6_totient_1 : decode cX6_totient 1 = .ok (.istore_n 1, 1) := by decide +kernel
theorem dX6_totient_2 : decode cX6_totient 2 = .ok (.iload_n 0, 1) := by decide +kernel
theorem dX6_totient_3 : decode cX6_totient 3 = .ok (.istore_n 2, 1) := by decide +kernel
theorem dX6_totient_4 : decode cX6_totient 4 = .ok (.iconst 1, 1) := by decide +kernel
theorem dX6_totient_5 : decode cX6_totient 5 = .ok (.istore_n 3, 1) := by decide +kernel
theorem dX6_totient_6 : decode cX6_totient 6 = .ok (.iconst 0, 1) := by decide +kernel
theorem dX6_totient_7 : decode cX6_totient 7 = .ok (.istore 4, 2) := by decide +kernel
theorem dX6_totient_9 : decode cX6_totient 9 = .ok (.iload 4, 2) := by decide +kernel
theorem dX6_totient_11 : decode cX6_totient 11 = .ok (.bipush 32, 2) := by decide +kernel
theorem dX6_totient_13 : decode cX6_totient 13 = .ok (.if_icmp .ge 41, 3) := by decide +kernel
theorem dX6_totient_16 : decode cX6_totient 16 = .ok (.iload_n 2, 1) := by decide +kernel
theorem dX6_totient_17 : decode cX6_totient 17 = .ok (.iconst 1, 1) := by decide +kernel
theorem dX6_totient_18 : decode cX6_totient 18 = .ok (.if_icmp .le 36, 3) := by decide +kernel
theorem dX6_totient_21 : decode cX6_totient 21 = .ok (.iload_n 2, 1) := by decide +kernel
theorem dX6_totient_22 : decode cX6_totient 22 = .ok (.invokestatic 294, 3) := by decide +kernel
theorem dX6_totient_25 : decode cX6_totient 25 = .ok (.istore 5, 2) := by decide +kernel
theorem dX6_totient_27 : decode cX6_totient 27 = .ok (.iload 5, 2) := by decide +kernel
theorem dX6_totient_29 : decode cX6_totient 29 = .ok (.iload_n 3, 1) := by decide +kernel
theorem dX6_totient_30 : decode cX6_totient 30 = .ok (.if_icmp .eq 10, 3) := by decide +kernel
theorem dX6_totient_33 : decode cX6_totient 33 = .ok (.iload_n 1, 1) := by decide +kernel
theorem dX6_totient_34 : decode cX6_totient 34 = .ok (.iload_n 1, 1) := by decide +kernel
theorem dX6_totient_35 : decode cX6_totient 35 = .ok (.iload 5, 2) := by decide +kernel
theorem dX6_totient_37 : decode cX6_totient 37 = .ok (.idiv, 1) := by decide +kernel
theorem dX6_totient_38 : decode cX6_totient 38 = .ok (.isub, 1) := by decide +kernel
theorem dX6_totient_39 : decode cX6_totient 39 = .ok (.istore_n 1, 1) := by decide +kernel
theorem dX6_totient_40 : decode cX6_totient 40 = .ok (.iload_n 2, 1) := by decide +kernel
theorem dX6_totient_41 : decode cX6_totient 41 = .ok (.iload 5, 2) := by decide +kernel
theorem dX6_totient_43 : decode cX6_totient 43 = .ok (.idiv, 1) := by decide +kernel
theorem dX6_totient_44 : decode cX6_totient 44 = .ok (.istore_n 2, 1) := by decide +kernel
theorem dX6_totient_45 : decode cX6_totient 45 = .ok (.iload 5, 2) := by decide +kernel
theorem dX6_totient_47 : decode cX6_totient 47 = .ok (.istore_n 3, 1) := by decide +kernel
theorem dX6_totient_48 : decode cX6_totient 48 = .ok (.iinc 4 1, 3) := by decide +kernel
theorem dX6_totient_51 : decode cX6_totient 51 = .ok (.goto (-42), 3) := by decide +kernel
theorem dX6_totient_54 : decode cX6_totient 54 = .ok (.iload_n 1, 1) := by decide +kernel
theorem dX6_totient_55 : decode cX6_totient 55 = .ok (.ireturn, 1) := by decide +kernel
theorem dX6_leastFactor_0 : decode cX6_leastFactor 0 = .ok (.iconst 2, 1) := by decide +kernel
theorem dX6_leastFactor_1 : decode cX6_leastFactor 1 = .ok (.istore_n 1, 1) := by decide +kernel
theorem dX6_leastFactor_2 : decode cX6_leastFactor 2 = .ok (.iload_n 1, 1) := by decide +kernel
theorem dX6_leastFactor_3 : decode cX6_leastFactor 3 = .ok (.iload_n 0, 1) := by decide +kernel
theorem dX6_leastFactor_4 : decode cX6_leastFactor 4 = .ok (.iload_n 1, 1) := by decide +kernel
theorem dX6_leastFactor_5 : decode cX6_leastFactor 5 = .ok (.idiv, 1) := by decide +kernel
theorem dX6_leastFactor_6 : decode cX6_leastFactor 6 = .ok (.if_icmp .gt 17, 3) := by decide +kernel
theorem dX6_leastFactor_9 : decode cX6_leastFactor 9 = .ok (.iload_n 0, 1) := by decide +kernel
theorem dX6_leastFactor_10 : decode cX6_leastFactor 10 = .ok (.iload_n 1, 1) := by decide +kernel
theorem dX6_leastFactor_11 : decode cX6_leastFactor 11 = .ok (.irem, 1) := by decide +kernel
theorem dX6_leastFactor_12 : decode cX6_leastFactor 12 = .ok (.ifCond .ne 5, 3) := by decide +kernel
theorem dX6_leastFactor_15 : decode cX6_leastFactor 15 = .ok (.iload_n 1, 1) := by decide +kernel
theorem dX6_leastFactor_16 : decode cX6_leastFactor 16 = .ok (.ireturn, 1) := by decide +kernel
theorem dX6_leastFactor_17 : decode cX6_leastFactor 17 = .ok (.iinc 1 1, 3) := by decide +kernel
theorem dX6_leastFactor_20 : decode cX6_leastFactor 20 = .ok (.goto (-18), 3) := by decide +kernel
theorem dX6_leastFactor_23 : decode cX6_leastFactor 23 = .ok (.iload_n 0, 1) := by decide +kernel
theorem dX6_leastFactor_24 : decode cX6_leastFactor 24 = .ok (.iconst 2, 1) := by decide +kernel
theorem dX6_leastFactor_25 : decode cX6_leastFactor 25 = .ok (.invokestatic 231, 3) := by decide +kernel
theorem dX6_leastFactor_28 : decode cX6_leastFactor 28 = .ok (.ireturn, 1) := by decide +kernel
theorem dX6_tenToThe_0 : decode cX6_tenToThe 0 = .ok (.iload_n 1, 1) := by decide +kernel
theorem dX6_tenToThe_1 : decode cX6_tenToThe 1 = .ok (.iconst 1, 1) := by decide +kernel
theorem dX6_tenToThe_2 : decode cX6_tenToThe 2 = .ok (.if_icmp .ge 5, 3) := by decide +kernel
theorem dX6_tenToThe_5 : decode cX6_tenToThe 5 = .ok (.iconst 0, 1) := by decide +kernel
theorem dX6_tenToThe_6 : decode cX6_tenToThe 6 = .ok (.ireturn, 1) := by decide +kernel
theorem dX6_tenToThe_7 : decode cX6_tenToThe 7 = .ok (.iconst 1, 1) := by decide +kernel
theorem dX6_tenToThe_8 : decode cX6_tenToThe 8 = .ok (.iload_n 1, 1) := by decide +kernel
theorem dX6_tenToThe_9 : decode cX6_tenToThe 9 = .ok (.irem, 1) := by decide +kernel
theorem dX6_tenToThe_10 : decode cX6_tenToThe 10 = .ok (.i2l, 1) := by decide +kernel
theorem dX6_tenToThe_11 : decode cX6_tenToThe 11 = .ok (.lstore_n 2, 1) := by decide +kernel
theorem dX6_tenToThe_12 : decode cX6_tenToThe 12 = .ok (.bipush 10, 2) := by decide +kernel
theorem dX6_tenToThe_14 : decode cX6_tenToThe 14 = .ok (.iload_n 1, 1) := by decide +kernel
theorem dX6_tenToThe_15 : decode cX6_tenToThe 15 = .ok (.irem, 1) := by decide +kernel
theorem dX6_tenToThe_16 : decode cX6_tenToThe 16 = .ok (.i2l, 1) := by decide +kernel
theorem dX6_tenToThe_17 : decode cX6_tenToThe 17 = .ok (.lstore 4, 2) := by decide +kernel
theorem dX6_tenToThe_19 : decode cX6_tenToThe 19 = .ok (.iload_n 0, 1) := by decide +kernel
theorem dX6_tenToThe_20 : decode cX6_tenToThe 20 = .ok (.istore 6, 2) := by decide +kernel
theorem dX6_tenToThe_22 : decode cX6_tenToThe 22 = .ok (.iload 6, 2) := by decide +kernel
theorem dX6_tenToThe_24 : decode cX6_tenToThe 24 = .ok (.ifCond .le 38, 3) := by decide +kernel
theorem dX6_tenToThe_27 : decode cX6_tenToThe 27 = .ok (.iload 6, 2) := by decide +kernel
theorem dX6_tenToThe_29 : decode cX6_tenToThe 29 = .ok (.iconst 1, 1) := by decide +kernel
theorem dX6_tenToThe_30 : decode cX6_tenToThe 30 = .ok (.iand, 1) := by decide +kernel
theorem dX6_tenToThe_31 : decode cX6_tenToThe 31 = .ok (.iconst 1, 1) := by decide +kernel
theorem dX6_tenToThe_32 : decode cX6_tenToThe 32 = .ok (.if_icmp .ne 11, 3) := by decide +kernel
theorem dX6_tenToThe_35 : decode cX6_tenToThe 35 = .ok (.lload_n 2, 1) := by decide +kernel
theorem dX6_tenToThe_36 : decode cX6_tenToThe 36 = .ok (.lload 4, 2) := by decide +kernel
theorem dX6_tenToThe_38 : decode cX6_tenToThe 38 = .ok (.lmul, 1) := by decide +kernel
theorem dX6_tenToThe_39 : decode cX6_tenToThe 39 = .ok (.iload_n 1, 1) := by decide +kernel
theorem dX6_tenToThe_40 : decode cX6_tenToThe 40 = .ok (.i2l, 1) := by decide +kernel
theorem dX6_tenToThe_41 : decode cX6_tenToThe 41 = .ok (.lrem, 1) := by decide +kernel
theorem dX6_tenToThe_42 : decode cX6_tenToThe 42 = .ok (.lstore_n 2, 1) := by decide +kernel
theorem dX6_tenToThe_43 : decode cX6_tenToThe 43 = .ok (.lload 4, 2) := by decide +kernel
theorem dX6_tenToThe_45 : decode cX6_tenToThe 45 = .ok (.lload 4, 2) := by decide +kernel
theorem dX6_tenToThe_47 : decode cX6_tenToThe 47 = .ok (.lmul, 1) := by decide +kernel
theorem dX6_tenToThe_48 : decode cX6_tenToThe 48 = .ok (.iload_n 1, 1) := by decide +kernel
theorem dX6_tenToThe_49 : decode cX6_tenToThe 49 = .ok (.i2l, 1) := by decide +kernel
theorem dX6_tenToThe_50 : decode cX6_tenToThe 50 = .ok (.lrem, 1) := by decide +kernel
theorem dX6_tenToThe_51 : decode cX6_tenToThe 51 = .ok (.lstore 4, 2) := by decide +kernel
theorem dX6_tenToThe_53 : decode cX6_tenToThe 53 = .ok (.iload 6, 2) := by decide +kernel
theorem dX6_tenToThe_55 : decode cX6_tenToThe 55 = .ok (.iconst 1, 1) := by decide +kernel
theorem dX6_tenToThe_56 : decode cX6_tenToThe 56 = .ok (.ishr, 1) := by decide +kernel
theorem dX6_tenToThe_57 : decode cX6_tenToThe 57 = .ok (.istore 6, 2) := by decide +kernel
theorem dX6_tenToThe_59 : decode cX6_tenToThe 59 = .ok (.goto (-37), 3) := by decide +kernel
theorem dX6_tenToThe_62 : decode cX6_tenToThe 62 = .ok (.lload_n 2, 1) := by decide +kernel
theorem dX6_tenToThe_63 : decode cX6_tenToThe 63 = .ok (.l2i, 1) := by decide +kernel
theorem dX6_tenToThe_64 : decode cX6_tenToThe 64 = .ok (.ireturn, 1) := by decide +kernel
theorem dX7_init_0 : decode cX7_init 0 = .ok (.aload_n 0, 1) := by decide +kernel
theorem dX7_init_1 : decode cX7_init 1 = .ok (.invokespecial 1, 3) := by decide +kernel
theorem dX7_init_4 : decode cX7_init 4 = .ok (.aload_n 0, 1) := by decide +kernel
theorem dX7_init_5 : decode cX7_init 5 = .ok (.bipush 24, 2) := by decide +kernel
theorem dX7_init_7 : decode cX7_init 7 = .ok (.newarray .boolean, 2) := by decide +kernel
theorem dX7_init_9 : decode cX7_init 9 = .ok (.putfield 7, 3) := by decide +kernel
theorem dX7_init_12 : decode cX7_init 12 = .ok (.aload_n 0, 1) := by decide +kernel
theorem dX7_init_13 : decode cX7_init 13 = .ok (.bipush 24, 2) := by decide +kernel
theorem dX7_init_15 : decode cX7_init 15 = .ok (.newarray .int, 2) := by decide +kernel
theorem dX7_init_17 : decode cX7_init 17 = .ok (.putfield 13, 3) := by decide +kernel
theorem dX7_init_20 : decode cX7_init 20 = .ok (.aload_n 0, 1) := by decide +kernel
theorem dX7_init_21 : decode cX7_init 21 = .ok (.sipush 768, 3) := by decide +kernel
theorem dX7_init_24 : decode cX7_init 24 = .ok (.newarray .long, 2) := by decide +kernel
theorem dX7_init_26 : decode cX7_init 26 = .ok (.putfield 17, 3) := by decide +kernel
theorem dX7_init_29 : decode cX7_init 29 = .ok (.aload_n 0, 1) := by decide +kernel
theorem dX7_init_30 : decode cX7_init 30 = .ok (.bipush 48, 2) := by decide +kernel
theorem dX7_init_32 : decode cX7_init 32 = .ok (.newarray .int, 2) := by decide +kernel
theorem dX7_init_34 : decode cX7_init 34 = .ok (.putfield 21, 3) := by decide +kernel
theorem dX7_init_37 : decode cX7_init 37 = .ok (.aload_n 0, 1) := by decide +kernel
theorem dX7_init_38 : decode cX7_init 38 = .ok (.sipush 400, 3) := by decide +kernel
theorem dX7_init_41 : decode cX7_init 41 = .ok (.newarray .int, 2) := by decide +kernel
theorem dX7_init_43 : decode cX7_init 43 = .ok (.putfield 24, 3) := by decide +kernel
theorem dX7_init_46 : decode cX7_init 46 = .ok (.aload_n 0, 1) := by decide +kernel
theorem dX7_init_47 : decode cX7_init 47 = .ok (.sipush 800, 3) := by decide +kernel
theorem dX7_init_50 : decode cX7_init 50 = .ok (.newarray .int, 2) := by decide +kernel
theorem dX7_init_52 : decode cX7_init 52 = .ok (.putfield 27, 3) := by decide +kernel
theorem dX7_init_55 : decode cX7_init 55 = .ok (.aload_n 0, 1) := by decide +kernel
theorem dX7_init_56 : decode cX7_init 56 = .ok (.sipush 1728, 3) := by decide +kernel
theorem dX7_init_59 : decode cX7_init 59 = .ok (.newarray .long, 2) := by decide +kernel
theorem dX7_init_61 : decode cX7_init 61 = .ok (.putfield 30, 3) := by decide +kernel
theorem dX7_init_64 : decode cX7_init 64 = .ok (.aload_n 0, 1) := by decide +kernel
theorem dX7_init_65 : decode cX7_init 65 = .ok (.bipush 24, 2) := by decide +kernel
theorem dX7_init_67 : decode cX7_init 67 = .ok (.newarray .int, 2) := by decide +kernel
theorem dX7_init_69 : decode cX7_init 69 = .ok (.putfield 33, 3) := by decide +kernel
theorem dX7_init_72 : decode cX7_init 72 = .ok (.aload_n 0, 1) := by decide +kernel
theorem dX7_init_73 : decode cX7_init 73 = .ok (.sipush 400, 3) := by decide +kernel
theorem dX7_init_76 : decode cX7_init 76 = .ok (.newarray .int, 2) := by decide +kernel
theorem dX7_init_78 : decode cX7_init 78 = .ok (.putfield 36, 3) := by decide +kernel
theorem dX7_init_81 : decode cX7_init 81 = .ok (.aload_n 0, 1) := by decide +kernel
theorem dX7_init_82 : decode cX7_init 82 = .ok (.iconst 0, 1) := by decide +kernel
theorem dX7_init_83 : decode cX7_init 83 = .ok (.putfield 39, 3) := by decide +kernel
theorem dX7_init_86 : decode cX7_init 86 = .ok (.return_, 1) := by decide +kernel
theorem dX7_thrown_0 : decode cX7_thrown 0 = .ok (.aload_n 0, 1) := by decide +kernel
theorem dX7_thrown_1 : decode cX7_thrown 1 = .ok (.getfield 43, 3) := by decide +kernel
theorem dX7_thrown_4 : decode cX7_thrown 4 = .ok (.ireturn, 1) := by decide +kernel
theorem dX7_in_0 : decode cX7_in 0 = .ok (.lload_n 0, 1) := by decide +kernel
theorem dX7_in_1 : decode cX7_in 1 = .ok (.lload_n 2, 1) := by decide +kernel
theorem dX7_in_2 : decode cX7_in 2 = .ok (.lcmp, 1) := by decide +kernel
theorem dX7_in_3 : decode cX7_in 3 = .ok (.ifCond .lt 14, 3) := by decide +kernel
theorem dX7_in_6 : decode cX7_in 6 = .ok (.lload_n 0, 1) := by decide +kernel
theorem dX7_in_7 : decode cX7_in 7 = .ok (.lload 4, 2) := by decide +kernel
theorem dX7_in_9 : decode cX7_in 9 = .ok (.lcmp, 1) := by decide +kernel
theorem dX7_in_10 : decode cX7_in 10 = .ok (.ifCond .gt 7, 3) := by decide +kernel
theorem dX7_in_13 : decode cX7_in 13 = .ok (.iconst 1, 1) := by decide +kernel
theorem dX7_in_14 : decode cX7_in 14 = .ok (.goto 4, 3) := by decide +kernel
theorem dX7_in_17 : decode cX7_in 17 = .ok (.iconst 0, 1) := by decide +kernel
theorem dX7_in_18 : decode cX7_in 18 = .ok (.ireturn, 1) := by decide +kernel
theorem dX7_trim_0 : decode cX7_trim 0 = .ok (.aload_n 0, 1) := by decide +kernel
theorem dX7_trim_1 : decode cX7_trim 1 = .ok (.getfield 33, 3) := by decide +kernel
theorem dX7_trim_4 : decode cX7_trim 4 = .ok (.iload_n 1, 1) := by decide +kernel
theorem dX7_trim_5 : decode cX7_trim 5 = .ok (.iaload, 1) := by decide +kernel
theorem dX7_trim_6 : decode cX7_trim 6 = .ok (.ifCond .le 39, 3) := by decide +kernel
theorem dX7_trim_9 : decode cX7_trim 9 = .ok (.aload_n 0, 1) := by decide +kernel
theorem dX7_trim_10 : decode cX7_trim 10 = .ok (.getfield 30, 3) := by decide +kernel
theorem dX7_trim_13 : decode cX7_trim 13 = .ok (.bipush 72, 2) := by decide +kernel
theorem dX7_trim_15 : decode cX7_trim 15 = .ok (.iload_n 1, 1) := by decide +kernel
theorem dX7_trim_16 : decode cX7_trim 16 = .ok (.imul, 1) := by decide +kernel
theorem dX7_trim_17 : decode cX7_trim 17 = .ok (.aload_n 0, 1) := by decide +kernel
theorem dX7_trim_18 : decode cX7_trim 18 = .ok (.getfield 33, 3) := by decide +kernel
theorem dX7_trim_21 : decode cX7_trim 21 = .ok (.iload_n 1, 1) := by decide +kernel
theorem dX7_trim_22 : decode cX7_trim 22 = .ok (.iaload, 1) := by decide +kernel
theorem dX7_trim_23 : decode cX7_trim 23 = .ok (.iadd, 1) := by decide +kernel
theorem dX7_trim_24 : decode cX7_trim 24 = .ok (.iconst 1, 1) := by decide +kernel
theorem dX7_trim_25 : decode cX7_trim 25 = .ok (.isub, 1) := by decide +kernel
theorem dX7_trim_26 : decode cX7_trim 26 = .ok (.laload, 1) := by decide +kernel
theorem dX7_trim_27 : decode cX7_trim 27 = .ok (.lconst 0, 1) := by decide +kernel
theorem dX7_trim_28 : decode cX7_trim 28 = .ok (.lcmp, 1) := by decide +kernel
theorem dX7_trim_29 : decode cX7_trim 29 = .ok (.ifCond .ne 16, 3) := by decide +kernel
theorem dX7_trim_32 : decode cX7_trim 32 = .ok (.aload_n 0, 1) := by decide +kernel
theorem dX7_trim_33 : decode cX7_trim 33 = .ok (.getfield 33, 3) := by decide +kernel
theorem dX7_trim_36 : decode cX7_trim 36 = .ok (.iload_n 1, 1) := by decide +kernel
theorem dX7_trim_37 : decode cX7_trim 37 = .ok (.dup2, 1) := by decide +kernel
theorem dX7_trim_38 : decode cX7_trim 38 = .ok (.iaload, 1) := by decide +kernel
theorem dX7_trim_39 : decode cX7_trim 39 = .ok (.iconst 1, 1) := by decide +kernel
theorem dX7_trim_40 : decode cX7_trim 40 = .ok (.isub, 1) := by decide +kernel
theorem dX7_trim_41 : decode cX7_trim 41 = .ok (.iastore, 1) := by decide +kernel
theorem dX7_trim_42 : decode cX7_trim 42 = .ok (.goto (-42), 3) := by decide +kernel
theorem dX7_trim_45 : decode cX7_trim 45 = .ok (.return_, 1) := by decide +kernel
theorem dX7_small_0 : decode cX7_small 0 = .ok (.aload_n 0, 1) := by decide +kernel
theorem dX7_small_1 : decode cX7_small 1 = .ok (.getfield 30, 3) := by decide +kernel
theorem dX7_small_4 : decode cX7_small 4 = .ok (.bipush 72, 2) := by decide +kernel
theorem dX7_small_6 : decode cX7_small 6 = .ok (.iload_n 1, 1) := by decide +kernel
theorem dX7_small_7 : decode cX7_small 7 = .ok (.imul, 1) := by decide +kernel
theorem dX7_small_8 : decode cX7_small 8 = .ok (.lload_n 2, 1) := by decide +kernel
theorem dX7_small_9 : decode cX7_small 9 = .ok (.ldc2_w 46, 3) := by decide +kernel
theorem dX7_small_12 : decode cX7_small 12 = .ok (.land, 1) := by decide +kernel
theorem dX7_small_13 : decode cX7_small 13 = .ok (.lastore, 1) := by decide +kernel
theorem dX7_small_14 : decode cX7_small 14 = .ok (.aload_n 0, 1) := by decide +kernel
theorem dX7_small_15 : decode cX7_small 15 = .ok (.getfield 30, 3) := by decide +kernel
theorem dX7_small_18 : decode cX7_small 18 = .ok (.bipush 72, 2) := by decide +kernel
theorem dX7_small_20 : decode cX7_small 20 = .ok (.iload_n 1, 1) := by decide +kernel
theorem dX7_small_21 : decode cX7_small 21 = .ok (.imul, 1) := by decide +kernel
theorem dX7_small_22 : decode cX7_small 22 = .ok (.iconst 1, 1) := by decide +kernel
theorem dX7_small_23 : decode cX7_small 23 = .ok (.iadd, 1) := by decide +kernel
theorem dX7_small_24 : decode cX7_small 24 = .ok (.lload_n 2, 1) := by decide +kernel
theorem dX7_small_25 : decode cX7_small 25 = .ok (.bipush 32, 2) := by decide +kernel
theorem dX7_small_27 : decode cX7_small 27 = .ok (.lushr, 1) := by decide +kernel
theorem dX7_small_28 : decode cX7_small 28 = .ok (.lastore, 1) := by decide +kernel
theorem dX7_small_29 : decode cX7_small 29 = .ok (.aload_n 0, 1) := by decide +kernel
theorem dX7_small_30 : decode cX7_small 30 = .ok (.getfield 33, 3) := by decide +kernel
theorem dX7_small_33 : decode cX7_small 33 = .ok (.iload_n 1, 1) := by decide +kernel
theorem dX7_small_34 : decode cX7_small 34 = .ok (.iconst 2, 1) := by decide +kernel
theorem dX7_small_35 : decode cX7_small 35 = .ok (.iastore, 1) := by decide +kernel
theorem dX7_small_36 : decode cX7_small 36 = .ok (.aload_n 0, 1) := by decide +kernel
theorem dX7_small_37 : decode cX7_small 37 = .ok (.iload_n 1, 1) := by decide +kernel
theorem dX7_small_38 : decode cX7_small 38 = .ok (.invokevirtual 48, 3) := by decide +kernel
theorem dX7_small_41 : decode cX7_small 41 = .ok (.return_, 1) := by decide +kernel
theorem dX7_copy_0 : decode cX7_copy 0 = .ok (.iconst 0, 1) := by decide +kernel
theorem dX7_copy_1 : decode cX7_copy 1 = .ok (.istore_n 3, 1) := by decide +kernel
theorem dX7_copy_2 : decode cX7_copy 2 = .ok (.iload_n 3, 1) := by decide +kernel
theorem dX7_copy_3 : decode cX7_copy 3 = .ok (.aload_n 0, 1) := by decide +kernel
theorem dX7_copy_4 : decode cX7_copy 4 = .ok (.getfield 33, 3) := by decide +kernel
theorem dX7_copy_7 : decode cX7_copy 7 = .ok (.iload_n 2, 1) := by decide +kernel
theorem dX7_copy_8 : decode cX7_copy 8 = .ok (.iaload, 1) := by decide +kernel
theorem dX7_copy_9 : decode cX7_copy 9 = .ok (.if_icmp .ge 31, 3) := by decide +kernel
theorem dX7_copy_12 : decode cX7_copy 12 = .ok (.aload_n 0, 1) := by decide +kernel
theorem dX7_copy_13 : decode cX7_copy 13 = .ok (.getfield 30, 3) := by decide +kernel
theorem dX7_copy_16 : decode cX7_copy 16 = .ok (.bipush 72, 2) := by decide +kernel
theorem dX7_copy_18 : decode cX7_copy 18 = .ok (.iload_n 1, 1) := by decide +kernel
theorem dX7_copy_19 : decode cX7_copy 19 = .ok (.imul, 1) := by decide +kernel
theorem dX7_copy_20 : decode cX7_copy 20 = .ok (.iload_n 3, 1) := by decide +kernel
theorem dX7_copy_21 : decode cX7_copy 21 = .ok (.iadd, 1) := by decide +kernel
theorem dX7_copy_22 : decode cX7_copy 22 = .ok (.aload_n 0, 1) := by decide +kernel
theorem dX7_copy_23 : decode cX7_copy 23 = .ok (.getfield 30, 3) := by decide +kernel
theorem dX7_copy_26 : decode cX7_copy 26 = .ok (.bipush 72, 2) := by decide +kernel
theorem dX7_copy_28 : decode cX7_copy 28 = .ok (.iload_n 2, 1) := by decide +kernel
theorem dX7_copy_29 : decode cX7_copy 29 = .ok (.imul, 1) := by decide +kernel
theorem dX7_copy_30 : decode cX7_copy 30 = .ok (.iload_n 3, 1) := by decide +kernel
theorem dX7_copy_31 : decode cX7_copy 31 = .ok (.iadd, 1) := by decide +kernel
theorem dX7_copy_32 : decode cX7_copy 32 = .ok (.laload, 1) := by decide +kernel
theorem dX7_copy_33 : decode cX7_copy 33 = .ok (.lastore, 1) := by decide +kernel
theorem dX7_copy_34 : decode cX7_copy 34 = .ok (.iinc 3 1, 3) := by decide +kernel
theorem dX7_copy_37 : decode cX7_copy 37 = .ok (.goto (-35), 3) := by decide +kernel
theorem dX7_copy_40 : decode cX7_copy 40 = .ok (.aload_n 0, 1) := by decide +kernel
theorem dX7_copy_41 : decode cX7_copy 41 = .ok (.getfield 33, 3) := by decide +kernel
theorem dX7_copy_44 : decode cX7_copy 44 = .ok (.iload_n 1, 1) := by decide +kernel
theorem dX7_copy_45 : decode cX7_copy 45 = .ok (.aload_n 0, 1) := by decide +kernel
theorem dX7_copy_46 : decode cX7_copy 46 = .ok (.getfield 33, 3) := by decide +kernel
theorem dX7_copy_49 : decode cX7_copy 49 = .ok (.iload_n 2, 1) := by decide +kernel
theorem dX7_copy_50 : decode cX7_copy 50 = .ok (.iaload, 1) := by decide +kernel
theorem dX7_copy_51 : decode cX7_copy 51 = .ok (.iastore, 1) := by decide +kernel
theorem dX7_copy_52 : decode cX7_copy 52 = .ok (.return_, 1) := by decide +kernel
theorem dX7_compared_0 : decode cX7_compared 0 = .ok (.aload_n 0, 1) := by decide +kernel
theorem dX7_compared_1 : decode cX7_compared 1 = .ok (.getfield 33, 3) := by decide +kernel
theorem dX7_compared_4 : decode cX7_compared 4 = .ok (.iload_n 1, 1) := by decide +kernel
theorem dX7_compared_5 : decode cX7_compared 5 = .ok (.iaload, 1) := by decide +kernel
theorem dX7_compared_6 : decode cX7_compared 6 = .ok (.aload_n 0, 1) := by decide +kernel
theorem dX7_compared_7 : decode cX7_compared 7 = .ok (.getfield 33, 3) := by decide +kernel
theorem dX7_compared_10 : decode cX7_compared 10 = .ok (.iload_n 2, 1) := by decide +kernel
theorem dX7_compared_11 : decode cX7_compared 11 = .ok (.iaload, 1) := by decide +kernel
theorem dX7_compared_12 : decode cX7_compared 12 = .ok (.if_icmp .eq 24, 3) := by decide +kernel
theorem dX7_compared_15 : decode cX7_compared 15 = .ok (.aload_n 0, 1) := by decide +kernel
theorem dX7_compared_16 : decode cX7_compared 16 = .ok (.getfield 33, 3) := by decide +kernel
theorem dX7_compared_19 : decode cX7_compared 19 = .ok (.iload_n 1, 1) := by decide +kernel
theorem dX7_compared_20 : decode cX7_compared 20 = .ok (.iaload, 1) := by decide +kernel
theorem dX7_compared_21 : decode cX7_compared 21 = .ok (.aload_n 0, 1) := by decide +kernel
theorem dX7_compared_22 : decode cX7_compared 22 = .ok (.getfield 33, 3) := by decide +kernel
theorem dX7_compared_25 : decode cX7_compared 25 = .ok (.iload_n 2, 1) := by decide +kernel
theorem dX7_compared_26 : decode cX7_compared 26 = .ok (.iaload, 1) := by decide +kernel
theorem dX7_compared_27 : decode cX7_compared 27 = .ok (.if_icmp .ge 7, 3) := by decide +kernel
theorem dX7_compared_30 : decode cX7_compared 30 = .ok (.iconst (-1), 1) := by decide +kernel
theorem dX7_compared_31 : decode cX7_compared 31 = .ok (.goto 4, 3) := by decide +kernel
theorem dX7_compared_34 : decode cX7_compared 34 = .ok (.iconst 1, 1) := by decide +kernel
theorem dX7_compared_35 : decode cX7_compared 35 = .ok (.ireturn, 1) := by decide +kernel
theorem dX7_compared_36 : decode cX7_compared 36 = .ok (.aload_n 0, 1) := by decide +kernel
theorem dX7_compared_37 : decode cX7_compared 37 = .ok (.getfield 33, 3) := by decide +kernel
theorem dX7_compared_40 : decode cX7_compared 40 = .ok (.iload_n 1, 1) := by decide +kernel
theorem dX7_compared_41 : decode cX7_compared 41 = .ok (.iaload, 1) := by decide +kernel
theorem dX7_compared_42 : decode cX7_compared 42 = .ok (.iconst 1, 1) := by decide +kernel
theorem dX7_compared_43 : decode cX7_compared 43 = .ok (.isub, 1) := by decide +kernel
theorem dX7_compared_44 : decode cX7_compared 44 = .ok (.istore_n 3, 1) := by decide +kernel
theorem dX7_compared_45 : decode cX7_compared 45 = .ok (.iload_n 3, 1) := by decide +kernel
theorem dX7_compared_46 : decode cX7_compared 46 = .ok (.ifCond .lt 57, 3) := by decide +kernel
theorem dX7_compared_49 : decode cX7_compared 49 = .ok (.aload_n 0, 1) := by decide +kernel
theorem dX7_compared_50 : decode cX7_compared 50 = .ok (.getfield 30, 3) := by decide +kernel
theorem dX7_compared_53 : decode cX7_compared 53 = .ok (.bipush 72, 2) := by decide +kernel
theorem dX7_compared_55 : decode cX7_compared 55 = .ok (.iload_n 1, 1) := by decide +kernel
theorem dX7_compared_56 : decode cX7_compared 56 = .ok (.imul, 1) := by decide +kernel
theorem dX7_compared_57 : decode cX7_compared 57 = .ok (.iload_n 3, 1) := by decide +kernel
theorem dX7_compared_58 : decode cX7_compared 58 = .ok (.iadd, 1) := by decide +kernel
theorem dX7_compared_59 : decode cX7_compared 59 = .ok (.laload, 1) := by decide +kernel
theorem dX7_compared_60 : decode cX7_compared 60 = .ok (.lstore 4, 2) := by decide +kernel
theorem dX7_compared_62 : decode cX7_compared 62 = .ok (.aload_n 0, 1) := by decide +kernel
theorem dX7_compared_63 : decode cX7_compared 63 = .ok (.getfield 30, 3) := by decide +kernel
theorem dX7_compared_66 : decode cX7_compared 66 = .ok (.bipush 72, 2) := by decide +kernel
theorem dX7_compared_68 : decode cX7_compared 68 = .ok (.iload_n 2, 1) := by decide +kernel
theorem dX7_compared_69 : decode cX7_compared 69 = .ok (.imul, 1) := by decide +kernel
theorem dX7_compared_70 : decode cX7_compared 70 = .ok (.iload_n 3, 1) := by decide +kernel
theorem dX7_compared_71 : decode cX7_compared 71 = .ok (.iadd, 1) := by decide +kernel
theorem dX7_compared_72 : decode cX7_compared 72 = .ok (.laload, 1) := by decide +kernel
theorem dX7_compared_73 : decode cX7_compared 73 = .ok (.lstore 6, 2) := by decide +kernel
theorem dX7_compared_75 : decode cX7_compared 75 = .ok (.lload 4, 2) := by decide +kernel
theorem dX7_compared_77 : decode cX7_compared 77 = .ok (.lload 6, 2) := by decide +kernel
theorem dX7_compared_79 : decode cX7_compared 79 = .ok (.lcmp, 1) := by decide +kernel
theorem dX7_compared_80 : decode cX7_compared 80 = .ok (.ifCond .eq 17, 3) := by decide +kernel
theorem dX7_compared_83 : decode cX7_compared 83 = .ok (.lload 4, 2) := by decide +kernel
theorem dX7_compared_85 : decode cX7_compared 85 = .ok (.lload 6, 2) := by decide +kernel
theorem dX7_compared_87 : decode cX7_compared 87 = .ok (.lcmp, 1) := by decide +kernel
theorem dX7_compared_88 : decode cX7_compared 88 = .ok (.ifCond .ge 7, 3) := by decide +kernel
theorem dX7_compared_91 : decode cX7_compared 91 = .ok (.iconst (-1), 1) := by decide +kernel
theorem dX7_compared_92 : decode cX7_compared 92 = .ok (.goto 4, 3) := by decide +kernel
theorem dX7_compared_95 : decode cX7_compared 95 = .ok (.iconst 1, 1) := by decide +kernel
theorem dX7_compared_96 : decode cX7_compared 96 = .ok (.ireturn, 1) := by decide +kernel
theorem dX7_compared_97 : decode cX7_compared 97 = .ok (.iinc 3 (-1), 3) := by decide +kernel
theorem dX7_compared_100 : decode cX7_compared 100 = .ok (.goto (-55), 3) := by decide +kernel
theorem dX7_compared_103 : decode cX7_compared 103 = .ok (.iconst 0, 1) := by decide +kernel
theorem dX7_compared_104 : decode cX7_compared 104 = .ok (.ireturn, 1) := by decide +kernel
theorem dX7_bits_0 : decode cX7_bits 0 = .ok (.bipush 32, 2) := by decide +kernel
theorem dX7_bits_2 : decode cX7_bits 2 = .ok (.aload_n 0, 1) := by decide +kernel
theorem dX7_bits_3 : decode cX7_bits 3 = .ok (.getfield 33, 3) := by decide +kernel
theorem dX7_bits_6 : decode cX7_bits 6 = .ok (.iload_n 1, 1) := by decide +kernel
theorem dX7_bits_7 : decode cX7_bits 7 = .ok (.iaload, 1) := by decide +kernel
theorem dX7_bits_8 : decode cX7_bits 8 = .ok (.imul, 1) := by decide +kernel
theorem dX7_bits_9 : decode cX7_bits 9 = .ok (.istore_n 2, 1) := by decide +kernel
theorem dX7_bits_10 : decode cX7_bits 10 = .ok (.ldc2_w 52, 3) := by decide +kernel
theorem dX7_bits_13 : decode cX7_bits 13 = .ok (.lstore_n 3, 1) := by decide +kernel
theorem dX7_bits_14 : decode cX7_bits 14 = .ok (.aload_n 0, 1) := by decide +kernel
theorem dX7_bits_15 : decode cX7_bits 15 = .ok (.getfield 33, 3) := by decide +kernel
theorem dX7_bits_18 : decode cX7_bits 18 = .ok (.iload_n 1, 1) := by decide +kernel
