theorem dX7_bits_19 : decode cX7_bits 19 = .ok (.iaload, 1) := by decide +kernel
theorem dX7_bits_20 : decode cX7_bits 20 = .ok (.ifCond .le 38, 3) := by decide +kernel
theorem dX7_bits_23 : decode cX7_bits 23 = .ok (.aload_n 0, 1) := by decide +kernel
theorem dX7_bits_24 : decode cX7_bits 24 = .ok (.getfield 30, 3) := by decide +kernel
theorem dX7_bits_27 : decode cX7_bits 27 = .ok (.bipush 72, 2) := by decide +kernel
theorem dX7_bits_29 : decode cX7_bits 29 = .ok (.iload_n 1, 1) := by decide +kernel
theorem dX7_bits_30 : decode cX7_bits 30 = .ok (.imul, 1) := by decide +kernel
theorem dX7_bits_31 : decode cX7_bits 31 = .ok (.aload_n 0, 1) := by decide +kernel
theorem dX7_bits_32 : decode cX7_bits 32 = .ok (.getfield 33, 3) := by decide +kernel
theorem dX7_bits_35 : decode cX7_bits 35 = .ok (.iload_n 1, 1) := by decide +kernel
theorem dX7_bits_36 : decode cX7_bits 36 = .ok (.iaload, 1) := by decide +kernel
theorem dX7_bits_37 : decode cX7_bits 37 = .ok (.iadd, 1) := by decide +kernel
theorem dX7_bits_38 : decode cX7_bits 38 = .ok (.iconst 1, 1) := by decide +kernel
theorem dX7_bits_39 : decode cX7_bits 39 = .ok (.isub, 1) := by decide +kernel
theorem dX7_bits_40 : decode cX7_bits 40 = .ok (.laload, 1) := by decide +kernel
theorem dX7_bits_41 : decode cX7_bits 41 = .ok (.lload_n 3, 1) := by decide +kernel
theorem dX7_bits_42 : decode cX7_bits 42 = .ok (.land, 1) := by decide +kernel
theorem dX7_bits_43 : decode cX7_bits 43 = .ok (.lconst 0, 1) := by decide +kernel
theorem dX7_bits_44 : decode cX7_bits 44 = .ok (.lcmp, 1) := by decide +kernel
theorem dX7_bits_45 : decode cX7_bits 45 = .ok (.ifCond .ne 13, 3) := by decide +kernel
theorem dX7_bits_48 : decode cX7_bits 48 = .ok (.iinc 2 (-1), 3) := by decide +kernel
theorem dX7_bits_51 : decode cX7_bits 51 = .ok (.lload_n 3, 1) := by decide +kernel
theorem dX7_bits_52 : decode cX7_bits 52 = .ok (.iconst 1, 1) := by decide +kernel
theorem dX7_bits_53 : decode cX7_bits 53 = .ok (.lshr, 1) := by decide +kernel
theorem dX7_bits_54 : decode cX7_bits 54 = .ok (.lstore_n 3, 1) := by decide +kernel
theorem dX7_bits_55 : decode cX7_bits 55 = .ok (.goto (-41), 3) := by decide +kernel
theorem dX7_bits_58 : decode cX7_bits 58 = .ok (.iload_n 2, 1) := by decide +kernel
theorem dX7_bits_59 : decode cX7_bits 59 = .ok (.ireturn, 1) := by decide +kernel
theorem dX7_add_0 : decode cX7_add 0 = .ok (.aload_n 0, 1) := by decide +kernel
theorem dX7_add_1 : decode cX7_add 1 = .ok (.getfield 33, 3) := by decide +kernel
theorem dX7_add_4 : decode cX7_add 4 = .ok (.iload_n 1, 1) := by decide +kernel
theorem dX7_add_5 : decode cX7_add 5 = .ok (.iaload, 1) := by decide +kernel
theorem dX7_add_6 : decode cX7_add 6 = .ok (.aload_n 0, 1) := by decide +kernel
theorem dX7_add_7 : decode cX7_add 7 = .ok (.getfield 33, 3) := by decide +kernel
theorem dX7_add_10 : decode cX7_add 10 = .ok (.iload_n 2, 1) := by decide +kernel
theorem dX7_add_11 : decode cX7_add 11 = .ok (.iaload, 1) := by decide +kernel
theorem dX7_add_12 : decode cX7_add 12 = .ok (.if_icmp .le 12, 3) := by decide +kernel
theorem dX7_add_15 : decode cX7_add 15 = .ok (.aload_n 0, 1) := by decide +kernel
theorem dX7_add_16 : decode cX7_add 16 = .ok (.getfield 33, 3) := by decide +kernel
theorem dX7_add_19 : decode cX7_add 19 = .ok (.iload_n 1, 1) := by decide +kernel
theorem dX7_add_20 : decode cX7_add 20 = .ok (.iaload, 1) := by decide +kernel
theorem dX7_add_21 : decode cX7_add 21 = .ok (.goto 9, 3) := by decide +kernel
theorem dX7_add_24 : decode cX7_add 24 = .ok (.aload_n 0, 1) := by decide +kernel
theorem dX7_add_25 : decode cX7_add 25 = .ok (.getfield 33, 3) := by decide +kernel
theorem dX7_add_28 : decode cX7_add 28 = .ok (.iload_n 2, 1) := by decide +kernel
theorem dX7_add_29 : decode cX7_add 29 = .ok (.iaload, 1) := by decide +kernel
theorem dX7_add_30 : decode cX7_add 30 = .ok (.istore_n 3, 1) := by decide +kernel
theorem dX7_add_31 : decode cX7_add 31 = .ok (.lconst 0, 1) := by decide +kernel
theorem dX7_add_32 : decode cX7_add 32 = .ok (.lstore 4, 2) := by decide +kernel
theorem dX7_add_34 : decode cX7_add 34 = .ok (.iconst 0, 1) := by decide +kernel
theorem dX7_add_35 : decode cX7_add 35 = .ok (.istore 6, 2) := by decide +kernel
theorem dX7_add_37 : decode cX7_add 37 = .ok (.iload 6, 2) := by decide +kernel
theorem dX7_add_39 : decode cX7_add 39 = .ok (.iload_n 3, 1) := by decide +kernel
theorem dX7_add_40 : decode cX7_add 40 = .ok (.if_icmp .ge 94, 3) := by decide +kernel
theorem dX7_add_43 : decode cX7_add 43 = .ok (.lload 4, 2) := by decide +kernel
theorem dX7_add_45 : decode cX7_add 45 = .ok (.iload 6, 2) := by decide +kernel
theorem dX7_add_47 : decode cX7_add 47 = .ok (.aload_n 0, 1) := by decide +kernel
theorem dX7_add_48 : decode cX7_add 48 = .ok (.getfield 33, 3) := by decide +kernel
theorem dX7_add_51 : decode cX7_add 51 = .ok (.iload_n 1, 1) := by decide +kernel
theorem dX7_add_52 : decode cX7_add 52 = .ok (.iaload, 1) := by decide +kernel
theorem dX7_add_53 : decode cX7_add 53 = .ok (.if_icmp .ge 18, 3) := by decide +kernel
theorem dX7_add_56 : decode cX7_add 56 = .ok (.aload_n 0, 1) := by decide +kernel
theorem dX7_add_57 : decode cX7_add 57 = .ok (.getfield 30, 3) := by decide +kernel
theorem dX7_add_60 : decode cX7_add 60 = .ok (.bipush 72, 2) := by decide +kernel
theorem dX7_add_62 : decode cX7_add 62 = .ok (.iload_n 1, 1) := by decide +kernel
theorem dX7_add_63 : decode cX7_add 63 = .ok (.imul, 1) := by decide +kernel
theorem dX7_add_64 : decode cX7_add 64 = .ok (.iload 6, 2) := by decide +kernel
theorem dX7_add_66 : decode cX7_add 66 = .ok (.iadd, 1) := by decide +kernel
theorem dX7_add_67 : decode cX7_add 67 = .ok (.laload, 1) := by decide +kernel
theorem dX7_add_68 : decode cX7_add 68 = .ok (.goto 4, 3) := by decide +kernel
theorem dX7_add_71 : decode cX7_add 71 = .ok (.lconst 0, 1) := by decide +kernel
theorem dX7_add_72 : decode cX7_add 72 = .ok (.iload 6, 2) := by decide +kernel
theorem dX7_add_74 : decode cX7_add 74 = .ok (.aload_n 0, 1) := by decide +kernel
theorem dX7_add_75 : decode cX7_add 75 = .ok (.getfield 33, 3) := by decide +kernel
theorem dX7_add_78 : decode cX7_add 78 = .ok (.iload_n 2, 1) := by decide +kernel
theorem dX7_add_79 : decode cX7_add 79 = .ok (.iaload, 1) := by decide +kernel
theorem dX7_add_80 : decode cX7_add 80 = .ok (.if_icmp .ge 18, 3) := by decide +kernel
theorem dX7_add_83 : decode cX7_add 83 = .ok (.aload_n 0, 1) := by decide +kernel
theorem dX7_add_84 : decode cX7_add 84 = .ok (.getfield 30, 3) := by decide +kernel
theorem dX7_add_87 : decode cX7_add 87 = .ok (.bipush 72, 2) := by decide +kernel
theorem dX7_add_89 : decode cX7_add 89 = .ok (.iload_n 2, 1) := by decide +kernel
theorem dX7_add_90 : decode cX7_add 90 = .ok (.imul, 1) := by decide +kernel
theorem dX7_add_91 : decode cX7_add 91 = .ok (.iload 6, 2) := by decide +kernel
theorem dX7_add_93 : decode cX7_add 93 = .ok (.iadd, 1) := by decide +kernel
theorem dX7_add_94 : decode cX7_add 94 = .ok (.laload, 1) := by decide +kernel
theorem dX7_add_95 : decode cX7_add 95 = .ok (.goto 4, 3) := by decide +kernel
theorem dX7_add_98 : decode cX7_add 98 = .ok (.lconst 0, 1) := by decide +kernel
theorem dX7_add_99 : decode cX7_add 99 = .ok (.ladd, 1) := by decide +kernel
theorem dX7_add_100 : decode cX7_add 100 = .ok (.ladd, 1) := by decide +kernel
theorem dX7_add_101 : decode cX7_add 101 = .ok (.lstore 4, 2) := by decide +kernel
theorem dX7_add_103 : decode cX7_add 103 = .ok (.aload_n 0, 1) := by decide +kernel
theorem dX7_add_104 : decode cX7_add 104 = .ok (.getfield 30, 3) := by decide +kernel
theorem dX7_add_107 : decode cX7_add 107 = .ok (.bipush 72, 2) := by decide +kernel
theorem dX7_add_109 : decode cX7_add 109 = .ok (.iload_n 1, 1) := by decide +kernel
theorem dX7_add_110 : decode cX7_add 110 = .ok (.imul, 1) := by decide +kernel
theorem dX7_add_111 : decode cX7_add 111 = .ok (.iload 6, 2) := by decide +kernel
theorem dX7_add_113 : decode cX7_add 113 = .ok (.iadd, 1) := by decide +kernel
theorem dX7_add_114 : decode cX7_add 114 = .ok (.lload 4, 2) := by decide +kernel
theorem dX7_add_116 : decode cX7_add 116 = .ok (.ldc2_w 46, 3) := by decide +kernel
theorem dX7_add_119 : decode cX7_add 119 = .ok (.land, 1) := by decide +kernel
theorem dX7_add_120 : decode cX7_add 120 = .ok (.lastore, 1) := by decide +kernel
theorem dX7_add_121 : decode cX7_add 121 = .ok (.lload 4, 2) := by decide +kernel
theorem dX7_add_123 : decode cX7_add 123 = .ok (.bipush 32, 2) := by decide +kernel
theorem dX7_add_125 : decode cX7_add 125 = .ok (.lshr, 1) := by decide +kernel
theorem dX7_add_126 : decode cX7_add 126 = .ok (.lstore 4, 2) := by decide +kernel
theorem dX7_add_128 : decode cX7_add 128 = .ok (.iinc 6 1, 3) := by decide +kernel
theorem dX7_add_131 : decode cX7_add 131 = .ok (.goto (-94), 3) := by decide +kernel
theorem dX7_add_134 : decode cX7_add 134 = .ok (.aload_n 0, 1) := by decide +kernel
theorem dX7_add_135 : decode cX7_add 135 = .ok (.getfield 30, 3) := by decide +kernel
theorem dX7_add_138 : decode cX7_add 138 = .ok (.bipush 72, 2) := by decide +kernel
theorem dX7_add_140 : decode cX7_add 140 = .ok (.iload_n 1, 1) := by decide +kernel
theorem dX7_add_141 : decode cX7_add 141 = .ok (.imul, 1) := by decide +kernel
theorem dX7_add_142 : decode cX7_add 142 = .ok (.iload_n 3, 1) := by decide +kernel
theorem dX7_add_143 : decode cX7_add 143 = .ok (.iadd, 1) := by decide +kernel
theorem dX7_add_144 : decode cX7_add 144 = .ok (.lload 4, 2) := by decide +kernel
theorem dX7_add_146 : decode cX7_add 146 = .ok (.lastore, 1) := by decide +kernel
theorem dX7_add_147 : decode cX7_add 147 = .ok (.aload_n 0, 1) := by decide +kernel
theorem dX7_add_148 : decode cX7_add 148 = .ok (.getfield 33, 3) := by decide +kernel
theorem dX7_add_151 : decode cX7_add 151 = .ok (.iload_n 1, 1) := by decide +kernel
theorem dX7_add_152 : decode cX7_add 152 = .ok (.iload_n 3, 1) := by decide +kernel
theorem dX7_add_153 : decode cX7_add 153 = .ok (.iconst 1, 1) := by decide +kernel
theorem dX7_add_154 : decode cX7_add 154 = .ok (.iadd, 1) := by decide +kernel
theorem dX7_add_155 : decode cX7_add 155 = .ok (.iastore, 1) := by decide +kernel
theorem dX7_add_156 : decode cX7_add 156 = .ok (.aload_n 0, 1) := by decide +kernel
theorem dX7_add_157 : decode cX7_add 157 = .ok (.iload_n 1, 1) := by decide +kernel
theorem dX7_add_158 : decode cX7_add 158 = .ok (.invokevirtual 48, 3) := by decide +kernel
theorem dX7_add_161 : decode cX7_add 161 = .ok (.return_, 1) := by decide +kernel
theorem dX7_less_0 : decode cX7_less 0 = .ok (.lconst 0, 1) := by decide +kernel
theorem dX7_less_1 : decode cX7_less 1 = .ok (.lstore_n 3, 1) := by decide +kernel
theorem dX7_less_2 : decode cX7_less 2 = .ok (.iconst 0, 1) := by decide +kernel
theorem dX7_less_3 : decode cX7_less 3 = .ok (.istore 5, 2) := by decide +kernel
theorem dX7_less_5 : decode cX7_less 5 = .ok (.iload 5, 2) := by decide +kernel
theorem dX7_less_7 : decode cX7_less 7 = .ok (.aload_n 0, 1) := by decide +kernel
theorem dX7_less_8 : decode cX7_less 8 = .ok (.getfield 33, 3) := by decide +kernel
theorem dX7_less_11 : decode cX7_less 11 = .ok (.iload_n 1, 1) := by decide +kernel
theorem dX7_less_12 : decode cX7_less 12 = .ok (.iaload, 1) := by decide +kernel
theorem dX7_less_13 : decode cX7_less 13 = .ok (.if_icmp .ge 74, 3) := by decide +kernel
theorem dX7_less_16 : decode cX7_less 16 = .ok (.lload_n 3, 1) := by decide +kernel
theorem dX7_less_17 : decode cX7_less 17 = .ok (.aload_n 0, 1) := by decide +kernel
theorem dX7_less_18 : decode cX7_less 18 = .ok (.getfield 30, 3) := by decide +kernel
theorem dX7_less_21 : decode cX7_less 21 = .ok (.bipush 72, 2) := by decide +kernel
theorem dX7_less_23 : decode cX7_less 23 = .ok (.iload_n 1, 1) := by decide +kernel
theorem dX7_less_24 : decode cX7_less 24 = .ok (.imul, 1) := by decide +kernel
theorem dX7_less_25 : decode cX7_less 25 = .ok (.iload 5, 2) := by decide +kernel
theorem dX7_less_27 : decode cX7_less 27 = .ok (.iadd, 1) := by decide +kernel
theorem dX7_less_28 : decode cX7_less 28 = .ok (.laload, 1) := by decide +kernel
theorem dX7_less_29 : decode cX7_less 29 = .ok (.iload 5, 2) := by decide +kernel
theorem dX7_less_31 : decode cX7_less 31 = .ok (.aload_n 0, 1) := by decide +kernel
theorem dX7_less_32 : decode cX7_less 32 = .ok (.getfield 33, 3) := by decide +kernel
theorem dX7_less_35 : decode cX7_less 35 = .ok (.iload_n 2, 1) := by decide +kernel
theorem dX7_less_36 : decode cX7_less 36 = .ok (.iaload, 1) := by decide +kernel
theorem dX7_less_37 : decode cX7_less 37 = .ok (.if_icmp .ge 18, 3) := by decide +kernel
theorem dX7_less_40 : decode cX7_less 40 = .ok (.aload_n 0, 1) := by decide +kernel
theorem dX7_less_41 : decode cX7_less 41 = .ok (.getfield 30, 3) := by decide +kernel
theorem dX7_less_44 : decode cX7_less 44 = .ok (.bipush 72, 2) := by decide +kernel
theorem dX7_less_46 : decode cX7_less 46 = .ok (.iload_n 2, 1) := by decide +kernel
theorem dX7_less_47 : decode cX7_less 47 = .ok (.imul, 1) := by decide +kernel
theorem dX7_less_48 : decode cX7_less 48 = .ok (.iload 5, 2) := by decide +kernel
theorem dX7_less_50 : decode cX7_less 50 = .ok (.iadd, 1) := by decide +kernel
theorem dX7_less_51 : decode cX7_less 51 = .ok (.laload, 1) := by decide +kernel
theorem dX7_less_52 : decode cX7_less 52 = .ok (.goto 4, 3) := by decide +kernel
theorem dX7_less_55 : decode cX7_less 55 = .ok (.lconst 0, 1) := by decide +kernel
theorem dX7_less_56 : decode cX7_less 56 = .ok (.lsub, 1) := by decide +kernel
theorem dX7_less_57 : decode cX7_less 57 = .ok (.ladd, 1) := by decide +kernel
theorem dX7_less_58 : decode cX7_less 58 = .ok (.lstore_n 3, 1) := by decide +kernel
theorem dX7_less_59 : decode cX7_less 59 = .ok (.aload_n 0, 1) := by decide +kernel
theorem dX7_less_60 : decode cX7_less 60 = .ok (.getfield 30, 3) := by decide +kernel
theorem dX7_less_63 : decode cX7_less 63 = .ok (.bipush 72, 2) := by decide +kernel
theorem dX7_less_65 : decode cX7_less 65 = .ok (.iload_n 1, 1) := by decide +kernel
theorem dX7_less_66 : decode cX7_less 66 = .ok (.imul, 1) := by decide +kernel
theorem dX7_less_67 : decode cX7_less 67 = .ok (.iload 5, 2) := by decide +kernel
theorem dX7_less_69 : decode cX7_less 69 = .ok (.iadd, 1) := by decide +kernel
theorem dX7_less_70 : decode cX7_less 70 = .ok (.lload_n 3, 1) := by decide +kernel
theorem dX7_less_71 : decode cX7_less 71 = .ok (.ldc2_w 46, 3) := by decide +kernel
theorem dX7_less_74 : decode cX7_less 74 = .ok (.land, 1) := by decide +kernel
theorem dX7_less_75 : decode cX7_less 75 = .ok (.lastore, 1) := by decide +kernel
theorem dX7_less_76 : decode cX7_less 76 = .ok (.lload_n 3, 1) := by decide +kernel
theorem dX7_less_77 : decode cX7_less 77 = .ok (.bipush 32, 2) := by decide +kernel
theorem dX7_less_79 : decode cX7_less 79 = .ok (.lshr, 1) := by decide +kernel
theorem dX7_less_80 : decode cX7_less 80 = .ok (.lstore_n 3, 1) := by decide +kernel
theorem dX7_less_81 : decode cX7_less 81 = .ok (.iinc 5 1, 3) := by decide +kernel
theorem dX7_less_84 : decode cX7_less 84 = .ok (.goto (-79), 3) := by decide +kernel
theorem dX7_less_87 : decode cX7_less 87 = .ok (.aload_n 0, 1) := by decide +kernel
theorem dX7_less_88 : decode cX7_less 88 = .ok (.iload_n 1, 1) := by decide +kernel
theorem dX7_less_89 : decode cX7_less 89 = .ok (.invokevirtual 48, 3) := by decide +kernel
theorem dX7_less_92 : decode cX7_less 92 = .ok (.return_, 1) := by decide +kernel
theorem dX7_times_0 : decode cX7_times 0 = .ok (.aload_n 0, 1) := by decide +kernel
theorem dX7_times_1 : decode cX7_times 1 = .ok (.getfield 33, 3) := by decide +kernel
theorem dX7_times_4 : decode cX7_times 4 = .ok (.iload_n 2, 1) := by decide +kernel
theorem dX7_times_5 : decode cX7_times 5 = .ok (.iaload, 1) := by decide +kernel
theorem dX7_times_6 : decode cX7_times 6 = .ok (.aload_n 0, 1) := by decide +kernel
theorem dX7_times_7 : decode cX7_times 7 = .ok (.getfield 33, 3) := by decide +kernel
theorem dX7_times_10 : decode cX7_times 10 = .ok (.iload_n 3, 1) := by decide +kernel
theorem dX7_times_11 : decode cX7_times 11 = .ok (.iaload, 1) := by decide +kernel
theorem dX7_times_12 : decode cX7_times 12 = .ok (.iadd, 1) := by decide +kernel
theorem dX7_times_13 : decode cX7_times 13 = .ok (.istore 4, 2) := by decide +kernel
theorem dX7_times_15 : decode cX7_times 15 = .ok (.iconst 0, 1) := by decide +kernel
theorem dX7_times_16 : decode cX7_times 16 = .ok (.istore 5, 2) := by decide +kernel
theorem dX7_times_18 : decode cX7_times 18 = .ok (.iload 5, 2) := by decide +kernel
theorem dX7_times_20 : decode cX7_times 20 = .ok (.iload 4, 2) := by decide +kernel
theorem dX7_times_22 : decode cX7_times 22 = .ok (.if_icmp .ge 22, 3) := by decide +kernel
theorem dX7_times_25 : decode cX7_times 25 = .ok (.aload_n 0, 1) := by decide +kernel
theorem dX7_times_26 : decode cX7_times 26 = .ok (.getfield 30, 3) := by decide +kernel
theorem dX7_times_29 : decode cX7_times 29 = .ok (.bipush 72, 2) := by decide +kernel
theorem dX7_times_31 : decode cX7_times 31 = .ok (.iload_n 1, 1) := by decide +kernel
theorem dX7_times_32 : decode cX7_times 32 = .ok (.imul, 1) := by decide +kernel
theorem dX7_times_33 : decode cX7_times 33 = .ok (.iload 5, 2) := by decide +kernel
theorem dX7_times_35 : decode cX7_times 35 = .ok (.iadd, 1) := by decide +kernel
theorem dX7_times_36 : decode cX7_times 36 = .ok (.lconst 0, 1) := by decide +kernel
theorem dX7_times_37 : decode cX7_times 37 = .ok (.lastore, 1) := by decide +kernel
theorem dX7_times_38 : decode cX7_times 38 = .ok (.iinc 5 1, 3) := by decide +kernel
theorem dX7_times_41 : decode cX7_times 41 = .ok (.goto (-23), 3) := by decide +kernel
theorem dX7_times_44 : decode cX7_times 44 = .ok (.iconst 0, 1) := by decide +kernel
theorem dX7_times_45 : decode cX7_times 45 = .ok (.istore 5, 2) := by decide +kernel
theorem dX7_times_47 : decode cX7_times 47 = .ok (.iload 5, 2) := by decide +kernel
theorem dX7_times_49 : decode cX7_times 49 = .ok (.aload_n 0, 1) := by decide +kernel
theorem dX7_times_50 : decode cX7_times 50 = .ok (.getfield 33, 3) := by decide +kernel
theorem dX7_times_53 : decode cX7_times 53 = .ok (.iload_n 2, 1) := by decide +kernel
theorem dX7_times_54 : decode cX7_times 54 = .ok (.iaload, 1) := by decide +kernel
theorem dX7_times_55 : decode cX7_times 55 = .ok (.if_icmp .ge 127, 3) := by decide +kernel
theorem dX7_times_58 : decode cX7_times 58 = .ok (.lconst 0, 1) := by decide +kernel
theorem dX7_times_59 : decode cX7_times 59 = .ok (.lstore 6, 2) := by decide +kernel
theorem dX7_times_61 : decode cX7_times 61 = .ok (.iconst 0, 1) := by decide +kernel
theorem dX7_times_62 : decode cX7_times 62 = .ok (.istore 8, 2) := by decide +kernel
theorem dX7_times_64 : decode cX7_times 64 = .ok (.iload 8, 2) := by decide +kernel
theorem dX7_times_66 : decode cX7_times 66 = .ok (.aload_n 0, 1) := by decide +kernel
theorem dX7_times_67 : decode cX7_times 67 = .ok (.getfield 33, 3) := by decide +kernel
theorem dX7_times_70 : decode cX7_times 70 = .ok (.iload_n 3, 1) := by decide +kernel
theorem dX7_times_71 : decode cX7_times 71 = .ok (.iaload, 1) := by decide +kernel
theorem dX7_times_72 : decode cX7_times 72 = .ok (.if_icmp .ge 83, 3) := by decide +kernel
theorem dX7_times_75 : decode cX7_times 75 = .ok (.lload 6, 2) := by decide +kernel
theorem dX7_times_77 : decode cX7_times 77 = .ok (.aload_n 0, 1) := by decide +kernel
theorem dX7_times_78 : decode cX7_times 78 = .ok (.getfield 30, 3) := by decide +kernel
theorem dX7_times_81 : decode cX7_times 81 = .ok (.bipush 72, 2) := by decide +kernel
theorem dX7_times_83 : decode cX7_times 83 = .ok (.iload_n 1, 1) := by decide +kernel
theorem dX7_times_84 : decode cX7_times 84 = .ok (.imul, 1) := by decide +kernel
theorem dX7_times_85 : decode cX7_times 85 = .ok (.iload 5, 2) := by decide +kernel
theorem dX7_times_87 : decode cX7_times 87 = .ok (.iadd, 1) := by decide +kernel
theorem dX7_times_88 : decode cX7_times 88 = .ok (.iload 8, 2) := by decide +kernel
theorem dX7_times_90 : decode cX7_times 90 = .ok (.iadd, 1) := by decide +kernel
theorem dX7_times_91 : decode cX7_times 91 = .ok (.laload, 1) := by decide +kernel
theorem dX7_times_92 : decode cX7_times 92 = .ok (.aload_n 0, 1) := by decide +kernel
theorem dX7_times_93 : decode cX7_times 93 = .ok (.getfield 30, 3) := by decide +kernel
theorem dX7_times_96 : decode cX7_times 96 = .ok (.bipush 72, 2) := by decide +kernel
theorem dX7_times_98 : decode cX7_times 98 = .ok (.iload_n 2, 1) := by decide +kernel
theorem dX7_times_99 : decode cX7_times 99 = .ok (.imul, 1) := by decide +kernel
theorem dX7_times_100 : decode cX7_times 100 = .ok (.iload 5, 2) := by decide +kernel
theorem dX7_times_102 : decode cX7_times 102 = .ok (.iadd, 1) := by decide +kernel
theorem dX7_times_103 : decode cX7_times 103 = .ok (.laload, 1) := by decide +kernel
theorem dX7_times_104 : decode cX7_times 104 = .ok (.aload_n 0, 1) := by decide +kernel
theorem dX7_times_105 : decode cX7_times 105 = .ok (.getfield 30, 3) := by decide +kernel
theorem dX7_times_108 : decode cX7_times 108 = .ok (.bipush 72, 2) := by decide +kernel
theorem dX7_times_110 : decode cX7_times 110 = .ok (.iload_n 3, 1) := by decide +kernel
theorem dX7_times_111 : decode cX7_times 111 = .ok (.imul, 1) := by decide +kernel
theorem dX7_times_112 : decode cX7_times 112 = .ok (.iload 8, 2) := by decide +kernel
theorem dX7_times_114 : decode cX7_times 114 = .ok (.iadd, 1) := by decide +kernel
theorem dX7_times_115 : decode cX7_times 115 = .ok (.laload, 1) := by decide +kernel
theorem dX7_times_116 : decode cX7_times 116 = .ok (.lmul, 1) := by decide +kernel
theorem dX7_times_117 : decode cX7_times 117 = .ok (.ladd, 1) := by decide +kernel
theorem dX7_times_118 : decode cX7_times 118 = .ok (.ladd, 1) := by decide +kernel
theorem dX7_times_119 : decode cX7_times 119 = .ok (.lstore 6, 2) := by decide +kernel
theorem dX7_times_121 : decode cX7_times 121 = .ok (.aload_n 0, 1) := by decide +kernel
theorem dX7_times_122 : decode cX7_times 122 = .ok (.getfield 30, 3) := by decide +kernel
theorem dX7_times_125 : decode cX7_times 125 = .ok (.bipush 72, 2) := by decide +kernel
theorem dX7_times_127 : decode cX7_times 127 = .ok (.iload_n 1, 1) := by decide +kernel
theorem dX7_times_128 : decode cX7_times 128 = .ok (.imul, 1) := by decide +kernel
theorem dX7_times_129 : decode cX7_times 129 = .ok (.iload 5, 2) := by decide +kernel
theorem dX7_times_131 : decode cX7_times 131 = .ok (.iadd, 1) := by decide +kernel
theorem dX7_times_132 : decode cX7_times 132 = .ok (.iload 8, 2) := by decide +kernel
theorem dX7_times_134 : decode cX7_times 134 = .ok (.iadd, 1) := by decide +kernel
theorem dX7_times_135 : decode cX7_times 135 = .ok (.lload 6, 2) := by decide +kernel
theorem dX7_times_137 : decode cX7_times 137 = .ok (.ldc2_w 46, 3) := by decide +kernel
theorem dX7_times_140 : decode cX7_times 140 = .ok (.land, 1) := by decide +kernel
theorem dX7_times_141 : decode cX7_times 141 = .ok (.lastore, 1) := by decide +kernel
theorem dX7_times_142 : decode cX7_times 142 = .ok (.lload 6, 2) := by decide +kernel
theorem dX7_times_144 : decode cX7_times 144 = .ok (.bipush 32, 2) := by decide +kernel
theorem dX7_times_146 : decode cX7_times 146 = .ok (.lushr, 1) := by decide +kernel
theorem dX7_times_147 : decode cX7_times 147 = .ok (.lstore 6, 2) := by decide +kernel
theorem dX7_times_149 : decode cX7_times 149 = .ok (.iinc 8 1, 3) := by decide +kernel
theorem dX7_times_152 : decode cX7_times 152 = .ok (.goto (-88), 3) := by decide +kernel
theorem dX7_times_155 : decode cX7_times 155 = .ok (.aload_n 0, 1) := by decide +kernel
theorem dX7_times_156 : decode cX7_times 156 = .ok (.getfield 30, 3) := by decide +kernel
theorem dX7_times_159 : decode cX7_times 159 = .ok (.bipush 72, 2) := by decide +kernel
theorem dX7_times_161 : decode cX7_times 161 = .ok (.iload_n 1, 1) := by decide +kernel
theorem dX7_times_162 : decode cX7_times 162 = .ok (.imul, 1) := by decide +kernel
theorem dX7_times_163 : decode cX7_times 163 = .ok (.iload 5, 2) := by decide +kernel
theorem dX7_times_165 : decode cX7_times 165 = .ok (.iadd, 1) := by decide +kernel
theorem dX7_times_166 : decode cX7_times 166 = .ok (.aload_n 0, 1) := by decide +kernel
theorem dX7_times_167 : decode cX7_times 167 = .ok (.getfield 33, 3) := by decide +kernel
theorem dX7_times_170 : decode cX7_times 170 = .ok (.iload_n 3, 1) := by decide +kernel
theorem dX7_times_171 : decode cX7_times 171 = .ok (.iaload, 1) := by decide +kernel
theorem dX7_times_172 : decode cX7_times 172 = .ok (.iadd, 1) := by decide +kernel
theorem dX7_times_173 : decode cX7_times 173 = .ok (.lload 6, 2) := by decide +kernel
theorem dX7_times_175 : decode cX7_times 175 = .ok (.lastore, 1) := by decide +kernel
theorem dX7_times_176 : decode cX7_times 176 = .ok (.iinc 5 1, 3) := by decide +kernel
theorem dX7_times_179 : decode cX7_times 179 = .ok (.goto (-132), 3) := by decide +kernel
theorem dX7_times_182 : decode cX7_times 182 = .ok (.aload_n 0, 1) := by decide +kernel
theorem dX7_times_183 : decode cX7_times 183 = .ok (.getfield 33, 3) := by decide +kernel
theorem dX7_times_186 : decode cX7_times 186 = .ok (.iload_n 1, 1) := by decide +kernel
theorem dX7_times_187 : decode cX7_times 187 = .ok (.iload 4, 2) := by decide +kernel
theorem dX7_times_189 : decode cX7_times 189 = .ok (.iastore, 1) := by decide +kernel
theorem dX7_times_190 : decode cX7_times 190 = .ok (.aload_n 0, 1) := by decide +kernel
theorem dX7_times_191 : decode cX7_times 191 = .ok (.iload_n 1, 1) := by decide +kernel
theorem dX7_times_192 : decode cX7_times 192 = .ok (.invokevirtual 48, 3) := by decide +kernel
theorem dX7_times_195 : decode cX7_times 195 = .ok (.return_, 1) := by decide +kernel
theorem dX7_twice_0 : decode cX7_twice 0 = .ok (.lload_n 2, 1) := by decide +kernel
theorem dX7_twice_1 : decode cX7_twice 1 = .ok (.lstore 4, 2) := by decide +kernel
theorem dX7_twice_3 : decode cX7_twice 3 = .ok (.iconst 0, 1) := by decide +kernel
theorem dX7_twice_4 : decode cX7_twice 4 = .ok (.istore 6, 2) := by decide +kernel
theorem dX7_twice_6 : decode cX7_twice 6 = .ok (.iload 6, 2) := by decide +kernel
theorem dX7_twice_8 : decode cX7_twice 8 = .ok (.aload_n 0, 1) := by decide +kernel
theorem dX7_twice_9 : decode cX7_twice 9 = .ok (.getfield 33, 3) := by decide +kernel
theorem dX7_twice_12 : decode cX7_twice 12 = .ok (.iload_n 1, 1) := by decide +kernel
theorem dX7_twice_13 : decode cX7_twice 13 = .ok (.iaload, 1) := by decide +kernel
theorem dX7_twice_14 : decode cX7_twice 14 = .ok (.if_icmp .ge 53, 3) := by decide +kernel
theorem dX7_twice_17 : decode cX7_twice 17 = .ok (.lload 4, 2) := by decide +kernel
theorem dX7_twice_19 : decode cX7_twice 19 = .ok (.aload_n 0, 1) := by decide +kernel
theorem dX7_twice_20 : decode cX7_twice 20 = .ok (.getfield 30, 3) := by decide +kernel
theorem dX7_twice_23 : decode cX7_twice 23 = .ok (.bipush 72, 2) := by decide +kernel
theorem dX7_twice_25 : decode cX7_twice 25 = .ok (.iload_n 1, 1) := by decide +kernel
theorem dX7_twice_26 : decode cX7_twice 26 = .ok (.imul, 1) := by decide +kernel
theorem dX7_twice_27 : decode cX7_twice 27 = .ok (.iload 6, 2) := by decide +kernel
theorem dX7_twice_29 : decode cX7_twice 29 = .ok (.iadd, 1) := by decide +kernel
theorem dX7_twice_30 : decode cX7_twice 30 = .ok (.laload, 1) := by decide +kernel
theorem dX7_twice_31 : decode cX7_twice 31 = .ok (.iconst 1, 1) := by decide +kernel
theorem dX7_twice_32 : decode cX7_twice 32 = .ok (.lshl, 1) := by decide +kernel
theorem dX7_twice_33 : decode cX7_twice 33 = .ok (.lor, 1) := by decide +kernel
theorem dX7_twice_34 : decode cX7_twice 34 = .ok (.lstore 4, 2) := by decide +kernel
theorem dX7_twice_36 : decode cX7_twice 36 = .ok (.aload_n 0, 1) := by decide +kernel
theorem dX7_twice_37 : decode cX7_twice 37 = .ok (.getfield 30, 3) := by decide +kernel
theorem dX7_twice_40 : decode cX7_twice 40 = .ok (.bipush 72, 2) := by decide +kernel
theorem dX7_twice_42 : decode cX7_twice 42 = .ok (.iload_n 1, 1) := by decide +kernel
theorem dX7_twice_43 : decode cX7_twice 43 = .ok (.imul, 1) := by decide +kernel
theorem dX7_twice_44 : decode cX7_twice 44 = .ok (.iload 6, 2) := by decide +kernel
theorem dX7_twice_46 : decode cX7_twice 46 = .ok (.iadd, 1) := by decide +kernel
theorem dX7_twice_47 : decode cX7_twice 47 = .ok (.lload 4, 2) := by decide +kernel
theorem dX7_twice_49 : decode cX7_twice 49 = .ok (.ldc2_w 46, 3) := by decide +kernel
theorem dX7_twice_52 : decode cX7_twice 52 = .ok (.land, 1) := by decide +kernel
theorem dX7_twice_53 : decode cX7_twice 53 = .ok (.lastore, 1) := by decide +kernel
theorem dX7_twice_54 : decode cX7_twice 54 = .ok (.lload 4, 2) := by decide +kernel
theorem dX7_twice_56 : decode cX7_twice 56 = .ok (.bipush 32, 2) := by decide +kernel
theorem dX7_twice_58 : decode cX7_twice 58 = .ok (.lushr, 1) := by decide +kernel
theorem dX7_twice_59 : decode cX7_twice 59 = .ok (.lstore 4, 2) := by decide +kernel
theorem dX7_twice_61 : decode cX7_twice 61 = .ok (.iinc 6 1, 3) := by decide +kernel
theorem dX7_twice_64 : decode cX7_twice 64 = .ok (.goto (-58), 3) := by decide +kernel
theorem dX7_twice_67 : decode cX7_twice 67 = .ok (.aload_n 0, 1) := by decide +kernel
theorem dX7_twice_68 : decode cX7_twice 68 = .ok (.getfield 30, 3) := by decide +kernel
theorem dX7_twice_71 : decode cX7_twice 71 = .ok (.bipush 72, 2) := by decide +kernel
theorem dX7_twice_73 : decode cX7_twice 73 = .ok (.iload_n 1, 1) := by decide +kernel
theorem dX7_twice_74 : decode cX7_twice 74 = .ok (.imul, 1) := by decide +kernel
theorem dX7_twice_75 : decode cX7_twice 75 = .ok (.aload_n 0, 1) := by decide +kernel
theorem dX7_twice_76 : decode cX7_twice 76 = .ok (.getfield 33, 3) := by decide +kernel
theorem dX7_twice_79 : decode cX7_twice 79 = .ok (.iload_n 1, 1) := by decide +kernel
theorem dX7_twice_80 : decode cX7_twice 80 = .ok (.iaload, 1) := by decide +kernel
theorem dX7_twice_81 : decode cX7_twice 81 = .ok (.iadd, 1) := by decide +kernel
theorem dX7_twice_82 : decode cX7_twice 82 = .ok (.lload 4, 2) := by decide +kernel
theorem dX7_twice_84 : decode cX7_twice 84 = .ok (.lastore, 1) := by decide +kernel
theorem dX7_twice_85 : decode cX7_twice 85 = .ok (.aload_n 0, 1) := by decide +kernel
theorem dX7_twice_86 : decode cX7_twice 86 = .ok (.getfield 33, 3) := by decide +kernel
theorem dX7_twice_89 : decode cX7_twice 89 = .ok (.iload_n 1, 1) := by decide +kernel
theorem dX7_twice_90 : decode cX7_twice 90 = .ok (.dup2, 1) := by decide +kernel
theorem dX7_twice_91 : decode cX7_twice 91 = .ok (.iaload, 1) := by decide +kernel
theorem dX7_twice_92 : decode cX7_twice 92 = .ok (.iconst 1, 1) := by decide +kernel
theorem dX7_twice_93 : decode cX7_twice 93 = .ok (.iadd, 1) := by decide +kernel
theorem dX7_twice_94 : decode cX7_twice 94 = .ok (.iastore, 1) := by decide +kernel
theorem dX7_twice_95 : decode cX7_twice 95 = .ok (.aload_n 0, 1) := by decide +kernel
theorem dX7_twice_96 : decode cX7_twice 96 = .ok (.iload_n 1, 1) := by decide +kernel
theorem dX7_twice_97 : decode cX7_twice 97 = .ok (.invokevirtual 48, 3) := by decide +kernel
theorem dX7_twice_100 : decode cX7_twice 100 = .ok (.return_, 1) := by decide +kernel
theorem dX7_half_0 : decode cX7_half 0 = .ok (.iconst 0, 1) := by decide +kernel
theorem dX7_half_1 : decode cX7_half 1 = .ok (.istore_n 2, 1) := by decide +kernel
theorem dX7_half_2 : decode cX7_half 2 = .ok (.iload_n 2, 1) := by decide +kernel
theorem dX7_half_3 : decode cX7_half 3 = .ok (.aload_n 0, 1) := by decide +kernel
theorem dX7_half_4 : decode cX7_half 4 = .ok (.getfield 33, 3) := by decide +kernel
theorem dX7_half_7 : decode cX7_half 7 = .ok (.iload_n 1, 1) := by decide +kernel
theorem dX7_half_8 : decode cX7_half 8 = .ok (.iaload, 1) := by decide +kernel
theorem dX7_half_9 : decode cX7_half 9 = .ok (.if_icmp .ge 72, 3) := by decide +kernel
theorem dX7_half_12 : decode cX7_half 12 = .ok (.iload_n 2, 1) := by decide +kernel
theorem dX7_half_13 : decode cX7_half 13 = .ok (.iconst 1, 1) := by decide +kernel
theorem dX7_half_14 : decode cX7_half 14 = .ok (.iadd, 1) := by decide +kernel
theorem dX7_half_15 : decode cX7_half 15 = .ok (.aload_n 0, 1) := by decide +kernel
theorem dX7_half_16 : decode cX7_half 16 = .ok (.getfield 33, 3) := by decide +kernel
theorem dX7_half_19 : decode cX7_half 19 = .ok (.iload_n 1, 1) := by decide +kernel
theorem dX7_half_20 : decode cX7_half 20 = .ok (.iaload, 1) := by decide +kernel
theorem dX7_half_21 : decode cX7_half 21 = .ok (.if_icmp .ge 26, 3) := by decide +kernel
theorem dX7_half_24 : decode cX7_half 24 = .ok (.aload_n 0, 1) := by decide +kernel
theorem dX7_half_25 : decode cX7_half 25 = .ok (.getfield 30, 3) := by decide +kernel
theorem dX7_half_28 : decode cX7_half 28 = .ok (.bipush 72, 2) := by decide +kernel
theorem dX7_half_30 : decode cX7_half 30 = .ok (.iload_n 1, 1) := by decide +kernel
theorem dX7_half_31 : decode cX7_half 31 = .ok (.imul, 1) := by decide +kernel
theorem dX7_half_32 : decode cX7_half 32 = .ok (.iload_n 2, 1) := by decide +kernel
theorem dX7_half_33 : decode cX7_half 33 = .ok (.iadd, 1) := by decide +kernel
theorem dX7_half_34 : decode cX7_half 34 = .ok (.iconst 1, 1) := by decide +kernel
theorem dX7_half_35 : decode cX7_half 35 = .ok (.iadd, 1) := by decide +kernel
theorem dX7_half_36 : decode cX7_half 36 = .ok (.laload, 1) := by decide +kernel
theorem dX7_half_37 : decode cX7_half 37 = .ok (.bipush 31, 2) := by decide +kernel
theorem dX7_half_39 : decode cX7_half 39 = .ok (.lshl, 1) := by decide +kernel
theorem dX7_half_40 : decode cX7_half 40 = .ok (.ldc2_w 46, 3) := by decide +kernel
theorem dX7_half_43 : decode cX7_half 43 = .ok (.land, 1) := by decide +kernel
theorem dX7_half_44 : decode cX7_half 44 = .ok (.goto 4, 3) := by decide +kernel
theorem dX7_half_47 : decode cX7_half 47 = .ok (.lconst 0, 1) := by decide +kernel
theorem dX7_half_48 : decode cX7_half 48 = .ok (.lstore_n 3, 1) := by decide +kernel
theorem dX7_half_49 : decode cX7_half 49 = .ok (.aload_n 0, 1) := by decide +kernel
theorem dX7_half_50 : decode cX7_half 50 = .ok (.getfield 30, 3) := by decide +kernel
theorem dX7_half_53 : decode cX7_half 53 = .ok (.bipush 72, 2) := by decide +kernel
theorem dX7_half_55 : decode cX7_half 55 = .ok (.iload_n 1, 1) := by decide +kernel
theorem dX7_half_56 : decode cX7_half 56 = .ok (.imul, 1) := by decide +kernel
theorem dX7_half_57 : decode cX7_half 57 = .ok (.iload_n 2, 1) := by decide +kernel
theorem dX7_half_58 : decode cX7_half 58 = .ok (.iadd, 1) := by decide +kernel
theorem dX7_half_59 : decode cX7_half 59 = .ok (.aload_n 0, 1) := by decide +kernel
theorem dX7_half_60 : decode cX7_half 60 = .ok (.getfield 30, 3) := by decide +kernel
theorem dX7_half_63 : decode cX7_half 63 = .ok (.bipush 72, 2) := by decide +kernel
theorem dX7_half_65 : decode cX7_half 65 = .ok (.iload_n 1, 1) := by decide +kernel
theorem dX7_half_66 : decode cX7_half 66 = .ok (.imul, 1) := by decide +kernel
theorem dX7_half_67 : decode cX7_half 67 = .ok (.iload_n 2, 1) := by decide +kernel
theorem dX7_half_68 : decode cX7_half 68 = .ok (.iadd, 1) := by decide +kernel
theorem dX7_half_69 : decode cX7_half 69 = .ok (.laload, 1) := by decide +kernel
theorem dX7_half_70 : decode cX7_half 70 = .ok (.iconst 1, 1) := by decide +kernel
theorem dX7_half_71 : decode cX7_half 71 = .ok (.lshr, 1) := by decide +kernel
theorem dX7_half_72 : decode cX7_half 72 = .ok (.lload_n 3, 1) := by decide +kernel
theorem dX7_half_73 : decode cX7_half 73 = .ok (.lor, 1) := by decide +kernel
theorem dX7_half_74 : decode cX7_half 74 = .ok (.lastore, 1) := by decide +kernel
theorem dX7_half_75 : decode cX7_half 75 = .ok (.iinc 2 1, 3) := by decide +kernel
theorem dX7_half_78 : decode cX7_half 78 = .ok (.goto (-76), 3) := by decide +kernel
theorem dX7_half_81 : decode cX7_half 81 = .ok (.aload_n 0, 1) := by decide +kernel
theorem dX7_half_82 : decode cX7_half 82 = .ok (.iload_n 1, 1) := by decide +kernel
theorem dX7_half_83 : decode cX7_half 83 = .ok (.invokevirtual 48, 3) := by decide +kernel
theorem dX7_half_86 : decode cX7_half 86 = .ok (.return_, 1) := by decide +kernel
theorem dX7_up_0 : decode cX7_up 0 = .ok (.iload_n 2, 1) := by decide +kernel
theorem dX7_up_1 : decode cX7_up 1 = .ok (.bipush 32, 2) := by decide +kernel
theorem dX7_up_3 : decode cX7_up 3 = .ok (.idiv, 1) := by decide +kernel
theorem dX7_up_4 : decode cX7_up 4 = .ok (.istore_n 3, 1) := by decide +kernel
theorem dX7_up_5 : decode cX7_up 5 = .ok (.aload_n 0, 1) := by decide +kernel
theorem dX7_up_6 : decode cX7_up 6 = .ok (.getfield 33, 3) := by decide +kernel
theorem dX7_up_9 : decode cX7_up 9 = .ok (.iload_n 1, 1) := by decide +kernel
theorem dX7_up_10 : decode cX7_up 10 = .ok (.iaload, 1) := by decide +kernel
theorem dX7_up_11 : decode cX7_up 11 = .ok (.iconst 1, 1) := by decide +kernel
theorem dX7_up_12 : decode cX7_up 12 = .ok (.isub, 1) := by decide +kernel
theorem dX7_up_13 : decode cX7_up 13 = .ok (.istore 4, 2) := by decide +kernel
theorem dX7_up_15 : decode cX7_up 15 = .ok (.iload 4, 2) := by decide +kernel
theorem dX7_up_17 : decode cX7_up 17 = .ok (.ifCond .lt 35, 3) := by decide +kernel
theorem dX7_up_20 : decode cX7_up 20 = .ok (.aload_n 0, 1) := by decide +kernel
theorem dX7_up_21 : decode cX7_up 21 = .ok (.getfield 30, 3) := by decide +kernel
theorem dX7_up_24 : decode cX7_up 24 = .ok (.bipush 72, 2) := by decide +kernel
theorem dX7_up_26 : decode cX7_up 26 = .ok (.iload_n 1, 1) := by decide +kernel
theorem dX7_up_27 : decode cX7_up 27 = .ok (.imul, 1) := by decide +kernel
theorem dX7_up_28 : decode cX7_up 28 = .ok (.iload 4, 2) := by decide +kernel
theorem dX7_up_30 : decode cX7_up 30 = .ok (.iadd, 1) := by decide +kernel
theorem dX7_up_31 : decode cX7_up 31 = .ok (.iload_n 3, 1) := by decide +kernel
theorem dX7_up_32 : decode cX7_up 32 = .ok (.iadd, 1) := by decide +kernel
theorem dX7_up_33 : decode cX7_up 33 = .ok (.aload_n 0, 1) := by decide +kernel
theorem dX7_up_34 : decode cX7_up 34 = .ok (.getfield 30, 3) := by decide +kernel
theorem dX7_up_37 : decode cX7_up 37 = .ok (.bipush 72, 2) := by decide +kernel
theorem dX7_up_39 : decode cX7_up 39 = .ok (.iload_n 1, 1) := by decide +kernel
theorem dX7_up_40 : decode cX7_up 40 = .ok (.imul, 1) := by decide +kernel
theorem dX7_up_41 : decode cX7_up 41 = .ok (.iload 4, 2) := by decide +kernel
theorem dX7_up_43 : decode cX7_up 43 = .ok (.iadd, 1) := by decide +kernel
theorem dX7_up_44 : decode cX7_up 44 = .ok (.laload, 1) := by decide +kernel
theorem dX7_up_45 : decode cX7_up 45 = .ok (.lastore, 1) := by decide +kernel
theorem dX7_up_46 : decode cX7_up 46 = .ok (.iinc 4 (-1), 3) := by decide +kernel
theorem dX7_up_49 : decode cX7_up 49 = .ok (.goto (-34), 3) := by decide +kernel
theorem dX7_up_52 : decode cX7_up 52 = .ok (.iconst 0, 1) := by decide +kernel
theorem dX7_up_53 : decode cX7_up 53 = .ok (.istore 4, 2) := by decide +kernel
theorem dX7_up_55 : decode cX7_up 55 = .ok (.iload 4, 2) := by decide +kernel
theorem dX7_up_57 : decode cX7_up 57 = .ok (.iload_n 3, 1) := by decide +kernel
theorem dX7_up_58 : decode cX7_up 58 = .ok (.if_icmp .ge 31, 3) := by decide +kernel
theorem dX7_up_61 : decode cX7_up 61 = .ok (.aload_n 0, 1) := by decide +kernel
theorem dX7_up_62 : decode cX7_up 62 = .ok (.getfield 33, 3) := by decide +kernel
theorem dX7_up_65 : decode cX7_up 65 = .ok (.iload_n 1, 1) := by decide +kernel
theorem dX7_up_66 : decode cX7_up 66 = .ok (.iaload, 1) := by decide +kernel
theorem dX7_up_67 : decode cX7_up 67 = .ok (.ifCond .le 22, 3) := by decide +kernel
theorem dX7_up_70 : decode cX7_up 70 = .ok (.aload_n 0, 1) := by decide +kernel
theorem dX7_up_71 : decode cX7_up 71 = .ok (.getfield 30, 3) := by decide +kernel
theorem dX7_up_74 : decode cX7_up 74 = .ok (.bipush 72, 2) := by decide +kernel
theorem dX7_up_76 : decode cX7_up 76 = .ok (.iload_n 1, 1) := by decide +kernel
theorem dX7_up_77 : decode cX7_up 77 = .ok (.imul, 1) := by decide +kernel
theorem dX7_up_78 : decode cX7_up 78 = .ok (.iload 4, 2) := by decide +kernel
theorem dX7_up_80 : decode cX7_up 80 = .ok (.iadd, 1) := by decide +kernel
theorem dX7_up_81 : decode cX7_up 81 = .ok (.lconst 0, 1) := by decide +kernel
theorem dX7_up_82 : decode cX7_up 82 = .ok (.lastore, 1) := by decide +kernel
theorem dX7_up_83 : decode cX7_up 83 = .ok (.iinc 4 1, 3) := by decide +kernel
theorem dX7_up_86 : decode cX7_up 86 = .ok (.goto (-31), 3) := by decide +kernel
theorem dX7_up_89 : decode cX7_up 89 = .ok (.aload_n 0, 1) := by decide +kernel
theorem dX7_up_90 : decode cX7_up 90 = .ok (.getfield 33, 3) := by decide +kernel
theorem dX7_up_93 : decode cX7_up 93 = .ok (.iload_n 1, 1) := by decide +kernel
theorem dX7_up_94 : decode cX7_up 94 = .ok (.dup2, 1) := by decide +kernel
theorem dX7_up_95 : decode cX7_up 95 = .ok (.iaload, 1) := by decide +kernel
theorem dX7_up_96 : decode cX7_up 96 = .ok (.aload_n 0, 1) := by decide +kernel
theorem dX7_up_97 : decode cX7_up 97 = .ok (.getfield 33, 3) := by decide +kernel
theorem dX7_up_100 : decode cX7_up 100 = .ok (.iload_n 1, 1) := by decide +kernel
theorem dX7_up_101 : decode cX7_up 101 = .ok (.iaload, 1) := by decide +kernel
theorem dX7_up_102 : decode cX7_up 102 = .ok (.ifCond .le 7, 3) := by decide +kernel
theorem dX7_up_105 : decode cX7_up 105 = .ok (.iload_n 3, 1) := by decide +kernel
theorem dX7_up_106 : decode cX7_up 106 = .ok (.goto 4, 3) := by decide +kernel
theorem dX7_up_109 : decode cX7_up 109 = .ok (.iconst 0, 1) := by decide +kernel
theorem dX7_up_110 : decode cX7_up 110 = .ok (.iadd, 1) := by decide +kernel
theorem dX7_up_111 : decode cX7_up 111 = .ok (.iastore, 1) := by decide +kernel
theorem dX7_up_112 : decode cX7_up 112 = .ok (.iconst 0, 1) := by decide +kernel
theorem dX7_up_113 : decode cX7_up 113 = .ok (.istore 4, 2) := by decide +kernel
theorem dX7_up_115 : decode cX7_up 115 = .ok (.iload 4, 2) := by decide +kernel
theorem dX7_up_117 : decode cX7_up 117 = .ok (.iload_n 2, 1) := by decide +kernel
theorem dX7_up_118 : decode cX7_up 118 = .ok (.bipush 32, 2) := by decide +kernel
theorem dX7_up_120 : decode cX7_up 120 = .ok (.irem, 1) := by decide +kernel
theorem dX7_up_121 : decode cX7_up 121 = .ok (.if_icmp .ge 15, 3) := by decide +kernel
theorem dX7_up_124 : decode cX7_up 124 = .ok (.aload_n 0, 1) := by decide +kernel
theorem dX7_up_125 : decode cX7_up 125 = .ok (.iload_n 1, 1) := by decide +kernel
theorem dX7_up_126 : decode cX7_up 126 = .ok (.lconst 0, 1) := by decide +kernel
theorem dX7_up_127 : decode cX7_up 127 = .ok (.invokevirtual 54, 3) := by decide +kernel
theorem dX7_up_130 : decode cX7_up 130 = .ok (.iinc 4 1, 3) := by decide +kernel
theorem dX7_up_133 : decode cX7_up 133 = .ok (.goto (-18), 3) := by decide +kernel
theorem dX7_up_136 : decode cX7_up 136 = .ok (.return_, 1) := by decide +kernel
theorem dX7_divide_0 : decode cX7_divide 0 = .ok (.aload_n 0, 1) := by decide +kernel
theorem dX7_divide_1 : decode cX7_divide 1 = .ok (.getfield 33, 3) := by decide +kernel
theorem dX7_divide_4 : decode cX7_divide 4 = .ok (.iload_n 2, 1) := by decide +kernel
theorem dX7_divide_5 : decode cX7_divide 5 = .ok (.iconst 0, 1) := by decide +kernel
theorem dX7_divide_6 : decode cX7_divide 6 = .ok (.iastore, 1) := by decide +kernel
theorem dX7_divide_7 : decode cX7_divide 7 = .ok (.aload_n 0, 1) := by decide +kernel
theorem dX7_divide_8 : decode cX7_divide 8 = .ok (.getfield 33, 3) := by decide +kernel
theorem dX7_divide_11 : decode cX7_divide 11 = .ok (.iload_n 1, 1) := by decide +kernel
theorem dX7_divide_12 : decode cX7_divide 12 = .ok (.aload_n 0, 1) := by decide +kernel
theorem dX7_divide_13 : decode cX7_divide 13 = .ok (.getfield 33, 3) := by decide +kernel
theorem dX7_divide_16 : decode cX7_divide 16 = .ok (.iload_n 3, 1) := by decide +kernel
theorem dX7_divide_17 : decode cX7_divide 17 = .ok (.iaload, 1) := by decide +kernel
theorem dX7_divide_18 : decode cX7_divide 18 = .ok (.iastore, 1) := by decide +kernel
theorem dX7_divide_19 : decode cX7_divide 19 = .ok (.iconst 0, 1) := by decide +kernel
theorem dX7_divide_20 : decode cX7_divide 20 = .ok (.istore 5, 2) := by decide +kernel
theorem dX7_divide_22 : decode cX7_divide 22 = .ok (.iload 5, 2) := by decide +kernel
theorem dX7_divide_24 : decode cX7_divide 24 = .ok (.aload_n 0, 1) := by decide +kernel
theorem dX7_divide_25 : decode cX7_divide 25 = .ok (.getfield 33, 3) := by decide +kernel
theorem dX7_divide_28 : decode cX7_divide 28 = .ok (.iload_n 1, 1) := by decide +kernel
theorem dX7_divide_29 : decode cX7_divide 29 = .ok (.iaload, 1) := by decide +kernel
theorem dX7_divide_30 : decode cX7_divide 30 = .ok (.if_icmp .ge 22, 3) := by decide +kernel
theorem dX7_divide_33 : decode cX7_divide 33 = .ok (.aload_n 0, 1) := by decide +kernel
theorem dX7_divide_34 : decode cX7_divide 34 = .ok (.getfield 30, 3) := by decide +kernel
theorem dX7_divide_37 : decode cX7_divide 37 = .ok (.bipush 72, 2) := by decide +kernel
theorem dX7_divide_39 : decode cX7_divide 39 = .ok (.iload_n 1, 1) := by decide +kernel
theorem dX7_divide_40 : decode cX7_divide 40 = .ok (.imul, 1) := by decide +kernel
theorem dX7_divide_41 : decode cX7_divide 41 = .ok (.iload 5, 2) := by decide +kernel
theorem dX7_divide_43 : decode cX7_divide 43 = .ok (.iadd, 1) := by decide +kernel
theorem dX7_divide_44 : decode cX7_divide 44 = .ok (.lconst 0, 1) := by decide +kernel
theorem dX7_divide_45 : decode cX7_divide 45 = .ok (.lastore, 1) := by decide +kernel
theorem dX7_divide_46 : decode cX7_divide 46 = .ok (.iinc 5 1, 3) := by decide +kernel
theorem dX7_divide_49 : decode cX7_divide 49 = .ok (.goto (-27), 3) := by decide +kernel
theorem dX7_divide_52 : decode cX7_divide 52 = .ok (.bipush 32, 2) := by decide +kernel
theorem dX7_divide_54 : decode cX7_divide 54 = .ok (.aload_n 0, 1) := by decide +kernel
theorem dX7_divide_55 : decode cX7_divide 55 = .ok (.getfield 33, 3) := by decide +kernel
theorem dX7_divide_58 : decode cX7_divide 58 = .ok (.iload_n 3, 1) := by decide +kernel
theorem dX7_divide_59 : decode cX7_divide 59 = .ok (.iaload, 1) := by decide +kernel
theorem dX7_divide_60 : decode cX7_divide 60 = .ok (.imul, 1) := by decide +kernel
theorem dX7_divide_61 : decode cX7_divide 61 = .ok (.iconst 1, 1) := by decide +kernel
theorem dX7_divide_62 : decode cX7_divide 62 = .ok (.isub, 1) := by decide +kernel
theorem dX7_divide_63 : decode cX7_divide 63 = .ok (.istore 5, 2) := by decide +kernel
theorem dX7_divide_65 : decode cX7_divide 65 = .ok (.iload 5, 2) := by decide +kernel
theorem dX7_divide_67 : decode cX7_divide 67 = .ok (.ifCond .lt 79, 3) := by decide +kernel
theorem dX7_divide_70 : decode cX7_divide 70 = .ok (.aload_n 0, 1) := by decide +kernel
theorem dX7_divide_71 : decode cX7_divide 71 = .ok (.iload_n 2, 1) := by decide +kernel
theorem dX7_divide_72 : decode cX7_divide 72 = .ok (.aload_n 0, 1) := by decide +kernel
theorem dX7_divide_73 : decode cX7_divide 73 = .ok (.getfield 30, 3) := by decide +kernel
theorem dX7_divide_76 : decode cX7_divide 76 = .ok (.bipush 72, 2) := by decide +kernel
theorem dX7_divide_78 : decode cX7_divide 78 = .ok (.iload_n 3, 1) := by decide +kernel
theorem dX7_divide_79 : decode cX7_divide 79 = .ok (.imul, 1) := by decide +kernel
theorem dX7_divide_80 : decode cX7_divide 80 = .ok (.iload 5, 2) := by decide +kernel
theorem dX7_divide_82 : decode cX7_divide 82 = .ok (.bipush 32, 2) := by decide +kernel
theorem dX7_divide_84 : decode cX7_divide 84 = .ok (.idiv, 1) := by decide +kernel
theorem dX7_divide_85 : decode cX7_divide 85 = .ok (.iadd, 1) := by decide +kernel
theorem dX7_divide_86 : decode cX7_divide 86 = .ok (.laload, 1) := by decide +kernel
theorem dX7_divide_87 : decode cX7_divide 87 = .ok (.iload 5, 2) := by decide +kernel
theorem dX7_divide_89 : decode cX7_divide 89 = .ok (.bipush 32, 2) := by decide +kernel
theorem dX7_divide_91 : decode cX7_divide 91 = .ok (.irem, 1) := by decide +kernel
theorem dX7_divide_92 : decode cX7_divide 92 = .ok (.lshr, 1) := by decide +kernel
theorem dX7_divide_93 : decode cX7_divide 93 = .ok (.lconst 1, 1) := by decide +kernel
theorem dX7_divide_94 : decode cX7_divide 94 = .ok (.land, 1) := by decide +kernel
theorem dX7_divide_95 : decode cX7_divide 95 = .ok (.invokevirtual 54, 3) := by decide +kernel
theorem dX7_divide_98 : decode cX7_divide 98 = .ok (.aload_n 0, 1) := by decide +kernel
theorem dX7_divide_99 : decode cX7_divide 99 = .ok (.iload_n 2, 1) := by decide +kernel
theorem dX7_divide_100 : decode cX7_divide 100 = .ok (.iload 4, 2) := by decide +kernel
theorem dX7_divide_102 : decode cX7_divide 102 = .ok (.invokevirtual 58, 3) := by decide +kernel
theorem dX7_divide_105 : decode cX7_divide 105 = .ok (.ifCond .lt 35, 3) := by decide +kernel
theorem dX7_divide_108 : decode cX7_divide 108 = .ok (.aload_n 0, 1) := by decide +kernel
theorem dX7_divide_109 : decode cX7_divide 109 = .ok (.iload_n 2, 1) := by decide +kernel
theorem dX7_divide_110 : decode cX7_divide 110 = .ok (.iload 4, 2) := by decide +kernel
theorem dX7_divide_112 : decode cX7_divide 112 = .ok (.invokevirtual 62, 3) := by decide +kernel
theorem dX7_divide_115 : decode cX7_divide 115 = .ok (.aload_n 0, 1) := by decide +kernel
theorem dX7_divide_116 : decode cX7_divide 116 = .ok (.getfield 30, 3) := by decide +kernel
theorem dX7_divide_119 : decode cX7_divide 119 = .ok (.bipush 72, 2) := by decide +kernel
theorem dX7_divide_121 : decode cX7_divide 121 = .ok (.iload_n 1, 1) := by decide +kernel
theorem dX7_divide_122 : decode cX7_divide 122 = .ok (.imul, 1) := by decide +kernel
theorem dX7_divide_123 : decode cX7_divide 123 = .ok (.iload 5, 2) := by decide +kernel
theorem dX7_divide_125 : decode cX7_divide 125 = .ok (.bipush 32, 2) := by decide +kernel
theorem dX7_divide_127 : decode cX7_divide 127 = .ok (.idiv, 1) := by decide +kernel
theorem dX7_divide_128 : decode cX7_divide 128 = .ok (.iadd, 1) := by decide +kernel
theorem dX7_divide_129 : decode cX7_divide 129 = .ok (.dup2, 1) := by decide +kernel
theorem dX7_divide_130 : decode cX7_divide 130 = .ok (.laload, 1) := by decide +kernel
theorem dX7_divide_131 : decode cX7_divide 131 = .ok (.lconst 1, 1) := by decide +kernel
theorem dX7_divide_132 : decode cX7_divide 132 = .ok (.iload 5, 2) := by decide +kernel
theorem dX7_divide_134 : decode cX7_divide 134 = .ok (.bipush 32, 2) := by decide +kernel
theorem dX7_divide_136 : decode cX7_divide 136 = .ok (.irem, 1) := by decide +kernel
theorem dX7_divide_137 : decode cX7_divide 137 = .ok (.lshl, 1) := by decide +kernel
theorem dX7_divide_138 : decode cX7_divide 138 = .ok (.lor, 1) := by decide +kernel
theorem dX7_divide_139 : decode cX7_divide 139 = .ok (.lastore, 1) := by decide +kernel
theorem dX7_divide_140 : decode cX7_divide 140 = .ok (.iinc 5 (-1), 3) := by decide +kernel
theorem dX7_divide_143 : decode cX7_divide 143 = .ok (.goto (-78), 3) := by decide +kernel
theorem dX7_divide_146 : decode cX7_divide 146 = .ok (.aload_n 0, 1) := by decide +kernel
theorem dX7_divide_147 : decode cX7_divide 147 = .ok (.iload_n 1, 1) := by decide +kernel
theorem dX7_divide_148 : decode cX7_divide 148 = .ok (.invokevirtual 48, 3) := by decide +kernel
theorem dX7_divide_151 : decode cX7_divide 151 = .ok (.return_, 1) := by decide +kernel
theorem dX7_isOdd_0 : decode cX7_isOdd 0 = .ok (.aload_n 0, 1) := by decide +kernel
theorem dX7_isOdd_1 : decode cX7_isOdd 1 = .ok (.getfield 33, 3) := by decide +kernel
theorem dX7_isOdd_4 : decode cX7_isOdd 4 = .ok (.iload_n 1, 1) := by decide +kernel
theorem dX7_isOdd_5 : decode cX7_isOdd 5 = .ok (.iaload, 1) := by decide +kernel
theorem dX7_isOdd_6 : decode cX7_isOdd 6 = .ok (.ifCond .le 23, 3) := by decide +kernel
theorem dX7_isOdd_9 : decode cX7_isOdd 9 = .ok (.aload_n 0, 1) := by decide +kernel
theorem dX7_isOdd_10 : decode cX7_isOdd 10 = .ok (.getfield 30, 3) := by decide +kernel
theorem dX7_isOdd_13 : decode cX7_isOdd 13 = .ok (.bipush 72, 2) := by decide +kernel
theorem dX7_isOdd_15 : decode cX7_isOdd 15 = .ok (.iload_n 1, 1) := by decide +kernel
theorem dX7_isOdd_16 : decode cX7_isOdd 16 = .ok (.imul, 1) := by decide +kernel
theorem dX7_isOdd_17 : decode cX7_isOdd 17 = .ok (.laload, 1) := by decide +kernel
theorem dX7_isOdd_18 : decode cX7_isOdd 18 = .ok (.lconst 1, 1) := by decide +kernel
theorem dX7_isOdd_19 : decode cX7_isOdd 19 = .ok (.land, 1) := by decide +kernel
theorem dX7_isOdd_20 : decode cX7_isOdd 20 = .ok (.lconst 1, 1) := by decide +kernel
theorem dX7_isOdd_21 : decode cX7_isOdd 21 = .ok (.lcmp, 1) := by decide +kernel
theorem dX7_isOdd_22 : decode cX7_isOdd 22 = .ok (.ifCond .ne 7, 3) := by decide +kernel
theorem dX7_isOdd_25 : decode cX7_isOdd 25 = .ok (.iconst 1, 1) := by decide +kernel
theorem dX7_isOdd_26 : decode cX7_isOdd 26 = .ok (.goto 4, 3) := by decide +kernel
theorem dX7_isOdd_29 : decode cX7_isOdd 29 = .ok (.iconst 0, 1) := by decide +kernel
theorem dX7_isOdd_30 : decode cX7_isOdd 30 = .ok (.ireturn, 1) := by decide +kernel
theorem dX7_divisor_0 : decode cX7_divisor 0 = .ok (.aload_n 0, 1) := by decide +kernel
theorem dX7_divisor_1 : decode cX7_divisor 1 = .ok (.getfield 33, 3) := by decide +kernel
theorem dX7_divisor_4 : decode cX7_divisor 4 = .ok (.iload_n 1, 1) := by decide +kernel
theorem dX7_divisor_5 : decode cX7_divisor 5 = .ok (.iaload, 1) := by decide +kernel
theorem dX7_divisor_6 : decode cX7_divisor 6 = .ok (.ifCond .eq 12, 3) := by decide +kernel
theorem dX7_divisor_9 : decode cX7_divisor 9 = .ok (.aload_n 0, 1) := by decide +kernel
theorem dX7_divisor_10 : decode cX7_divisor 10 = .ok (.getfield 33, 3) := by decide +kernel
theorem dX7_divisor_13 : decode cX7_divisor 13 = .ok (.iload_n 2, 1) := by decide +kernel
theorem dX7_divisor_14 : decode cX7_divisor 14 = .ok (.iaload, 1) := by decide +kernel
theorem dX7_divisor_15 : decode cX7_divisor 15 = .ok (.ifCond .ne 23, 3) := by decide +kernel
theorem dX7_divisor_18 : decode cX7_divisor 18 = .ok (.aload_n 0, 1) := by decide +kernel
theorem dX7_divisor_19 : decode cX7_divisor 19 = .ok (.iload_n 1, 1) := by decide +kernel
theorem dX7_divisor_20 : decode cX7_divisor 20 = .ok (.aload_n 0, 1) := by decide +kernel
theorem dX7_divisor_21 : decode cX7_divisor 21 = .ok (.getfield 33, 3) := by decide +kernel
theorem dX7_divisor_24 : decode cX7_divisor 24 = .ok (.iload_n 1, 1) := by decide +kernel
theorem dX7_divisor_25 : decode cX7_divisor 25 = .ok (.iaload, 1) := by decide +kernel
theorem dX7_divisor_26 : decode cX7_divisor 26 = .ok (.ifCond .ne 7, 3) := by decide +kernel
theorem dX7_divisor_29 : decode cX7_divisor 29 = .ok (.iload_n 2, 1) := by decide +kernel
theorem dX7_divisor_30 : decode cX7_divisor 30 = .ok (.goto 4, 3) := by decide +kernel
theorem dX7_divisor_33 : decode cX7_divisor 33 = .ok (.iload_n 1, 1) := by decide +kernel
theorem dX7_divisor_34 : decode cX7_divisor 34 = .ok (.invokevirtual 66, 3) := by decide +kernel
theorem dX7_divisor_37 : decode cX7_divisor 37 = .ok (.return_, 1) := by decide +kernel
theorem dX7_divisor_38 : decode cX7_divisor 38 = .ok (.iconst 0, 1) := by decide +kernel
theorem dX7_divisor_39 : decode cX7_divisor 39 = .ok (.istore_n 3, 1) := by decide +kernel
theorem dX7_divisor_40 : decode cX7_divisor 40 = .ok (.aload_n 0, 1) := by decide +kernel
theorem dX7_divisor_41 : decode cX7_divisor 41 = .ok (.iload_n 1, 1) := by decide +kernel
theorem dX7_divisor_42 : decode cX7_divisor 42 = .ok (.invokevirtual 69, 3) := by decide +kernel
theorem dX7_divisor_45 : decode cX7_divisor 45 = .ok (.ifCond .ne 27, 3) := by decide +kernel
theorem dX7_divisor_48 : decode cX7_divisor 48 = .ok (.aload_n 0, 1) := by decide +kernel
theorem dX7_divisor_49 : decode cX7_divisor 49 = .ok (.iload_n 2, 1) := by decide +kernel
theorem dX7_divisor_50 : decode cX7_divisor 50 = .ok (.invokevirtual 69, 3) := by decide +kernel
theorem dX7_divisor_53 : decode cX7_divisor 53 = .ok (.ifCond .ne 19, 3) := by decide +kernel
theorem dX7_divisor_56 : decode cX7_divisor 56 = .ok (.aload_n 0, 1) := by decide +kernel
theorem dX7_divisor_57 : decode cX7_divisor 57 = .ok (.iload_n 1, 1) := by decide +kernel
theorem dX7_divisor_58 : decode cX7_divisor 58 = .ok (.invokevirtual 73, 3) := by decide +kernel
theorem dX7_divisor_61 : decode cX7_divisor 61 = .ok (.aload_n 0, 1) := by decide +kernel
theorem dX7_divisor_62 : decode cX7_divisor 62 = .ok (.iload_n 2, 1) := by decide +kernel
theorem dX7_divisor_63 : decode cX7_divisor 63 = .ok (.invokevirtual 73, 3) := by decide +kernel
theorem dX7_divisor_66 : decode cX7_divisor 66 = .ok (.iinc 3 1, 3) := by decide +kernel
theorem dX7_divisor_69 : decode cX7_divisor 69 = .ok (.goto (-29), 3) := by decide +kernel
theorem dX7_divisor_72 : decode cX7_divisor 72 = .ok (.aload_n 0, 1) := by decide +kernel
theorem dX7_divisor_73 : decode cX7_divisor 73 = .ok (.getfield 33, 3) := by decide +kernel
theorem dX7_divisor_76 : decode cX7_divisor 76 = .ok (.iload_n 2, 1) := by decide +kernel
theorem dX7_divisor_77 : decode cX7_divisor 77 = .ok (.iaload, 1) := by decide +kernel
theorem dX7_divisor_78 : decode cX7_divisor 78 = .ok (.ifCond .le 73, 3) := by decide +kernel
theorem dX7_divisor_81 : decode cX7_divisor 81 = .ok (.aload_n 0, 1) := by decide +kernel
theorem dX7_divisor_82 : decode cX7_divisor 82 = .ok (.iload_n 1, 1) := by decide +kernel
theorem dX7_divisor_83 : decode cX7_divisor 83 = .ok (.invokevirtual 69, 3) := by decide +kernel
theorem dX7_divisor_86 : decode cX7_divisor 86 = .ok (.ifCond .ne 11, 3) := by decide +kernel
theorem dX7_divisor_89 : decode cX7_divisor 89 = .ok (.aload_n 0, 1) := by decide +kernel
theorem dX7_divisor_90 : decode cX7_divisor 90 = .ok (.iload_n 1, 1) := by decide +kernel
theorem dX7_divisor_91 : decode cX7_divisor 91 = .ok (.invokevirtual 73, 3) := by decide +kernel
theorem dX7_divisor_94 : decode cX7_divisor 94 = .ok (.goto (-13), 3) := by decide +kernel
theorem dX7_divisor_97 : decode cX7_divisor 97 = .ok (.aload_n 0, 1) := by decide +kernel
theorem dX7_divisor_98 : decode cX7_divisor 98 = .ok (.iload_n 2, 1) := by decide +kernel
theorem dX7_divisor_99 : decode cX7_divisor 99 = .ok (.invokevirtual 69, 3) := by decide +kernel
theorem dX7_divisor_102 : decode cX7_divisor 102 = .ok (.ifCond .ne 11, 3) := by decide +kernel
theorem dX7_divisor_105 : decode cX7_divisor 105 = .ok (.aload_n 0, 1) := by decide +kernel
theorem dX7_divisor_106 : decode cX7_divisor 106 = .ok (.iload_n 2, 1) := by decide +kernel
theorem dX7_divisor_107 : decode cX7_divisor 107 = .ok (.invokevirtual 73, 3) := by decide +kernel
theorem dX7_divisor_110 : decode cX7_divisor 110 = .ok (.goto (-13), 3) := by decide +kernel
theorem dX7_divisor_113 : decode cX7_divisor 113 = .ok (.aload_n 0, 1) := by decide +kernel
theorem dX7_divisor_114 : decode cX7_divisor 114 = .ok (.iload_n 1, 1) := by decide +kernel
theorem dX7_divisor_115 : decode cX7_divisor 115 = .ok (.iload_n 2, 1) := by decide +kernel
theorem dX7_divisor_116 : decode cX7_divisor 116 = .ok (.invokevirtual 58, 3) := by decide +kernel
theorem dX7_divisor_119 : decode cX7_divisor 119 = .ok (.ifCond .le 23, 3) := by decide +kernel
theorem dX7_divisor_122 : decode cX7_divisor 122 = .ok (.aload_n 0, 1) := by decide +kernel
theorem dX7_divisor_123 : decode cX7_divisor 123 = .ok (.bipush 20, 2) := by decide +kernel
theorem dX7_divisor_125 : decode cX7_divisor 125 = .ok (.iload_n 1, 1) := by decide +kernel
theorem dX7_divisor_126 : decode cX7_divisor 126 = .ok (.invokevirtual 66, 3) := by decide +kernel
theorem dX7_divisor_129 : decode cX7_divisor 129 = .ok (.aload_n 0, 1) := by decide +kernel
theorem dX7_divisor_130 : decode cX7_divisor 130 = .ok (.iload_n 1, 1) := by decide +kernel
theorem dX7_divisor_131 : decode cX7_divisor 131 = .ok (.iload_n 2, 1) := by decide +kernel
theorem dX7_divisor_132 : decode cX7_divisor 132 = .ok (.invokevirtual 66, 3) := by decide +kernel
theorem dX7_divisor_135 : decode cX7_divisor 135 = .ok (.aload_n 0, 1) := by decide +kernel
theorem dX7_divisor_136 : decode cX7_divisor 136 = .ok (.iload_n 2, 1) := by decide +kernel
theorem dX7_divisor_137 : decode cX7_divisor 137 = .ok (.bipush 20, 2) := by decide +kernel
theorem dX7_divisor_139 : decode cX7_divisor 139 = .ok (.invokevirtual 66, 3) := by decide +kernel
theorem dX7_divisor_142 : decode cX7_divisor 142 = .ok (.aload_n 0, 1) := by decide +kernel
theorem dX7_divisor_143 : decode cX7_divisor 143 = .ok (.iload_n 2, 1) := by decide +kernel
theorem dX7_divisor_144 : decode cX7_divisor 144 = .ok (.iload_n 1, 1) := by decide +kernel
theorem dX7_divisor_145 : decode cX7_divisor 145 = .ok (.invokevirtual 62, 3) := by decide +kernel
theorem dX7_divisor_148 : decode cX7_divisor 148 = .ok (.goto (-76), 3) := by decide +kernel
theorem dX7_divisor_151 : decode cX7_divisor 151 = .ok (.aload_n 0, 1) := by decide +kernel
theorem dX7_divisor_152 : decode cX7_divisor 152 = .ok (.iload_n 1, 1) := by decide +kernel
theorem dX7_divisor_153 : decode cX7_divisor 153 = .ok (.iload_n 3, 1) := by decide +kernel
theorem dX7_divisor_154 : decode cX7_divisor 154 = .ok (.invokevirtual 76, 3) := by decide +kernel
theorem dX7_divisor_157 : decode cX7_divisor 157 = .ok (.return_, 1) := by decide +kernel
theorem dX7_bySmall_0 : decode cX7_bySmall 0 = .ok (.lconst 0, 1) := by decide +kernel
theorem dX7_bySmall_1 : decode cX7_bySmall 1 = .ok (.lstore 4, 2) := by decide +kernel
theorem dX7_bySmall_3 : decode cX7_bySmall 3 = .ok (.aload_n 0, 1) := by decide +kernel
theorem dX7_bySmall_4 : decode cX7_bySmall 4 = .ok (.getfield 33, 3) := by decide +kernel
theorem dX7_bySmall_7 : decode cX7_bySmall 7 = .ok (.iload_n 1, 1) := by decide +kernel
theorem dX7_bySmall_8 : decode cX7_bySmall 8 = .ok (.iaload, 1) := by decide +kernel
theorem dX7_bySmall_9 : decode cX7_bySmall 9 = .ok (.iconst 1, 1) := by decide +kernel
theorem dX7_bySmall_10 : decode cX7_bySmall 10 = .ok (.isub, 1) := by decide +kernel
theorem dX7_bySmall_11 : decode cX7_bySmall 11 = .ok (.istore 6, 2) := by decide +kernel
theorem dX7_bySmall_13 : decode cX7_bySmall 13 = .ok (.iload 6, 2) := by decide +kernel
theorem dX7_bySmall_15 : decode cX7_bySmall 15 = .ok (.ifCond .lt 51, 3) := by decide +kernel
theorem dX7_bySmall_18 : decode cX7_bySmall 18 = .ok (.lload 4, 2) := by decide +kernel
theorem dX7_bySmall_20 : decode cX7_bySmall 20 = .ok (.bipush 32, 2) := by decide +kernel
theorem dX7_bySmall_22 : decode cX7_bySmall 22 = .ok (.lshl, 1) := by decide +kernel
theorem dX7_bySmall_23 : decode cX7_bySmall 23 = .ok (.aload_n 0, 1) := by decide +kernel
theorem dX7_bySmall_24 : decode cX7_bySmall 24 = .ok (.getfield 30, 3) := by decide +kernel
theorem dX7_bySmall_27 : decode cX7_bySmall 27 = .ok (.bipush 72, 2) := by decide +kernel
theorem dX7_bySmall_29 : decode cX7_bySmall 29 = .ok (.iload_n 1, 1) := by decide +kernel
theorem dX7_bySmall_30 : decode cX7_bySmall 30 = .ok (.imul, 1) := by decide +kernel
theorem dX7_bySmall_31 : decode cX7_bySmall 31 = .ok (.iload 6, 2) := by decide +kernel
theorem dX7_bySmall_33 : decode cX7_bySmall 33 = .ok (.iadd, 1) := by decide +kernel
theorem dX7_bySmall_34 : decode cX7_bySmall 34 = .ok (.laload, 1) := by decide +kernel
theorem dX7_bySmall_35 : decode cX7_bySmall 35 = .ok (.lor, 1) := by decide +kernel
theorem dX7_bySmall_36 : decode cX7_bySmall 36 = .ok (.lstore 4, 2) := by decide +kernel
theorem dX7_bySmall_38 : decode cX7_bySmall 38 = .ok (.aload_n 0, 1) := by decide +kernel
theorem dX7_bySmall_39 : decode cX7_bySmall 39 = .ok (.getfield 30, 3) := by decide +kernel
theorem dX7_bySmall_42 : decode cX7_bySmall 42 = .ok (.bipush 72, 2) := by decide +kernel
theorem dX7_bySmall_44 : decode cX7_bySmall 44 = .ok (.iload_n 1, 1) := by decide +kernel
theorem dX7_bySmall_45 : decode cX7_bySmall 45 = .ok (.imul, 1) := by decide +kernel
theorem dX7_bySmall_46 : decode cX7_bySmall 46 = .ok (.iload 6, 2) := by decide +kernel
theorem dX7_bySmall_48 : decode cX7_bySmall 48 = .ok (.iadd, 1) := by decide +kernel
theorem dX7_bySmall_49 : decode cX7_bySmall 49 = .ok (.lload 4, 2) := by decide +kernel
theorem dX7_bySmall_51 : decode cX7_bySmall 51 = .ok (.lload_n 2, 1) := by decide +kernel
theorem dX7_bySmall_52 : decode cX7_bySmall 52 = .ok (.ldiv, 1) := by decide +kernel
theorem dX7_bySmall_53 : decode cX7_bySmall 53 = .ok (.lastore, 1) := by decide +kernel
theorem dX7_bySmall_54 : decode cX7_bySmall 54 = .ok (.lload 4, 2) := by decide +kernel
theorem dX7_bySmall_56 : decode cX7_bySmall 56 = .ok (.lload_n 2, 1) := by decide +kernel
theorem dX7_bySmall_57 : decode cX7_bySmall 57 = .ok (.lrem, 1) := by decide +kernel
theorem dX7_bySmall_58 : decode cX7_bySmall 58 = .ok (.lstore 4, 2) := by decide +kernel
theorem dX7_bySmall_60 : decode cX7_bySmall 60 = .ok (.iinc 6 (-1), 3) := by decide +kernel
theorem dX7_bySmall_63 : decode cX7_bySmall 63 = .ok (.goto (-50), 3) := by decide +kernel
theorem dX7_bySmall_66 : decode cX7_bySmall 66 = .ok (.aload_n 0, 1) := by decide +kernel
theorem dX7_bySmall_67 : decode cX7_bySmall 67 = .ok (.iload_n 1, 1) := by decide +kernel
theorem dX7_bySmall_68 : decode cX7_bySmall 68 = .ok (.invokevirtual 48, 3) := by decide +kernel
theorem dX7_bySmall_71 : decode cX7_bySmall 71 = .ok (.lload 4, 2) := by decide +kernel
theorem dX7_bySmall_73 : decode cX7_bySmall 73 = .ok (.lreturn, 1) := by decide +kernel
theorem dX7_timesSmall_0 : decode cX7_timesSmall 0 = .ok (.lload 4, 2) := by decide +kernel
theorem dX7_timesSmall_2 : decode cX7_timesSmall 2 = .ok (.lstore 6, 2) := by decide +kernel
theorem dX7_timesSmall_4 : decode cX7_timesSmall 4 = .ok (.iconst 0, 1) := by decide +kernel
theorem dX7_timesSmall_5 : decode cX7_timesSmall 5 = .ok (.istore 8, 2) := by decide +kernel
theorem dX7_timesSmall_7 : decode cX7_timesSmall 7 = .ok (.iload 8, 2) := by decide +kernel
theorem dX7_timesSmall_9 : decode cX7_timesSmall 9 = .ok (.aload_n 0, 1) := by decide +kernel
theorem dX7_timesSmall_10 : decode cX7_timesSmall 10 = .ok (.getfield 33, 3) := by decide +kernel
theorem dX7_timesSmall_13 : decode cX7_timesSmall 13 = .ok (.iload_n 1, 1) := by decide +kernel
theorem dX7_timesSmall_14 : decode cX7_timesSmall 14 = .ok (.iaload, 1) := by decide +kernel
theorem dX7_timesSmall_15 : decode cX7_timesSmall 15 = .ok (.if_icmp .ge 53, 3) := by decide +kernel
theorem dX7_timesSmall_18 : decode cX7_timesSmall 18 = .ok (.lload 6, 2) := by decide +kernel
theorem dX7_timesSmall_20 : decode cX7_timesSmall 20 = .ok (.aload_n 0, 1) := by decide +kernel
theorem dX7_timesSmall_21 : decode cX7_timesSmall 21 = .ok (.getfield 30, 3) := by decide +kernel
theorem dX7_timesSmall_24 : decode cX7_timesSmall 24 = .ok (.bipush 72, 2) := by decide +kernel
theorem dX7_timesSmall_26 : decode cX7_timesSmall 26 = .ok (.iload_n 1, 1) := by decide +kernel
theorem dX7_timesSmall_27 : decode cX7_timesSmall 27 = .ok (.imul, 1) := by decide +kernel
theorem dX7_timesSmall_28 : decode cX7_timesSmall 28 = .ok (.iload 8, 2) := by decide +kernel
theorem dX7_timesSmall_30 : decode cX7_timesSmall 30 = .ok (.iadd, 1) := by decide +kernel
theorem dX7_timesSmall_31 : decode cX7_timesSmall 31 = .ok (.laload, 1) := by decide +kernel
theorem dX7_timesSmall_32 : decode cX7_timesSmall 32 = .ok (.lload_n 2, 1) := by decide +kernel
theorem dX7_timesSmall_33 : decode cX7_timesSmall 33 = .ok (.lmul, 1) := by decide +kernel
theorem dX7_timesSmall_34 : decode cX7_timesSmall 34 = .ok (.ladd, 1) := by decide +kernel
theorem dX7_timesSmall_35 : decode cX7_timesSmall 35 = .ok (.lstore 6, 2) := by decide +kernel
theorem dX7_timesSmall_37 : decode cX7_timesSmall 37 = .ok (.aload_n 0, 1) := by decide +kernel
theorem dX7_timesSmall_38 : decode cX7_timesSmall 38 = .ok (.getfield 30, 3) := by decide +kernel
theorem dX7_timesSmall_41 : decode cX7_timesSmall 41 = .ok (.bipush 72, 2) := by decide +kernel
theorem dX7_timesSmall_43 : decode cX7_timesSmall 43 = .ok (.iload_n 1, 1) := by decide +kernel
theorem dX7_timesSmall_44 : decode cX7_timesSmall 44 = .ok (.imul, 1) := by decide +kernel
theorem dX7_timesSmall_45 : decode cX7_timesSmall 45 = .ok (.iload 8, 2) := by decide +kernel
theorem dX7_timesSmall_47 : decode cX7_timesSmall 47 = .ok (.iadd, 1) := by decide +kernel
theorem dX7_timesSmall_48 : decode cX7_timesSmall 48 = .ok (.lload 6, 2) := by decide +kernel
theorem dX7_timesSmall_50 : decode cX7_timesSmall 50 = .ok (.ldc2_w 46, 3) := by decide +kernel
theorem dX7_timesSmall_53 : decode cX7_timesSmall 53 = .ok (.land, 1) := by decide +kernel
theorem dX7_timesSmall_54 : decode cX7_timesSmall 54 = .ok (.lastore, 1) := by decide +kernel
theorem dX7_timesSmall_55 : decode cX7_timesSmall 55 = .ok (.lload 6, 2) := by decide +kernel
theorem dX7_timesSmall_57 : decode cX7_timesSmall 57 = .ok (.bipush 32, 2) := by decide +kernel
theorem dX7_timesSmall_59 : decode cX7_timesSmall 59 = .ok (.lushr, 1) := by decide +kernel
theorem dX7_timesSmall_60 : decode cX7_timesSmall 60 = .ok (.lstore 6, 2) := by decide +kernel
theorem dX7_timesSmall_62 : decode cX7_timesSmall 62 = .ok (.iinc 8 1, 3) := by decide +kernel
theorem dX7_timesSmall_65 : decode cX7_timesSmall 65 = .ok (.goto (-58), 3) := by decide +kernel
theorem dX7_timesSmall_68 : decode cX7_timesSmall 68 = .ok (.aload_n 0, 1) := by decide +kernel
theorem dX7_timesSmall_69 : decode cX7_timesSmall 69 = .ok (.getfield 30, 3) := by decide +kernel
theorem dX7_timesSmall_72 : decode cX7_timesSmall 72 = .ok (.bipush 72, 2) := by decide +kernel
theorem dX7_timesSmall_74 : decode cX7_timesSmall 74 = .ok (.iload_n 1, 1) := by decide +kernel
theorem dX7_timesSmall_75 : decode cX7_timesSmall 75 = .ok (.imul, 1) := by decide +kernel
theorem dX7_timesSmall_76 : decode cX7_timesSmall 76 = .ok (.aload_n 0, 1) := by decide +kernel
theorem dX7_timesSmall_77 : decode cX7_timesSmall 77 = .ok (.getfield 33, 3) := by decide +kernel
theorem dX7_timesSmall_80 : decode cX7_timesSmall 80 = .ok (.iload_n 1, 1) := by decide +kernel
theorem dX7_timesSmall_81 : decode cX7_timesSmall 81 = .ok (.iaload, 1) := by decide +kernel
theorem dX7_timesSmall_82 : decode cX7_timesSmall 82 = .ok (.iadd, 1) := by decide +kernel
theorem dX7_timesSmall_83 : decode cX7_timesSmall 83 = .ok (.lload 6, 2) := by decide +kernel
theorem dX7_timesSmall_85 : decode cX7_timesSmall 85 = .ok (.lastore, 1) := by decide +kernel
theorem dX7_timesSmall_86 : decode cX7_timesSmall 86 = .ok (.aload_n 0, 1) := by decide +kernel
theorem dX7_timesSmall_87 : decode cX7_timesSmall 87 = .ok (.getfield 33, 3) := by decide +kernel
theorem dX7_timesSmall_90 : decode cX7_timesSmall 90 = .ok (.iload_n 1, 1) := by decide +kernel
theorem dX7_timesSmall_91 : decode cX7_timesSmall 91 = .ok (.dup2, 1) := by decide +kernel
theorem dX7_timesSmall_92 : decode cX7_timesSmall 92 = .ok (.iaload, 1) := by decide +kernel
theorem dX7_timesSmall_93 : decode cX7_timesSmall 93 = .ok (.iconst 1, 1) := by decide +kernel
theorem dX7_timesSmall_94 : decode cX7_timesSmall 94 = .ok (.iadd, 1) := by decide +kernel
theorem dX7_timesSmall_95 : decode cX7_timesSmall 95 = .ok (.iastore, 1) := by decide +kernel
theorem dX7_timesSmall_96 : decode cX7_timesSmall 96 = .ok (.aload_n 0, 1) := by decide +kernel
theorem dX7_timesSmall_97 : decode cX7_timesSmall 97 = .ok (.iload_n 1, 1) := by decide +kernel
theorem dX7_timesSmall_98 : decode cX7_timesSmall 98 = .ok (.invokevirtual 48, 3) := by decide +kernel
theorem dX7_timesSmall_101 : decode cX7_timesSmall 101 = .ok (.return_, 1) := by decide +kernel
theorem dX7_isNumber_0 : decode cX7_isNumber 0 = .ok (.iload_n 1, 1) := by decide +kernel
theorem dX7_isNumber_1 : decode cX7_isNumber 1 = .ok (.i2l, 1) := by decide +kernel
theorem dX7_isNumber_2 : decode cX7_isNumber 2 = .ok (.lconst 0, 1) := by decide +kernel
theorem dX7_isNumber_3 : decode cX7_isNumber 3 = .ok (.ldc2_w 79, 3) := by decide +kernel
theorem dX7_isNumber_6 : decode cX7_isNumber 6 = .ok (.invokestatic 81, 3) := by decide +kernel
theorem dX7_isNumber_9 : decode cX7_isNumber 9 = .ok (.ifCond .eq 16, 3) := by decide +kernel
theorem dX7_isNumber_12 : decode cX7_isNumber 12 = .ok (.aload_n 0, 1) := by decide +kernel
theorem dX7_isNumber_13 : decode cX7_isNumber 13 = .ok (.getfield 7, 3) := by decide +kernel
theorem dX7_isNumber_16 : decode cX7_isNumber 16 = .ok (.iload_n 1, 1) := by decide +kernel
theorem dX7_isNumber_17 : decode cX7_isNumber 17 = .ok (.baload, 1) := by decide +kernel
theorem dX7_isNumber_18 : decode cX7_isNumber 18 = .ok (.ifCond .eq 7, 3) := by decide +kernel
theorem dX7_isNumber_21 : decode cX7_isNumber 21 = .ok (.iconst 1, 1) := by decide +kernel
theorem dX7_isNumber_22 : decode cX7_isNumber 22 = .ok (.goto 4, 3) := by decide +kernel
theorem dX7_isNumber_25 : decode cX7_isNumber 25 = .ok (.iconst 0, 1) := by decide +kernel
theorem dX7_isNumber_26 : decode cX7_isNumber 26 = .ok (.ireturn, 1) := by decide +kernel
theorem dX7_take_0 : decode cX7_take 0 = .ok (.aload_n 0, 1) := by decide +kernel
theorem dX7_take_1 : decode cX7_take 1 = .ok (.getfield 33, 3) := by decide +kernel
theorem dX7_take_4 : decode cX7_take 4 = .ok (.iload_n 1, 1) := by decide +kernel
theorem dX7_take_5 : decode cX7_take 5 = .ok (.aload_n 0, 1) := by decide +kernel
theorem dX7_take_6 : decode cX7_take 6 = .ok (.getfield 21, 3) := by decide +kernel
theorem dX7_take_9 : decode cX7_take 9 = .ok (.iconst 2, 1) := by decide +kernel
theorem dX7_take_10 : decode cX7_take 10 = .ok (.iload_n 2, 1) := by decide +kernel
theorem dX7_take_11 : decode cX7_take 11 = .ok (.imul, 1) := by decide +kernel
theorem dX7_take_12 : decode cX7_take 12 = .ok (.iload_n 3, 1) := by decide +kernel
theorem dX7_take_13 : decode cX7_take 13 = .ok (.iadd, 1) := by decide +kernel
theorem dX7_take_14 : decode cX7_take 14 = .ok (.iaload, 1) := by decide +kernel
theorem dX7_take_15 : decode cX7_take 15 = .ok (.iastore, 1) := by decide +kernel
theorem dX7_take_16 : decode cX7_take 16 = .ok (.iconst 0, 1) := by decide +kernel
theorem dX7_take_17 : decode cX7_take 17 = .ok (.istore 4, 2) := by decide +kernel
theorem dX7_take_19 : decode cX7_take 19 = .ok (.iload 4, 2) := by decide +kernel
theorem dX7_take_21 : decode cX7_take 21 = .ok (.aload_n 0, 1) := by decide +kernel
theorem dX7_take_22 : decode cX7_take 22 = .ok (.getfield 33, 3) := by decide +kernel
theorem dX7_take_25 : decode cX7_take 25 = .ok (.iload_n 1, 1) := by decide +kernel
theorem dX7_take_26 : decode cX7_take 26 = .ok (.iaload, 1) := by decide +kernel
theorem dX7_take_27 : decode cX7_take 27 = .ok (.if_icmp .ge 37, 3) := by decide +kernel
theorem dX7_take_30 : decode cX7_take 30 = .ok (.aload_n 0, 1) := by decide +kernel
theorem dX7_take_31 : decode cX7_take 31 = .ok (.getfield 30, 3) := by decide +kernel
theorem dX7_take_34 : decode cX7_take 34 = .ok (.bipush 72, 2) := by decide +kernel
theorem dX7_take_36 : decode cX7_take 36 = .ok (.iload_n 1, 1) := by decide +kernel
theorem dX7_take_37 : decode cX7_take 37 = .ok (.imul, 1) := by decide +kernel
theorem dX7_take_38 : decode cX7_take 38 = .ok (.iload 4, 2) := by decide +kernel
theorem dX7_take_40 : decode cX7_take 40 = .ok (.iadd, 1) := by decide +kernel
theorem dX7_take_41 : decode cX7_take 41 = .ok (.aload_n 0, 1) := by decide +kernel
theorem dX7_take_42 : decode cX7_take 42 = .ok (.getfield 17, 3) := by decide +kernel
theorem dX7_take_45 : decode cX7_take 45 = .ok (.bipush 16, 2) := by decide +kernel
theorem dX7_take_47 : decode cX7_take 47 = .ok (.iconst 2, 1) := by decide +kernel
theorem dX7_take_48 : decode cX7_take 48 = .ok (.iload_n 2, 1) := by decide +kernel
theorem dX7_take_49 : decode cX7_take 49 = .ok (.imul, 1) := by decide +kernel
theorem dX7_take_50 : decode cX7_take 50 = .ok (.iload_n 3, 1) := by decide +kernel
theorem dX7_take_51 : decode cX7_take 51 = .ok (.iadd, 1) := by decide +kernel
theorem dX7_take_52 : decode cX7_take 52 = .ok (.imul, 1) := by decide +kernel
theorem dX7_take_53 : decode cX7_take 53 = .ok (.iload 4, 2) := by decide +kernel
theorem dX7_take_55 : decode cX7_take 55 = .ok (.iadd, 1) := by decide +kernel
theorem dX7_take_56 : decode cX7_take 56 = .ok (.laload, 1) := by decide +kernel
theorem dX7_take_57 : decode cX7_take 57 = .ok (.lastore, 1) := by decide +kernel
theorem dX7_take_58 : decode cX7_take 58 = .ok (.iinc 4 1, 3) := by decide +kernel
theorem dX7_take_61 : decode cX7_take 61 = .ok (.goto (-42), 3) := by decide +kernel
theorem dX7_take_64 : decode cX7_take 64 = .ok (.return_, 1) := by decide +kernel
theorem dX7_free_0 : decode cX7_free 0 = .ok (.iconst 0, 1) := by decide +kernel
theorem dX7_free_1 : decode cX7_free 1 = .ok (.istore_n 1, 1) := by decide +kernel
theorem dX7_free_2 : decode cX7_free 2 = .ok (.iload_n 1, 1) := by decide +kernel
theorem dX7_free_3 : decode cX7_free 3 = .ok (.bipush 24, 2) := by decide +kernel
theorem dX7_free_5 : decode cX7_free 5 = .ok (.if_icmp .ge 20, 3) := by decide +kernel
theorem dX7_free_8 : decode cX7_free 8 = .ok (.aload_n 0, 1) := by decide +kernel
theorem dX7_free_9 : decode cX7_free 9 = .ok (.getfield 7, 3) := by decide +kernel
theorem dX7_free_12 : decode cX7_free 12 = .ok (.iload_n 1, 1) := by decide +kernel
theorem dX7_free_13 : decode cX7_free 13 = .ok (.baload, 1) := by decide +kernel
theorem dX7_free_14 : decode cX7_free 14 = .ok (.ifCond .ne 5, 3) := by decide +kernel
theorem dX7_free_17 : decode cX7_free 17 = .ok (.iload_n 1, 1) := by decide +kernel
theorem dX7_free_18 : decode cX7_free 18 = .ok (.ireturn, 1) := by decide +kernel
theorem dX7_free_19 : decode cX7_free 19 = .ok (.iinc 1 1, 3) := by decide +kernel
theorem dX7_free_22 : decode cX7_free 22 = .ok (.goto (-20), 3) := by decide +kernel
theorem dX7_free_25 : decode cX7_free 25 = .ok (.bipush (-3), 2) := by decide +kernel
theorem dX7_free_27 : decode cX7_free 27 = .ok (.ireturn, 1) := by decide +kernel
theorem dX7_keep_0 : decode cX7_keep 0 = .ok (.aload_n 0, 1) := by decide +kernel
theorem dX7_keep_1 : decode cX7_keep 1 = .ok (.iconst 0, 1) := by decide +kernel
theorem dX7_keep_2 : decode cX7_keep 2 = .ok (.invokevirtual 85, 3) := by decide +kernel
theorem dX7_keep_5 : decode cX7_keep 5 = .ok (.sipush 512, 3) := by decide +kernel
theorem dX7_keep_8 : decode cX7_keep 8 = .ok (.if_icmp .gt 14, 3) := by decide +kernel
theorem dX7_keep_11 : decode cX7_keep 11 = .ok (.aload_n 0, 1) := by decide +kernel
theorem dX7_keep_12 : decode cX7_keep 12 = .ok (.iconst 1, 1) := by decide +kernel
theorem dX7_keep_13 : decode cX7_keep 13 = .ok (.invokevirtual 85, 3) := by decide +kernel
theorem dX7_keep_16 : decode cX7_keep 16 = .ok (.sipush 512, 3) := by decide +kernel
theorem dX7_keep_19 : decode cX7_keep 19 = .ok (.if_icmp .le 6, 3) := by decide +kernel
theorem dX7_keep_22 : decode cX7_keep 22 = .ok (.bipush (-4), 2) := by decide +kernel
theorem dX7_keep_24 : decode cX7_keep 24 = .ok (.ireturn, 1) := by decide +kernel
theorem dX7_keep_25 : decode cX7_keep 25 = .ok (.aload_n 0, 1) := by decide +kernel
theorem dX7_keep_26 : decode cX7_keep 26 = .ok (.invokevirtual 89, 3) := by decide +kernel
theorem dX7_keep_29 : decode cX7_keep 29 = .ok (.istore_n 2, 1) := by decide +kernel
theorem dX7_keep_30 : decode cX7_keep 30 = .ok (.aload_n 0, 1) := by decide +kernel
theorem dX7_keep_31 : decode cX7_keep 31 = .ok (.getfield 7, 3) := by decide +kernel
theorem dX7_keep_34 : decode cX7_keep 34 = .ok (.iload_n 2, 1) := by decide +kernel
theorem dX7_keep_35 : decode cX7_keep 35 = .ok (.iconst 1, 1) := by decide +kernel
theorem dX7_keep_36 : decode cX7_keep 36 = .ok (.bastore, 1) := by decide +kernel
theorem dX7_keep_37 : decode cX7_keep 37 = .ok (.aload_n 0, 1) := by decide +kernel
theorem dX7_keep_38 : decode cX7_keep 38 = .ok (.getfield 13, 3) := by decide +kernel
theorem dX7_keep_41 : decode cX7_keep 41 = .ok (.iload_n 2, 1) := by decide +kernel
theorem dX7_keep_42 : decode cX7_keep 42 = .ok (.aload_n 0, 1) := by decide +kernel
theorem dX7_keep_43 : decode cX7_keep 43 = .ok (.getfield 33, 3) := by decide +kernel
theorem dX7_keep_46 : decode cX7_keep 46 = .ok (.iconst 0, 1) := by decide +kernel
theorem dX7_keep_47 : decode cX7_keep 47 = .ok (.iaload, 1) := by decide +kernel
theorem dX7_keep_48 : decode cX7_keep 48 = .ok (.ifCond .ne 7, 3) := by decide +kernel
theorem dX7_keep_51 : decode cX7_keep 51 = .ok (.iconst 0, 1) := by decide +kernel
theorem dX7_keep_52 : decode cX7_keep 52 = .ok (.goto 4, 3) := by decide +kernel
theorem dX7_keep_55 : decode cX7_keep 55 = .ok (.iload_n 1, 1) := by decide +kernel
theorem dX7_keep_56 : decode cX7_keep 56 = .ok (.iastore, 1) := by decide +kernel
theorem dX7_keep_57 : decode cX7_keep 57 = .ok (.iconst 0, 1) := by decide +kernel
theorem dX7_keep_58 : decode cX7_keep 58 = .ok (.istore_n 3, 1) := by decide +kernel
theorem dX7_keep_59 : decode cX7_keep 59 = .ok (.iload_n 3, 1) := by decide +kernel
theorem dX7_keep_60 : decode cX7_keep 60 = .ok (.iconst 2, 1) := by decide +kernel
theorem dX7_keep_61 : decode cX7_keep 61 = .ok (.if_icmp .ge 73, 3) := by decide +kernel
theorem dX7_keep_64 : decode cX7_keep 64 = .ok (.aload_n 0, 1) := by decide +kernel
theorem dX7_keep_65 : decode cX7_keep 65 = .ok (.getfield 21, 3) := by decide +kernel
theorem dX7_keep_68 : decode cX7_keep 68 = .ok (.iconst 2, 1) := by decide +kernel
theorem dX7_keep_69 : decode cX7_keep 69 = .ok (.iload_n 2, 1) := by decide +kernel
theorem dX7_keep_70 : decode cX7_keep 70 = .ok (.imul, 1) := by decide +kernel
theorem dX7_keep_71 : decode cX7_keep 71 = .ok (.iload_n 3, 1) := by decide +kernel
theorem dX7_keep_72 : decode cX7_keep 72 = .ok (.iadd, 1) := by decide +kernel
theorem dX7_keep_73 : decode cX7_keep 73 = .ok (.aload_n 0, 1) := by decide +kernel
theorem dX7_keep_74 : decode cX7_keep 74 = .ok (.getfield 33, 3) := by decide +kernel
theorem dX7_keep_77 : decode cX7_keep 77 = .ok (.iload_n 3, 1) := by decide +kernel
theorem dX7_keep_78 : decode cX7_keep 78 = .ok (.iaload, 1) := by decide +kernel
theorem dX7_keep_79 : decode cX7_keep 79 = .ok (.iastore, 1) := by decide +kernel
theorem dX7_keep_80 : decode cX7_keep 80 = .ok (.iconst 0, 1) := by decide +kernel
theorem dX7_keep_81 : decode cX7_keep 81 = .ok (.istore 4, 2) := by decide +kernel
theorem dX7_keep_83 : decode cX7_keep 83 = .ok (.iload 4, 2) := by decide +kernel
theorem dX7_keep_85 : decode cX7_keep 85 = .ok (.aload_n 0, 1) := by decide +kernel
theorem dX7_keep_86 : decode cX7_keep 86 = .ok (.getfield 33, 3) := by decide +kernel
theorem dX7_keep_89 : decode cX7_keep 89 = .ok (.iload_n 3, 1) := by decide +kernel
theorem dX7_keep_90 : decode cX7_keep 90 = .ok (.iaload, 1) := by decide +kernel
theorem dX7_keep_91 : decode cX7_keep 91 = .ok (.if_icmp .ge 37, 3) := by decide +kernel
theorem dX7_keep_94 : decode cX7_keep 94 = .ok (.aload_n 0, 1) := by decide +kernel
theorem dX7_keep_95 : decode cX7_keep 95 = .ok (.getfield 17, 3) := by decide +kernel
theorem dX7_keep_98 : decode cX7_keep 98 = .ok (.bipush 16, 2) := by decide +kernel
theorem dX7_keep_100 : decode cX7_keep 100 = .ok (.iconst 2, 1) := by decide +kernel
theorem dX7_keep_101 : decode cX7_keep 101 = .ok (.iload_n 2, 1) := by decide +kernel
theorem dX7_keep_102 : decode cX7_keep 102 = .ok (.imul, 1) := by decide +kernel
theorem dX7_keep_103 : decode cX7_keep 103 = .ok (.iload_n 3, 1) := by decide +kernel
theorem dX7_keep_104 : decode cX7_keep 104 = .ok (.iadd, 1) := by decide +kernel
theorem dX7_keep_105 : decode cX7_keep 105 = .ok (.imul, 1) := by decide +kernel
theorem dX7_keep_106 : decode cX7_keep 106 = .ok (.iload 4, 2) := by decide +kernel
theorem dX7_keep_108 : decode cX7_keep 108 = .ok (.iadd, 1) := by decide +kernel
theorem dX7_keep_109 : decode cX7_keep 109 = .ok (.aload_n 0, 1) := by decide +kernel
theorem dX7_keep_110 : decode cX7_keep 110 = .ok (.getfield 30, 3) := by decide +kernel
theorem dX7_keep_113 : decode cX7_keep 113 = .ok (.bipush 72, 2) := by decide +kernel
theorem dX7_keep_115 : decode cX7_keep 115 = .ok (.iload_n 3, 1) := by decide +kernel
theorem dX7_keep_116 : decode cX7_keep 116 = .ok (.imul, 1) := by decide +kernel
theorem dX7_keep_117 : decode cX7_keep 117 = .ok (.iload 4, 2) := by decide +kernel
theorem dX7_keep_119 : decode cX7_keep 119 = .ok (.iadd, 1) := by decide +kernel
theorem dX7_keep_120 : decode cX7_keep 120 = .ok (.laload, 1) := by decide +kernel
theorem dX7_keep_121 : decode cX7_keep 121 = .ok (.lastore, 1) := by decide +kernel
theorem dX7_keep_122 : decode cX7_keep 122 = .ok (.iinc 4 1, 3) := by decide +kernel
theorem dX7_keep_125 : decode cX7_keep 125 = .ok (.goto (-42), 3) := by decide +kernel
theorem dX7_keep_128 : decode cX7_keep 128 = .ok (.iinc 3 1, 3) := by decide +kernel
theorem dX7_keep_131 : decode cX7_keep 131 = .ok (.goto (-72), 3) := by decide +kernel
theorem dX7_keep_134 : decode cX7_keep 134 = .ok (.iload_n 2, 1) := by decide +kernel
theorem dX7_keep_135 : decode cX7_keep 135 = .ok (.ireturn, 1) := by decide +kernel
theorem dX7_keepLeast_0 : decode cX7_keepLeast 0 = .ok (.aload_n 0, 1) := by decide +kernel
theorem dX7_keepLeast_1 : decode cX7_keepLeast 1 = .ok (.bipush 16, 2) := by decide +kernel
theorem dX7_keepLeast_3 : decode cX7_keepLeast 3 = .ok (.iconst 0, 1) := by decide +kernel
theorem dX7_keepLeast_4 : decode cX7_keepLeast 4 = .ok (.invokevirtual 66, 3) := by decide +kernel
theorem dX7_keepLeast_7 : decode cX7_keepLeast 7 = .ok (.aload_n 0, 1) := by decide +kernel
theorem dX7_keepLeast_8 : decode cX7_keepLeast 8 = .ok (.bipush 17, 2) := by decide +kernel
theorem dX7_keepLeast_10 : decode cX7_keepLeast 10 = .ok (.iconst 1, 1) := by decide +kernel
theorem dX7_keepLeast_11 : decode cX7_keepLeast 11 = .ok (.invokevirtual 66, 3) := by decide +kernel
theorem dX7_keepLeast_14 : decode cX7_keepLeast 14 = .ok (.aload_n 0, 1) := by decide +kernel
theorem dX7_keepLeast_15 : decode cX7_keepLeast 15 = .ok (.bipush 16, 2) := by decide +kernel
theorem dX7_keepLeast_17 : decode cX7_keepLeast 17 = .ok (.bipush 17, 2) := by decide +kernel
theorem dX7_keepLeast_19 : decode cX7_keepLeast 19 = .ok (.invokevirtual 93, 3) := by decide +kernel
theorem dX7_keepLeast_22 : decode cX7_keepLeast 22 = .ok (.aload_n 0, 1) := by decide +kernel
theorem dX7_keepLeast_23 : decode cX7_keepLeast 23 = .ok (.bipush 18, 2) := by decide +kernel
theorem dX7_keepLeast_25 : decode cX7_keepLeast 25 = .ok (.bipush 19, 2) := by decide +kernel
theorem dX7_keepLeast_27 : decode cX7_keepLeast 27 = .ok (.iconst 0, 1) := by decide +kernel
theorem dX7_keepLeast_28 : decode cX7_keepLeast 28 = .ok (.bipush 16, 2) := by decide +kernel
theorem dX7_keepLeast_30 : decode cX7_keepLeast 30 = .ok (.invokevirtual 96, 3) := by decide +kernel
theorem dX7_keepLeast_33 : decode cX7_keepLeast 33 = .ok (.aload_n 0, 1) := by decide +kernel
theorem dX7_keepLeast_34 : decode cX7_keepLeast 34 = .ok (.iconst 0, 1) := by decide +kernel
theorem dX7_keepLeast_35 : decode cX7_keepLeast 35 = .ok (.bipush 18, 2) := by decide +kernel
theorem dX7_keepLeast_37 : decode cX7_keepLeast 37 = .ok (.invokevirtual 66, 3) := by decide +kernel
theorem dX7_keepLeast_40 : decode cX7_keepLeast 40 = .ok (.aload_n 0, 1) := by decide +kernel
theorem dX7_keepLeast_41 : decode cX7_keepLeast 41 = .ok (.bipush 18, 2) := by decide +kernel
theorem dX7_keepLeast_43 : decode cX7_keepLeast 43 = .ok (.bipush 19, 2) := by decide +kernel
theorem dX7_keepLeast_45 : decode cX7_keepLeast 45 = .ok (.iconst 1, 1) := by decide +kernel
theorem dX7_keepLeast_46 : decode cX7_keepLeast 46 = .ok (.bipush 16, 2) := by decide +kernel
theorem dX7_keepLeast_48 : decode cX7_keepLeast 48 = .ok (.invokevirtual 96, 3) := by decide +kernel
theorem dX7_keepLeast_51 : decode cX7_keepLeast 51 = .ok (.aload_n 0, 1) := by decide +kernel
theorem dX7_keepLeast_52 : decode cX7_keepLeast 52 = .ok (.iconst 1, 1) := by decide +kernel
theorem dX7_keepLeast_53 : decode cX7_keepLeast 53 = .ok (.bipush 18, 2) := by decide +kernel
theorem dX7_keepLeast_55 : decode cX7_keepLeast 55 = .ok (.invokevirtual 66, 3) := by decide +kernel
theorem dX7_keepLeast_58 : decode cX7_keepLeast 58 = .ok (.aload_n 0, 1) := by decide +kernel
theorem dX7_keepLeast_59 : decode cX7_keepLeast 59 = .ok (.iload_n 1, 1) := by decide +kernel
theorem dX7_keepLeast_60 : decode cX7_keepLeast 60 = .ok (.invokevirtual 100, 3) := by decide +kernel
theorem dX7_keepLeast_63 : decode cX7_keepLeast 63 = .ok (.ireturn, 1) := by decide +kernel
theorem dX7_keepWhole_0 : decode cX7_keepWhole 0 = .ok (.aload_n 0, 1) := by decide +kernel
theorem dX7_keepWhole_1 : decode cX7_keepWhole 1 = .ok (.iconst 0, 1) := by decide +kernel
theorem dX7_keepWhole_2 : decode cX7_keepWhole 2 = .ok (.iload_n 1, 1) := by decide +kernel
theorem dX7_keepWhole_3 : decode cX7_keepWhole 3 = .ok (.invokevirtual 66, 3) := by decide +kernel
theorem dX7_keepWhole_6 : decode cX7_keepWhole 6 = .ok (.aload_n 0, 1) := by decide +kernel
theorem dX7_keepWhole_7 : decode cX7_keepWhole 7 = .ok (.iconst 1, 1) := by decide +kernel
theorem dX7_keepWhole_8 : decode cX7_keepWhole 8 = .ok (.lconst 1, 1) := by decide +kernel
theorem dX7_keepWhole_9 : decode cX7_keepWhole 9 = .ok (.invokevirtual 103, 3) := by decide +kernel
theorem dX7_keepWhole_12 : decode cX7_keepWhole 12 = .ok (.aload_n 0, 1) := by decide +kernel
theorem dX7_keepWhole_13 : decode cX7_keepWhole 13 = .ok (.iload_n 2, 1) := by decide +kernel
theorem dX7_keepWhole_14 : decode cX7_keepWhole 14 = .ok (.invokevirtual 100, 3) := by decide +kernel
theorem dX7_keepWhole_17 : decode cX7_keepWhole 17 = .ok (.ireturn, 1) := by decide +kernel
theorem dX7_whole_0 : decode cX7_whole 0 = .ok (.aload_n 0, 1) := by decide +kernel
theorem dX7_whole_1 : decode cX7_whole 1 = .ok (.iconst 0, 1) := by decide +kernel
theorem dX7_whole_2 : decode cX7_whole 2 = .ok (.putfield 43, 3) := by decide +kernel
theorem dX7_whole_5 : decode cX7_whole 5 = .ok (.aload_n 0, 1) := by decide +kernel
theorem dX7_whole_6 : decode cX7_whole 6 = .ok (.invokevirtual 89, 3) := by decide +kernel
theorem dX7_whole_9 : decode cX7_whole 9 = .ok (.bipush (-3), 2) := by decide +kernel
theorem dX7_whole_11 : decode cX7_whole 11 = .ok (.if_icmp .ne 6, 3) := by decide +kernel
theorem dX7_whole_14 : decode cX7_whole 14 = .ok (.bipush (-3), 2) := by decide +kernel
theorem dX7_whole_16 : decode cX7_whole 16 = .ok (.ireturn, 1) := by decide +kernel
theorem dX7_whole_17 : decode cX7_whole 17 = .ok (.aload_n 0, 1) := by decide +kernel
theorem dX7_whole_18 : decode cX7_whole 18 = .ok (.iconst 0, 1) := by decide +kernel
theorem dX7_whole_19 : decode cX7_whole 19 = .ok (.lload_n 1, 1) := by decide +kernel
theorem dX7_whole_20 : decode cX7_whole 20 = .ok (.lconst 0, 1) := by decide +kernel
theorem dX7_whole_21 : decode cX7_whole 21 = .ok (.lcmp, 1) := by decide +kernel
theorem dX7_whole_22 : decode cX7_whole 22 = .ok (.ifCond .ge 8, 3) := by decide +kernel
theorem dX7_whole_25 : decode cX7_whole 25 = .ok (.lload_n 1, 1) := by decide +kernel
theorem dX7_whole_26 : decode cX7_whole 26 = .ok (.lneg, 1) := by decide +kernel
theorem dX7_whole_27 : decode cX7_whole 27 = .ok (.goto 4, 3) := by decide +kernel
theorem dX7_whole_30 : decode cX7_whole 30 = .ok (.lload_n 1, 1) := by decide +kernel
theorem dX7_whole_31 : decode cX7_whole 31 = .ok (.invokevirtual 103, 3) := by decide +kernel
theorem dX7_whole_34 : decode cX7_whole 34 = .ok (.aload_n 0, 1) := by decide +kernel
theorem dX7_whole_35 : decode cX7_whole 35 = .ok (.iconst 1, 1) := by decide +kernel
theorem dX7_whole_36 : decode cX7_whole 36 = .ok (.lconst 1, 1) := by decide +kernel
theorem dX7_whole_37 : decode cX7_whole 37 = .ok (.invokevirtual 103, 3) := by decide +kernel
theorem dX7_whole_40 : decode cX7_whole 40 = .ok (.aload_n 0, 1) := by decide +kernel
theorem dX7_whole_41 : decode cX7_whole 41 = .ok (.lload_n 1, 1) := by decide +kernel
theorem dX7_whole_42 : decode cX7_whole 42 = .ok (.lconst 0, 1) := by decide +kernel
theorem dX7_whole_43 : decode cX7_whole 43 = .ok (.lcmp, 1) := by decide +kernel
theorem dX7_whole_44 : decode cX7_whole 44 = .ok (.ifCond .ge 7, 3) := by decide +kernel
theorem dX7_whole_47 : decode cX7_whole 47 = .ok (.iconst (-1), 1) := by decide +kernel
theorem dX7_whole_48 : decode cX7_whole 48 = .ok (.goto 4, 3) := by decide +kernel
theorem dX7_whole_51 : decode cX7_whole 51 = .ok (.iconst 1, 1) := by decide +kernel
theorem dX7_whole_52 : decode cX7_whole 52 = .ok (.invokevirtual 100, 3) := by decide +kernel
theorem dX7_whole_55 : decode cX7_whole 55 = .ok (.ireturn, 1) := by decide +kernel
theorem dX7_shifted_0 : decode cX7_shifted 0 = .ok (.aload_n 0, 1) := by decide +kernel
theorem dX7_shifted_1 : decode cX7_shifted 1 = .ok (.iload_n 1, 1) := by decide +kernel
theorem dX7_shifted_2 : decode cX7_shifted 2 = .ok (.ifCond .ge 7, 3) := by decide +kernel
theorem dX7_shifted_5 : decode cX7_shifted 5 = .ok (.iconst 1, 1) := by decide +kernel
theorem dX7_shifted_6 : decode cX7_shifted 6 = .ok (.goto 4, 3) := by decide +kernel
theorem dX7_shifted_9 : decode cX7_shifted 9 = .ok (.iconst 0, 1) := by decide +kernel
theorem dX7_shifted_10 : decode cX7_shifted 10 = .ok (.putfield 43, 3) := by decide +kernel
theorem dX7_shifted_13 : decode cX7_shifted 13 = .ok (.iload_n 1, 1) := by decide +kernel
theorem dX7_shifted_14 : decode cX7_shifted 14 = .ok (.ifCond .ge 5, 3) := by decide +kernel
theorem dX7_shifted_17 : decode cX7_shifted 17 = .ok (.iconst 0, 1) := by decide +kernel
theorem dX7_shifted_18 : decode cX7_shifted 18 = .ok (.ireturn, 1) := by decide +kernel
theorem dX7_shifted_19 : decode cX7_shifted 19 = .ok (.aload_n 0, 1) := by decide +kernel
theorem dX7_shifted_20 : decode cX7_shifted 20 = .ok (.invokevirtual 89, 3) := by decide +kernel
theorem dX7_shifted_23 : decode cX7_shifted 23 = .ok (.bipush (-3), 2) := by decide +kernel
theorem dX7_shifted_25 : decode cX7_shifted 25 = .ok (.if_icmp .ne 6, 3) := by decide +kernel
theorem dX7_shifted_28 : decode cX7_shifted 28 = .ok (.bipush (-3), 2) := by decide +kernel
theorem dX7_shifted_30 : decode cX7_shifted 30 = .ok (.ireturn, 1) := by decide +kernel
theorem dX7_shifted_31 : decode cX7_shifted 31 = .ok (.iload_n 1, 1) := by decide +kernel
theorem dX7_shifted_32 : decode cX7_shifted 32 = .ok (.bipush 15, 2) := by decide +kernel
theorem dX7_shifted_34 : decode cX7_shifted 34 = .ok (.if_icmp .le 6, 3) := by decide +kernel
theorem dX7_shifted_37 : decode cX7_shifted 37 = .ok (.bipush (-4), 2) := by decide +kernel
theorem dX7_shifted_39 : decode cX7_shifted 39 = .ok (.ireturn, 1) := by decide +kernel
theorem dX7_shifted_40 : decode cX7_shifted 40 = .ok (.aload_n 0, 1) := by decide +kernel
theorem dX7_shifted_41 : decode cX7_shifted 41 = .ok (.iconst 2, 1) := by decide +kernel
theorem dX7_shifted_42 : decode cX7_shifted 42 = .ok (.lconst 1, 1) := by decide +kernel
theorem dX7_shifted_43 : decode cX7_shifted 43 = .ok (.invokevirtual 103, 3) := by decide +kernel
theorem dX7_shifted_46 : decode cX7_shifted 46 = .ok (.aload_n 0, 1) := by decide +kernel
theorem dX7_shifted_47 : decode cX7_shifted 47 = .ok (.iconst 2, 1) := by decide +kernel
theorem dX7_shifted_48 : decode cX7_shifted 48 = .ok (.bipush 32, 2) := by decide +kernel
theorem dX7_shifted_50 : decode cX7_shifted 50 = .ok (.iload_n 1, 1) := by decide +kernel
theorem dX7_shifted_51 : decode cX7_shifted 51 = .ok (.imul, 1) := by decide +kernel
theorem dX7_shifted_52 : decode cX7_shifted 52 = .ok (.invokevirtual 76, 3) := by decide +kernel
theorem dX7_shifted_55 : decode cX7_shifted 55 = .ok (.aload_n 0, 1) := by decide +kernel
theorem dX7_shifted_56 : decode cX7_shifted 56 = .ok (.iconst 2, 1) := by decide +kernel
theorem dX7_shifted_57 : decode cX7_shifted 57 = .ok (.iconst 1, 1) := by decide +kernel
theorem dX7_shifted_58 : decode cX7_shifted 58 = .ok (.invokevirtual 106, 3) := by decide +kernel
theorem dX7_shifted_61 : decode cX7_shifted 61 = .ok (.ireturn, 1) := by decide +kernel
theorem dX7_over_0 : decode cX7_over 0 = .ok (.aload_n 0, 1) := by decide +kernel
theorem dX7_over_1 : decode cX7_over 1 = .ok (.iconst 0, 1) := by decide +kernel
theorem dX7_over_2 : decode cX7_over 2 = .ok (.putfield 43, 3) := by decide +kernel
theorem dX7_over_5 : decode cX7_over 5 = .ok (.aload_n 0, 1) := by decide +kernel
theorem dX7_over_6 : decode cX7_over 6 = .ok (.iload_n 1, 1) := by decide +kernel
theorem dX7_over_7 : decode cX7_over 7 = .ok (.invokevirtual 109, 3) := by decide +kernel
theorem dX7_over_10 : decode cX7_over 10 = .ok (.ifCond .eq 11, 3) := by decide +kernel
theorem dX7_over_13 : decode cX7_over 13 = .ok (.aload_n 0, 1) := by decide +kernel
theorem dX7_over_14 : decode cX7_over 14 = .ok (.iload_n 2, 1) := by decide +kernel
theorem dX7_over_15 : decode cX7_over 15 = .ok (.invokevirtual 109, 3) := by decide +kernel
theorem dX7_over_18 : decode cX7_over 18 = .ok (.ifCond .ne 5, 3) := by decide +kernel
theorem dX7_over_21 : decode cX7_over 21 = .ok (.iconst (-1), 1) := by decide +kernel
theorem dX7_over_22 : decode cX7_over 22 = .ok (.ireturn, 1) := by decide +kernel
theorem dX7_over_23 : decode cX7_over 23 = .ok (.aload_n 0, 1) := by decide +kernel
theorem dX7_over_24 : decode cX7_over 24 = .ok (.getfield 13, 3) := by decide +kernel
theorem dX7_over_27 : decode cX7_over 27 = .ok (.iload_n 2, 1) := by decide +kernel
theorem dX7_over_28 : decode cX7_over 28 = .ok (.iaload, 1) := by decide +kernel
theorem dX7_over_29 : decode cX7_over 29 = .ok (.ifCond .ne 10, 3) := by decide +kernel
theorem dX7_over_32 : decode cX7_over 32 = .ok (.aload_n 0, 1) := by decide +kernel
theorem dX7_over_33 : decode cX7_over 33 = .ok (.iconst 1, 1) := by decide +kernel
theorem dX7_over_34 : decode cX7_over 34 = .ok (.putfield 43, 3) := by decide +kernel
theorem dX7_over_37 : decode cX7_over 37 = .ok (.iconst 0, 1) := by decide +kernel
theorem dX7_over_38 : decode cX7_over 38 = .ok (.ireturn, 1) := by decide +kernel
theorem dX7_over_39 : decode cX7_over 39 = .ok (.aload_n 0, 1) := by decide +kernel
theorem dX7_over_40 : decode cX7_over 40 = .ok (.invokevirtual 89, 3) := by decide +kernel
theorem dX7_over_43 : decode cX7_over 43 = .ok (.bipush (-3), 2) := by decide +kernel
theorem dX7_over_45 : decode cX7_over 45 = .ok (.if_icmp .ne 6, 3) := by decide +kernel
theorem dX7_over_48 : decode cX7_over 48 = .ok (.bipush (-3), 2) := by decide +kernel
theorem dX7_over_50 : decode cX7_over 50 = .ok (.ireturn, 1) := by decide +kernel
theorem dX7_over_51 : decode cX7_over 51 = .ok (.aload_n 0, 1) := by decide +kernel
theorem dX7_over_52 : decode cX7_over 52 = .ok (.iconst 2, 1) := by decide +kernel
theorem dX7_over_53 : decode cX7_over 53 = .ok (.iload_n 1, 1) := by decide +kernel
theorem dX7_over_54 : decode cX7_over 54 = .ok (.iconst 0, 1) := by decide +kernel
theorem dX7_over_55 : decode cX7_over 55 = .ok (.invokevirtual 112, 3) := by decide +kernel
theorem dX7_over_58 : decode cX7_over 58 = .ok (.aload_n 0, 1) := by decide +kernel
theorem dX7_over_59 : decode cX7_over 59 = .ok (.iconst 3, 1) := by decide +kernel
theorem dX7_over_60 : decode cX7_over 60 = .ok (.iload_n 2, 1) := by decide +kernel
theorem dX7_over_61 : decode cX7_over 61 = .ok (.iconst 1, 1) := by decide +kernel
theorem dX7_over_62 : decode cX7_over 62 = .ok (.invokevirtual 112, 3) := by decide +kernel
theorem dX7_over_65 : decode cX7_over 65 = .ok (.aload_n 0, 1) := by decide +kernel
theorem dX7_over_66 : decode cX7_over 66 = .ok (.iconst 0, 1) := by decide +kernel
theorem dX7_over_67 : decode cX7_over 67 = .ok (.iconst 2, 1) := by decide +kernel
theorem dX7_over_68 : decode cX7_over 68 = .ok (.iconst 3, 1) := by decide +kernel
theorem dX7_over_69 : decode cX7_over 69 = .ok (.invokevirtual 116, 3) := by decide +kernel
theorem dX7_over_72 : decode cX7_over 72 = .ok (.aload_n 0, 1) := by decide +kernel
theorem dX7_over_73 : decode cX7_over 73 = .ok (.iconst 2, 1) := by decide +kernel
theorem dX7_over_74 : decode cX7_over 74 = .ok (.iload_n 1, 1) := by decide +kernel
theorem dX7_over_75 : decode cX7_over 75 = .ok (.iconst 1, 1) := by decide +kernel
theorem dX7_over_76 : decode cX7_over 76 = .ok (.invokevirtual 112, 3) := by decide +kernel
theorem dX7_over_79 : decode cX7_over 79 = .ok (.aload_n 0, 1) := by decide +kernel
theorem dX7_over_80 : decode cX7_over 80 = .ok (.iconst 3, 1) := by decide +kernel
theorem dX7_over_81 : decode cX7_over 81 = .ok (.iload_n 2, 1) := by decide +kernel
theorem dX7_over_82 : decode cX7_over 82 = .ok (.iconst 0, 1) := by decide +kernel
theorem dX7_over_83 : decode cX7_over 83 = .ok (.invokevirtual 112, 3) := by decide +kernel
theorem dX7_over_86 : decode cX7_over 86 = .ok (.aload_n 0, 1) := by decide +kernel
theorem dX7_over_87 : decode cX7_over 87 = .ok (.iconst 1, 1) := by decide +kernel
theorem dX7_over_88 : decode cX7_over 88 = .ok (.iconst 2, 1) := by decide +kernel
theorem dX7_over_89 : decode cX7_over 89 = .ok (.iconst 3, 1) := by decide +kernel
theorem dX7_over_90 : decode cX7_over 90 = .ok (.invokevirtual 116, 3) := by decide +kernel
theorem dX7_over_93 : decode cX7_over 93 = .ok (.aload_n 0, 1) := by decide +kernel
theorem dX7_over_94 : decode cX7_over 94 = .ok (.aload_n 0, 1) := by decide +kernel
theorem dX7_over_95 : decode cX7_over 95 = .ok (.getfield 13, 3) := by decide +kernel
theorem dX7_over_98 : decode cX7_over 98 = .ok (.iload_n 1, 1) := by decide +kernel
theorem dX7_over_99 : decode cX7_over 99 = .ok (.iaload, 1) := by decide +kernel
theorem dX7_over_100 : decode cX7_over 100 = .ok (.aload_n 0, 1) := by decide +kernel
theorem dX7_over_101 : decode cX7_over 101 = .ok (.getfield 13, 3) := by decide +kernel
theorem dX7_over_104 : decode cX7_over 104 = .ok (.iload_n 2, 1) := by decide +kernel
theorem dX7_over_105 : decode cX7_over 105 = .ok (.iaload, 1) := by decide +kernel
theorem dX7_over_106 : decode cX7_over 106 = .ok (.imul, 1) := by decide +kernel
theorem dX7_over_107 : decode cX7_over 107 = .ok (.invokevirtual 119, 3) := by decide +kernel
theorem dX7_over_110 : decode cX7_over 110 = .ok (.ireturn, 1) := by decide +kernel
theorem dX7_sum_0 : decode cX7_sum 0 = .ok (.iload_n 2, 1) := by decide +kernel
theorem dX7_sum_1 : decode cX7_sum 1 = .ok (.iload 4, 2) := by decide +kernel
theorem dX7_sum_3 : decode cX7_sum 3 = .ok (.if_icmp .ne 11, 3) := by decide +kernel
theorem dX7_sum_6 : decode cX7_sum 6 = .ok (.aload_n 0, 1) := by decide +kernel
theorem dX7_sum_7 : decode cX7_sum 7 = .ok (.iload_n 1, 1) := by decide +kernel
theorem dX7_sum_8 : decode cX7_sum 8 = .ok (.iload_n 3, 1) := by decide +kernel
theorem dX7_sum_9 : decode cX7_sum 9 = .ok (.invokevirtual 122, 3) := by decide +kernel
theorem dX7_sum_12 : decode cX7_sum 12 = .ok (.iload_n 2, 1) := by decide +kernel
theorem dX7_sum_13 : decode cX7_sum 13 = .ok (.ireturn, 1) := by decide +kernel
theorem dX7_sum_14 : decode cX7_sum 14 = .ok (.aload_n 0, 1) := by decide +kernel
theorem dX7_sum_15 : decode cX7_sum 15 = .ok (.iload_n 1, 1) := by decide +kernel
theorem dX7_sum_16 : decode cX7_sum 16 = .ok (.iload_n 3, 1) := by decide +kernel
theorem dX7_sum_17 : decode cX7_sum 17 = .ok (.invokevirtual 58, 3) := by decide +kernel
theorem dX7_sum_20 : decode cX7_sum 20 = .ok (.ifCond .lt 11, 3) := by decide +kernel
theorem dX7_sum_23 : decode cX7_sum 23 = .ok (.aload_n 0, 1) := by decide +kernel
theorem dX7_sum_24 : decode cX7_sum 24 = .ok (.iload_n 1, 1) := by decide +kernel
theorem dX7_sum_25 : decode cX7_sum 25 = .ok (.iload_n 3, 1) := by decide +kernel
theorem dX7_sum_26 : decode cX7_sum 26 = .ok (.invokevirtual 62, 3) := by decide +kernel
theorem dX7_sum_29 : decode cX7_sum 29 = .ok (.iload_n 2, 1) := by decide +kernel
theorem dX7_sum_30 : decode cX7_sum 30 = .ok (.ireturn, 1) := by decide +kernel
theorem dX7_sum_31 : decode cX7_sum 31 = .ok (.aload_n 0, 1) := by decide +kernel
theorem dX7_sum_32 : decode cX7_sum 32 = .ok (.bipush 20, 2) := by decide +kernel
theorem dX7_sum_34 : decode cX7_sum 34 = .ok (.iload_n 3, 1) := by decide +kernel
theorem dX7_sum_35 : decode cX7_sum 35 = .ok (.invokevirtual 66, 3) := by decide +kernel
theorem dX7_sum_38 : decode cX7_sum 38 = .ok (.aload_n 0, 1) := by decide +kernel
theorem dX7_sum_39 : decode cX7_sum 39 = .ok (.bipush 20, 2) := by decide +kernel
theorem dX7_sum_41 : decode cX7_sum 41 = .ok (.iload_n 1, 1) := by decide +kernel
theorem dX7_sum_42 : decode cX7_sum 42 = .ok (.invokevirtual 62, 3) := by decide +kernel
theorem dX7_sum_45 : decode cX7_sum 45 = .ok (.aload_n 0, 1) := by decide +kernel
theorem dX7_sum_46 : decode cX7_sum 46 = .ok (.iload_n 1, 1) := by decide +kernel
theorem dX7_sum_47 : decode cX7_sum 47 = .ok (.bipush 20, 2) := by decide +kernel
theorem dX7_sum_49 : decode cX7_sum 49 = .ok (.invokevirtual 66, 3) := by decide +kernel
theorem dX7_sum_52 : decode cX7_sum 52 = .ok (.iload 4, 2) := by decide +kernel
theorem dX7_sum_54 : decode cX7_sum 54 = .ok (.ireturn, 1) := by decide +kernel
theorem dX7_apply_0 : decode cX7_apply 0 = .ok (.aload_n 0, 1) := by decide +kernel
theorem dX7_apply_1 : decode cX7_apply 1 = .ok (.iconst 0, 1) := by decide +kernel
theorem dX7_apply_2 : decode cX7_apply 2 = .ok (.putfield 43, 3) := by decide +kernel
theorem dX7_apply_5 : decode cX7_apply 5 = .ok (.iload_n 1, 1) := by decide +kernel
theorem dX7_apply_6 : decode cX7_apply 6 = .ok (.i2l, 1) := by decide +kernel
theorem dX7_apply_7 : decode cX7_apply 7 = .ok (.lconst 0, 1) := by decide +kernel
theorem dX7_apply_8 : decode cX7_apply 8 = .ok (.ldc2_w 125, 3) := by decide +kernel
theorem dX7_apply_11 : decode cX7_apply 11 = .ok (.invokestatic 81, 3) := by decide +kernel
theorem dX7_apply_14 : decode cX7_apply 14 = .ok (.ifCond .eq 19, 3) := by decide +kernel
theorem dX7_apply_17 : decode cX7_apply 17 = .ok (.aload_n 0, 1) := by decide +kernel
theorem dX7_apply_18 : decode cX7_apply 18 = .ok (.iload_n 2, 1) := by decide +kernel
theorem dX7_apply_19 : decode cX7_apply 19 = .ok (.invokevirtual 109, 3) := by decide +kernel
theorem dX7_apply_22 : decode cX7_apply 22 = .ok (.ifCond .eq 11, 3) := by decide +kernel
theorem dX7_apply_25 : decode cX7_apply 25 = .ok (.aload_n 0, 1) := by decide +kernel
theorem dX7_apply_26 : decode cX7_apply 26 = .ok (.iload_n 3, 1) := by decide +kernel
theorem dX7_apply_27 : decode cX7_apply 27 = .ok (.invokevirtual 109, 3) := by decide +kernel
theorem dX7_apply_30 : decode cX7_apply 30 = .ok (.ifCond .ne 5, 3) := by decide +kernel
theorem dX7_apply_33 : decode cX7_apply 33 = .ok (.iconst (-1), 1) := by decide +kernel
theorem dX7_apply_34 : decode cX7_apply 34 = .ok (.ireturn, 1) := by decide +kernel
theorem dX7_apply_35 : decode cX7_apply 35 = .ok (.iload_n 1, 1) := by decide +kernel
theorem dX7_apply_36 : decode cX7_apply 36 = .ok (.iconst 3, 1) := by decide +kernel
theorem dX7_apply_37 : decode cX7_apply 37 = .ok (.if_icmp .ne 19, 3) := by decide +kernel
theorem dX7_apply_40 : decode cX7_apply 40 = .ok (.aload_n 0, 1) := by decide +kernel
theorem dX7_apply_41 : decode cX7_apply 41 = .ok (.getfield 13, 3) := by decide +kernel
theorem dX7_apply_44 : decode cX7_apply 44 = .ok (.iload_n 3, 1) := by decide +kernel
theorem dX7_apply_45 : decode cX7_apply 45 = .ok (.iaload, 1) := by decide +kernel
theorem dX7_apply_46 : decode cX7_apply 46 = .ok (.ifCond .ne 10, 3) := by decide +kernel
theorem dX7_apply_49 : decode cX7_apply 49 = .ok (.aload_n 0, 1) := by decide +kernel
theorem dX7_apply_50 : decode cX7_apply 50 = .ok (.iconst 1, 1) := by decide +kernel
theorem dX7_apply_51 : decode cX7_apply 51 = .ok (.putfield 43, 3) := by decide +kernel
theorem dX7_apply_54 : decode cX7_apply 54 = .ok (.iconst 0, 1) := by decide +kernel
theorem dX7_apply_55 : decode cX7_apply 55 = .ok (.ireturn, 1) := by decide +kernel
theorem dX7_apply_56 : decode cX7_apply 56 = .ok (.aload_n 0, 1) := by decide +kernel
theorem dX7_apply_57 : decode cX7_apply 57 = .ok (.invokevirtual 89, 3) := by decide +kernel
theorem dX7_apply_60 : decode cX7_apply 60 = .ok (.bipush (-3), 2) := by decide +kernel
theorem dX7_apply_62 : decode cX7_apply 62 = .ok (.if_icmp .ne 6, 3) := by decide +kernel
theorem dX7_apply_65 : decode cX7_apply 65 = .ok (.bipush (-3), 2) := by decide +kernel
theorem dX7_apply_67 : decode cX7_apply 67 = .ok (.ireturn, 1) := by decide +kernel
theorem dX7_apply_68 : decode cX7_apply 68 = .ok (.aload_n 0, 1) := by decide +kernel
theorem dX7_apply_69 : decode cX7_apply 69 = .ok (.iconst 4, 1) := by decide +kernel
theorem dX7_apply_70 : decode cX7_apply 70 = .ok (.iload_n 2, 1) := by decide +kernel
theorem dX7_apply_71 : decode cX7_apply 71 = .ok (.iconst 1, 1) := by decide +kernel
theorem dX7_apply_72 : decode cX7_apply 72 = .ok (.invokevirtual 112, 3) := by decide +kernel
theorem dX7_apply_75 : decode cX7_apply 75 = .ok (.aload_n 0, 1) := by decide +kernel
theorem dX7_apply_76 : decode cX7_apply 76 = .ok (.iconst 5, 1) := by decide +kernel
theorem dX7_apply_77 : decode cX7_apply 77 = .ok (.iload_n 3, 1) := by decide +kernel
theorem dX7_apply_78 : decode cX7_apply 78 = .ok (.iconst 1, 1) := by decide +kernel
theorem dX7_apply_79 : decode cX7_apply 79 = .ok (.invokevirtual 112, 3) := by decide +kernel
theorem dX7_apply_82 : decode cX7_apply 82 = .ok (.aload_n 0, 1) := by decide +kernel
theorem dX7_apply_83 : decode cX7_apply 83 = .ok (.iconst 1, 1) := by decide +kernel
theorem dX7_apply_84 : decode cX7_apply 84 = .ok (.iconst 4, 1) := by decide +kernel
theorem dX7_apply_85 : decode cX7_apply 85 = .ok (.iconst 5, 1) := by decide +kernel
theorem dX7_apply_86 : decode cX7_apply 86 = .ok (.invokevirtual 116, 3) := by decide +kernel
theorem dX7_apply_89 : decode cX7_apply 89 = .ok (.iload_n 1, 1) := by decide +kernel
theorem dX7_apply_90 : decode cX7_apply 90 = .ok (.iconst 2, 1) := by decide +kernel
theorem dX7_apply_91 : decode cX7_apply 91 = .ok (.if_icmp .ne 42, 3) := by decide +kernel
theorem dX7_apply_94 : decode cX7_apply 94 = .ok (.aload_n 0, 1) := by decide +kernel
theorem dX7_apply_95 : decode cX7_apply 95 = .ok (.iconst 4, 1) := by decide +kernel
theorem dX7_apply_96 : decode cX7_apply 96 = .ok (.iload_n 2, 1) := by decide +kernel
theorem dX7_apply_97 : decode cX7_apply 97 = .ok (.iconst 0, 1) := by decide +kernel
theorem dX7_apply_98 : decode cX7_apply 98 = .ok (.invokevirtual 112, 3) := by decide +kernel
theorem dX7_apply_101 : decode cX7_apply 101 = .ok (.aload_n 0, 1) := by decide +kernel
theorem dX7_apply_102 : decode cX7_apply 102 = .ok (.iconst 5, 1) := by decide +kernel
theorem dX7_apply_103 : decode cX7_apply 103 = .ok (.iload_n 3, 1) := by decide +kernel
theorem dX7_apply_104 : decode cX7_apply 104 = .ok (.iconst 0, 1) := by decide +kernel
theorem dX7_apply_105 : decode cX7_apply 105 = .ok (.invokevirtual 112, 3) := by decide +kernel
theorem dX7_apply_108 : decode cX7_apply 108 = .ok (.aload_n 0, 1) := by decide +kernel
theorem dX7_apply_109 : decode cX7_apply 109 = .ok (.iconst 0, 1) := by decide +kernel
theorem dX7_apply_110 : decode cX7_apply 110 = .ok (.iconst 4, 1) := by decide +kernel
theorem dX7_apply_111 : decode cX7_apply 111 = .ok (.iconst 5, 1) := by decide +kernel
theorem dX7_apply_112 : decode cX7_apply 112 = .ok (.invokevirtual 116, 3) := by decide +kernel
theorem dX7_apply_115 : decode cX7_apply 115 = .ok (.aload_n 0, 1) := by decide +kernel
theorem dX7_apply_116 : decode cX7_apply 116 = .ok (.aload_n 0, 1) := by decide +kernel
theorem dX7_apply_117 : decode cX7_apply 117 = .ok (.getfield 13, 3) := by decide +kernel
theorem dX7_apply_120 : decode cX7_apply 120 = .ok (.iload_n 2, 1) := by decide +kernel
theorem dX7_apply_121 : decode cX7_apply 121 = .ok (.iaload, 1) := by decide +kernel
theorem dX7_apply_122 : decode cX7_apply 122 = .ok (.aload_n 0, 1) := by decide +kernel
theorem dX7_apply_123 : decode cX7_apply 123 = .ok (.getfield 13, 3) := by decide +kernel
theorem dX7_apply_126 : decode cX7_apply 126 = .ok (.iload_n 3, 1) := by decide +kernel
theorem dX7_apply_127 : decode cX7_apply 127 = .ok (.iaload, 1) := by decide +kernel
theorem dX7_apply_128 : decode cX7_apply 128 = .ok (.imul, 1) := by decide +kernel
theorem dX7_apply_129 : decode cX7_apply 129 = .ok (.invokevirtual 119, 3) := by decide +kernel
theorem dX7_apply_132 : decode cX7_apply 132 = .ok (.ireturn, 1) := by decide +kernel
theorem dX7_apply_133 : decode cX7_apply 133 = .ok (.aload_n 0, 1) := by decide +kernel
theorem dX7_apply_134 : decode cX7_apply 134 = .ok (.bipush 6, 2) := by decide +kernel
theorem dX7_apply_136 : decode cX7_apply 136 = .ok (.iload_n 2, 1) := by decide +kernel
theorem dX7_apply_137 : decode cX7_apply 137 = .ok (.iconst 0, 1) := by decide +kernel
theorem dX7_apply_138 : decode cX7_apply 138 = .ok (.invokevirtual 112, 3) := by decide +kernel
theorem dX7_apply_141 : decode cX7_apply 141 = .ok (.aload_n 0, 1) := by decide +kernel
theorem dX7_apply_142 : decode cX7_apply 142 = .ok (.iconst 0, 1) := by decide +kernel
theorem dX7_apply_143 : decode cX7_apply 143 = .ok (.bipush 6, 2) := by decide +kernel
theorem dX7_apply_145 : decode cX7_apply 145 = .ok (.iconst 5, 1) := by decide +kernel
theorem dX7_apply_146 : decode cX7_apply 146 = .ok (.invokevirtual 116, 3) := by decide +kernel
theorem dX7_apply_149 : decode cX7_apply 149 = .ok (.aload_n 0, 1) := by decide +kernel
theorem dX7_apply_150 : decode cX7_apply 150 = .ok (.bipush 6, 2) := by decide +kernel
