theorem dX7_nearest_96 : decode cX7_nearest 96 = .ok (.iload 8, 2) := by decide +kernel
theorem dX7_nearest_98 : decode cX7_nearest 98 = .ok (.lshr, 1) := by decide +kernel
theorem dX7_nearest_99 : decode cX7_nearest 99 = .ok (.lstore 9, 2) := by decide +kernel
theorem dX7_nearest_101 : decode cX7_nearest 101 = .ok (.lload_n 0, 1) := by decide +kernel
theorem dX7_nearest_102 : decode cX7_nearest 102 = .ok (.lload 9, 2) := by decide +kernel
theorem dX7_nearest_104 : decode cX7_nearest 104 = .ok (.iload 8, 2) := by decide +kernel
theorem dX7_nearest_106 : decode cX7_nearest 106 = .ok (.lshl, 1) := by decide +kernel
theorem dX7_nearest_107 : decode cX7_nearest 107 = .ok (.lsub, 1) := by decide +kernel
theorem dX7_nearest_108 : decode cX7_nearest 108 = .ok (.lstore 11, 2) := by decide +kernel
theorem dX7_nearest_110 : decode cX7_nearest 110 = .ok (.lconst 1, 1) := by decide +kernel
theorem dX7_nearest_111 : decode cX7_nearest 111 = .ok (.iload 8, 2) := by decide +kernel
theorem dX7_nearest_113 : decode cX7_nearest 113 = .ok (.iconst 1, 1) := by decide +kernel
theorem dX7_nearest_114 : decode cX7_nearest 114 = .ok (.isub, 1) := by decide +kernel
theorem dX7_nearest_115 : decode cX7_nearest 115 = .ok (.lshl, 1) := by decide +kernel
theorem dX7_nearest_116 : decode cX7_nearest 116 = .ok (.lstore 13, 2) := by decide +kernel
theorem dX7_nearest_118 : decode cX7_nearest 118 = .ok (.lload 9, 2) := by decide +kernel
theorem dX7_nearest_120 : decode cX7_nearest 120 = .ok (.lload 11, 2) := by decide +kernel
theorem dX7_nearest_122 : decode cX7_nearest 122 = .ok (.lload 13, 2) := by decide +kernel
theorem dX7_nearest_124 : decode cX7_nearest 124 = .ok (.lcmp, 1) := by decide +kernel
theorem dX7_nearest_125 : decode cX7_nearest 125 = .ok (.ifCond .gt 20, 3) := by decide +kernel
theorem dX7_nearest_128 : decode cX7_nearest 128 = .ok (.lload 11, 2) := by decide +kernel
theorem dX7_nearest_130 : decode cX7_nearest 130 = .ok (.lload 13, 2) := by decide +kernel
theorem dX7_nearest_132 : decode cX7_nearest 132 = .ok (.lcmp, 1) := by decide +kernel
theorem dX7_nearest_133 : decode cX7_nearest 133 = .ok (.ifCond .ne 16, 3) := by decide +kernel
theorem dX7_nearest_136 : decode cX7_nearest 136 = .ok (.lload 9, 2) := by decide +kernel
theorem dX7_nearest_138 : decode cX7_nearest 138 = .ok (.lconst 1, 1) := by decide +kernel
theorem dX7_nearest_139 : decode cX7_nearest 139 = .ok (.land, 1) := by decide +kernel
theorem dX7_nearest_140 : decode cX7_nearest 140 = .ok (.lconst 1, 1) := by decide +kernel
theorem dX7_nearest_141 : decode cX7_nearest 141 = .ok (.lcmp, 1) := by decide +kernel
theorem dX7_nearest_142 : decode cX7_nearest 142 = .ok (.ifCond .ne 7, 3) := by decide +kernel
theorem dX7_nearest_145 : decode cX7_nearest 145 = .ok (.lconst 1, 1) := by decide +kernel
theorem dX7_nearest_146 : decode cX7_nearest 146 = .ok (.goto 4, 3) := by decide +kernel
theorem dX7_nearest_149 : decode cX7_nearest 149 = .ok (.lconst 0, 1) := by decide +kernel
theorem dX7_nearest_150 : decode cX7_nearest 150 = .ok (.ladd, 1) := by decide +kernel
theorem dX7_nearest_151 : decode cX7_nearest 151 = .ok (.lstore 9, 2) := by decide +kernel
theorem dX7_nearest_153 : decode cX7_nearest 153 = .ok (.iload 7, 2) := by decide +kernel
theorem dX7_nearest_155 : decode cX7_nearest 155 = .ok (.iload 6, 2) := by decide +kernel
theorem dX7_nearest_157 : decode cX7_nearest 157 = .ok (.isub, 1) := by decide +kernel
theorem dX7_nearest_158 : decode cX7_nearest 158 = .ok (.iload_n 3, 1) := by decide +kernel
theorem dX7_nearest_159 : decode cX7_nearest 159 = .ok (.iadd, 1) := by decide +kernel
theorem dX7_nearest_160 : decode cX7_nearest 160 = .ok (.i2l, 1) := by decide +kernel
theorem dX7_nearest_161 : decode cX7_nearest 161 = .ok (.iload_n 3, 1) := by decide +kernel
theorem dX7_nearest_162 : decode cX7_nearest 162 = .ok (.lshl, 1) := by decide +kernel
theorem dX7_nearest_163 : decode cX7_nearest 163 = .ok (.lload 9, 2) := by decide +kernel
theorem dX7_nearest_165 : decode cX7_nearest 165 = .ok (.ladd, 1) := by decide +kernel
theorem dX7_nearest_166 : decode cX7_nearest 166 = .ok (.lstore 11, 2) := by decide +kernel
theorem dX7_nearest_168 : decode cX7_nearest 168 = .ok (.iconst 2, 1) := by decide +kernel
theorem dX7_nearest_169 : decode cX7_nearest 169 = .ok (.iload 4, 2) := by decide +kernel
theorem dX7_nearest_171 : decode cX7_nearest 171 = .ok (.imul, 1) := by decide +kernel
theorem dX7_nearest_172 : decode cX7_nearest 172 = .ok (.iconst 1, 1) := by decide +kernel
theorem dX7_nearest_173 : decode cX7_nearest 173 = .ok (.iadd, 1) := by decide +kernel
theorem dX7_nearest_174 : decode cX7_nearest 174 = .ok (.i2l, 1) := by decide +kernel
theorem dX7_nearest_175 : decode cX7_nearest 175 = .ok (.iload_n 3, 1) := by decide +kernel
theorem dX7_nearest_176 : decode cX7_nearest 176 = .ok (.lshl, 1) := by decide +kernel
theorem dX7_nearest_177 : decode cX7_nearest 177 = .ok (.lstore 13, 2) := by decide +kernel
theorem dX7_nearest_179 : decode cX7_nearest 179 = .ok (.lload 11, 2) := by decide +kernel
theorem dX7_nearest_181 : decode cX7_nearest 181 = .ok (.lload 13, 2) := by decide +kernel
theorem dX7_nearest_183 : decode cX7_nearest 183 = .ok (.lcmp, 1) := by decide +kernel
theorem dX7_nearest_184 : decode cX7_nearest 184 = .ok (.ifCond .le 8, 3) := by decide +kernel
theorem dX7_nearest_187 : decode cX7_nearest 187 = .ok (.lload 13, 2) := by decide +kernel
theorem dX7_nearest_189 : decode cX7_nearest 189 = .ok (.goto 5, 3) := by decide +kernel
theorem dX7_nearest_192 : decode cX7_nearest 192 = .ok (.lload 11, 2) := by decide +kernel
theorem dX7_nearest_194 : decode cX7_nearest 194 = .ok (.lreturn, 1) := by decide +kernel
theorem dX7_inForm_0 : decode cX7_inForm 0 = .ok (.aload_n 0, 1) := by decide +kernel
theorem dX7_inForm_1 : decode cX7_inForm 1 = .ok (.getfield 13, 3) := by decide +kernel
theorem dX7_inForm_4 : decode cX7_inForm 4 = .ok (.iload_n 1, 1) := by decide +kernel
theorem dX7_inForm_5 : decode cX7_inForm 5 = .ok (.iaload, 1) := by decide +kernel
theorem dX7_inForm_6 : decode cX7_inForm 6 = .ok (.ifCond .ne 5, 3) := by decide +kernel
theorem dX7_inForm_9 : decode cX7_inForm 9 = .ok (.lconst 0, 1) := by decide +kernel
theorem dX7_inForm_10 : decode cX7_inForm 10 = .ok (.lreturn, 1) := by decide +kernel
theorem dX7_inForm_11 : decode cX7_inForm 11 = .ok (.aload_n 0, 1) := by decide +kernel
theorem dX7_inForm_12 : decode cX7_inForm 12 = .ok (.iconst 2, 1) := by decide +kernel
theorem dX7_inForm_13 : decode cX7_inForm 13 = .ok (.iload_n 1, 1) := by decide +kernel
theorem dX7_inForm_14 : decode cX7_inForm 14 = .ok (.iconst 0, 1) := by decide +kernel
theorem dX7_inForm_15 : decode cX7_inForm 15 = .ok (.invokevirtual 112, 3) := by decide +kernel
theorem dX7_inForm_18 : decode cX7_inForm 18 = .ok (.aload_n 0, 1) := by decide +kernel
theorem dX7_inForm_19 : decode cX7_inForm 19 = .ok (.iconst 3, 1) := by decide +kernel
theorem dX7_inForm_20 : decode cX7_inForm 20 = .ok (.iload_n 1, 1) := by decide +kernel
theorem dX7_inForm_21 : decode cX7_inForm 21 = .ok (.iconst 1, 1) := by decide +kernel
theorem dX7_inForm_22 : decode cX7_inForm 22 = .ok (.invokevirtual 112, 3) := by decide +kernel
theorem dX7_inForm_25 : decode cX7_inForm 25 = .ok (.bipush 56, 2) := by decide +kernel
theorem dX7_inForm_27 : decode cX7_inForm 27 = .ok (.aload_n 0, 1) := by decide +kernel
theorem dX7_inForm_28 : decode cX7_inForm 28 = .ok (.iconst 2, 1) := by decide +kernel
theorem dX7_inForm_29 : decode cX7_inForm 29 = .ok (.invokevirtual 85, 3) := by decide +kernel
theorem dX7_inForm_32 : decode cX7_inForm 32 = .ok (.aload_n 0, 1) := by decide +kernel
theorem dX7_inForm_33 : decode cX7_inForm 33 = .ok (.iconst 3, 1) := by decide +kernel
theorem dX7_inForm_34 : decode cX7_inForm 34 = .ok (.invokevirtual 85, 3) := by decide +kernel
theorem dX7_inForm_37 : decode cX7_inForm 37 = .ok (.isub, 1) := by decide +kernel
theorem dX7_inForm_38 : decode cX7_inForm 38 = .ok (.isub, 1) := by decide +kernel
theorem dX7_inForm_39 : decode cX7_inForm 39 = .ok (.istore 4, 2) := by decide +kernel
theorem dX7_inForm_41 : decode cX7_inForm 41 = .ok (.iload 4, 2) := by decide +kernel
theorem dX7_inForm_43 : decode cX7_inForm 43 = .ok (.ifCond .le 13, 3) := by decide +kernel
theorem dX7_inForm_46 : decode cX7_inForm 46 = .ok (.aload_n 0, 1) := by decide +kernel
theorem dX7_inForm_47 : decode cX7_inForm 47 = .ok (.iconst 2, 1) := by decide +kernel
theorem dX7_inForm_48 : decode cX7_inForm 48 = .ok (.iload 4, 2) := by decide +kernel
theorem dX7_inForm_50 : decode cX7_inForm 50 = .ok (.invokevirtual 76, 3) := by decide +kernel
theorem dX7_inForm_53 : decode cX7_inForm 53 = .ok (.goto 11, 3) := by decide +kernel
theorem dX7_inForm_56 : decode cX7_inForm 56 = .ok (.aload_n 0, 1) := by decide +kernel
theorem dX7_inForm_57 : decode cX7_inForm 57 = .ok (.iconst 3, 1) := by decide +kernel
theorem dX7_inForm_58 : decode cX7_inForm 58 = .ok (.iload 4, 2) := by decide +kernel
theorem dX7_inForm_60 : decode cX7_inForm 60 = .ok (.ineg, 1) := by decide +kernel
theorem dX7_inForm_61 : decode cX7_inForm 61 = .ok (.invokevirtual 76, 3) := by decide +kernel
theorem dX7_inForm_64 : decode cX7_inForm 64 = .ok (.aload_n 0, 1) := by decide +kernel
theorem dX7_inForm_65 : decode cX7_inForm 65 = .ok (.iconst 4, 1) := by decide +kernel
theorem dX7_inForm_66 : decode cX7_inForm 66 = .ok (.iconst 5, 1) := by decide +kernel
theorem dX7_inForm_67 : decode cX7_inForm 67 = .ok (.iconst 2, 1) := by decide +kernel
theorem dX7_inForm_68 : decode cX7_inForm 68 = .ok (.iconst 3, 1) := by decide +kernel
theorem dX7_inForm_69 : decode cX7_inForm 69 = .ok (.invokevirtual 96, 3) := by decide +kernel
theorem dX7_inForm_72 : decode cX7_inForm 72 = .ok (.aload_n 0, 1) := by decide +kernel
theorem dX7_inForm_73 : decode cX7_inForm 73 = .ok (.iconst 4, 1) := by decide +kernel
theorem dX7_inForm_74 : decode cX7_inForm 74 = .ok (.invokevirtual 153, 3) := by decide +kernel
theorem dX7_inForm_77 : decode cX7_inForm 77 = .ok (.iconst 1, 1) := by decide +kernel
theorem dX7_inForm_78 : decode cX7_inForm 78 = .ok (.lshl, 1) := by decide +kernel
theorem dX7_inForm_79 : decode cX7_inForm 79 = .ok (.aload_n 0, 1) := by decide +kernel
theorem dX7_inForm_80 : decode cX7_inForm 80 = .ok (.getfield 33, 3) := by decide +kernel
theorem dX7_inForm_83 : decode cX7_inForm 83 = .ok (.iconst 5, 1) := by decide +kernel
theorem dX7_inForm_84 : decode cX7_inForm 84 = .ok (.iaload, 1) := by decide +kernel
theorem dX7_inForm_85 : decode cX7_inForm 85 = .ok (.ifCond .le 7, 3) := by decide +kernel
theorem dX7_inForm_88 : decode cX7_inForm 88 = .ok (.lconst 1, 1) := by decide +kernel
theorem dX7_inForm_89 : decode cX7_inForm 89 = .ok (.goto 4, 3) := by decide +kernel
theorem dX7_inForm_92 : decode cX7_inForm 92 = .ok (.lconst 0, 1) := by decide +kernel
theorem dX7_inForm_93 : decode cX7_inForm 93 = .ok (.lor, 1) := by decide +kernel
theorem dX7_inForm_94 : decode cX7_inForm 94 = .ok (.lstore 5, 2) := by decide +kernel
theorem dX7_inForm_96 : decode cX7_inForm 96 = .ok (.lload 5, 2) := by decide +kernel
theorem dX7_inForm_98 : decode cX7_inForm 98 = .ok (.iload 4, 2) := by decide +kernel
theorem dX7_inForm_100 : decode cX7_inForm 100 = .ok (.ineg, 1) := by decide +kernel
theorem dX7_inForm_101 : decode cX7_inForm 101 = .ok (.iconst 1, 1) := by decide +kernel
theorem dX7_inForm_102 : decode cX7_inForm 102 = .ok (.isub, 1) := by decide +kernel
theorem dX7_inForm_103 : decode cX7_inForm 103 = .ok (.iload_n 2, 1) := by decide +kernel
theorem dX7_inForm_104 : decode cX7_inForm 104 = .ok (.iload_n 3, 1) := by decide +kernel
theorem dX7_inForm_105 : decode cX7_inForm 105 = .ok (.invokestatic 171, 3) := by decide +kernel
theorem dX7_inForm_108 : decode cX7_inForm 108 = .ok (.lreturn, 1) := by decide +kernel
theorem dX7_real_0 : decode cX7_real 0 = .ok (.aload_n 0, 1) := by decide +kernel
theorem dX7_real_1 : decode cX7_real 1 = .ok (.iconst 0, 1) := by decide +kernel
theorem dX7_real_2 : decode cX7_real 2 = .ok (.putfield 43, 3) := by decide +kernel
theorem dX7_real_5 : decode cX7_real 5 = .ok (.aload_n 0, 1) := by decide +kernel
theorem dX7_real_6 : decode cX7_real 6 = .ok (.iload_n 1, 1) := by decide +kernel
theorem dX7_real_7 : decode cX7_real 7 = .ok (.invokevirtual 109, 3) := by decide +kernel
theorem dX7_real_10 : decode cX7_real 10 = .ok (.ifCond .ne 7, 3) := by decide +kernel
theorem dX7_real_13 : decode cX7_real 13 = .ok (.ldc2_w 167, 3) := by decide +kernel
theorem dX7_real_16 : decode cX7_real 16 = .ok (.lreturn, 1) := by decide +kernel
theorem dX7_real_17 : decode cX7_real 17 = .ok (.aload_n 0, 1) := by decide +kernel
theorem dX7_real_18 : decode cX7_real 18 = .ok (.iload_n 1, 1) := by decide +kernel
theorem dX7_real_19 : decode cX7_real 19 = .ok (.bipush 52, 2) := by decide +kernel
theorem dX7_real_21 : decode cX7_real 21 = .ok (.sipush 1023, 3) := by decide +kernel
theorem dX7_real_24 : decode cX7_real 24 = .ok (.invokevirtual 175, 3) := by decide +kernel
theorem dX7_real_27 : decode cX7_real 27 = .ok (.aload_n 0, 1) := by decide +kernel
theorem dX7_real_28 : decode cX7_real 28 = .ok (.getfield 13, 3) := by decide +kernel
theorem dX7_real_31 : decode cX7_real 31 = .ok (.iload_n 1, 1) := by decide +kernel
theorem dX7_real_32 : decode cX7_real 32 = .ok (.iaload, 1) := by decide +kernel
theorem dX7_real_33 : decode cX7_real 33 = .ok (.ifCond .ge 9, 3) := by decide +kernel
theorem dX7_real_36 : decode cX7_real 36 = .ok (.ldc2_w 169, 3) := by decide +kernel
theorem dX7_real_39 : decode cX7_real 39 = .ok (.goto 4, 3) := by decide +kernel
theorem dX7_real_42 : decode cX7_real 42 = .ok (.lconst 0, 1) := by decide +kernel
theorem dX7_real_43 : decode cX7_real 43 = .ok (.lor, 1) := by decide +kernel
theorem dX7_real_44 : decode cX7_real 44 = .ok (.lreturn, 1) := by decide +kernel
theorem dX7_single_0 : decode cX7_single 0 = .ok (.aload_n 0, 1) := by decide +kernel
theorem dX7_single_1 : decode cX7_single 1 = .ok (.iconst 0, 1) := by decide +kernel
theorem dX7_single_2 : decode cX7_single 2 = .ok (.putfield 43, 3) := by decide +kernel
theorem dX7_single_5 : decode cX7_single 5 = .ok (.aload_n 0, 1) := by decide +kernel
theorem dX7_single_6 : decode cX7_single 6 = .ok (.iload_n 1, 1) := by decide +kernel
theorem dX7_single_7 : decode cX7_single 7 = .ok (.invokevirtual 109, 3) := by decide +kernel
theorem dX7_single_10 : decode cX7_single 10 = .ok (.ifCond .ne 5, 3) := by decide +kernel
theorem dX7_single_13 : decode cX7_single 13 = .ok (.iconst (-1), 1) := by decide +kernel
theorem dX7_single_14 : decode cX7_single 14 = .ok (.ireturn, 1) := by decide +kernel
theorem dX7_single_15 : decode cX7_single 15 = .ok (.aload_n 0, 1) := by decide +kernel
theorem dX7_single_16 : decode cX7_single 16 = .ok (.iload_n 1, 1) := by decide +kernel
theorem dX7_single_17 : decode cX7_single 17 = .ok (.bipush 23, 2) := by decide +kernel
theorem dX7_single_19 : decode cX7_single 19 = .ok (.bipush 127, 2) := by decide +kernel
theorem dX7_single_21 : decode cX7_single 21 = .ok (.invokevirtual 175, 3) := by decide +kernel
theorem dX7_single_24 : decode cX7_single 24 = .ok (.aload_n 0, 1) := by decide +kernel
theorem dX7_single_25 : decode cX7_single 25 = .ok (.getfield 13, 3) := by decide +kernel
theorem dX7_single_28 : decode cX7_single 28 = .ok (.iload_n 1, 1) := by decide +kernel
theorem dX7_single_29 : decode cX7_single 29 = .ok (.iaload, 1) := by decide +kernel
theorem dX7_single_30 : decode cX7_single 30 = .ok (.ifCond .ge 9, 3) := by decide +kernel
theorem dX7_single_33 : decode cX7_single 33 = .ok (.ldc2_w 52, 3) := by decide +kernel
theorem dX7_single_36 : decode cX7_single 36 = .ok (.goto 4, 3) := by decide +kernel
theorem dX7_single_39 : decode cX7_single 39 = .ok (.lconst 0, 1) := by decide +kernel
theorem dX7_single_40 : decode cX7_single 40 = .ok (.lor, 1) := by decide +kernel
theorem dX7_single_41 : decode cX7_single 41 = .ok (.l2i, 1) := by decide +kernel
theorem dX7_single_42 : decode cX7_single 42 = .ok (.ireturn, 1) := by decide +kernel
theorem dX7_ofReal_0 : decode cX7_ofReal 0 = .ok (.lload_n 1, 1) := by decide +kernel
theorem dX7_ofReal_1 : decode cX7_ofReal 1 = .ok (.bipush 52, 2) := by decide +kernel
theorem dX7_ofReal_3 : decode cX7_ofReal 3 = .ok (.lshr, 1) := by decide +kernel
theorem dX7_ofReal_4 : decode cX7_ofReal 4 = .ok (.ldc2_w 179, 3) := by decide +kernel
theorem dX7_ofReal_7 : decode cX7_ofReal 7 = .ok (.land, 1) := by decide +kernel
theorem dX7_ofReal_8 : decode cX7_ofReal 8 = .ok (.l2i, 1) := by decide +kernel
theorem dX7_ofReal_9 : decode cX7_ofReal 9 = .ok (.istore_n 3, 1) := by decide +kernel
theorem dX7_ofReal_10 : decode cX7_ofReal 10 = .ok (.lload_n 1, 1) := by decide +kernel
theorem dX7_ofReal_11 : decode cX7_ofReal 11 = .ok (.ldc2_w 181, 3) := by decide +kernel
theorem dX7_ofReal_14 : decode cX7_ofReal 14 = .ok (.land, 1) := by decide +kernel
theorem dX7_ofReal_15 : decode cX7_ofReal 15 = .ok (.lstore 4, 2) := by decide +kernel
theorem dX7_ofReal_17 : decode cX7_ofReal 17 = .ok (.aload_n 0, 1) := by decide +kernel
theorem dX7_ofReal_18 : decode cX7_ofReal 18 = .ok (.iload_n 3, 1) := by decide +kernel
theorem dX7_ofReal_19 : decode cX7_ofReal 19 = .ok (.sipush 2047, 3) := by decide +kernel
theorem dX7_ofReal_22 : decode cX7_ofReal 22 = .ok (.if_icmp .ne 7, 3) := by decide +kernel
theorem dX7_ofReal_25 : decode cX7_ofReal 25 = .ok (.iconst 1, 1) := by decide +kernel
theorem dX7_ofReal_26 : decode cX7_ofReal 26 = .ok (.goto 4, 3) := by decide +kernel
theorem dX7_ofReal_29 : decode cX7_ofReal 29 = .ok (.iconst 0, 1) := by decide +kernel
theorem dX7_ofReal_30 : decode cX7_ofReal 30 = .ok (.putfield 43, 3) := by decide +kernel
theorem dX7_ofReal_33 : decode cX7_ofReal 33 = .ok (.iload_n 3, 1) := by decide +kernel
theorem dX7_ofReal_34 : decode cX7_ofReal 34 = .ok (.sipush 2047, 3) := by decide +kernel
theorem dX7_ofReal_37 : decode cX7_ofReal 37 = .ok (.if_icmp .ne 5, 3) := by decide +kernel
theorem dX7_ofReal_40 : decode cX7_ofReal 40 = .ok (.iconst 0, 1) := by decide +kernel
theorem dX7_ofReal_41 : decode cX7_ofReal 41 = .ok (.ireturn, 1) := by decide +kernel
theorem dX7_ofReal_42 : decode cX7_ofReal 42 = .ok (.aload_n 0, 1) := by decide +kernel
theorem dX7_ofReal_43 : decode cX7_ofReal 43 = .ok (.invokevirtual 89, 3) := by decide +kernel
theorem dX7_ofReal_46 : decode cX7_ofReal 46 = .ok (.bipush (-3), 2) := by decide +kernel
theorem dX7_ofReal_48 : decode cX7_ofReal 48 = .ok (.if_icmp .ne 6, 3) := by decide +kernel
theorem dX7_ofReal_51 : decode cX7_ofReal 51 = .ok (.bipush (-3), 2) := by decide +kernel
theorem dX7_ofReal_53 : decode cX7_ofReal 53 = .ok (.ireturn, 1) := by decide +kernel
theorem dX7_ofReal_54 : decode cX7_ofReal 54 = .ok (.aload_n 0, 1) := by decide +kernel
theorem dX7_ofReal_55 : decode cX7_ofReal 55 = .ok (.iconst 0, 1) := by decide +kernel
theorem dX7_ofReal_56 : decode cX7_ofReal 56 = .ok (.iload_n 3, 1) := by decide +kernel
theorem dX7_ofReal_57 : decode cX7_ofReal 57 = .ok (.ifCond .ne 8, 3) := by decide +kernel
theorem dX7_ofReal_60 : decode cX7_ofReal 60 = .ok (.lload 4, 2) := by decide +kernel
theorem dX7_ofReal_62 : decode cX7_ofReal 62 = .ok (.goto 9, 3) := by decide +kernel
theorem dX7_ofReal_65 : decode cX7_ofReal 65 = .ok (.lload 4, 2) := by decide +kernel
theorem dX7_ofReal_67 : decode cX7_ofReal 67 = .ok (.ldc2_w 183, 3) := by decide +kernel
theorem dX7_ofReal_70 : decode cX7_ofReal 70 = .ok (.lor, 1) := by decide +kernel
theorem dX7_ofReal_71 : decode cX7_ofReal 71 = .ok (.invokevirtual 103, 3) := by decide +kernel
theorem dX7_ofReal_74 : decode cX7_ofReal 74 = .ok (.aload_n 0, 1) := by decide +kernel
theorem dX7_ofReal_75 : decode cX7_ofReal 75 = .ok (.iconst 1, 1) := by decide +kernel
theorem dX7_ofReal_76 : decode cX7_ofReal 76 = .ok (.lconst 1, 1) := by decide +kernel
theorem dX7_ofReal_77 : decode cX7_ofReal 77 = .ok (.invokevirtual 103, 3) := by decide +kernel
theorem dX7_ofReal_80 : decode cX7_ofReal 80 = .ok (.iload_n 3, 1) := by decide +kernel
theorem dX7_ofReal_81 : decode cX7_ofReal 81 = .ok (.ifCond .ne 7, 3) := by decide +kernel
theorem dX7_ofReal_84 : decode cX7_ofReal 84 = .ok (.iconst 1, 1) := by decide +kernel
theorem dX7_ofReal_85 : decode cX7_ofReal 85 = .ok (.goto 4, 3) := by decide +kernel
theorem dX7_ofReal_88 : decode cX7_ofReal 88 = .ok (.iload_n 3, 1) := by decide +kernel
theorem dX7_ofReal_89 : decode cX7_ofReal 89 = .ok (.sipush 1075, 3) := by decide +kernel
theorem dX7_ofReal_92 : decode cX7_ofReal 92 = .ok (.isub, 1) := by decide +kernel
theorem dX7_ofReal_93 : decode cX7_ofReal 93 = .ok (.istore 6, 2) := by decide +kernel
theorem dX7_ofReal_95 : decode cX7_ofReal 95 = .ok (.iload 6, 2) := by decide +kernel
theorem dX7_ofReal_97 : decode cX7_ofReal 97 = .ok (.ifCond .ge 31, 3) := by decide +kernel
theorem dX7_ofReal_100 : decode cX7_ofReal 100 = .ok (.aload_n 0, 1) := by decide +kernel
theorem dX7_ofReal_101 : decode cX7_ofReal 101 = .ok (.getfield 33, 3) := by decide +kernel
theorem dX7_ofReal_104 : decode cX7_ofReal 104 = .ok (.iconst 0, 1) := by decide +kernel
theorem dX7_ofReal_105 : decode cX7_ofReal 105 = .ok (.iaload, 1) := by decide +kernel
theorem dX7_ofReal_106 : decode cX7_ofReal 106 = .ok (.ifCond .le 22, 3) := by decide +kernel
theorem dX7_ofReal_109 : decode cX7_ofReal 109 = .ok (.aload_n 0, 1) := by decide +kernel
theorem dX7_ofReal_110 : decode cX7_ofReal 110 = .ok (.iconst 0, 1) := by decide +kernel
theorem dX7_ofReal_111 : decode cX7_ofReal 111 = .ok (.invokevirtual 69, 3) := by decide +kernel
theorem dX7_ofReal_114 : decode cX7_ofReal 114 = .ok (.ifCond .ne 14, 3) := by decide +kernel
theorem dX7_ofReal_117 : decode cX7_ofReal 117 = .ok (.aload_n 0, 1) := by decide +kernel
theorem dX7_ofReal_118 : decode cX7_ofReal 118 = .ok (.iconst 0, 1) := by decide +kernel
theorem dX7_ofReal_119 : decode cX7_ofReal 119 = .ok (.invokevirtual 73, 3) := by decide +kernel
theorem dX7_ofReal_122 : decode cX7_ofReal 122 = .ok (.iinc 6 1, 3) := by decide +kernel
theorem dX7_ofReal_125 : decode cX7_ofReal 125 = .ok (.goto (-30), 3) := by decide +kernel
theorem dX7_ofReal_128 : decode cX7_ofReal 128 = .ok (.aload_n 0, 1) := by decide +kernel
theorem dX7_ofReal_129 : decode cX7_ofReal 129 = .ok (.getfield 33, 3) := by decide +kernel
theorem dX7_ofReal_132 : decode cX7_ofReal 132 = .ok (.iconst 0, 1) := by decide +kernel
theorem dX7_ofReal_133 : decode cX7_ofReal 133 = .ok (.iaload, 1) := by decide +kernel
theorem dX7_ofReal_134 : decode cX7_ofReal 134 = .ok (.ifCond .le 30, 3) := by decide +kernel
theorem dX7_ofReal_137 : decode cX7_ofReal 137 = .ok (.aload_n 0, 1) := by decide +kernel
theorem dX7_ofReal_138 : decode cX7_ofReal 138 = .ok (.iload 6, 2) := by decide +kernel
theorem dX7_ofReal_140 : decode cX7_ofReal 140 = .ok (.ifCond .ge 7, 3) := by decide +kernel
theorem dX7_ofReal_143 : decode cX7_ofReal 143 = .ok (.iconst 1, 1) := by decide +kernel
theorem dX7_ofReal_144 : decode cX7_ofReal 144 = .ok (.goto 4, 3) := by decide +kernel
theorem dX7_ofReal_147 : decode cX7_ofReal 147 = .ok (.iconst 0, 1) := by decide +kernel
theorem dX7_ofReal_148 : decode cX7_ofReal 148 = .ok (.iload 6, 2) := by decide +kernel
theorem dX7_ofReal_150 : decode cX7_ofReal 150 = .ok (.ifCond .ge 9, 3) := by decide +kernel
theorem dX7_ofReal_153 : decode cX7_ofReal 153 = .ok (.iload 6, 2) := by decide +kernel
theorem dX7_ofReal_155 : decode cX7_ofReal 155 = .ok (.ineg, 1) := by decide +kernel
theorem dX7_ofReal_156 : decode cX7_ofReal 156 = .ok (.goto 5, 3) := by decide +kernel
theorem dX7_ofReal_159 : decode cX7_ofReal 159 = .ok (.iload 6, 2) := by decide +kernel
theorem dX7_ofReal_161 : decode cX7_ofReal 161 = .ok (.invokevirtual 76, 3) := by decide +kernel
theorem dX7_ofReal_164 : decode cX7_ofReal 164 = .ok (.aload_n 0, 1) := by decide +kernel
theorem dX7_ofReal_165 : decode cX7_ofReal 165 = .ok (.lload_n 1, 1) := by decide +kernel
theorem dX7_ofReal_166 : decode cX7_ofReal 166 = .ok (.lconst 0, 1) := by decide +kernel
theorem dX7_ofReal_167 : decode cX7_ofReal 167 = .ok (.lcmp, 1) := by decide +kernel
theorem dX7_ofReal_168 : decode cX7_ofReal 168 = .ok (.ifCond .ge 7, 3) := by decide +kernel
theorem dX7_ofReal_171 : decode cX7_ofReal 171 = .ok (.iconst (-1), 1) := by decide +kernel
theorem dX7_ofReal_172 : decode cX7_ofReal 172 = .ok (.goto 4, 3) := by decide +kernel
theorem dX7_ofReal_175 : decode cX7_ofReal 175 = .ok (.iconst 1, 1) := by decide +kernel
theorem dX7_ofReal_176 : decode cX7_ofReal 176 = .ok (.invokevirtual 100, 3) := by decide +kernel
theorem dX7_ofReal_179 : decode cX7_ofReal 179 = .ok (.ireturn, 1) := by decide +kernel
theorem dX7_feed_0 : decode cX7_feed 0 = .ok (.aload_n 0, 1) := by decide +kernel
theorem dX7_feed_1 : decode cX7_feed 1 = .ok (.iconst 0, 1) := by decide +kernel
theorem dX7_feed_2 : decode cX7_feed 2 = .ok (.putfield 43, 3) := by decide +kernel
theorem dX7_feed_5 : decode cX7_feed 5 = .ok (.iload_n 1, 1) := by decide +kernel
theorem dX7_feed_6 : decode cX7_feed 6 = .ok (.i2l, 1) := by decide +kernel
theorem dX7_feed_7 : decode cX7_feed 7 = .ok (.lconst 0, 1) := by decide +kernel
theorem dX7_feed_8 : decode cX7_feed 8 = .ok (.ldc2_w 185, 3) := by decide +kernel
theorem dX7_feed_11 : decode cX7_feed 11 = .ok (.invokestatic 81, 3) := by decide +kernel
theorem dX7_feed_14 : decode cX7_feed 14 = .ok (.ifCond .ne 5, 3) := by decide +kernel
theorem dX7_feed_17 : decode cX7_feed 17 = .ok (.iconst (-1), 1) := by decide +kernel
theorem dX7_feed_18 : decode cX7_feed 18 = .ok (.ireturn, 1) := by decide +kernel
theorem dX7_feed_19 : decode cX7_feed 19 = .ok (.aload_n 0, 1) := by decide +kernel
theorem dX7_feed_20 : decode cX7_feed 20 = .ok (.getfield 39, 3) := by decide +kernel
theorem dX7_feed_23 : decode cX7_feed 23 = .ok (.sipush 400, 3) := by decide +kernel
theorem dX7_feed_26 : decode cX7_feed 26 = .ok (.if_icmp .ne 6, 3) := by decide +kernel
theorem dX7_feed_29 : decode cX7_feed 29 = .ok (.bipush (-3), 2) := by decide +kernel
theorem dX7_feed_31 : decode cX7_feed 31 = .ok (.ireturn, 1) := by decide +kernel
theorem dX7_feed_32 : decode cX7_feed 32 = .ok (.aload_n 0, 1) := by decide +kernel
theorem dX7_feed_33 : decode cX7_feed 33 = .ok (.getfield 24, 3) := by decide +kernel
theorem dX7_feed_36 : decode cX7_feed 36 = .ok (.aload_n 0, 1) := by decide +kernel
theorem dX7_feed_37 : decode cX7_feed 37 = .ok (.getfield 39, 3) := by decide +kernel
theorem dX7_feed_40 : decode cX7_feed 40 = .ok (.iload_n 1, 1) := by decide +kernel
theorem dX7_feed_41 : decode cX7_feed 41 = .ok (.iastore, 1) := by decide +kernel
theorem dX7_feed_42 : decode cX7_feed 42 = .ok (.aload_n 0, 1) := by decide +kernel
theorem dX7_feed_43 : decode cX7_feed 43 = .ok (.dup, 1) := by decide +kernel
theorem dX7_feed_44 : decode cX7_feed 44 = .ok (.getfield 39, 3) := by decide +kernel
theorem dX7_feed_47 : decode cX7_feed 47 = .ok (.iconst 1, 1) := by decide +kernel
theorem dX7_feed_48 : decode cX7_feed 48 = .ok (.iadd, 1) := by decide +kernel
theorem dX7_feed_49 : decode cX7_feed 49 = .ok (.putfield 39, 3) := by decide +kernel
theorem dX7_feed_52 : decode cX7_feed 52 = .ok (.aload_n 0, 1) := by decide +kernel
theorem dX7_feed_53 : decode cX7_feed 53 = .ok (.getfield 39, 3) := by decide +kernel
theorem dX7_feed_56 : decode cX7_feed 56 = .ok (.ireturn, 1) := by decide +kernel
theorem dX7_isFigure_0 : decode cX7_isFigure 0 = .ok (.iload_n 1, 1) := by decide +kernel
theorem dX7_isFigure_1 : decode cX7_isFigure 1 = .ok (.aload_n 0, 1) := by decide +kernel
theorem dX7_isFigure_2 : decode cX7_isFigure 2 = .ok (.getfield 39, 3) := by decide +kernel
theorem dX7_isFigure_5 : decode cX7_isFigure 5 = .ok (.if_icmp .ge 29, 3) := by decide +kernel
theorem dX7_isFigure_8 : decode cX7_isFigure 8 = .ok (.aload_n 0, 1) := by decide +kernel
theorem dX7_isFigure_9 : decode cX7_isFigure 9 = .ok (.getfield 24, 3) := by decide +kernel
theorem dX7_isFigure_12 : decode cX7_isFigure 12 = .ok (.iload_n 1, 1) := by decide +kernel
theorem dX7_isFigure_13 : decode cX7_isFigure 13 = .ok (.iaload, 1) := by decide +kernel
theorem dX7_isFigure_14 : decode cX7_isFigure 14 = .ok (.bipush 48, 2) := by decide +kernel
theorem dX7_isFigure_16 : decode cX7_isFigure 16 = .ok (.if_icmp .lt 18, 3) := by decide +kernel
theorem dX7_isFigure_19 : decode cX7_isFigure 19 = .ok (.aload_n 0, 1) := by decide +kernel
theorem dX7_isFigure_20 : decode cX7_isFigure 20 = .ok (.getfield 24, 3) := by decide +kernel
theorem dX7_isFigure_23 : decode cX7_isFigure 23 = .ok (.iload_n 1, 1) := by decide +kernel
theorem dX7_isFigure_24 : decode cX7_isFigure 24 = .ok (.iaload, 1) := by decide +kernel
theorem dX7_isFigure_25 : decode cX7_isFigure 25 = .ok (.bipush 57, 2) := by decide +kernel
theorem dX7_isFigure_27 : decode cX7_isFigure 27 = .ok (.if_icmp .gt 7, 3) := by decide +kernel
theorem dX7_isFigure_30 : decode cX7_isFigure 30 = .ok (.iconst 1, 1) := by decide +kernel
theorem dX7_isFigure_31 : decode cX7_isFigure 31 = .ok (.goto 4, 3) := by decide +kernel
theorem dX7_isFigure_34 : decode cX7_isFigure 34 = .ok (.iconst 0, 1) := by decide +kernel
theorem dX7_isFigure_35 : decode cX7_isFigure 35 = .ok (.ireturn, 1) := by decide +kernel
theorem dX7_takeFigures_0 : decode cX7_takeFigures 0 = .ok (.aload_n 0, 1) := by decide +kernel
theorem dX7_takeFigures_1 : decode cX7_takeFigures 1 = .ok (.getfield 187, 3) := by decide +kernel
theorem dX7_takeFigures_4 : decode cX7_takeFigures 4 = .ok (.istore_n 2, 1) := by decide +kernel
theorem dX7_takeFigures_5 : decode cX7_takeFigures 5 = .ok (.aload_n 0, 1) := by decide +kernel
theorem dX7_takeFigures_6 : decode cX7_takeFigures 6 = .ok (.aload_n 0, 1) := by decide +kernel
theorem dX7_takeFigures_7 : decode cX7_takeFigures 7 = .ok (.getfield 187, 3) := by decide +kernel
theorem dX7_takeFigures_10 : decode cX7_takeFigures 10 = .ok (.invokevirtual 190, 3) := by decide +kernel
theorem dX7_takeFigures_13 : decode cX7_takeFigures 13 = .ok (.ifCond .eq 57, 3) := by decide +kernel
theorem dX7_takeFigures_16 : decode cX7_takeFigures 16 = .ok (.aload_n 0, 1) := by decide +kernel
theorem dX7_takeFigures_17 : decode cX7_takeFigures 17 = .ok (.getfield 193, 3) := by decide +kernel
theorem dX7_takeFigures_20 : decode cX7_takeFigures 20 = .ok (.sipush 160, 3) := by decide +kernel
theorem dX7_takeFigures_23 : decode cX7_takeFigures 23 = .ok (.if_icmp .ge 47, 3) := by decide +kernel
theorem dX7_takeFigures_26 : decode cX7_takeFigures 26 = .ok (.aload_n 0, 1) := by decide +kernel
theorem dX7_takeFigures_27 : decode cX7_takeFigures 27 = .ok (.iload_n 1, 1) := by decide +kernel
theorem dX7_takeFigures_28 : decode cX7_takeFigures 28 = .ok (.ldc2_w 196, 3) := by decide +kernel
theorem dX7_takeFigures_31 : decode cX7_takeFigures 31 = .ok (.aload_n 0, 1) := by decide +kernel
theorem dX7_takeFigures_32 : decode cX7_takeFigures 32 = .ok (.getfield 24, 3) := by decide +kernel
theorem dX7_takeFigures_35 : decode cX7_takeFigures 35 = .ok (.aload_n 0, 1) := by decide +kernel
theorem dX7_takeFigures_36 : decode cX7_takeFigures 36 = .ok (.getfield 187, 3) := by decide +kernel
theorem dX7_takeFigures_39 : decode cX7_takeFigures 39 = .ok (.iaload, 1) := by decide +kernel
theorem dX7_takeFigures_40 : decode cX7_takeFigures 40 = .ok (.bipush 48, 2) := by decide +kernel
theorem dX7_takeFigures_42 : decode cX7_takeFigures 42 = .ok (.isub, 1) := by decide +kernel
theorem dX7_takeFigures_43 : decode cX7_takeFigures 43 = .ok (.i2l, 1) := by decide +kernel
theorem dX7_takeFigures_44 : decode cX7_takeFigures 44 = .ok (.invokevirtual 198, 3) := by decide +kernel
theorem dX7_takeFigures_47 : decode cX7_takeFigures 47 = .ok (.aload_n 0, 1) := by decide +kernel
theorem dX7_takeFigures_48 : decode cX7_takeFigures 48 = .ok (.dup, 1) := by decide +kernel
theorem dX7_takeFigures_49 : decode cX7_takeFigures 49 = .ok (.getfield 193, 3) := by decide +kernel
theorem dX7_takeFigures_52 : decode cX7_takeFigures 52 = .ok (.iconst 1, 1) := by decide +kernel
theorem dX7_takeFigures_53 : decode cX7_takeFigures 53 = .ok (.iadd, 1) := by decide +kernel
theorem dX7_takeFigures_54 : decode cX7_takeFigures 54 = .ok (.putfield 193, 3) := by decide +kernel
theorem dX7_takeFigures_57 : decode cX7_takeFigures 57 = .ok (.aload_n 0, 1) := by decide +kernel
theorem dX7_takeFigures_58 : decode cX7_takeFigures 58 = .ok (.dup, 1) := by decide +kernel
theorem dX7_takeFigures_59 : decode cX7_takeFigures 59 = .ok (.getfield 187, 3) := by decide +kernel
theorem dX7_takeFigures_62 : decode cX7_takeFigures 62 = .ok (.iconst 1, 1) := by decide +kernel
theorem dX7_takeFigures_63 : decode cX7_takeFigures 63 = .ok (.iadd, 1) := by decide +kernel
theorem dX7_takeFigures_64 : decode cX7_takeFigures 64 = .ok (.putfield 187, 3) := by decide +kernel
theorem dX7_takeFigures_67 : decode cX7_takeFigures 67 = .ok (.goto (-62), 3) := by decide +kernel
theorem dX7_takeFigures_70 : decode cX7_takeFigures 70 = .ok (.aload_n 0, 1) := by decide +kernel
theorem dX7_takeFigures_71 : decode cX7_takeFigures 71 = .ok (.getfield 187, 3) := by decide +kernel
theorem dX7_takeFigures_74 : decode cX7_takeFigures 74 = .ok (.iload_n 2, 1) := by decide +kernel
theorem dX7_takeFigures_75 : decode cX7_takeFigures 75 = .ok (.if_icmp .le 18, 3) := by decide +kernel
theorem dX7_takeFigures_78 : decode cX7_takeFigures 78 = .ok (.aload_n 0, 1) := by decide +kernel
theorem dX7_takeFigures_79 : decode cX7_takeFigures 79 = .ok (.aload_n 0, 1) := by decide +kernel
theorem dX7_takeFigures_80 : decode cX7_takeFigures 80 = .ok (.getfield 187, 3) := by decide +kernel
theorem dX7_takeFigures_83 : decode cX7_takeFigures 83 = .ok (.invokevirtual 190, 3) := by decide +kernel
theorem dX7_takeFigures_86 : decode cX7_takeFigures 86 = .ok (.ifCond .ne 7, 3) := by decide +kernel
theorem dX7_takeFigures_89 : decode cX7_takeFigures 89 = .ok (.iconst 1, 1) := by decide +kernel
theorem dX7_takeFigures_90 : decode cX7_takeFigures 90 = .ok (.goto 4, 3) := by decide +kernel
theorem dX7_takeFigures_93 : decode cX7_takeFigures 93 = .ok (.iconst 0, 1) := by decide +kernel
theorem dX7_takeFigures_94 : decode cX7_takeFigures 94 = .ok (.ireturn, 1) := by decide +kernel
theorem dX7_read_0 : decode cX7_read 0 = .ok (.aload_n 0, 1) := by decide +kernel
theorem dX7_read_1 : decode cX7_read 1 = .ok (.iconst 0, 1) := by decide +kernel
theorem dX7_read_2 : decode cX7_read 2 = .ok (.putfield 43, 3) := by decide +kernel
theorem dX7_read_5 : decode cX7_read 5 = .ok (.aload_n 0, 1) := by decide +kernel
theorem dX7_read_6 : decode cX7_read 6 = .ok (.iconst 0, 1) := by decide +kernel
theorem dX7_read_7 : decode cX7_read 7 = .ok (.putfield 187, 3) := by decide +kernel
theorem dX7_read_10 : decode cX7_read 10 = .ok (.aload_n 0, 1) := by decide +kernel
theorem dX7_read_11 : decode cX7_read 11 = .ok (.getfield 39, 3) := by decide +kernel
theorem dX7_read_14 : decode cX7_read 14 = .ok (.ifCond .le 18, 3) := by decide +kernel
theorem dX7_read_17 : decode cX7_read 17 = .ok (.aload_n 0, 1) := by decide +kernel
theorem dX7_read_18 : decode cX7_read 18 = .ok (.getfield 24, 3) := by decide +kernel
theorem dX7_read_21 : decode cX7_read 21 = .ok (.iconst 0, 1) := by decide +kernel
theorem dX7_read_22 : decode cX7_read 22 = .ok (.iaload, 1) := by decide +kernel
theorem dX7_read_23 : decode cX7_read 23 = .ok (.bipush 45, 2) := by decide +kernel
theorem dX7_read_25 : decode cX7_read 25 = .ok (.if_icmp .ne 7, 3) := by decide +kernel
theorem dX7_read_28 : decode cX7_read 28 = .ok (.iconst 1, 1) := by decide +kernel
theorem dX7_read_29 : decode cX7_read 29 = .ok (.goto 4, 3) := by decide +kernel
theorem dX7_read_32 : decode cX7_read 32 = .ok (.iconst 0, 1) := by decide +kernel
theorem dX7_read_33 : decode cX7_read 33 = .ok (.istore_n 1, 1) := by decide +kernel
theorem dX7_read_34 : decode cX7_read 34 = .ok (.aload_n 0, 1) := by decide +kernel
theorem dX7_read_35 : decode cX7_read 35 = .ok (.iload_n 1, 1) := by decide +kernel
theorem dX7_read_36 : decode cX7_read 36 = .ok (.ifCond .eq 7, 3) := by decide +kernel
theorem dX7_read_39 : decode cX7_read 39 = .ok (.iconst 1, 1) := by decide +kernel
theorem dX7_read_40 : decode cX7_read 40 = .ok (.goto 4, 3) := by decide +kernel
theorem dX7_read_43 : decode cX7_read 43 = .ok (.iconst 0, 1) := by decide +kernel
theorem dX7_read_44 : decode cX7_read 44 = .ok (.putfield 187, 3) := by decide +kernel
theorem dX7_read_47 : decode cX7_read 47 = .ok (.aload_n 0, 1) := by decide +kernel
theorem dX7_read_48 : decode cX7_read 48 = .ok (.iconst 0, 1) := by decide +kernel
theorem dX7_read_49 : decode cX7_read 49 = .ok (.lconst 0, 1) := by decide +kernel
theorem dX7_read_50 : decode cX7_read 50 = .ok (.invokevirtual 103, 3) := by decide +kernel
theorem dX7_read_53 : decode cX7_read 53 = .ok (.aload_n 0, 1) := by decide +kernel
theorem dX7_read_54 : decode cX7_read 54 = .ok (.iconst 1, 1) := by decide +kernel
theorem dX7_read_55 : decode cX7_read 55 = .ok (.lconst 1, 1) := by decide +kernel
theorem dX7_read_56 : decode cX7_read 56 = .ok (.invokevirtual 103, 3) := by decide +kernel
theorem dX7_read_59 : decode cX7_read 59 = .ok (.aload_n 0, 1) := by decide +kernel
theorem dX7_read_60 : decode cX7_read 60 = .ok (.iconst 0, 1) := by decide +kernel
theorem dX7_read_61 : decode cX7_read 61 = .ok (.putfield 193, 3) := by decide +kernel
theorem dX7_read_64 : decode cX7_read 64 = .ok (.aload_n 0, 1) := by decide +kernel
theorem dX7_read_65 : decode cX7_read 65 = .ok (.iconst 0, 1) := by decide +kernel
theorem dX7_read_66 : decode cX7_read 66 = .ok (.invokevirtual 201, 3) := by decide +kernel
theorem dX7_read_69 : decode cX7_read 69 = .ok (.istore_n 2, 1) := by decide +kernel
theorem dX7_read_70 : decode cX7_read 70 = .ok (.iload_n 2, 1) := by decide +kernel
theorem dX7_read_71 : decode cX7_read 71 = .ok (.ifCond .eq 58, 3) := by decide +kernel
theorem dX7_read_74 : decode cX7_read 74 = .ok (.aload_n 0, 1) := by decide +kernel
theorem dX7_read_75 : decode cX7_read 75 = .ok (.getfield 187, 3) := by decide +kernel
theorem dX7_read_78 : decode cX7_read 78 = .ok (.aload_n 0, 1) := by decide +kernel
theorem dX7_read_79 : decode cX7_read 79 = .ok (.getfield 39, 3) := by decide +kernel
theorem dX7_read_82 : decode cX7_read 82 = .ok (.if_icmp .ge 47, 3) := by decide +kernel
theorem dX7_read_85 : decode cX7_read 85 = .ok (.aload_n 0, 1) := by decide +kernel
theorem dX7_read_86 : decode cX7_read 86 = .ok (.getfield 24, 3) := by decide +kernel
theorem dX7_read_89 : decode cX7_read 89 = .ok (.aload_n 0, 1) := by decide +kernel
theorem dX7_read_90 : decode cX7_read 90 = .ok (.getfield 187, 3) := by decide +kernel
theorem dX7_read_93 : decode cX7_read 93 = .ok (.iaload, 1) := by decide +kernel
theorem dX7_read_94 : decode cX7_read 94 = .ok (.bipush 47, 2) := by decide +kernel
theorem dX7_read_96 : decode cX7_read 96 = .ok (.if_icmp .ne 33, 3) := by decide +kernel
theorem dX7_read_99 : decode cX7_read 99 = .ok (.aload_n 0, 1) := by decide +kernel
theorem dX7_read_100 : decode cX7_read 100 = .ok (.dup, 1) := by decide +kernel
theorem dX7_read_101 : decode cX7_read 101 = .ok (.getfield 187, 3) := by decide +kernel
theorem dX7_read_104 : decode cX7_read 104 = .ok (.iconst 1, 1) := by decide +kernel
theorem dX7_read_105 : decode cX7_read 105 = .ok (.iadd, 1) := by decide +kernel
theorem dX7_read_106 : decode cX7_read 106 = .ok (.putfield 187, 3) := by decide +kernel
theorem dX7_read_109 : decode cX7_read 109 = .ok (.aload_n 0, 1) := by decide +kernel
theorem dX7_read_110 : decode cX7_read 110 = .ok (.iconst 1, 1) := by decide +kernel
theorem dX7_read_111 : decode cX7_read 111 = .ok (.lconst 0, 1) := by decide +kernel
theorem dX7_read_112 : decode cX7_read 112 = .ok (.invokevirtual 103, 3) := by decide +kernel
theorem dX7_read_115 : decode cX7_read 115 = .ok (.aload_n 0, 1) := by decide +kernel
theorem dX7_read_116 : decode cX7_read 116 = .ok (.iconst 0, 1) := by decide +kernel
theorem dX7_read_117 : decode cX7_read 117 = .ok (.putfield 193, 3) := by decide +kernel
theorem dX7_read_120 : decode cX7_read 120 = .ok (.aload_n 0, 1) := by decide +kernel
theorem dX7_read_121 : decode cX7_read 121 = .ok (.iconst 1, 1) := by decide +kernel
theorem dX7_read_122 : decode cX7_read 122 = .ok (.invokevirtual 201, 3) := by decide +kernel
theorem dX7_read_125 : decode cX7_read 125 = .ok (.istore_n 2, 1) := by decide +kernel
theorem dX7_read_126 : decode cX7_read 126 = .ok (.goto 80, 3) := by decide +kernel
theorem dX7_read_129 : decode cX7_read 129 = .ok (.iload_n 2, 1) := by decide +kernel
theorem dX7_read_130 : decode cX7_read 130 = .ok (.ifCond .eq 76, 3) := by decide +kernel
theorem dX7_read_133 : decode cX7_read 133 = .ok (.aload_n 0, 1) := by decide +kernel
theorem dX7_read_134 : decode cX7_read 134 = .ok (.getfield 187, 3) := by decide +kernel
theorem dX7_read_137 : decode cX7_read 137 = .ok (.aload_n 0, 1) := by decide +kernel
theorem dX7_read_138 : decode cX7_read 138 = .ok (.getfield 39, 3) := by decide +kernel
theorem dX7_read_141 : decode cX7_read 141 = .ok (.if_icmp .ge 65, 3) := by decide +kernel
theorem dX7_read_144 : decode cX7_read 144 = .ok (.aload_n 0, 1) := by decide +kernel
theorem dX7_read_145 : decode cX7_read 145 = .ok (.getfield 24, 3) := by decide +kernel
theorem dX7_read_148 : decode cX7_read 148 = .ok (.aload_n 0, 1) := by decide +kernel
theorem dX7_read_149 : decode cX7_read 149 = .ok (.getfield 187, 3) := by decide +kernel
theorem dX7_read_152 : decode cX7_read 152 = .ok (.iaload, 1) := by decide +kernel
theorem dX7_read_153 : decode cX7_read 153 = .ok (.bipush 46, 2) := by decide +kernel
theorem dX7_read_155 : decode cX7_read 155 = .ok (.if_icmp .ne 51, 3) := by decide +kernel
theorem dX7_read_158 : decode cX7_read 158 = .ok (.aload_n 0, 1) := by decide +kernel
theorem dX7_read_159 : decode cX7_read 159 = .ok (.dup, 1) := by decide +kernel
theorem dX7_read_160 : decode cX7_read 160 = .ok (.getfield 187, 3) := by decide +kernel
theorem dX7_read_163 : decode cX7_read 163 = .ok (.iconst 1, 1) := by decide +kernel
theorem dX7_read_164 : decode cX7_read 164 = .ok (.iadd, 1) := by decide +kernel
theorem dX7_read_165 : decode cX7_read 165 = .ok (.putfield 187, 3) := by decide +kernel
theorem dX7_read_168 : decode cX7_read 168 = .ok (.aload_n 0, 1) := by decide +kernel
theorem dX7_read_169 : decode cX7_read 169 = .ok (.getfield 193, 3) := by decide +kernel
theorem dX7_read_172 : decode cX7_read 172 = .ok (.istore_n 3, 1) := by decide +kernel
theorem dX7_read_173 : decode cX7_read 173 = .ok (.aload_n 0, 1) := by decide +kernel
theorem dX7_read_174 : decode cX7_read 174 = .ok (.iconst 0, 1) := by decide +kernel
theorem dX7_read_175 : decode cX7_read 175 = .ok (.invokevirtual 201, 3) := by decide +kernel
theorem dX7_read_178 : decode cX7_read 178 = .ok (.istore_n 2, 1) := by decide +kernel
theorem dX7_read_179 : decode cX7_read 179 = .ok (.iload_n 3, 1) := by decide +kernel
theorem dX7_read_180 : decode cX7_read 180 = .ok (.istore 4, 2) := by decide +kernel
theorem dX7_read_182 : decode cX7_read 182 = .ok (.iload 4, 2) := by decide +kernel
theorem dX7_read_184 : decode cX7_read 184 = .ok (.aload_n 0, 1) := by decide +kernel
theorem dX7_read_185 : decode cX7_read 185 = .ok (.getfield 193, 3) := by decide +kernel
theorem dX7_read_188 : decode cX7_read 188 = .ok (.if_icmp .ge 18, 3) := by decide +kernel
theorem dX7_read_191 : decode cX7_read 191 = .ok (.aload_n 0, 1) := by decide +kernel
theorem dX7_read_192 : decode cX7_read 192 = .ok (.iconst 1, 1) := by decide +kernel
theorem dX7_read_193 : decode cX7_read 193 = .ok (.ldc2_w 196, 3) := by decide +kernel
theorem dX7_read_196 : decode cX7_read 196 = .ok (.lconst 0, 1) := by decide +kernel
theorem dX7_read_197 : decode cX7_read 197 = .ok (.invokevirtual 198, 3) := by decide +kernel
theorem dX7_read_200 : decode cX7_read 200 = .ok (.iinc 4 1, 3) := by decide +kernel
theorem dX7_read_203 : decode cX7_read 203 = .ok (.goto (-21), 3) := by decide +kernel
theorem dX7_read_206 : decode cX7_read 206 = .ok (.iload_n 2, 1) := by decide +kernel
theorem dX7_read_207 : decode cX7_read 207 = .ok (.ifCond .eq 18, 3) := by decide +kernel
theorem dX7_read_210 : decode cX7_read 210 = .ok (.aload_n 0, 1) := by decide +kernel
theorem dX7_read_211 : decode cX7_read 211 = .ok (.getfield 187, 3) := by decide +kernel
theorem dX7_read_214 : decode cX7_read 214 = .ok (.aload_n 0, 1) := by decide +kernel
theorem dX7_read_215 : decode cX7_read 215 = .ok (.getfield 39, 3) := by decide +kernel
theorem dX7_read_218 : decode cX7_read 218 = .ok (.if_icmp .ne 7, 3) := by decide +kernel
theorem dX7_read_221 : decode cX7_read 221 = .ok (.iconst 1, 1) := by decide +kernel
theorem dX7_read_222 : decode cX7_read 222 = .ok (.goto 4, 3) := by decide +kernel
theorem dX7_read_225 : decode cX7_read 225 = .ok (.iconst 0, 1) := by decide +kernel
theorem dX7_read_226 : decode cX7_read 226 = .ok (.istore_n 2, 1) := by decide +kernel
theorem dX7_read_227 : decode cX7_read 227 = .ok (.iload_n 2, 1) := by decide +kernel
theorem dX7_read_228 : decode cX7_read 228 = .ok (.ifCond .eq 15, 3) := by decide +kernel
theorem dX7_read_231 : decode cX7_read 231 = .ok (.aload_n 0, 1) := by decide +kernel
theorem dX7_read_232 : decode cX7_read 232 = .ok (.invokevirtual 89, 3) := by decide +kernel
theorem dX7_read_235 : decode cX7_read 235 = .ok (.bipush (-3), 2) := by decide +kernel
theorem dX7_read_237 : decode cX7_read 237 = .ok (.if_icmp .ne 6, 3) := by decide +kernel
theorem dX7_read_240 : decode cX7_read 240 = .ok (.bipush (-3), 2) := by decide +kernel
theorem dX7_read_242 : decode cX7_read 242 = .ok (.ireturn, 1) := by decide +kernel
theorem dX7_read_243 : decode cX7_read 243 = .ok (.aload_n 0, 1) := by decide +kernel
theorem dX7_read_244 : decode cX7_read 244 = .ok (.iconst 0, 1) := by decide +kernel
theorem dX7_read_245 : decode cX7_read 245 = .ok (.putfield 39, 3) := by decide +kernel
theorem dX7_read_248 : decode cX7_read 248 = .ok (.iload_n 2, 1) := by decide +kernel
theorem dX7_read_249 : decode cX7_read 249 = .ok (.ifCond .ne 11, 3) := by decide +kernel
theorem dX7_read_252 : decode cX7_read 252 = .ok (.bipush (-10), 2) := by decide +kernel
theorem dX7_read_254 : decode cX7_read 254 = .ok (.aload_n 0, 1) := by decide +kernel
theorem dX7_read_255 : decode cX7_read 255 = .ok (.getfield 187, 3) := by decide +kernel
theorem dX7_read_258 : decode cX7_read 258 = .ok (.isub, 1) := by decide +kernel
theorem dX7_read_259 : decode cX7_read 259 = .ok (.ireturn, 1) := by decide +kernel
theorem dX7_read_260 : decode cX7_read 260 = .ok (.aload_n 0, 1) := by decide +kernel
theorem dX7_read_261 : decode cX7_read 261 = .ok (.getfield 33, 3) := by decide +kernel
theorem dX7_read_264 : decode cX7_read 264 = .ok (.iconst 1, 1) := by decide +kernel
theorem dX7_read_265 : decode cX7_read 265 = .ok (.iaload, 1) := by decide +kernel
theorem dX7_read_266 : decode cX7_read 266 = .ok (.ifCond .ne 10, 3) := by decide +kernel
theorem dX7_read_269 : decode cX7_read 269 = .ok (.aload_n 0, 1) := by decide +kernel
theorem dX7_read_270 : decode cX7_read 270 = .ok (.iconst 1, 1) := by decide +kernel
theorem dX7_read_271 : decode cX7_read 271 = .ok (.putfield 43, 3) := by decide +kernel
theorem dX7_read_274 : decode cX7_read 274 = .ok (.iconst 0, 1) := by decide +kernel
theorem dX7_read_275 : decode cX7_read 275 = .ok (.ireturn, 1) := by decide +kernel
theorem dX7_read_276 : decode cX7_read 276 = .ok (.aload_n 0, 1) := by decide +kernel
theorem dX7_read_277 : decode cX7_read 277 = .ok (.iload_n 1, 1) := by decide +kernel
theorem dX7_read_278 : decode cX7_read 278 = .ok (.ifCond .eq 7, 3) := by decide +kernel
theorem dX7_read_281 : decode cX7_read 281 = .ok (.iconst (-1), 1) := by decide +kernel
theorem dX7_read_282 : decode cX7_read 282 = .ok (.goto 4, 3) := by decide +kernel
theorem dX7_read_285 : decode cX7_read 285 = .ok (.iconst 1, 1) := by decide +kernel
theorem dX7_read_286 : decode cX7_read 286 = .ok (.invokevirtual 119, 3) := by decide +kernel
theorem dX7_read_289 : decode cX7_read 289 = .ok (.ireturn, 1) := by decide +kernel
theorem dX7_write_0 : decode cX7_write 0 = .ok (.iconst 0, 1) := by decide +kernel
theorem dX7_write_1 : decode cX7_write 1 = .ok (.istore_n 2, 1) := by decide +kernel
theorem dX7_write_2 : decode cX7_write 2 = .ok (.aload_n 0, 1) := by decide +kernel
theorem dX7_write_3 : decode cX7_write 3 = .ok (.getfield 36, 3) := by decide +kernel
theorem dX7_write_6 : decode cX7_write 6 = .ok (.iload_n 2, 1) := by decide +kernel
theorem dX7_write_7 : decode cX7_write 7 = .ok (.bipush 48, 2) := by decide +kernel
theorem dX7_write_9 : decode cX7_write 9 = .ok (.aload_n 0, 1) := by decide +kernel
theorem dX7_write_10 : decode cX7_write 10 = .ok (.iload_n 1, 1) := by decide +kernel
theorem dX7_write_11 : decode cX7_write 11 = .ok (.ldc2_w 196, 3) := by decide +kernel
theorem dX7_write_14 : decode cX7_write 14 = .ok (.invokevirtual 204, 3) := by decide +kernel
theorem dX7_write_17 : decode cX7_write 17 = .ok (.l2i, 1) := by decide +kernel
theorem dX7_write_18 : decode cX7_write 18 = .ok (.iadd, 1) := by decide +kernel
theorem dX7_write_19 : decode cX7_write 19 = .ok (.iastore, 1) := by decide +kernel
theorem dX7_write_20 : decode cX7_write 20 = .ok (.iinc 2 1, 3) := by decide +kernel
theorem dX7_write_23 : decode cX7_write 23 = .ok (.aload_n 0, 1) := by decide +kernel
theorem dX7_write_24 : decode cX7_write 24 = .ok (.getfield 33, 3) := by decide +kernel
theorem dX7_write_27 : decode cX7_write 27 = .ok (.iload_n 1, 1) := by decide +kernel
theorem dX7_write_28 : decode cX7_write 28 = .ok (.iaload, 1) := by decide +kernel
theorem dX7_write_29 : decode cX7_write 29 = .ok (.ifCond .gt (-27), 3) := by decide +kernel
theorem dX7_write_32 : decode cX7_write 32 = .ok (.iload_n 2, 1) := by decide +kernel
theorem dX7_write_33 : decode cX7_write 33 = .ok (.iconst 1, 1) := by decide +kernel
theorem dX7_write_34 : decode cX7_write 34 = .ok (.isub, 1) := by decide +kernel
theorem dX7_write_35 : decode cX7_write 35 = .ok (.istore_n 3, 1) := by decide +kernel
theorem dX7_write_36 : decode cX7_write 36 = .ok (.iload_n 3, 1) := by decide +kernel
theorem dX7_write_37 : decode cX7_write 37 = .ok (.ifCond .lt 19, 3) := by decide +kernel
theorem dX7_write_40 : decode cX7_write 40 = .ok (.aload_n 0, 1) := by decide +kernel
theorem dX7_write_41 : decode cX7_write 41 = .ok (.aload_n 0, 1) := by decide +kernel
theorem dX7_write_42 : decode cX7_write 42 = .ok (.getfield 36, 3) := by decide +kernel
theorem dX7_write_45 : decode cX7_write 45 = .ok (.iload_n 3, 1) := by decide +kernel
theorem dX7_write_46 : decode cX7_write 46 = .ok (.iaload, 1) := by decide +kernel
theorem dX7_write_47 : decode cX7_write 47 = .ok (.invokevirtual 208, 3) := by decide +kernel
theorem dX7_write_50 : decode cX7_write 50 = .ok (.iinc 3 (-1), 3) := by decide +kernel
theorem dX7_write_53 : decode cX7_write 53 = .ok (.goto (-17), 3) := by decide +kernel
theorem dX7_write_56 : decode cX7_write 56 = .ok (.return_, 1) := by decide +kernel
theorem dX7_say_0 : decode cX7_say 0 = .ok (.aload_n 0, 1) := by decide +kernel
theorem dX7_say_1 : decode cX7_say 1 = .ok (.getfield 27, 3) := by decide +kernel
theorem dX7_say_4 : decode cX7_say 4 = .ok (.aload_n 0, 1) := by decide +kernel
theorem dX7_say_5 : decode cX7_say 5 = .ok (.getfield 211, 3) := by decide +kernel
theorem dX7_say_8 : decode cX7_say 8 = .ok (.iload_n 1, 1) := by decide +kernel
theorem dX7_say_9 : decode cX7_say 9 = .ok (.iastore, 1) := by decide +kernel
theorem dX7_say_10 : decode cX7_say 10 = .ok (.aload_n 0, 1) := by decide +kernel
theorem dX7_say_11 : decode cX7_say 11 = .ok (.dup, 1) := by decide +kernel
theorem dX7_say_12 : decode cX7_say 12 = .ok (.getfield 211, 3) := by decide +kernel
theorem dX7_say_15 : decode cX7_say 15 = .ok (.iconst 1, 1) := by decide +kernel
theorem dX7_say_16 : decode cX7_say 16 = .ok (.iadd, 1) := by decide +kernel
theorem dX7_say_17 : decode cX7_say 17 = .ok (.putfield 211, 3) := by decide +kernel
theorem dX7_say_20 : decode cX7_say 20 = .ok (.return_, 1) := by decide +kernel
theorem dX7_text_0 : decode cX7_text 0 = .ok (.aload_n 0, 1) := by decide +kernel
theorem dX7_text_1 : decode cX7_text 1 = .ok (.iconst 0, 1) := by decide +kernel
theorem dX7_text_2 : decode cX7_text 2 = .ok (.putfield 43, 3) := by decide +kernel
theorem dX7_text_5 : decode cX7_text 5 = .ok (.aload_n 0, 1) := by decide +kernel
theorem dX7_text_6 : decode cX7_text 6 = .ok (.iload_n 1, 1) := by decide +kernel
theorem dX7_text_7 : decode cX7_text 7 = .ok (.invokevirtual 109, 3) := by decide +kernel
theorem dX7_text_10 : decode cX7_text 10 = .ok (.ifCond .ne 5, 3) := by decide +kernel
theorem dX7_text_13 : decode cX7_text 13 = .ok (.iconst (-1), 1) := by decide +kernel
theorem dX7_text_14 : decode cX7_text 14 = .ok (.ireturn, 1) := by decide +kernel
theorem dX7_text_15 : decode cX7_text 15 = .ok (.aload_n 0, 1) := by decide +kernel
theorem dX7_text_16 : decode cX7_text 16 = .ok (.iconst 0, 1) := by decide +kernel
theorem dX7_text_17 : decode cX7_text 17 = .ok (.putfield 211, 3) := by decide +kernel
theorem dX7_text_20 : decode cX7_text 20 = .ok (.aload_n 0, 1) := by decide +kernel
theorem dX7_text_21 : decode cX7_text 21 = .ok (.getfield 13, 3) := by decide +kernel
theorem dX7_text_24 : decode cX7_text 24 = .ok (.iload_n 1, 1) := by decide +kernel
theorem dX7_text_25 : decode cX7_text 25 = .ok (.iaload, 1) := by decide +kernel
theorem dX7_text_26 : decode cX7_text 26 = .ok (.ifCond .ge 9, 3) := by decide +kernel
theorem dX7_text_29 : decode cX7_text 29 = .ok (.aload_n 0, 1) := by decide +kernel
theorem dX7_text_30 : decode cX7_text 30 = .ok (.bipush 45, 2) := by decide +kernel
theorem dX7_text_32 : decode cX7_text 32 = .ok (.invokevirtual 208, 3) := by decide +kernel
theorem dX7_text_35 : decode cX7_text 35 = .ok (.aload_n 0, 1) := by decide +kernel
theorem dX7_text_36 : decode cX7_text 36 = .ok (.iconst 2, 1) := by decide +kernel
theorem dX7_text_37 : decode cX7_text 37 = .ok (.iload_n 1, 1) := by decide +kernel
theorem dX7_text_38 : decode cX7_text 38 = .ok (.iconst 0, 1) := by decide +kernel
theorem dX7_text_39 : decode cX7_text 39 = .ok (.invokevirtual 112, 3) := by decide +kernel
theorem dX7_text_42 : decode cX7_text 42 = .ok (.aload_n 0, 1) := by decide +kernel
theorem dX7_text_43 : decode cX7_text 43 = .ok (.iconst 2, 1) := by decide +kernel
theorem dX7_text_44 : decode cX7_text 44 = .ok (.invokevirtual 214, 3) := by decide +kernel
theorem dX7_text_47 : decode cX7_text 47 = .ok (.aload_n 0, 1) := by decide +kernel
theorem dX7_text_48 : decode cX7_text 48 = .ok (.iload_n 1, 1) := by decide +kernel
theorem dX7_text_49 : decode cX7_text 49 = .ok (.invokevirtual 138, 3) := by decide +kernel
theorem dX7_text_52 : decode cX7_text 52 = .ok (.ifCond .ne 21, 3) := by decide +kernel
theorem dX7_text_55 : decode cX7_text 55 = .ok (.aload_n 0, 1) := by decide +kernel
theorem dX7_text_56 : decode cX7_text 56 = .ok (.bipush 47, 2) := by decide +kernel
theorem dX7_text_58 : decode cX7_text 58 = .ok (.invokevirtual 208, 3) := by decide +kernel
theorem dX7_text_61 : decode cX7_text 61 = .ok (.aload_n 0, 1) := by decide +kernel
theorem dX7_text_62 : decode cX7_text 62 = .ok (.iconst 2, 1) := by decide +kernel
theorem dX7_text_63 : decode cX7_text 63 = .ok (.iload_n 1, 1) := by decide +kernel
theorem dX7_text_64 : decode cX7_text 64 = .ok (.iconst 1, 1) := by decide +kernel
theorem dX7_text_65 : decode cX7_text 65 = .ok (.invokevirtual 112, 3) := by decide +kernel
theorem dX7_text_68 : decode cX7_text 68 = .ok (.aload_n 0, 1) := by decide +kernel
theorem dX7_text_69 : decode cX7_text 69 = .ok (.iconst 2, 1) := by decide +kernel
theorem dX7_text_70 : decode cX7_text 70 = .ok (.invokevirtual 214, 3) := by decide +kernel
theorem dX7_text_73 : decode cX7_text 73 = .ok (.aload_n 0, 1) := by decide +kernel
theorem dX7_text_74 : decode cX7_text 74 = .ok (.getfield 211, 3) := by decide +kernel
theorem dX7_text_77 : decode cX7_text 77 = .ok (.ireturn, 1) := by decide +kernel
theorem dX7_figures_0 : decode cX7_figures 0 = .ok (.aload_n 0, 1) := by decide +kernel
theorem dX7_figures_1 : decode cX7_figures 1 = .ok (.iconst 0, 1) := by decide +kernel
theorem dX7_figures_2 : decode cX7_figures 2 = .ok (.putfield 43, 3) := by decide +kernel
theorem dX7_figures_5 : decode cX7_figures 5 = .ok (.aload_n 0, 1) := by decide +kernel
theorem dX7_figures_6 : decode cX7_figures 6 = .ok (.iload_n 1, 1) := by decide +kernel
theorem dX7_figures_7 : decode cX7_figures 7 = .ok (.invokevirtual 109, 3) := by decide +kernel
theorem dX7_figures_10 : decode cX7_figures 10 = .ok (.ifCond .eq 15, 3) := by decide +kernel
theorem dX7_figures_13 : decode cX7_figures 13 = .ok (.iload_n 2, 1) := by decide +kernel
theorem dX7_figures_14 : decode cX7_figures 14 = .ok (.i2l, 1) := by decide +kernel
theorem dX7_figures_15 : decode cX7_figures 15 = .ok (.lconst 0, 1) := by decide +kernel
theorem dX7_figures_16 : decode cX7_figures 16 = .ok (.ldc2_w 217, 3) := by decide +kernel
theorem dX7_figures_19 : decode cX7_figures 19 = .ok (.invokestatic 81, 3) := by decide +kernel
theorem dX7_figures_22 : decode cX7_figures 22 = .ok (.ifCond .ne 5, 3) := by decide +kernel
theorem dX7_figures_25 : decode cX7_figures 25 = .ok (.iconst (-1), 1) := by decide +kernel
theorem dX7_figures_26 : decode cX7_figures 26 = .ok (.ireturn, 1) := by decide +kernel
theorem dX7_figures_27 : decode cX7_figures 27 = .ok (.aload_n 0, 1) := by decide +kernel
theorem dX7_figures_28 : decode cX7_figures 28 = .ok (.iconst 0, 1) := by decide +kernel
theorem dX7_figures_29 : decode cX7_figures 29 = .ok (.putfield 211, 3) := by decide +kernel
theorem dX7_figures_32 : decode cX7_figures 32 = .ok (.aload_n 0, 1) := by decide +kernel
theorem dX7_figures_33 : decode cX7_figures 33 = .ok (.getfield 13, 3) := by decide +kernel
theorem dX7_figures_36 : decode cX7_figures 36 = .ok (.iload_n 1, 1) := by decide +kernel
theorem dX7_figures_37 : decode cX7_figures 37 = .ok (.iaload, 1) := by decide +kernel
theorem dX7_figures_38 : decode cX7_figures 38 = .ok (.ifCond .ge 9, 3) := by decide +kernel
theorem dX7_figures_41 : decode cX7_figures 41 = .ok (.aload_n 0, 1) := by decide +kernel
theorem dX7_figures_42 : decode cX7_figures 42 = .ok (.bipush 45, 2) := by decide +kernel
theorem dX7_figures_44 : decode cX7_figures 44 = .ok (.invokevirtual 208, 3) := by decide +kernel
theorem dX7_figures_47 : decode cX7_figures 47 = .ok (.aload_n 0, 1) := by decide +kernel
theorem dX7_figures_48 : decode cX7_figures 48 = .ok (.iconst 2, 1) := by decide +kernel
theorem dX7_figures_49 : decode cX7_figures 49 = .ok (.iload_n 1, 1) := by decide +kernel
theorem dX7_figures_50 : decode cX7_figures 50 = .ok (.iconst 0, 1) := by decide +kernel
theorem dX7_figures_51 : decode cX7_figures 51 = .ok (.invokevirtual 112, 3) := by decide +kernel
theorem dX7_figures_54 : decode cX7_figures 54 = .ok (.aload_n 0, 1) := by decide +kernel
theorem dX7_figures_55 : decode cX7_figures 55 = .ok (.iconst 3, 1) := by decide +kernel
theorem dX7_figures_56 : decode cX7_figures 56 = .ok (.iload_n 1, 1) := by decide +kernel
theorem dX7_figures_57 : decode cX7_figures 57 = .ok (.iconst 1, 1) := by decide +kernel
theorem dX7_figures_58 : decode cX7_figures 58 = .ok (.invokevirtual 112, 3) := by decide +kernel
theorem dX7_figures_61 : decode cX7_figures 61 = .ok (.aload_n 0, 1) := by decide +kernel
theorem dX7_figures_62 : decode cX7_figures 62 = .ok (.iconst 4, 1) := by decide +kernel
theorem dX7_figures_63 : decode cX7_figures 63 = .ok (.iconst 5, 1) := by decide +kernel
theorem dX7_figures_64 : decode cX7_figures 64 = .ok (.iconst 2, 1) := by decide +kernel
theorem dX7_figures_65 : decode cX7_figures 65 = .ok (.iconst 3, 1) := by decide +kernel
theorem dX7_figures_66 : decode cX7_figures 66 = .ok (.invokevirtual 96, 3) := by decide +kernel
theorem dX7_figures_69 : decode cX7_figures 69 = .ok (.aload_n 0, 1) := by decide +kernel
theorem dX7_figures_70 : decode cX7_figures 70 = .ok (.iconst 4, 1) := by decide +kernel
theorem dX7_figures_71 : decode cX7_figures 71 = .ok (.invokevirtual 214, 3) := by decide +kernel
theorem dX7_figures_74 : decode cX7_figures 74 = .ok (.iload_n 2, 1) := by decide +kernel
theorem dX7_figures_75 : decode cX7_figures 75 = .ok (.ifCond .le 9, 3) := by decide +kernel
theorem dX7_figures_78 : decode cX7_figures 78 = .ok (.aload_n 0, 1) := by decide +kernel
theorem dX7_figures_79 : decode cX7_figures 79 = .ok (.bipush 46, 2) := by decide +kernel
theorem dX7_figures_81 : decode cX7_figures 81 = .ok (.invokevirtual 208, 3) := by decide +kernel
theorem dX7_figures_84 : decode cX7_figures 84 = .ok (.iconst 0, 1) := by decide +kernel
theorem dX7_figures_85 : decode cX7_figures 85 = .ok (.istore_n 3, 1) := by decide +kernel
theorem dX7_figures_86 : decode cX7_figures 86 = .ok (.iload_n 3, 1) := by decide +kernel
theorem dX7_figures_87 : decode cX7_figures 87 = .ok (.iload_n 2, 1) := by decide +kernel
theorem dX7_figures_88 : decode cX7_figures 88 = .ok (.if_icmp .ge 47, 3) := by decide +kernel
theorem dX7_figures_91 : decode cX7_figures 91 = .ok (.aload_n 0, 1) := by decide +kernel
theorem dX7_figures_92 : decode cX7_figures 92 = .ok (.iconst 5, 1) := by decide +kernel
theorem dX7_figures_93 : decode cX7_figures 93 = .ok (.ldc2_w 196, 3) := by decide +kernel
theorem dX7_figures_96 : decode cX7_figures 96 = .ok (.lconst 0, 1) := by decide +kernel
theorem dX7_figures_97 : decode cX7_figures 97 = .ok (.invokevirtual 198, 3) := by decide +kernel
theorem dX7_figures_100 : decode cX7_figures 100 = .ok (.aload_n 0, 1) := by decide +kernel
theorem dX7_figures_101 : decode cX7_figures 101 = .ok (.iconst 4, 1) := by decide +kernel
theorem dX7_figures_102 : decode cX7_figures 102 = .ok (.bipush 6, 2) := by decide +kernel
theorem dX7_figures_104 : decode cX7_figures 104 = .ok (.iconst 5, 1) := by decide +kernel
theorem dX7_figures_105 : decode cX7_figures 105 = .ok (.iconst 3, 1) := by decide +kernel
theorem dX7_figures_106 : decode cX7_figures 106 = .ok (.invokevirtual 96, 3) := by decide +kernel
theorem dX7_figures_109 : decode cX7_figures 109 = .ok (.aload_n 0, 1) := by decide +kernel
theorem dX7_figures_110 : decode cX7_figures 110 = .ok (.bipush 48, 2) := by decide +kernel
theorem dX7_figures_112 : decode cX7_figures 112 = .ok (.aload_n 0, 1) := by decide +kernel
theorem dX7_figures_113 : decode cX7_figures 113 = .ok (.iconst 4, 1) := by decide +kernel
theorem dX7_figures_114 : decode cX7_figures 114 = .ok (.invokevirtual 153, 3) := by decide +kernel
theorem dX7_figures_117 : decode cX7_figures 117 = .ok (.l2i, 1) := by decide +kernel
theorem dX7_figures_118 : decode cX7_figures 118 = .ok (.iadd, 1) := by decide +kernel
theorem dX7_figures_119 : decode cX7_figures 119 = .ok (.invokevirtual 208, 3) := by decide +kernel
theorem dX7_figures_122 : decode cX7_figures 122 = .ok (.aload_n 0, 1) := by decide +kernel
theorem dX7_figures_123 : decode cX7_figures 123 = .ok (.iconst 5, 1) := by decide +kernel
theorem dX7_figures_124 : decode cX7_figures 124 = .ok (.bipush 6, 2) := by decide +kernel
theorem dX7_figures_126 : decode cX7_figures 126 = .ok (.invokevirtual 66, 3) := by decide +kernel
theorem dX7_figures_129 : decode cX7_figures 129 = .ok (.iinc 3 1, 3) := by decide +kernel
theorem dX7_figures_132 : decode cX7_figures 132 = .ok (.goto (-46), 3) := by decide +kernel
theorem dX7_figures_135 : decode cX7_figures 135 = .ok (.aload_n 0, 1) := by decide +kernel
theorem dX7_figures_136 : decode cX7_figures 136 = .ok (.getfield 211, 3) := by decide +kernel
theorem dX7_figures_139 : decode cX7_figures 139 = .ok (.ireturn, 1) := by decide +kernel
theorem dX7_out_0 : decode cX7_out 0 = .ok (.aload_n 0, 1) := by decide +kernel
theorem dX7_out_1 : decode cX7_out 1 = .ok (.iconst 0, 1) := by decide +kernel
theorem dX7_out_2 : decode cX7_out 2 = .ok (.putfield 43, 3) := by decide +kernel
theorem dX7_out_5 : decode cX7_out 5 = .ok (.iload_n 1, 1) := by decide +kernel
theorem dX7_out_6 : decode cX7_out 6 = .ok (.i2l, 1) := by decide +kernel
theorem dX7_out_7 : decode cX7_out 7 = .ok (.lconst 0, 1) := by decide +kernel
theorem dX7_out_8 : decode cX7_out 8 = .ok (.aload_n 0, 1) := by decide +kernel
theorem dX7_out_9 : decode cX7_out 9 = .ok (.getfield 211, 3) := by decide +kernel
theorem dX7_out_12 : decode cX7_out 12 = .ok (.iconst 1, 1) := by decide +kernel
theorem dX7_out_13 : decode cX7_out 13 = .ok (.isub, 1) := by decide +kernel
theorem dX7_out_14 : decode cX7_out 14 = .ok (.i2l, 1) := by decide +kernel
theorem dX7_out_15 : decode cX7_out 15 = .ok (.invokestatic 81, 3) := by decide +kernel
theorem dX7_out_18 : decode cX7_out 18 = .ok (.ifCond .eq 12, 3) := by decide +kernel
theorem dX7_out_21 : decode cX7_out 21 = .ok (.aload_n 0, 1) := by decide +kernel
theorem dX7_out_22 : decode cX7_out 22 = .ok (.getfield 27, 3) := by decide +kernel
theorem dX7_out_25 : decode cX7_out 25 = .ok (.iload_n 1, 1) := by decide +kernel
theorem dX7_out_26 : decode cX7_out 26 = .ok (.iaload, 1) := by decide +kernel
theorem dX7_out_27 : decode cX7_out 27 = .ok (.goto 5, 3) := by decide +kernel
theorem dX7_out_30 : decode cX7_out 30 = .ok (.bipush (-5), 2) := by decide +kernel
theorem dX7_out_32 : decode cX7_out 32 = .ok (.ireturn, 1) := by decide +kernel
theorem dX7_period_0 : decode cX7_period 0 = .ok (.aload_n 0, 1) := by decide +kernel
theorem dX7_period_1 : decode cX7_period 1 = .ok (.iconst 0, 1) := by decide +kernel
theorem dX7_period_2 : decode cX7_period 2 = .ok (.putfield 43, 3) := by decide +kernel
theorem dX7_period_5 : decode cX7_period 5 = .ok (.aload_n 0, 1) := by decide +kernel
theorem dX7_period_6 : decode cX7_period 6 = .ok (.iload_n 1, 1) := by decide +kernel
theorem dX7_period_7 : decode cX7_period 7 = .ok (.invokevirtual 109, 3) := by decide +kernel
theorem dX7_period_10 : decode cX7_period 10 = .ok (.ifCond .eq 13, 3) := by decide +kernel
theorem dX7_period_13 : decode cX7_period 13 = .ok (.iload_n 2, 1) := by decide +kernel
theorem dX7_period_14 : decode cX7_period 14 = .ok (.i2l, 1) := by decide +kernel
theorem dX7_period_15 : decode cX7_period 15 = .ok (.lconst 0, 1) := by decide +kernel
theorem dX7_period_16 : decode cX7_period 16 = .ok (.lconst 1, 1) := by decide +kernel
theorem dX7_period_17 : decode cX7_period 17 = .ok (.invokestatic 81, 3) := by decide +kernel
theorem dX7_period_20 : decode cX7_period 20 = .ok (.ifCond .ne 5, 3) := by decide +kernel
theorem dX7_period_23 : decode cX7_period 23 = .ok (.iconst (-1), 1) := by decide +kernel
theorem dX7_period_24 : decode cX7_period 24 = .ok (.ireturn, 1) := by decide +kernel
theorem dX7_period_25 : decode cX7_period 25 = .ok (.aload_n 0, 1) := by decide +kernel
theorem dX7_period_26 : decode cX7_period 26 = .ok (.iconst 2, 1) := by decide +kernel
theorem dX7_period_27 : decode cX7_period 27 = .ok (.iload_n 1, 1) := by decide +kernel
theorem dX7_period_28 : decode cX7_period 28 = .ok (.iconst 1, 1) := by decide +kernel
theorem dX7_period_29 : decode cX7_period 29 = .ok (.invokevirtual 112, 3) := by decide +kernel
theorem dX7_period_32 : decode cX7_period 32 = .ok (.iconst 0, 1) := by decide +kernel
theorem dX7_period_33 : decode cX7_period 33 = .ok (.istore_n 3, 1) := by decide +kernel
theorem dX7_period_34 : decode cX7_period 34 = .ok (.aload_n 0, 1) := by decide +kernel
theorem dX7_period_35 : decode cX7_period 35 = .ok (.iconst 2, 1) := by decide +kernel
theorem dX7_period_36 : decode cX7_period 36 = .ok (.invokevirtual 69, 3) := by decide +kernel
theorem dX7_period_39 : decode cX7_period 39 = .ok (.ifCond .ne 14, 3) := by decide +kernel
theorem dX7_period_42 : decode cX7_period 42 = .ok (.aload_n 0, 1) := by decide +kernel
theorem dX7_period_43 : decode cX7_period 43 = .ok (.iconst 2, 1) := by decide +kernel
theorem dX7_period_44 : decode cX7_period 44 = .ok (.invokevirtual 73, 3) := by decide +kernel
theorem dX7_period_47 : decode cX7_period 47 = .ok (.iinc 3 1, 3) := by decide +kernel
theorem dX7_period_50 : decode cX7_period 50 = .ok (.goto (-16), 3) := by decide +kernel
theorem dX7_period_53 : decode cX7_period 53 = .ok (.iconst 0, 1) := by decide +kernel
theorem dX7_period_54 : decode cX7_period 54 = .ok (.istore 4, 2) := by decide +kernel
theorem dX7_period_56 : decode cX7_period 56 = .ok (.aload_n 0, 1) := by decide +kernel
theorem dX7_period_57 : decode cX7_period 57 = .ok (.iconst 3, 1) := by decide +kernel
theorem dX7_period_58 : decode cX7_period 58 = .ok (.iconst 2, 1) := by decide +kernel
theorem dX7_period_59 : decode cX7_period 59 = .ok (.invokevirtual 66, 3) := by decide +kernel
theorem dX7_period_62 : decode cX7_period 62 = .ok (.aload_n 0, 1) := by decide +kernel
theorem dX7_period_63 : decode cX7_period 63 = .ok (.iconst 3, 1) := by decide +kernel
theorem dX7_period_64 : decode cX7_period 64 = .ok (.ldc2_w 219, 3) := by decide +kernel
theorem dX7_period_67 : decode cX7_period 67 = .ok (.invokevirtual 204, 3) := by decide +kernel
theorem dX7_period_70 : decode cX7_period 70 = .ok (.lconst 0, 1) := by decide +kernel
theorem dX7_period_71 : decode cX7_period 71 = .ok (.lcmp, 1) := by decide +kernel
theorem dX7_period_72 : decode cX7_period 72 = .ok (.ifCond .ne 15, 3) := by decide +kernel
theorem dX7_period_75 : decode cX7_period 75 = .ok (.aload_n 0, 1) := by decide +kernel
theorem dX7_period_76 : decode cX7_period 76 = .ok (.iconst 2, 1) := by decide +kernel
theorem dX7_period_77 : decode cX7_period 77 = .ok (.iconst 3, 1) := by decide +kernel
theorem dX7_period_78 : decode cX7_period 78 = .ok (.invokevirtual 66, 3) := by decide +kernel
theorem dX7_period_81 : decode cX7_period 81 = .ok (.iinc 4 1, 3) := by decide +kernel
theorem dX7_period_84 : decode cX7_period 84 = .ok (.goto (-22), 3) := by decide +kernel
theorem dX7_period_87 : decode cX7_period 87 = .ok (.aload_n 0, 1) := by decide +kernel
theorem dX7_period_88 : decode cX7_period 88 = .ok (.getfield 33, 3) := by decide +kernel
theorem dX7_period_91 : decode cX7_period 91 = .ok (.iconst 2, 1) := by decide +kernel
theorem dX7_period_92 : decode cX7_period 92 = .ok (.iaload, 1) := by decide +kernel
theorem dX7_period_93 : decode cX7_period 93 = .ok (.iconst 1, 1) := by decide +kernel
theorem dX7_period_94 : decode cX7_period 94 = .ok (.if_icmp .gt 18, 3) := by decide +kernel
theorem dX7_period_97 : decode cX7_period 97 = .ok (.aload_n 0, 1) := by decide +kernel
theorem dX7_period_98 : decode cX7_period 98 = .ok (.getfield 30, 3) := by decide +kernel
theorem dX7_period_101 : decode cX7_period 101 = .ok (.sipush 144, 3) := by decide +kernel
theorem dX7_period_104 : decode cX7_period 104 = .ok (.laload, 1) := by decide +kernel
theorem dX7_period_105 : decode cX7_period 105 = .ok (.ldc2_w 221, 3) := by decide +kernel
theorem dX7_period_108 : decode cX7_period 108 = .ok (.lcmp, 1) := by decide +kernel
theorem dX7_period_109 : decode cX7_period 109 = .ok (.ifCond .le 6, 3) := by decide +kernel
theorem dX7_period_112 : decode cX7_period 112 = .ok (.bipush (-2), 2) := by decide +kernel
theorem dX7_period_114 : decode cX7_period 114 = .ok (.ireturn, 1) := by decide +kernel
theorem dX7_period_115 : decode cX7_period 115 = .ok (.iload_n 2, 1) := by decide +kernel
theorem dX7_period_116 : decode cX7_period 116 = .ok (.ifCond .ne 16, 3) := by decide +kernel
theorem dX7_period_119 : decode cX7_period 119 = .ok (.iload_n 3, 1) := by decide +kernel
theorem dX7_period_120 : decode cX7_period 120 = .ok (.iload 4, 2) := by decide +kernel
theorem dX7_period_122 : decode cX7_period 122 = .ok (.if_icmp .le 7, 3) := by decide +kernel
theorem dX7_period_125 : decode cX7_period 125 = .ok (.iload_n 3, 1) := by decide +kernel
theorem dX7_period_126 : decode cX7_period 126 = .ok (.goto 5, 3) := by decide +kernel
theorem dX7_period_129 : decode cX7_period 129 = .ok (.iload 4, 2) := by decide +kernel
theorem dX7_period_131 : decode cX7_period 131 = .ok (.ireturn, 1) := by decide +kernel
theorem dX7_period_132 : decode cX7_period 132 = .ok (.aload_n 0, 1) := by decide +kernel
theorem dX7_period_133 : decode cX7_period 133 = .ok (.getfield 30, 3) := by decide +kernel
theorem dX7_period_136 : decode cX7_period 136 = .ok (.sipush 144, 3) := by decide +kernel
theorem dX7_period_139 : decode cX7_period 139 = .ok (.laload, 1) := by decide +kernel
theorem dX7_period_140 : decode cX7_period 140 = .ok (.lstore 5, 2) := by decide +kernel
theorem dX7_period_142 : decode cX7_period 142 = .ok (.lload 5, 2) := by decide +kernel
theorem dX7_period_144 : decode cX7_period 144 = .ok (.lconst 1, 1) := by decide +kernel
theorem dX7_period_145 : decode cX7_period 145 = .ok (.lcmp, 1) := by decide +kernel
theorem dX7_period_146 : decode cX7_period 146 = .ok (.ifCond .ne 5, 3) := by decide +kernel
theorem dX7_period_149 : decode cX7_period 149 = .ok (.iconst 0, 1) := by decide +kernel
theorem dX7_period_150 : decode cX7_period 150 = .ok (.ireturn, 1) := by decide +kernel
theorem dX7_period_151 : decode cX7_period 151 = .ok (.iconst 1, 1) := by decide +kernel
theorem dX7_period_152 : decode cX7_period 152 = .ok (.istore 7, 2) := by decide +kernel
theorem dX7_period_154 : decode cX7_period 154 = .ok (.ldc2_w 196, 3) := by decide +kernel
theorem dX7_period_157 : decode cX7_period 157 = .ok (.lload 5, 2) := by decide +kernel
theorem dX7_period_159 : decode cX7_period 159 = .ok (.lrem, 1) := by decide +kernel
theorem dX7_period_160 : decode cX7_period 160 = .ok (.lstore 8, 2) := by decide +kernel
theorem dX7_period_162 : decode cX7_period 162 = .ok (.lload 8, 2) := by decide +kernel
theorem dX7_period_164 : decode cX7_period 164 = .ok (.lconst 1, 1) := by decide +kernel
theorem dX7_period_165 : decode cX7_period 165 = .ok (.lcmp, 1) := by decide +kernel
theorem dX7_period_166 : decode cX7_period 166 = .ok (.ifCond .eq 20, 3) := by decide +kernel
theorem dX7_period_169 : decode cX7_period 169 = .ok (.iinc 7 1, 3) := by decide +kernel
theorem dX7_period_172 : decode cX7_period 172 = .ok (.lload 8, 2) := by decide +kernel
theorem dX7_period_174 : decode cX7_period 174 = .ok (.ldc2_w 196, 3) := by decide +kernel
theorem dX7_period_177 : decode cX7_period 177 = .ok (.lmul, 1) := by decide +kernel
theorem dX7_period_178 : decode cX7_period 178 = .ok (.lload 5, 2) := by decide +kernel
theorem dX7_period_180 : decode cX7_period 180 = .ok (.lrem, 1) := by decide +kernel
theorem dX7_period_181 : decode cX7_period 181 = .ok (.lstore 8, 2) := by decide +kernel
theorem dX7_period_183 : decode cX7_period 183 = .ok (.goto (-21), 3) := by decide +kernel
theorem dX7_period_186 : decode cX7_period 186 = .ok (.iload 7, 2) := by decide +kernel
theorem dX7_period_188 : decode cX7_period 188 = .ok (.ireturn, 1) := by decide +kernel
theorem dJx00060_init_a7421_0 : decode cJx00060_init_a7421 0 = .ok (.aload_n 0, 1) := by decide +kernel
theorem dJx00060_init_a7421_1 : decode cJx00060_init_a7421 1 = .ok (.aload_n 1, 1) := by decide +kernel
theorem dJx00060_init_a7421_2 : decode cJx00060_init_a7421 2 = .ok (.invokespecial 7, 3) := by decide +kernel
theorem dJx00060_init_a7421_5 : decode cJx00060_init_a7421 5 = .ok (.return_, 1) := by decide +kernel
theorem dJ6_numberOfLeadingZeros_0f7a4_0 : decode cJ6_numberOfLeadingZeros_0f7a4 0 = .ok (.iload_n 0, 1) := by decide +kernel
theorem dJ6_numberOfLeadingZeros_0f7a4_1 : decode cJ6_numberOfLeadingZeros_0f7a4 1 = .ok (.ifCond .gt 14, 3) := by decide +kernel
theorem dJ6_numberOfLeadingZeros_0f7a4_4 : decode cJ6_numberOfLeadingZeros_0f7a4 4 = .ok (.iload_n 0, 1) := by decide +kernel
theorem dJ6_numberOfLeadingZeros_0f7a4_5 : decode cJ6_numberOfLeadingZeros_0f7a4 5 = .ok (.ifCond .ne 8, 3) := by decide +kernel
theorem dJ6_numberOfLeadingZeros_0f7a4_8 : decode cJ6_numberOfLeadingZeros_0f7a4 8 = .ok (.bipush 32, 2) := by decide +kernel
theorem dJ6_numberOfLeadingZeros_0f7a4_10 : decode cJ6_numberOfLeadingZeros_0f7a4 10 = .ok (.goto 4, 3) := by decide +kernel
theorem dJ6_numberOfLeadingZeros_0f7a4_13 : decode cJ6_numberOfLeadingZeros_0f7a4 13 = .ok (.iconst 0, 1) := by decide +kernel
theorem dJ6_numberOfLeadingZeros_0f7a4_14 : decode cJ6_numberOfLeadingZeros_0f7a4 14 = .ok (.ireturn, 1) := by decide +kernel
theorem dJ6_numberOfLeadingZeros_0f7a4_15 : decode cJ6_numberOfLeadingZeros_0f7a4 15 = .ok (.bipush 31, 2) := by decide +kernel
theorem dJ6_numberOfLeadingZeros_0f7a4_17 : decode cJ6_numberOfLeadingZeros_0f7a4 17 = .ok (.istore_n 1, 1) := by decide +kernel
theorem dJ6_numberOfLeadingZeros_0f7a4_18 : decode cJ6_numberOfLeadingZeros_0f7a4 18 = .ok (.iload_n 0, 1) := by decide +kernel
theorem dJ6_numberOfLeadingZeros_0f7a4_19 : decode cJ6_numberOfLeadingZeros_0f7a4 19 = .ok (.ldc_w 264, 3) := by decide +kernel
theorem dJ6_numberOfLeadingZeros_0f7a4_22 : decode cJ6_numberOfLeadingZeros_0f7a4 22 = .ok (.if_icmp .lt 11, 3) := by decide +kernel
theorem dJ6_numberOfLeadingZeros_0f7a4_25 : decode cJ6_numberOfLeadingZeros_0f7a4 25 = .ok (.iinc 1 (-16), 3) := by decide +kernel
theorem dJ6_numberOfLeadingZeros_0f7a4_28 : decode cJ6_numberOfLeadingZeros_0f7a4 28 = .ok (.iload_n 0, 1) := by decide +kernel
theorem dJ6_numberOfLeadingZeros_0f7a4_29 : decode cJ6_numberOfLeadingZeros_0f7a4 29 = .ok (.bipush 16, 2) := by decide +kernel
theorem dJ6_numberOfLeadingZeros_0f7a4_31 : decode cJ6_numberOfLeadingZeros_0f7a4 31 = .ok (.iushr, 1) := by decide +kernel
theorem dJ6_numberOfLeadingZeros_0f7a4_32 : decode cJ6_numberOfLeadingZeros_0f7a4 32 = .ok (.istore_n 0, 1) := by decide +kernel
theorem dJ6_numberOfLeadingZeros_0f7a4_33 : decode cJ6_numberOfLeadingZeros_0f7a4 33 = .ok (.iload_n 0, 1) := by decide +kernel
theorem dJ6_numberOfLeadingZeros_0f7a4_34 : decode cJ6_numberOfLeadingZeros_0f7a4 34 = .ok (.sipush 256, 3) := by decide +kernel
theorem dJ6_numberOfLeadingZeros_0f7a4_37 : decode cJ6_numberOfLeadingZeros_0f7a4 37 = .ok (.if_icmp .lt 11, 3) := by decide +kernel
theorem dJ6_numberOfLeadingZeros_0f7a4_40 : decode cJ6_numberOfLeadingZeros_0f7a4 40 = .ok (.iinc 1 (-8), 3) := by decide +kernel
theorem dJ6_numberOfLeadingZeros_0f7a4_43 : decode cJ6_numberOfLeadingZeros_0f7a4 43 = .ok (.iload_n 0, 1) := by decide +kernel
theorem dJ6_numberOfLeadingZeros_0f7a4_44 : decode cJ6_numberOfLeadingZeros_0f7a4 44 = .ok (.bipush 8, 2) := by decide +kernel
theorem dJ6_numberOfLeadingZeros_0f7a4_46 : decode cJ6_numberOfLeadingZeros_0f7a4 46 = .ok (.iushr, 1) := by decide +kernel
theorem dJ6_numberOfLeadingZeros_0f7a4_47 : decode cJ6_numberOfLeadingZeros_0f7a4 47 = .ok (.istore_n 0, 1) := by decide +kernel
theorem dJ6_numberOfLeadingZeros_0f7a4_48 : decode cJ6_numberOfLeadingZeros_0f7a4 48 = .ok (.iload_n 0, 1) := by decide +kernel
theorem dJ6_numberOfLeadingZeros_0f7a4_49 : decode cJ6_numberOfLeadingZeros_0f7a4 49 = .ok (.bipush 16, 2) := by decide +kernel
theorem dJ6_numberOfLeadingZeros_0f7a4_51 : decode cJ6_numberOfLeadingZeros_0f7a4 51 = .ok (.if_icmp .lt 10, 3) := by decide +kernel
theorem dJ6_numberOfLeadingZeros_0f7a4_54 : decode cJ6_numberOfLeadingZeros_0f7a4 54 = .ok (.iinc 1 (-4), 3) := by decide +kernel
theorem dJ6_numberOfLeadingZeros_0f7a4_57 : decode cJ6_numberOfLeadingZeros_0f7a4 57 = .ok (.iload_n 0, 1) := by decide +kernel
theorem dJ6_numberOfLeadingZeros_0f7a4_58 : decode cJ6_numberOfLeadingZeros_0f7a4 58 = .ok (.iconst 4, 1) := by decide +kernel
theorem dJ6_numberOfLeadingZeros_0f7a4_59 : decode cJ6_numberOfLeadingZeros_0f7a4 59 = .ok (.iushr, 1) := by decide +kernel
theorem dJ6_numberOfLeadingZeros_0f7a4_60 : decode cJ6_numberOfLeadingZeros_0f7a4 60 = .ok (.istore_n 0, 1) := by decide +kernel
theorem dJ6_numberOfLeadingZeros_0f7a4_61 : decode cJ6_numberOfLeadingZeros_0f7a4 61 = .ok (.iload_n 0, 1) := by decide +kernel
theorem dJ6_numberOfLeadingZeros_0f7a4_62 : decode cJ6_numberOfLeadingZeros_0f7a4 62 = .ok (.iconst 4, 1) := by decide +kernel
theorem dJ6_numberOfLeadingZeros_0f7a4_63 : decode cJ6_numberOfLeadingZeros_0f7a4 63 = .ok (.if_icmp .lt 10, 3) := by decide +kernel
theorem dJ6_numberOfLeadingZeros_0f7a4_66 : decode cJ6_numberOfLeadingZeros_0f7a4 66 = .ok (.iinc 1 (-2), 3) := by decide +kernel
theorem dJ6_numberOfLeadingZeros_0f7a4_69 : decode cJ6_numberOfLeadingZeros_0f7a4 69 = .ok (.iload_n 0, 1) := by decide +kernel
theorem dJ6_numberOfLeadingZeros_0f7a4_70 : decode cJ6_numberOfLeadingZeros_0f7a4 70 = .ok (.iconst 2, 1) := by decide +kernel
theorem dJ6_numberOfLeadingZeros_0f7a4_71 : decode cJ6_numberOfLeadingZeros_0f7a4 71 = .ok (.iushr, 1) := by decide +kernel
theorem dJ6_numberOfLeadingZeros_0f7a4_72 : decode cJ6_numberOfLeadingZeros_0f7a4 72 = .ok (.istore_n 0, 1) := by decide +kernel
theorem dJ6_numberOfLeadingZeros_0f7a4_73 : decode cJ6_numberOfLeadingZeros_0f7a4 73 = .ok (.iload_n 1, 1) := by decide +kernel
theorem dJ6_numberOfLeadingZeros_0f7a4_74 : decode cJ6_numberOfLeadingZeros_0f7a4 74 = .ok (.iload_n 0, 1) := by decide +kernel
theorem dJ6_numberOfLeadingZeros_0f7a4_75 : decode cJ6_numberOfLeadingZeros_0f7a4 75 = .ok (.iconst 1, 1) := by decide +kernel
theorem dJ6_numberOfLeadingZeros_0f7a4_76 : decode cJ6_numberOfLeadingZeros_0f7a4 76 = .ok (.iushr, 1) := by decide +kernel
theorem dJ6_numberOfLeadingZeros_0f7a4_77 : decode cJ6_numberOfLeadingZeros_0f7a4 77 = .ok (.isub, 1) := by decide +kernel
theorem dJ6_numberOfLeadingZeros_0f7a4_78 : decode cJ6_numberOfLeadingZeros_0f7a4 78 = .ok (.ireturn, 1) := by decide +kernel
theorem dJ13_compare_74951_0 : decode cJ13_compare_74951 0 = .ok (.lload_n 0, 1) := by decide +kernel
theorem dJ13_compare_74951_1 : decode cJ13_compare_74951 1 = .ok (.lload_n 2, 1) := by decide +kernel
theorem dJ13_compare_74951_2 : decode cJ13_compare_74951 2 = .ok (.lcmp, 1) := by decide +kernel
theorem dJ13_compare_74951_3 : decode cJ13_compare_74951 3 = .ok (.ifCond .ge 7, 3) := by decide +kernel
theorem dJ13_compare_74951_6 : decode cJ13_compare_74951 6 = .ok (.iconst (-1), 1) := by decide +kernel
theorem dJ13_compare_74951_7 : decode cJ13_compare_74951 7 = .ok (.goto 14, 3) := by decide +kernel
theorem dJ13_compare_74951_10 : decode cJ13_compare_74951 10 = .ok (.lload_n 0, 1) := by decide +kernel
theorem dJ13_compare_74951_11 : decode cJ13_compare_74951 11 = .ok (.lload_n 2, 1) := by decide +kernel
theorem dJ13_compare_74951_12 : decode cJ13_compare_74951 12 = .ok (.lcmp, 1) := by decide +kernel
theorem dJ13_compare_74951_13 : decode cJ13_compare_74951 13 = .ok (.ifCond .ne 7, 3) := by decide +kernel
theorem dJ13_compare_74951_16 : decode cJ13_compare_74951 16 = .ok (.iconst 0, 1) := by decide +kernel
theorem dJ13_compare_74951_17 : decode cJ13_compare_74951 17 = .ok (.goto 4, 3) := by decide +kernel
theorem dJ13_compare_74951_20 : decode cJ13_compare_74951 20 = .ok (.iconst 1, 1) := by decide +kernel
theorem dJ13_compare_74951_21 : decode cJ13_compare_74951 21 = .ok (.ireturn, 1) := by decide +kernel
theorem dJ9_abs_0f7a4_0 : decode cJ9_abs_0f7a4 0 = .ok (.iload_n 0, 1) := by decide +kernel
theorem dJ9_abs_0f7a4_1 : decode cJ9_abs_0f7a4 1 = .ok (.ifCond .ge 8, 3) := by decide +kernel
theorem dJ9_abs_0f7a4_4 : decode cJ9_abs_0f7a4 4 = .ok (.iload_n 0, 1) := by decide +kernel
theorem dJ9_abs_0f7a4_5 : decode cJ9_abs_0f7a4 5 = .ok (.ineg, 1) := by decide +kernel
theorem dJ9_abs_0f7a4_6 : decode cJ9_abs_0f7a4 6 = .ok (.goto 4, 3) := by decide +kernel
theorem dJ9_abs_0f7a4_9 : decode cJ9_abs_0f7a4 9 = .ok (.iload_n 0, 1) := by decide +kernel
theorem dJ9_abs_0f7a4_10 : decode cJ9_abs_0f7a4 10 = .ok (.ireturn, 1) := by decide +kernel
theorem dJ9_max_7cf53_0 : decode cJ9_max_7cf53 0 = .ok (.iload_n 0, 1) := by decide +kernel
theorem dJ9_max_7cf53_1 : decode cJ9_max_7cf53 1 = .ok (.iload_n 1, 1) := by decide +kernel
theorem dJ9_max_7cf53_2 : decode cJ9_max_7cf53 2 = .ok (.if_icmp .lt 7, 3) := by decide +kernel
theorem dJ9_max_7cf53_5 : decode cJ9_max_7cf53 5 = .ok (.iload_n 0, 1) := by decide +kernel
theorem dJ9_max_7cf53_6 : decode cJ9_max_7cf53 6 = .ok (.goto 4, 3) := by decide +kernel
theorem dJ9_max_7cf53_9 : decode cJ9_max_7cf53 9 = .ok (.iload_n 1, 1) := by decide +kernel
theorem dJ9_max_7cf53_10 : decode cJ9_max_7cf53 10 = .ok (.ireturn, 1) := by decide +kernel
theorem dJ9_min_7cf53_0 : decode cJ9_min_7cf53 0 = .ok (.iload_n 0, 1) := by decide +kernel
theorem dJ9_min_7cf53_1 : decode cJ9_min_7cf53 1 = .ok (.iload_n 1, 1) := by decide +kernel
theorem dJ9_min_7cf53_2 : decode cJ9_min_7cf53 2 = .ok (.if_icmp .gt 7, 3) := by decide +kernel
theorem dJ9_min_7cf53_5 : decode cJ9_min_7cf53 5 = .ok (.iload_n 0, 1) := by decide +kernel
theorem dJ9_min_7cf53_6 : decode cJ9_min_7cf53 6 = .ok (.goto 4, 3) := by decide +kernel
theorem dJ9_min_7cf53_9 : decode cJ9_min_7cf53 9 = .ok (.iload_n 1, 1) := by decide +kernel
theorem dJ9_min_7cf53_10 : decode cJ9_min_7cf53 10 = .ok (.ireturn, 1) := by decide +kernel
theorem dJ9_min_f86c9_0 : decode cJ9_min_f86c9 0 = .ok (.lload_n 0, 1) := by decide +kernel
theorem dJ9_min_f86c9_1 : decode cJ9_min_f86c9 1 = .ok (.lload_n 2, 1) := by decide +kernel
theorem dJ9_min_f86c9_2 : decode cJ9_min_f86c9 2 = .ok (.lcmp, 1) := by decide +kernel
theorem dJ9_min_f86c9_3 : decode cJ9_min_f86c9 3 = .ok (.ifCond .gt 7, 3) := by decide +kernel
theorem dJ9_min_f86c9_6 : decode cJ9_min_f86c9 6 = .ok (.lload_n 0, 1) := by decide +kernel
theorem dJ9_min_f86c9_7 : decode cJ9_min_f86c9 7 = .ok (.goto 4, 3) := by decide +kernel
theorem dJ9_min_f86c9_10 : decode cJ9_min_f86c9 10 = .ok (.lload_n 2, 1) := by decide +kernel
theorem dJ9_min_f86c9_11 : decode cJ9_min_f86c9 11 = .ok (.lreturn, 1) := by decide +kernel
theorem dJxde1cd_init_a7421_0 : decode cJxde1cd_init_a7421 0 = .ok (.aload_n 0, 1) := by decide +kernel
theorem dJxde1cd_init_a7421_1 : decode cJxde1cd_init_a7421 1 = .ok (.aload_n 1, 1) := by decide +kernel
theorem dJxde1cd_init_a7421_2 : decode cJxde1cd_init_a7421 2 = .ok (.invokespecial 7, 3) := by decide +kernel
theorem dJxde1cd_init_a7421_5 : decode cJxde1cd_init_a7421 5 = .ok (.return_, 1) := by decide +kernel
