theorem dX7_apply_152 : decode cX7_apply 152 = .ok (.iload_n 3, 1) := by decide +kernel
theorem dX7_apply_153 : decode cX7_apply 153 = .ok (.iconst 0, 1) := by decide +kernel
theorem dX7_apply_154 : decode cX7_apply 154 = .ok (.invokevirtual 112, 3) := by decide +kernel
theorem dX7_apply_157 : decode cX7_apply 157 = .ok (.aload_n 0, 1) := by decide +kernel
theorem dX7_apply_158 : decode cX7_apply 158 = .ok (.bipush 7, 2) := by decide +kernel
theorem dX7_apply_160 : decode cX7_apply 160 = .ok (.bipush 6, 2) := by decide +kernel
theorem dX7_apply_162 : decode cX7_apply 162 = .ok (.iconst 4, 1) := by decide +kernel
theorem dX7_apply_163 : decode cX7_apply 163 = .ok (.invokevirtual 116, 3) := by decide +kernel
theorem dX7_apply_166 : decode cX7_apply 166 = .ok (.aload_n 0, 1) := by decide +kernel
theorem dX7_apply_167 : decode cX7_apply 167 = .ok (.getfield 13, 3) := by decide +kernel
theorem dX7_apply_170 : decode cX7_apply 170 = .ok (.iload_n 2, 1) := by decide +kernel
theorem dX7_apply_171 : decode cX7_apply 171 = .ok (.iaload, 1) := by decide +kernel
theorem dX7_apply_172 : decode cX7_apply 172 = .ok (.istore 4, 2) := by decide +kernel
theorem dX7_apply_174 : decode cX7_apply 174 = .ok (.iload_n 1, 1) := by decide +kernel
theorem dX7_apply_175 : decode cX7_apply 175 = .ok (.iconst 2, 1) := by decide +kernel
theorem dX7_apply_176 : decode cX7_apply 176 = .ok (.if_icmp .ge 41, 3) := by decide +kernel
theorem dX7_apply_179 : decode cX7_apply 179 = .ok (.aload_n 0, 1) := by decide +kernel
theorem dX7_apply_180 : decode cX7_apply 180 = .ok (.iconst 0, 1) := by decide +kernel
theorem dX7_apply_181 : decode cX7_apply 181 = .ok (.iload 4, 2) := by decide +kernel
theorem dX7_apply_183 : decode cX7_apply 183 = .ok (.bipush 7, 2) := by decide +kernel
theorem dX7_apply_185 : decode cX7_apply 185 = .ok (.iload_n 1, 1) := by decide +kernel
theorem dX7_apply_186 : decode cX7_apply 186 = .ok (.ifCond .ne 12, 3) := by decide +kernel
theorem dX7_apply_189 : decode cX7_apply 189 = .ok (.aload_n 0, 1) := by decide +kernel
theorem dX7_apply_190 : decode cX7_apply 190 = .ok (.getfield 13, 3) := by decide +kernel
theorem dX7_apply_193 : decode cX7_apply 193 = .ok (.iload_n 3, 1) := by decide +kernel
theorem dX7_apply_194 : decode cX7_apply 194 = .ok (.iaload, 1) := by decide +kernel
theorem dX7_apply_195 : decode cX7_apply 195 = .ok (.goto 10, 3) := by decide +kernel
theorem dX7_apply_198 : decode cX7_apply 198 = .ok (.aload_n 0, 1) := by decide +kernel
theorem dX7_apply_199 : decode cX7_apply 199 = .ok (.getfield 13, 3) := by decide +kernel
theorem dX7_apply_202 : decode cX7_apply 202 = .ok (.iload_n 3, 1) := by decide +kernel
theorem dX7_apply_203 : decode cX7_apply 203 = .ok (.iaload, 1) := by decide +kernel
theorem dX7_apply_204 : decode cX7_apply 204 = .ok (.ineg, 1) := by decide +kernel
theorem dX7_apply_205 : decode cX7_apply 205 = .ok (.invokevirtual 127, 3) := by decide +kernel
theorem dX7_apply_208 : decode cX7_apply 208 = .ok (.istore 4, 2) := by decide +kernel
theorem dX7_apply_210 : decode cX7_apply 210 = .ok (.aload_n 0, 1) := by decide +kernel
theorem dX7_apply_211 : decode cX7_apply 211 = .ok (.iload 4, 2) := by decide +kernel
theorem dX7_apply_213 : decode cX7_apply 213 = .ok (.invokevirtual 119, 3) := by decide +kernel
theorem dX7_apply_216 : decode cX7_apply 216 = .ok (.ireturn, 1) := by decide +kernel
theorem dX7_apply_217 : decode cX7_apply 217 = .ok (.aload_n 0, 1) := by decide +kernel
theorem dX7_apply_218 : decode cX7_apply 218 = .ok (.bipush 8, 2) := by decide +kernel
theorem dX7_apply_220 : decode cX7_apply 220 = .ok (.bipush 9, 2) := by decide +kernel
theorem dX7_apply_222 : decode cX7_apply 222 = .ok (.iconst 0, 1) := by decide +kernel
theorem dX7_apply_223 : decode cX7_apply 223 = .ok (.bipush 7, 2) := by decide +kernel
theorem dX7_apply_225 : decode cX7_apply 225 = .ok (.invokevirtual 96, 3) := by decide +kernel
theorem dX7_apply_228 : decode cX7_apply 228 = .ok (.aload_n 0, 1) := by decide +kernel
theorem dX7_apply_229 : decode cX7_apply 229 = .ok (.getfield 33, 3) := by decide +kernel
theorem dX7_apply_232 : decode cX7_apply 232 = .ok (.bipush 9, 2) := by decide +kernel
theorem dX7_apply_234 : decode cX7_apply 234 = .ok (.iaload, 1) := by decide +kernel
theorem dX7_apply_235 : decode cX7_apply 235 = .ok (.ifCond .le 35, 3) := by decide +kernel
theorem dX7_apply_238 : decode cX7_apply 238 = .ok (.aload_n 0, 1) := by decide +kernel
theorem dX7_apply_239 : decode cX7_apply 239 = .ok (.getfield 13, 3) := by decide +kernel
theorem dX7_apply_242 : decode cX7_apply 242 = .ok (.iload_n 2, 1) := by decide +kernel
theorem dX7_apply_243 : decode cX7_apply 243 = .ok (.iaload, 1) := by decide +kernel
theorem dX7_apply_244 : decode cX7_apply 244 = .ok (.aload_n 0, 1) := by decide +kernel
theorem dX7_apply_245 : decode cX7_apply 245 = .ok (.getfield 13, 3) := by decide +kernel
theorem dX7_apply_248 : decode cX7_apply 248 = .ok (.iload_n 3, 1) := by decide +kernel
theorem dX7_apply_249 : decode cX7_apply 249 = .ok (.iaload, 1) := by decide +kernel
theorem dX7_apply_250 : decode cX7_apply 250 = .ok (.if_icmp .eq 20, 3) := by decide +kernel
theorem dX7_apply_253 : decode cX7_apply 253 = .ok (.aload_n 0, 1) := by decide +kernel
theorem dX7_apply_254 : decode cX7_apply 254 = .ok (.iconst 0, 1) := by decide +kernel
theorem dX7_apply_255 : decode cX7_apply 255 = .ok (.bipush 7, 2) := by decide +kernel
theorem dX7_apply_257 : decode cX7_apply 257 = .ok (.invokevirtual 66, 3) := by decide +kernel
theorem dX7_apply_260 : decode cX7_apply 260 = .ok (.aload_n 0, 1) := by decide +kernel
theorem dX7_apply_261 : decode cX7_apply 261 = .ok (.iconst 0, 1) := by decide +kernel
theorem dX7_apply_262 : decode cX7_apply 262 = .ok (.bipush 9, 2) := by decide +kernel
theorem dX7_apply_264 : decode cX7_apply 264 = .ok (.invokevirtual 62, 3) := by decide +kernel
theorem dX7_apply_267 : decode cX7_apply 267 = .ok (.goto 10, 3) := by decide +kernel
theorem dX7_apply_270 : decode cX7_apply 270 = .ok (.aload_n 0, 1) := by decide +kernel
theorem dX7_apply_271 : decode cX7_apply 271 = .ok (.iconst 0, 1) := by decide +kernel
theorem dX7_apply_272 : decode cX7_apply 272 = .ok (.bipush 9, 2) := by decide +kernel
theorem dX7_apply_274 : decode cX7_apply 274 = .ok (.invokevirtual 66, 3) := by decide +kernel
theorem dX7_apply_277 : decode cX7_apply 277 = .ok (.aload_n 0, 1) := by decide +kernel
theorem dX7_apply_278 : decode cX7_apply 278 = .ok (.aload_n 0, 1) := by decide +kernel
theorem dX7_apply_279 : decode cX7_apply 279 = .ok (.getfield 13, 3) := by decide +kernel
theorem dX7_apply_282 : decode cX7_apply 282 = .ok (.iload_n 3, 1) := by decide +kernel
theorem dX7_apply_283 : decode cX7_apply 283 = .ok (.iaload, 1) := by decide +kernel
theorem dX7_apply_284 : decode cX7_apply 284 = .ok (.invokevirtual 119, 3) := by decide +kernel
theorem dX7_apply_287 : decode cX7_apply 287 = .ok (.ireturn, 1) := by decide +kernel
theorem dX7_power_0 : decode cX7_power 0 = .ok (.aload_n 0, 1) := by decide +kernel
theorem dX7_power_1 : decode cX7_power 1 = .ok (.iconst 0, 1) := by decide +kernel
theorem dX7_power_2 : decode cX7_power 2 = .ok (.putfield 43, 3) := by decide +kernel
theorem dX7_power_5 : decode cX7_power 5 = .ok (.aload_n 0, 1) := by decide +kernel
theorem dX7_power_6 : decode cX7_power 6 = .ok (.iload_n 1, 1) := by decide +kernel
theorem dX7_power_7 : decode cX7_power 7 = .ok (.invokevirtual 109, 3) := by decide +kernel
theorem dX7_power_10 : decode cX7_power 10 = .ok (.ifCond .eq 17, 3) := by decide +kernel
theorem dX7_power_13 : decode cX7_power 13 = .ok (.iload_n 2, 1) := by decide +kernel
theorem dX7_power_14 : decode cX7_power 14 = .ok (.i2l, 1) := by decide +kernel
theorem dX7_power_15 : decode cX7_power 15 = .ok (.ldc2_w 131, 3) := by decide +kernel
theorem dX7_power_18 : decode cX7_power 18 = .ok (.ldc2_w 133, 3) := by decide +kernel
theorem dX7_power_21 : decode cX7_power 21 = .ok (.invokestatic 81, 3) := by decide +kernel
theorem dX7_power_24 : decode cX7_power 24 = .ok (.ifCond .ne 5, 3) := by decide +kernel
theorem dX7_power_27 : decode cX7_power 27 = .ok (.iconst (-1), 1) := by decide +kernel
theorem dX7_power_28 : decode cX7_power 28 = .ok (.ireturn, 1) := by decide +kernel
theorem dX7_power_29 : decode cX7_power 29 = .ok (.aload_n 0, 1) := by decide +kernel
theorem dX7_power_30 : decode cX7_power 30 = .ok (.getfield 13, 3) := by decide +kernel
theorem dX7_power_33 : decode cX7_power 33 = .ok (.iload_n 1, 1) := by decide +kernel
theorem dX7_power_34 : decode cX7_power 34 = .ok (.iaload, 1) := by decide +kernel
theorem dX7_power_35 : decode cX7_power 35 = .ok (.ifCond .ne 14, 3) := by decide +kernel
theorem dX7_power_38 : decode cX7_power 38 = .ok (.iload_n 2, 1) := by decide +kernel
theorem dX7_power_39 : decode cX7_power 39 = .ok (.ifCond .ge 10, 3) := by decide +kernel
theorem dX7_power_42 : decode cX7_power 42 = .ok (.aload_n 0, 1) := by decide +kernel
theorem dX7_power_43 : decode cX7_power 43 = .ok (.iconst 1, 1) := by decide +kernel
theorem dX7_power_44 : decode cX7_power 44 = .ok (.putfield 43, 3) := by decide +kernel
theorem dX7_power_47 : decode cX7_power 47 = .ok (.iconst 0, 1) := by decide +kernel
theorem dX7_power_48 : decode cX7_power 48 = .ok (.ireturn, 1) := by decide +kernel
theorem dX7_power_49 : decode cX7_power 49 = .ok (.aload_n 0, 1) := by decide +kernel
theorem dX7_power_50 : decode cX7_power 50 = .ok (.invokevirtual 89, 3) := by decide +kernel
theorem dX7_power_53 : decode cX7_power 53 = .ok (.bipush (-3), 2) := by decide +kernel
theorem dX7_power_55 : decode cX7_power 55 = .ok (.if_icmp .ne 6, 3) := by decide +kernel
theorem dX7_power_58 : decode cX7_power 58 = .ok (.bipush (-3), 2) := by decide +kernel
theorem dX7_power_60 : decode cX7_power 60 = .ok (.ireturn, 1) := by decide +kernel
theorem dX7_power_61 : decode cX7_power 61 = .ok (.aload_n 0, 1) := by decide +kernel
theorem dX7_power_62 : decode cX7_power 62 = .ok (.iconst 2, 1) := by decide +kernel
theorem dX7_power_63 : decode cX7_power 63 = .ok (.iload_n 1, 1) := by decide +kernel
theorem dX7_power_64 : decode cX7_power 64 = .ok (.iload_n 2, 1) := by decide +kernel
theorem dX7_power_65 : decode cX7_power 65 = .ok (.ifCond .ge 7, 3) := by decide +kernel
theorem dX7_power_68 : decode cX7_power 68 = .ok (.iconst 1, 1) := by decide +kernel
theorem dX7_power_69 : decode cX7_power 69 = .ok (.goto 4, 3) := by decide +kernel
theorem dX7_power_72 : decode cX7_power 72 = .ok (.iconst 0, 1) := by decide +kernel
theorem dX7_power_73 : decode cX7_power 73 = .ok (.invokevirtual 112, 3) := by decide +kernel
theorem dX7_power_76 : decode cX7_power 76 = .ok (.aload_n 0, 1) := by decide +kernel
theorem dX7_power_77 : decode cX7_power 77 = .ok (.iconst 3, 1) := by decide +kernel
theorem dX7_power_78 : decode cX7_power 78 = .ok (.iload_n 1, 1) := by decide +kernel
theorem dX7_power_79 : decode cX7_power 79 = .ok (.iload_n 2, 1) := by decide +kernel
theorem dX7_power_80 : decode cX7_power 80 = .ok (.ifCond .ge 7, 3) := by decide +kernel
theorem dX7_power_83 : decode cX7_power 83 = .ok (.iconst 0, 1) := by decide +kernel
theorem dX7_power_84 : decode cX7_power 84 = .ok (.goto 4, 3) := by decide +kernel
theorem dX7_power_87 : decode cX7_power 87 = .ok (.iconst 1, 1) := by decide +kernel
theorem dX7_power_88 : decode cX7_power 88 = .ok (.invokevirtual 112, 3) := by decide +kernel
theorem dX7_power_91 : decode cX7_power 91 = .ok (.aload_n 0, 1) := by decide +kernel
theorem dX7_power_92 : decode cX7_power 92 = .ok (.iconst 0, 1) := by decide +kernel
theorem dX7_power_93 : decode cX7_power 93 = .ok (.lconst 1, 1) := by decide +kernel
theorem dX7_power_94 : decode cX7_power 94 = .ok (.invokevirtual 103, 3) := by decide +kernel
theorem dX7_power_97 : decode cX7_power 97 = .ok (.aload_n 0, 1) := by decide +kernel
theorem dX7_power_98 : decode cX7_power 98 = .ok (.iconst 1, 1) := by decide +kernel
theorem dX7_power_99 : decode cX7_power 99 = .ok (.lconst 1, 1) := by decide +kernel
theorem dX7_power_100 : decode cX7_power 100 = .ok (.invokevirtual 103, 3) := by decide +kernel
theorem dX7_power_103 : decode cX7_power 103 = .ok (.iload_n 2, 1) := by decide +kernel
theorem dX7_power_104 : decode cX7_power 104 = .ok (.ifCond .ge 8, 3) := by decide +kernel
theorem dX7_power_107 : decode cX7_power 107 = .ok (.iload_n 2, 1) := by decide +kernel
theorem dX7_power_108 : decode cX7_power 108 = .ok (.ineg, 1) := by decide +kernel
theorem dX7_power_109 : decode cX7_power 109 = .ok (.goto 4, 3) := by decide +kernel
theorem dX7_power_112 : decode cX7_power 112 = .ok (.iload_n 2, 1) := by decide +kernel
theorem dX7_power_113 : decode cX7_power 113 = .ok (.istore_n 3, 1) := by decide +kernel
theorem dX7_power_114 : decode cX7_power 114 = .ok (.iconst 0, 1) := by decide +kernel
theorem dX7_power_115 : decode cX7_power 115 = .ok (.istore 4, 2) := by decide +kernel
theorem dX7_power_117 : decode cX7_power 117 = .ok (.iload 4, 2) := by decide +kernel
theorem dX7_power_119 : decode cX7_power 119 = .ok (.iload_n 3, 1) := by decide +kernel
theorem dX7_power_120 : decode cX7_power 120 = .ok (.if_icmp .ge 60, 3) := by decide +kernel
theorem dX7_power_123 : decode cX7_power 123 = .ok (.aload_n 0, 1) := by decide +kernel
theorem dX7_power_124 : decode cX7_power 124 = .ok (.iconst 4, 1) := by decide +kernel
theorem dX7_power_125 : decode cX7_power 125 = .ok (.iconst 0, 1) := by decide +kernel
theorem dX7_power_126 : decode cX7_power 126 = .ok (.iconst 2, 1) := by decide +kernel
theorem dX7_power_127 : decode cX7_power 127 = .ok (.invokevirtual 116, 3) := by decide +kernel
theorem dX7_power_130 : decode cX7_power 130 = .ok (.aload_n 0, 1) := by decide +kernel
theorem dX7_power_131 : decode cX7_power 131 = .ok (.iconst 0, 1) := by decide +kernel
theorem dX7_power_132 : decode cX7_power 132 = .ok (.iconst 4, 1) := by decide +kernel
theorem dX7_power_133 : decode cX7_power 133 = .ok (.invokevirtual 66, 3) := by decide +kernel
theorem dX7_power_136 : decode cX7_power 136 = .ok (.aload_n 0, 1) := by decide +kernel
theorem dX7_power_137 : decode cX7_power 137 = .ok (.iconst 4, 1) := by decide +kernel
theorem dX7_power_138 : decode cX7_power 138 = .ok (.iconst 1, 1) := by decide +kernel
theorem dX7_power_139 : decode cX7_power 139 = .ok (.iconst 3, 1) := by decide +kernel
theorem dX7_power_140 : decode cX7_power 140 = .ok (.invokevirtual 116, 3) := by decide +kernel
theorem dX7_power_143 : decode cX7_power 143 = .ok (.aload_n 0, 1) := by decide +kernel
theorem dX7_power_144 : decode cX7_power 144 = .ok (.iconst 1, 1) := by decide +kernel
theorem dX7_power_145 : decode cX7_power 145 = .ok (.iconst 4, 1) := by decide +kernel
theorem dX7_power_146 : decode cX7_power 146 = .ok (.invokevirtual 66, 3) := by decide +kernel
theorem dX7_power_149 : decode cX7_power 149 = .ok (.aload_n 0, 1) := by decide +kernel
theorem dX7_power_150 : decode cX7_power 150 = .ok (.iconst 0, 1) := by decide +kernel
theorem dX7_power_151 : decode cX7_power 151 = .ok (.invokevirtual 85, 3) := by decide +kernel
theorem dX7_power_154 : decode cX7_power 154 = .ok (.sipush 512, 3) := by decide +kernel
theorem dX7_power_157 : decode cX7_power 157 = .ok (.if_icmp .gt 14, 3) := by decide +kernel
theorem dX7_power_160 : decode cX7_power 160 = .ok (.aload_n 0, 1) := by decide +kernel
theorem dX7_power_161 : decode cX7_power 161 = .ok (.iconst 1, 1) := by decide +kernel
theorem dX7_power_162 : decode cX7_power 162 = .ok (.invokevirtual 85, 3) := by decide +kernel
theorem dX7_power_165 : decode cX7_power 165 = .ok (.sipush 512, 3) := by decide +kernel
theorem dX7_power_168 : decode cX7_power 168 = .ok (.if_icmp .le 6, 3) := by decide +kernel
theorem dX7_power_171 : decode cX7_power 171 = .ok (.bipush (-4), 2) := by decide +kernel
theorem dX7_power_173 : decode cX7_power 173 = .ok (.ireturn, 1) := by decide +kernel
theorem dX7_power_174 : decode cX7_power 174 = .ok (.iinc 4 1, 3) := by decide +kernel
theorem dX7_power_177 : decode cX7_power 177 = .ok (.goto (-60), 3) := by decide +kernel
theorem dX7_power_180 : decode cX7_power 180 = .ok (.aload_n 0, 1) := by decide +kernel
theorem dX7_power_181 : decode cX7_power 181 = .ok (.aload_n 0, 1) := by decide +kernel
theorem dX7_power_182 : decode cX7_power 182 = .ok (.getfield 13, 3) := by decide +kernel
theorem dX7_power_185 : decode cX7_power 185 = .ok (.iload_n 1, 1) := by decide +kernel
theorem dX7_power_186 : decode cX7_power 186 = .ok (.iaload, 1) := by decide +kernel
theorem dX7_power_187 : decode cX7_power 187 = .ok (.ifCond .ge 14, 3) := by decide +kernel
theorem dX7_power_190 : decode cX7_power 190 = .ok (.iload_n 3, 1) := by decide +kernel
theorem dX7_power_191 : decode cX7_power 191 = .ok (.iconst 2, 1) := by decide +kernel
theorem dX7_power_192 : decode cX7_power 192 = .ok (.irem, 1) := by decide +kernel
theorem dX7_power_193 : decode cX7_power 193 = .ok (.iconst 1, 1) := by decide +kernel
theorem dX7_power_194 : decode cX7_power 194 = .ok (.if_icmp .ne 7, 3) := by decide +kernel
theorem dX7_power_197 : decode cX7_power 197 = .ok (.iconst (-1), 1) := by decide +kernel
theorem dX7_power_198 : decode cX7_power 198 = .ok (.goto 4, 3) := by decide +kernel
theorem dX7_power_201 : decode cX7_power 201 = .ok (.iconst 1, 1) := by decide +kernel
theorem dX7_power_202 : decode cX7_power 202 = .ok (.invokevirtual 100, 3) := by decide +kernel
theorem dX7_power_205 : decode cX7_power 205 = .ok (.ireturn, 1) := by decide +kernel
theorem dX7_floor_0 : decode cX7_floor 0 = .ok (.aload_n 0, 1) := by decide +kernel
theorem dX7_floor_1 : decode cX7_floor 1 = .ok (.bipush 13, 2) := by decide +kernel
theorem dX7_floor_3 : decode cX7_floor 3 = .ok (.iload_n 1, 1) := by decide +kernel
theorem dX7_floor_4 : decode cX7_floor 4 = .ok (.iconst 0, 1) := by decide +kernel
theorem dX7_floor_5 : decode cX7_floor 5 = .ok (.invokevirtual 112, 3) := by decide +kernel
theorem dX7_floor_8 : decode cX7_floor 8 = .ok (.aload_n 0, 1) := by decide +kernel
theorem dX7_floor_9 : decode cX7_floor 9 = .ok (.bipush 11, 2) := by decide +kernel
theorem dX7_floor_11 : decode cX7_floor 11 = .ok (.iload_n 1, 1) := by decide +kernel
theorem dX7_floor_12 : decode cX7_floor 12 = .ok (.iconst 1, 1) := by decide +kernel
theorem dX7_floor_13 : decode cX7_floor 13 = .ok (.invokevirtual 112, 3) := by decide +kernel
theorem dX7_floor_16 : decode cX7_floor 16 = .ok (.aload_n 0, 1) := by decide +kernel
theorem dX7_floor_17 : decode cX7_floor 17 = .ok (.bipush 10, 2) := by decide +kernel
theorem dX7_floor_19 : decode cX7_floor 19 = .ok (.bipush 12, 2) := by decide +kernel
theorem dX7_floor_21 : decode cX7_floor 21 = .ok (.bipush 13, 2) := by decide +kernel
theorem dX7_floor_23 : decode cX7_floor 23 = .ok (.bipush 11, 2) := by decide +kernel
theorem dX7_floor_25 : decode cX7_floor 25 = .ok (.invokevirtual 96, 3) := by decide +kernel
theorem dX7_floor_28 : decode cX7_floor 28 = .ok (.aload_n 0, 1) := by decide +kernel
theorem dX7_floor_29 : decode cX7_floor 29 = .ok (.getfield 13, 3) := by decide +kernel
theorem dX7_floor_32 : decode cX7_floor 32 = .ok (.iload_n 1, 1) := by decide +kernel
theorem dX7_floor_33 : decode cX7_floor 33 = .ok (.iaload, 1) := by decide +kernel
theorem dX7_floor_34 : decode cX7_floor 34 = .ok (.ifCond .ge 52, 3) := by decide +kernel
theorem dX7_floor_37 : decode cX7_floor 37 = .ok (.aload_n 0, 1) := by decide +kernel
theorem dX7_floor_38 : decode cX7_floor 38 = .ok (.getfield 33, 3) := by decide +kernel
theorem dX7_floor_41 : decode cX7_floor 41 = .ok (.bipush 12, 2) := by decide +kernel
theorem dX7_floor_43 : decode cX7_floor 43 = .ok (.iaload, 1) := by decide +kernel
theorem dX7_floor_44 : decode cX7_floor 44 = .ok (.ifCond .le 42, 3) := by decide +kernel
theorem dX7_floor_47 : decode cX7_floor 47 = .ok (.aload_n 0, 1) := by decide +kernel
theorem dX7_floor_48 : decode cX7_floor 48 = .ok (.bipush 14, 2) := by decide +kernel
theorem dX7_floor_50 : decode cX7_floor 50 = .ok (.lconst 1, 1) := by decide +kernel
theorem dX7_floor_51 : decode cX7_floor 51 = .ok (.invokevirtual 103, 3) := by decide +kernel
theorem dX7_floor_54 : decode cX7_floor 54 = .ok (.aload_n 0, 1) := by decide +kernel
theorem dX7_floor_55 : decode cX7_floor 55 = .ok (.bipush 10, 2) := by decide +kernel
theorem dX7_floor_57 : decode cX7_floor 57 = .ok (.bipush 14, 2) := by decide +kernel
theorem dX7_floor_59 : decode cX7_floor 59 = .ok (.invokevirtual 122, 3) := by decide +kernel
theorem dX7_floor_62 : decode cX7_floor 62 = .ok (.aload_n 0, 1) := by decide +kernel
theorem dX7_floor_63 : decode cX7_floor 63 = .ok (.bipush 14, 2) := by decide +kernel
theorem dX7_floor_65 : decode cX7_floor 65 = .ok (.bipush 11, 2) := by decide +kernel
theorem dX7_floor_67 : decode cX7_floor 67 = .ok (.invokevirtual 66, 3) := by decide +kernel
theorem dX7_floor_70 : decode cX7_floor 70 = .ok (.aload_n 0, 1) := by decide +kernel
theorem dX7_floor_71 : decode cX7_floor 71 = .ok (.bipush 14, 2) := by decide +kernel
theorem dX7_floor_73 : decode cX7_floor 73 = .ok (.bipush 12, 2) := by decide +kernel
theorem dX7_floor_75 : decode cX7_floor 75 = .ok (.invokevirtual 62, 3) := by decide +kernel
theorem dX7_floor_78 : decode cX7_floor 78 = .ok (.aload_n 0, 1) := by decide +kernel
theorem dX7_floor_79 : decode cX7_floor 79 = .ok (.bipush 12, 2) := by decide +kernel
theorem dX7_floor_81 : decode cX7_floor 81 = .ok (.bipush 14, 2) := by decide +kernel
theorem dX7_floor_83 : decode cX7_floor 83 = .ok (.invokevirtual 66, 3) := by decide +kernel
theorem dX7_floor_86 : decode cX7_floor 86 = .ok (.aload_n 0, 1) := by decide +kernel
theorem dX7_floor_87 : decode cX7_floor 87 = .ok (.getfield 13, 3) := by decide +kernel
theorem dX7_floor_90 : decode cX7_floor 90 = .ok (.iload_n 1, 1) := by decide +kernel
theorem dX7_floor_91 : decode cX7_floor 91 = .ok (.iaload, 1) := by decide +kernel
theorem dX7_floor_92 : decode cX7_floor 92 = .ok (.ifCond .ge 7, 3) := by decide +kernel
theorem dX7_floor_95 : decode cX7_floor 95 = .ok (.iconst (-1), 1) := by decide +kernel
theorem dX7_floor_96 : decode cX7_floor 96 = .ok (.goto 4, 3) := by decide +kernel
theorem dX7_floor_99 : decode cX7_floor 99 = .ok (.iconst 1, 1) := by decide +kernel
theorem dX7_floor_100 : decode cX7_floor 100 = .ok (.ireturn, 1) := by decide +kernel
theorem dX7_near_0 : decode cX7_near 0 = .ok (.aload_n 0, 1) := by decide +kernel
theorem dX7_near_1 : decode cX7_near 1 = .ok (.iconst 0, 1) := by decide +kernel
theorem dX7_near_2 : decode cX7_near 2 = .ok (.putfield 43, 3) := by decide +kernel
theorem dX7_near_5 : decode cX7_near 5 = .ok (.aload_n 0, 1) := by decide +kernel
theorem dX7_near_6 : decode cX7_near 6 = .ok (.iload_n 1, 1) := by decide +kernel
theorem dX7_near_7 : decode cX7_near 7 = .ok (.invokevirtual 109, 3) := by decide +kernel
theorem dX7_near_10 : decode cX7_near 10 = .ok (.ifCond .eq 15, 3) := by decide +kernel
theorem dX7_near_13 : decode cX7_near 13 = .ok (.iload_n 2, 1) := by decide +kernel
theorem dX7_near_14 : decode cX7_near 14 = .ok (.i2l, 1) := by decide +kernel
theorem dX7_near_15 : decode cX7_near 15 = .ok (.lconst 0, 1) := by decide +kernel
theorem dX7_near_16 : decode cX7_near 16 = .ok (.ldc2_w 125, 3) := by decide +kernel
theorem dX7_near_19 : decode cX7_near 19 = .ok (.invokestatic 81, 3) := by decide +kernel
theorem dX7_near_22 : decode cX7_near 22 = .ok (.ifCond .ne 5, 3) := by decide +kernel
theorem dX7_near_25 : decode cX7_near 25 = .ok (.iconst (-1), 1) := by decide +kernel
theorem dX7_near_26 : decode cX7_near 26 = .ok (.ireturn, 1) := by decide +kernel
theorem dX7_near_27 : decode cX7_near 27 = .ok (.aload_n 0, 1) := by decide +kernel
theorem dX7_near_28 : decode cX7_near 28 = .ok (.invokevirtual 89, 3) := by decide +kernel
theorem dX7_near_31 : decode cX7_near 31 = .ok (.bipush (-3), 2) := by decide +kernel
theorem dX7_near_33 : decode cX7_near 33 = .ok (.if_icmp .ne 6, 3) := by decide +kernel
theorem dX7_near_36 : decode cX7_near 36 = .ok (.bipush (-3), 2) := by decide +kernel
theorem dX7_near_38 : decode cX7_near 38 = .ok (.ireturn, 1) := by decide +kernel
theorem dX7_near_39 : decode cX7_near 39 = .ok (.aload_n 0, 1) := by decide +kernel
theorem dX7_near_40 : decode cX7_near 40 = .ok (.iload_n 1, 1) := by decide +kernel
theorem dX7_near_41 : decode cX7_near 41 = .ok (.invokevirtual 135, 3) := by decide +kernel
theorem dX7_near_44 : decode cX7_near 44 = .ok (.istore_n 3, 1) := by decide +kernel
theorem dX7_near_45 : decode cX7_near 45 = .ok (.iload_n 2, 1) := by decide +kernel
theorem dX7_near_46 : decode cX7_near 46 = .ok (.iconst 1, 1) := by decide +kernel
theorem dX7_near_47 : decode cX7_near 47 = .ok (.if_icmp .ne 13, 3) := by decide +kernel
theorem dX7_near_50 : decode cX7_near 50 = .ok (.aload_n 0, 1) := by decide +kernel
theorem dX7_near_51 : decode cX7_near 51 = .ok (.getfield 33, 3) := by decide +kernel
theorem dX7_near_54 : decode cX7_near 54 = .ok (.bipush 12, 2) := by decide +kernel
theorem dX7_near_56 : decode cX7_near 56 = .ok (.iaload, 1) := by decide +kernel
theorem dX7_near_57 : decode cX7_near 57 = .ok (.ifCond .gt 27, 3) := by decide +kernel
theorem dX7_near_60 : decode cX7_near 60 = .ok (.iload_n 2, 1) := by decide +kernel
theorem dX7_near_61 : decode cX7_near 61 = .ok (.iconst 3, 1) := by decide +kernel
theorem dX7_near_62 : decode cX7_near 62 = .ok (.if_icmp .ne 26, 3) := by decide +kernel
theorem dX7_near_65 : decode cX7_near 65 = .ok (.aload_n 0, 1) := by decide +kernel
theorem dX7_near_66 : decode cX7_near 66 = .ok (.getfield 13, 3) := by decide +kernel
theorem dX7_near_69 : decode cX7_near 69 = .ok (.iload_n 1, 1) := by decide +kernel
theorem dX7_near_70 : decode cX7_near 70 = .ok (.iaload, 1) := by decide +kernel
theorem dX7_near_71 : decode cX7_near 71 = .ok (.ifCond .ge 17, 3) := by decide +kernel
theorem dX7_near_74 : decode cX7_near 74 = .ok (.aload_n 0, 1) := by decide +kernel
theorem dX7_near_75 : decode cX7_near 75 = .ok (.getfield 33, 3) := by decide +kernel
theorem dX7_near_78 : decode cX7_near 78 = .ok (.bipush 12, 2) := by decide +kernel
theorem dX7_near_80 : decode cX7_near 80 = .ok (.iaload, 1) := by decide +kernel
theorem dX7_near_81 : decode cX7_near 81 = .ok (.ifCond .le 7, 3) := by decide +kernel
theorem dX7_near_84 : decode cX7_near 84 = .ok (.iconst 1, 1) := by decide +kernel
theorem dX7_near_85 : decode cX7_near 85 = .ok (.goto 4, 3) := by decide +kernel
theorem dX7_near_88 : decode cX7_near 88 = .ok (.iconst 0, 1) := by decide +kernel
theorem dX7_near_89 : decode cX7_near 89 = .ok (.istore 4, 2) := by decide +kernel
theorem dX7_near_91 : decode cX7_near 91 = .ok (.iload_n 2, 1) := by decide +kernel
theorem dX7_near_92 : decode cX7_near 92 = .ok (.iconst 2, 1) := by decide +kernel
theorem dX7_near_93 : decode cX7_near 93 = .ok (.if_icmp .ne 46, 3) := by decide +kernel
theorem dX7_near_96 : decode cX7_near 96 = .ok (.aload_n 0, 1) := by decide +kernel
theorem dX7_near_97 : decode cX7_near 97 = .ok (.bipush 12, 2) := by decide +kernel
theorem dX7_near_99 : decode cX7_near 99 = .ok (.lconst 0, 1) := by decide +kernel
theorem dX7_near_100 : decode cX7_near 100 = .ok (.invokevirtual 54, 3) := by decide +kernel
theorem dX7_near_103 : decode cX7_near 103 = .ok (.aload_n 0, 1) := by decide +kernel
theorem dX7_near_104 : decode cX7_near 104 = .ok (.bipush 12, 2) := by decide +kernel
theorem dX7_near_106 : decode cX7_near 106 = .ok (.bipush 11, 2) := by decide +kernel
theorem dX7_near_108 : decode cX7_near 108 = .ok (.invokevirtual 58, 3) := by decide +kernel
theorem dX7_near_111 : decode cX7_near 111 = .ok (.istore 5, 2) := by decide +kernel
theorem dX7_near_113 : decode cX7_near 113 = .ok (.iload 5, 2) := by decide +kernel
theorem dX7_near_115 : decode cX7_near 115 = .ok (.ifCond .gt 17, 3) := by decide +kernel
theorem dX7_near_118 : decode cX7_near 118 = .ok (.iload 5, 2) := by decide +kernel
theorem dX7_near_120 : decode cX7_near 120 = .ok (.ifCond .ne 16, 3) := by decide +kernel
theorem dX7_near_123 : decode cX7_near 123 = .ok (.aload_n 0, 1) := by decide +kernel
theorem dX7_near_124 : decode cX7_near 124 = .ok (.bipush 10, 2) := by decide +kernel
theorem dX7_near_126 : decode cX7_near 126 = .ok (.invokevirtual 69, 3) := by decide +kernel
theorem dX7_near_129 : decode cX7_near 129 = .ok (.ifCond .eq 7, 3) := by decide +kernel
theorem dX7_near_132 : decode cX7_near 132 = .ok (.iconst 1, 1) := by decide +kernel
theorem dX7_near_133 : decode cX7_near 133 = .ok (.goto 4, 3) := by decide +kernel
theorem dX7_near_136 : decode cX7_near 136 = .ok (.iconst 0, 1) := by decide +kernel
theorem dX7_near_137 : decode cX7_near 137 = .ok (.istore 4, 2) := by decide +kernel
theorem dX7_near_139 : decode cX7_near 139 = .ok (.iload 4, 2) := by decide +kernel
theorem dX7_near_141 : decode cX7_near 141 = .ok (.ifCond .eq 33, 3) := by decide +kernel
theorem dX7_near_144 : decode cX7_near 144 = .ok (.aload_n 0, 1) := by decide +kernel
theorem dX7_near_145 : decode cX7_near 145 = .ok (.bipush 14, 2) := by decide +kernel
theorem dX7_near_147 : decode cX7_near 147 = .ok (.lconst 1, 1) := by decide +kernel
theorem dX7_near_148 : decode cX7_near 148 = .ok (.invokevirtual 103, 3) := by decide +kernel
theorem dX7_near_151 : decode cX7_near 151 = .ok (.iload_n 3, 1) := by decide +kernel
theorem dX7_near_152 : decode cX7_near 152 = .ok (.ifCond .ge 14, 3) := by decide +kernel
theorem dX7_near_155 : decode cX7_near 155 = .ok (.aload_n 0, 1) := by decide +kernel
theorem dX7_near_156 : decode cX7_near 156 = .ok (.bipush 10, 2) := by decide +kernel
theorem dX7_near_158 : decode cX7_near 158 = .ok (.bipush 14, 2) := by decide +kernel
theorem dX7_near_160 : decode cX7_near 160 = .ok (.invokevirtual 62, 3) := by decide +kernel
theorem dX7_near_163 : decode cX7_near 163 = .ok (.goto 11, 3) := by decide +kernel
theorem dX7_near_166 : decode cX7_near 166 = .ok (.aload_n 0, 1) := by decide +kernel
theorem dX7_near_167 : decode cX7_near 167 = .ok (.bipush 10, 2) := by decide +kernel
theorem dX7_near_169 : decode cX7_near 169 = .ok (.bipush 14, 2) := by decide +kernel
theorem dX7_near_171 : decode cX7_near 171 = .ok (.invokevirtual 122, 3) := by decide +kernel
theorem dX7_near_174 : decode cX7_near 174 = .ok (.aload_n 0, 1) := by decide +kernel
theorem dX7_near_175 : decode cX7_near 175 = .ok (.bipush 10, 2) := by decide +kernel
theorem dX7_near_177 : decode cX7_near 177 = .ok (.iload_n 3, 1) := by decide +kernel
theorem dX7_near_178 : decode cX7_near 178 = .ok (.invokevirtual 106, 3) := by decide +kernel
theorem dX7_near_181 : decode cX7_near 181 = .ok (.ireturn, 1) := by decide +kernel
theorem dX7_isWhole_0 : decode cX7_isWhole 0 = .ok (.aload_n 0, 1) := by decide +kernel
theorem dX7_isWhole_1 : decode cX7_isWhole 1 = .ok (.getfield 21, 3) := by decide +kernel
theorem dX7_isWhole_4 : decode cX7_isWhole 4 = .ok (.iconst 2, 1) := by decide +kernel
theorem dX7_isWhole_5 : decode cX7_isWhole 5 = .ok (.iload_n 1, 1) := by decide +kernel
theorem dX7_isWhole_6 : decode cX7_isWhole 6 = .ok (.imul, 1) := by decide +kernel
theorem dX7_isWhole_7 : decode cX7_isWhole 7 = .ok (.iconst 1, 1) := by decide +kernel
theorem dX7_isWhole_8 : decode cX7_isWhole 8 = .ok (.iadd, 1) := by decide +kernel
theorem dX7_isWhole_9 : decode cX7_isWhole 9 = .ok (.iaload, 1) := by decide +kernel
theorem dX7_isWhole_10 : decode cX7_isWhole 10 = .ok (.iconst 1, 1) := by decide +kernel
theorem dX7_isWhole_11 : decode cX7_isWhole 11 = .ok (.if_icmp .ne 25, 3) := by decide +kernel
theorem dX7_isWhole_14 : decode cX7_isWhole 14 = .ok (.aload_n 0, 1) := by decide +kernel
theorem dX7_isWhole_15 : decode cX7_isWhole 15 = .ok (.getfield 17, 3) := by decide +kernel
theorem dX7_isWhole_18 : decode cX7_isWhole 18 = .ok (.bipush 16, 2) := by decide +kernel
theorem dX7_isWhole_20 : decode cX7_isWhole 20 = .ok (.iconst 2, 1) := by decide +kernel
theorem dX7_isWhole_21 : decode cX7_isWhole 21 = .ok (.iload_n 1, 1) := by decide +kernel
theorem dX7_isWhole_22 : decode cX7_isWhole 22 = .ok (.imul, 1) := by decide +kernel
theorem dX7_isWhole_23 : decode cX7_isWhole 23 = .ok (.iconst 1, 1) := by decide +kernel
theorem dX7_isWhole_24 : decode cX7_isWhole 24 = .ok (.iadd, 1) := by decide +kernel
theorem dX7_isWhole_25 : decode cX7_isWhole 25 = .ok (.imul, 1) := by decide +kernel
theorem dX7_isWhole_26 : decode cX7_isWhole 26 = .ok (.laload, 1) := by decide +kernel
theorem dX7_isWhole_27 : decode cX7_isWhole 27 = .ok (.lconst 1, 1) := by decide +kernel
theorem dX7_isWhole_28 : decode cX7_isWhole 28 = .ok (.lcmp, 1) := by decide +kernel
theorem dX7_isWhole_29 : decode cX7_isWhole 29 = .ok (.ifCond .ne 7, 3) := by decide +kernel
theorem dX7_isWhole_32 : decode cX7_isWhole 32 = .ok (.iconst 1, 1) := by decide +kernel
theorem dX7_isWhole_33 : decode cX7_isWhole 33 = .ok (.goto 4, 3) := by decide +kernel
theorem dX7_isWhole_36 : decode cX7_isWhole 36 = .ok (.iconst 0, 1) := by decide +kernel
theorem dX7_isWhole_37 : decode cX7_isWhole 37 = .ok (.ireturn, 1) := by decide +kernel
theorem dX7_common_0 : decode cX7_common 0 = .ok (.aload_n 0, 1) := by decide +kernel
theorem dX7_common_1 : decode cX7_common 1 = .ok (.iconst 0, 1) := by decide +kernel
theorem dX7_common_2 : decode cX7_common 2 = .ok (.putfield 43, 3) := by decide +kernel
theorem dX7_common_5 : decode cX7_common 5 = .ok (.aload_n 0, 1) := by decide +kernel
theorem dX7_common_6 : decode cX7_common 6 = .ok (.iload_n 1, 1) := by decide +kernel
theorem dX7_common_7 : decode cX7_common 7 = .ok (.invokevirtual 109, 3) := by decide +kernel
theorem dX7_common_10 : decode cX7_common 10 = .ok (.ifCond .eq 11, 3) := by decide +kernel
theorem dX7_common_13 : decode cX7_common 13 = .ok (.aload_n 0, 1) := by decide +kernel
theorem dX7_common_14 : decode cX7_common 14 = .ok (.iload_n 2, 1) := by decide +kernel
theorem dX7_common_15 : decode cX7_common 15 = .ok (.invokevirtual 109, 3) := by decide +kernel
theorem dX7_common_18 : decode cX7_common 18 = .ok (.ifCond .ne 5, 3) := by decide +kernel
theorem dX7_common_21 : decode cX7_common 21 = .ok (.iconst (-1), 1) := by decide +kernel
theorem dX7_common_22 : decode cX7_common 22 = .ok (.ireturn, 1) := by decide +kernel
theorem dX7_common_23 : decode cX7_common 23 = .ok (.aload_n 0, 1) := by decide +kernel
theorem dX7_common_24 : decode cX7_common 24 = .ok (.iload_n 1, 1) := by decide +kernel
theorem dX7_common_25 : decode cX7_common 25 = .ok (.invokevirtual 138, 3) := by decide +kernel
theorem dX7_common_28 : decode cX7_common 28 = .ok (.ifCond .eq 11, 3) := by decide +kernel
theorem dX7_common_31 : decode cX7_common 31 = .ok (.aload_n 0, 1) := by decide +kernel
theorem dX7_common_32 : decode cX7_common 32 = .ok (.iload_n 2, 1) := by decide +kernel
theorem dX7_common_33 : decode cX7_common 33 = .ok (.invokevirtual 138, 3) := by decide +kernel
theorem dX7_common_36 : decode cX7_common 36 = .ok (.ifCond .ne 6, 3) := by decide +kernel
theorem dX7_common_39 : decode cX7_common 39 = .ok (.bipush (-2), 2) := by decide +kernel
theorem dX7_common_41 : decode cX7_common 41 = .ok (.ireturn, 1) := by decide +kernel
theorem dX7_common_42 : decode cX7_common 42 = .ok (.aload_n 0, 1) := by decide +kernel
theorem dX7_common_43 : decode cX7_common 43 = .ok (.invokevirtual 89, 3) := by decide +kernel
theorem dX7_common_46 : decode cX7_common 46 = .ok (.bipush (-3), 2) := by decide +kernel
theorem dX7_common_48 : decode cX7_common 48 = .ok (.if_icmp .ne 6, 3) := by decide +kernel
theorem dX7_common_51 : decode cX7_common 51 = .ok (.bipush (-3), 2) := by decide +kernel
theorem dX7_common_53 : decode cX7_common 53 = .ok (.ireturn, 1) := by decide +kernel
theorem dX7_common_54 : decode cX7_common 54 = .ok (.aload_n 0, 1) := by decide +kernel
theorem dX7_common_55 : decode cX7_common 55 = .ok (.iconst 2, 1) := by decide +kernel
theorem dX7_common_56 : decode cX7_common 56 = .ok (.iload_n 1, 1) := by decide +kernel
theorem dX7_common_57 : decode cX7_common 57 = .ok (.iconst 0, 1) := by decide +kernel
theorem dX7_common_58 : decode cX7_common 58 = .ok (.invokevirtual 112, 3) := by decide +kernel
theorem dX7_common_61 : decode cX7_common 61 = .ok (.aload_n 0, 1) := by decide +kernel
theorem dX7_common_62 : decode cX7_common 62 = .ok (.iconst 3, 1) := by decide +kernel
theorem dX7_common_63 : decode cX7_common 63 = .ok (.iload_n 2, 1) := by decide +kernel
theorem dX7_common_64 : decode cX7_common 64 = .ok (.iconst 0, 1) := by decide +kernel
theorem dX7_common_65 : decode cX7_common 65 = .ok (.invokevirtual 112, 3) := by decide +kernel
theorem dX7_common_68 : decode cX7_common 68 = .ok (.aload_n 0, 1) := by decide +kernel
theorem dX7_common_69 : decode cX7_common 69 = .ok (.iconst 2, 1) := by decide +kernel
theorem dX7_common_70 : decode cX7_common 70 = .ok (.iconst 3, 1) := by decide +kernel
theorem dX7_common_71 : decode cX7_common 71 = .ok (.invokevirtual 93, 3) := by decide +kernel
theorem dX7_common_74 : decode cX7_common 74 = .ok (.aload_n 0, 1) := by decide +kernel
theorem dX7_common_75 : decode cX7_common 75 = .ok (.iconst 2, 1) := by decide +kernel
theorem dX7_common_76 : decode cX7_common 76 = .ok (.iconst 1, 1) := by decide +kernel
theorem dX7_common_77 : decode cX7_common 77 = .ok (.invokevirtual 106, 3) := by decide +kernel
theorem dX7_common_80 : decode cX7_common 80 = .ok (.ireturn, 1) := by decide +kernel
theorem dX7_drop_0 : decode cX7_drop 0 = .ok (.aload_n 0, 1) := by decide +kernel
theorem dX7_drop_1 : decode cX7_drop 1 = .ok (.iconst 0, 1) := by decide +kernel
theorem dX7_drop_2 : decode cX7_drop 2 = .ok (.putfield 43, 3) := by decide +kernel
theorem dX7_drop_5 : decode cX7_drop 5 = .ok (.aload_n 0, 1) := by decide +kernel
theorem dX7_drop_6 : decode cX7_drop 6 = .ok (.iload_n 1, 1) := by decide +kernel
theorem dX7_drop_7 : decode cX7_drop 7 = .ok (.invokevirtual 109, 3) := by decide +kernel
theorem dX7_drop_10 : decode cX7_drop 10 = .ok (.ifCond .ne 5, 3) := by decide +kernel
theorem dX7_drop_13 : decode cX7_drop 13 = .ok (.iconst (-1), 1) := by decide +kernel
theorem dX7_drop_14 : decode cX7_drop 14 = .ok (.ireturn, 1) := by decide +kernel
theorem dX7_drop_15 : decode cX7_drop 15 = .ok (.aload_n 0, 1) := by decide +kernel
theorem dX7_drop_16 : decode cX7_drop 16 = .ok (.getfield 7, 3) := by decide +kernel
theorem dX7_drop_19 : decode cX7_drop 19 = .ok (.iload_n 1, 1) := by decide +kernel
theorem dX7_drop_20 : decode cX7_drop 20 = .ok (.iconst 0, 1) := by decide +kernel
theorem dX7_drop_21 : decode cX7_drop 21 = .ok (.bastore, 1) := by decide +kernel
theorem dX7_drop_22 : decode cX7_drop 22 = .ok (.aload_n 0, 1) := by decide +kernel
theorem dX7_drop_23 : decode cX7_drop 23 = .ok (.invokevirtual 141, 3) := by decide +kernel
theorem dX7_drop_26 : decode cX7_drop 26 = .ok (.ireturn, 1) := by decide +kernel
theorem dX7_many_0 : decode cX7_many 0 = .ok (.iconst 0, 1) := by decide +kernel
theorem dX7_many_1 : decode cX7_many 1 = .ok (.istore_n 1, 1) := by decide +kernel
theorem dX7_many_2 : decode cX7_many 2 = .ok (.iconst 0, 1) := by decide +kernel
theorem dX7_many_3 : decode cX7_many 3 = .ok (.istore_n 2, 1) := by decide +kernel
theorem dX7_many_4 : decode cX7_many 4 = .ok (.iload_n 2, 1) := by decide +kernel
theorem dX7_many_5 : decode cX7_many 5 = .ok (.bipush 24, 2) := by decide +kernel
theorem dX7_many_7 : decode cX7_many 7 = .ok (.if_icmp .ge 26, 3) := by decide +kernel
theorem dX7_many_10 : decode cX7_many 10 = .ok (.iload_n 1, 1) := by decide +kernel
theorem dX7_many_11 : decode cX7_many 11 = .ok (.aload_n 0, 1) := by decide +kernel
theorem dX7_many_12 : decode cX7_many 12 = .ok (.getfield 7, 3) := by decide +kernel
theorem dX7_many_15 : decode cX7_many 15 = .ok (.iload_n 2, 1) := by decide +kernel
theorem dX7_many_16 : decode cX7_many 16 = .ok (.baload, 1) := by decide +kernel
theorem dX7_many_17 : decode cX7_many 17 = .ok (.ifCond .eq 7, 3) := by decide +kernel
theorem dX7_many_20 : decode cX7_many 20 = .ok (.iconst 1, 1) := by decide +kernel
theorem dX7_many_21 : decode cX7_many 21 = .ok (.goto 4, 3) := by decide +kernel
theorem dX7_many_24 : decode cX7_many 24 = .ok (.iconst 0, 1) := by decide +kernel
theorem dX7_many_25 : decode cX7_many 25 = .ok (.iadd, 1) := by decide +kernel
theorem dX7_many_26 : decode cX7_many 26 = .ok (.istore_n 1, 1) := by decide +kernel
theorem dX7_many_27 : decode cX7_many 27 = .ok (.iinc 2 1, 3) := by decide +kernel
theorem dX7_many_30 : decode cX7_many 30 = .ok (.goto (-26), 3) := by decide +kernel
theorem dX7_many_33 : decode cX7_many 33 = .ok (.iload_n 1, 1) := by decide +kernel
theorem dX7_many_34 : decode cX7_many 34 = .ok (.ireturn, 1) := by decide +kernel
theorem dX7_count_0 : decode cX7_count 0 = .ok (.aload_n 0, 1) := by decide +kernel
theorem dX7_count_1 : decode cX7_count 1 = .ok (.iconst 0, 1) := by decide +kernel
theorem dX7_count_2 : decode cX7_count 2 = .ok (.putfield 43, 3) := by decide +kernel
theorem dX7_count_5 : decode cX7_count 5 = .ok (.aload_n 0, 1) := by decide +kernel
theorem dX7_count_6 : decode cX7_count 6 = .ok (.invokevirtual 141, 3) := by decide +kernel
theorem dX7_count_9 : decode cX7_count 9 = .ok (.ireturn, 1) := by decide +kernel
theorem dX7_compare_0 : decode cX7_compare 0 = .ok (.aload_n 0, 1) := by decide +kernel
theorem dX7_compare_1 : decode cX7_compare 1 = .ok (.iconst 0, 1) := by decide +kernel
theorem dX7_compare_2 : decode cX7_compare 2 = .ok (.putfield 43, 3) := by decide +kernel
theorem dX7_compare_5 : decode cX7_compare 5 = .ok (.aload_n 0, 1) := by decide +kernel
theorem dX7_compare_6 : decode cX7_compare 6 = .ok (.iload_n 1, 1) := by decide +kernel
theorem dX7_compare_7 : decode cX7_compare 7 = .ok (.invokevirtual 109, 3) := by decide +kernel
theorem dX7_compare_10 : decode cX7_compare 10 = .ok (.ifCond .eq 11, 3) := by decide +kernel
theorem dX7_compare_13 : decode cX7_compare 13 = .ok (.aload_n 0, 1) := by decide +kernel
theorem dX7_compare_14 : decode cX7_compare 14 = .ok (.iload_n 2, 1) := by decide +kernel
theorem dX7_compare_15 : decode cX7_compare 15 = .ok (.invokevirtual 109, 3) := by decide +kernel
theorem dX7_compare_18 : decode cX7_compare 18 = .ok (.ifCond .ne 5, 3) := by decide +kernel
theorem dX7_compare_21 : decode cX7_compare 21 = .ok (.iconst (-1), 1) := by decide +kernel
theorem dX7_compare_22 : decode cX7_compare 22 = .ok (.ireturn, 1) := by decide +kernel
theorem dX7_compare_23 : decode cX7_compare 23 = .ok (.aload_n 0, 1) := by decide +kernel
theorem dX7_compare_24 : decode cX7_compare 24 = .ok (.getfield 13, 3) := by decide +kernel
theorem dX7_compare_27 : decode cX7_compare 27 = .ok (.iload_n 1, 1) := by decide +kernel
theorem dX7_compare_28 : decode cX7_compare 28 = .ok (.iaload, 1) := by decide +kernel
theorem dX7_compare_29 : decode cX7_compare 29 = .ok (.aload_n 0, 1) := by decide +kernel
theorem dX7_compare_30 : decode cX7_compare 30 = .ok (.getfield 13, 3) := by decide +kernel
theorem dX7_compare_33 : decode cX7_compare 33 = .ok (.iload_n 2, 1) := by decide +kernel
theorem dX7_compare_34 : decode cX7_compare 34 = .ok (.iaload, 1) := by decide +kernel
theorem dX7_compare_35 : decode cX7_compare 35 = .ok (.if_icmp .eq 24, 3) := by decide +kernel
theorem dX7_compare_38 : decode cX7_compare 38 = .ok (.aload_n 0, 1) := by decide +kernel
theorem dX7_compare_39 : decode cX7_compare 39 = .ok (.getfield 13, 3) := by decide +kernel
theorem dX7_compare_42 : decode cX7_compare 42 = .ok (.iload_n 1, 1) := by decide +kernel
theorem dX7_compare_43 : decode cX7_compare 43 = .ok (.iaload, 1) := by decide +kernel
theorem dX7_compare_44 : decode cX7_compare 44 = .ok (.aload_n 0, 1) := by decide +kernel
theorem dX7_compare_45 : decode cX7_compare 45 = .ok (.getfield 13, 3) := by decide +kernel
theorem dX7_compare_48 : decode cX7_compare 48 = .ok (.iload_n 2, 1) := by decide +kernel
theorem dX7_compare_49 : decode cX7_compare 49 = .ok (.iaload, 1) := by decide +kernel
theorem dX7_compare_50 : decode cX7_compare 50 = .ok (.if_icmp .ge 7, 3) := by decide +kernel
theorem dX7_compare_53 : decode cX7_compare 53 = .ok (.iconst (-1), 1) := by decide +kernel
theorem dX7_compare_54 : decode cX7_compare 54 = .ok (.goto 4, 3) := by decide +kernel
theorem dX7_compare_57 : decode cX7_compare 57 = .ok (.iconst 1, 1) := by decide +kernel
theorem dX7_compare_58 : decode cX7_compare 58 = .ok (.ireturn, 1) := by decide +kernel
theorem dX7_compare_59 : decode cX7_compare 59 = .ok (.aload_n 0, 1) := by decide +kernel
theorem dX7_compare_60 : decode cX7_compare 60 = .ok (.iconst 2, 1) := by decide +kernel
theorem dX7_compare_61 : decode cX7_compare 61 = .ok (.iload_n 1, 1) := by decide +kernel
theorem dX7_compare_62 : decode cX7_compare 62 = .ok (.iconst 0, 1) := by decide +kernel
theorem dX7_compare_63 : decode cX7_compare 63 = .ok (.invokevirtual 112, 3) := by decide +kernel
theorem dX7_compare_66 : decode cX7_compare 66 = .ok (.aload_n 0, 1) := by decide +kernel
theorem dX7_compare_67 : decode cX7_compare 67 = .ok (.iconst 3, 1) := by decide +kernel
theorem dX7_compare_68 : decode cX7_compare 68 = .ok (.iload_n 2, 1) := by decide +kernel
theorem dX7_compare_69 : decode cX7_compare 69 = .ok (.iconst 1, 1) := by decide +kernel
theorem dX7_compare_70 : decode cX7_compare 70 = .ok (.invokevirtual 112, 3) := by decide +kernel
theorem dX7_compare_73 : decode cX7_compare 73 = .ok (.aload_n 0, 1) := by decide +kernel
theorem dX7_compare_74 : decode cX7_compare 74 = .ok (.iconst 4, 1) := by decide +kernel
theorem dX7_compare_75 : decode cX7_compare 75 = .ok (.iconst 2, 1) := by decide +kernel
theorem dX7_compare_76 : decode cX7_compare 76 = .ok (.iconst 3, 1) := by decide +kernel
theorem dX7_compare_77 : decode cX7_compare 77 = .ok (.invokevirtual 116, 3) := by decide +kernel
theorem dX7_compare_80 : decode cX7_compare 80 = .ok (.aload_n 0, 1) := by decide +kernel
theorem dX7_compare_81 : decode cX7_compare 81 = .ok (.iconst 2, 1) := by decide +kernel
theorem dX7_compare_82 : decode cX7_compare 82 = .ok (.iload_n 2, 1) := by decide +kernel
theorem dX7_compare_83 : decode cX7_compare 83 = .ok (.iconst 0, 1) := by decide +kernel
theorem dX7_compare_84 : decode cX7_compare 84 = .ok (.invokevirtual 112, 3) := by decide +kernel
theorem dX7_compare_87 : decode cX7_compare 87 = .ok (.aload_n 0, 1) := by decide +kernel
theorem dX7_compare_88 : decode cX7_compare 88 = .ok (.iconst 3, 1) := by decide +kernel
theorem dX7_compare_89 : decode cX7_compare 89 = .ok (.iload_n 1, 1) := by decide +kernel
theorem dX7_compare_90 : decode cX7_compare 90 = .ok (.iconst 1, 1) := by decide +kernel
theorem dX7_compare_91 : decode cX7_compare 91 = .ok (.invokevirtual 112, 3) := by decide +kernel
theorem dX7_compare_94 : decode cX7_compare 94 = .ok (.aload_n 0, 1) := by decide +kernel
theorem dX7_compare_95 : decode cX7_compare 95 = .ok (.iconst 5, 1) := by decide +kernel
theorem dX7_compare_96 : decode cX7_compare 96 = .ok (.iconst 2, 1) := by decide +kernel
theorem dX7_compare_97 : decode cX7_compare 97 = .ok (.iconst 3, 1) := by decide +kernel
theorem dX7_compare_98 : decode cX7_compare 98 = .ok (.invokevirtual 116, 3) := by decide +kernel
theorem dX7_compare_101 : decode cX7_compare 101 = .ok (.aload_n 0, 1) := by decide +kernel
theorem dX7_compare_102 : decode cX7_compare 102 = .ok (.iconst 4, 1) := by decide +kernel
theorem dX7_compare_103 : decode cX7_compare 103 = .ok (.iconst 5, 1) := by decide +kernel
theorem dX7_compare_104 : decode cX7_compare 104 = .ok (.invokevirtual 58, 3) := by decide +kernel
theorem dX7_compare_107 : decode cX7_compare 107 = .ok (.aload_n 0, 1) := by decide +kernel
theorem dX7_compare_108 : decode cX7_compare 108 = .ok (.getfield 13, 3) := by decide +kernel
theorem dX7_compare_111 : decode cX7_compare 111 = .ok (.iload_n 1, 1) := by decide +kernel
theorem dX7_compare_112 : decode cX7_compare 112 = .ok (.iaload, 1) := by decide +kernel
theorem dX7_compare_113 : decode cX7_compare 113 = .ok (.ifCond .ge 7, 3) := by decide +kernel
theorem dX7_compare_116 : decode cX7_compare 116 = .ok (.iconst (-1), 1) := by decide +kernel
theorem dX7_compare_117 : decode cX7_compare 117 = .ok (.goto 4, 3) := by decide +kernel
theorem dX7_compare_120 : decode cX7_compare 120 = .ok (.iconst 1, 1) := by decide +kernel
theorem dX7_compare_121 : decode cX7_compare 121 = .ok (.imul, 1) := by decide +kernel
theorem dX7_compare_122 : decode cX7_compare 122 = .ok (.ireturn, 1) := by decide +kernel
theorem dX7_of_0 : decode cX7_of 0 = .ok (.aload_n 0, 1) := by decide +kernel
theorem dX7_of_1 : decode cX7_of 1 = .ok (.iconst 0, 1) := by decide +kernel
theorem dX7_of_2 : decode cX7_of 2 = .ok (.putfield 43, 3) := by decide +kernel
theorem dX7_of_5 : decode cX7_of 5 = .ok (.aload_n 0, 1) := by decide +kernel
theorem dX7_of_6 : decode cX7_of 6 = .ok (.iload_n 1, 1) := by decide +kernel
theorem dX7_of_7 : decode cX7_of 7 = .ok (.invokevirtual 109, 3) := by decide +kernel
theorem dX7_of_10 : decode cX7_of 10 = .ok (.ifCond .eq 15, 3) := by decide +kernel
theorem dX7_of_13 : decode cX7_of 13 = .ok (.iload_n 2, 1) := by decide +kernel
theorem dX7_of_14 : decode cX7_of 14 = .ok (.i2l, 1) := by decide +kernel
theorem dX7_of_15 : decode cX7_of 15 = .ok (.lconst 0, 1) := by decide +kernel
theorem dX7_of_16 : decode cX7_of 16 = .ok (.ldc2_w 125, 3) := by decide +kernel
theorem dX7_of_19 : decode cX7_of 19 = .ok (.invokestatic 81, 3) := by decide +kernel
theorem dX7_of_22 : decode cX7_of 22 = .ok (.ifCond .ne 5, 3) := by decide +kernel
theorem dX7_of_25 : decode cX7_of 25 = .ok (.iconst (-1), 1) := by decide +kernel
theorem dX7_of_26 : decode cX7_of 26 = .ok (.ireturn, 1) := by decide +kernel
theorem dX7_of_27 : decode cX7_of 27 = .ok (.iload_n 2, 1) := by decide +kernel
theorem dX7_of_28 : decode cX7_of 28 = .ok (.iconst 2, 1) := by decide +kernel
theorem dX7_of_29 : decode cX7_of 29 = .ok (.if_icmp .ge 30, 3) := by decide +kernel
theorem dX7_of_32 : decode cX7_of 32 = .ok (.iload_n 2, 1) := by decide +kernel
theorem dX7_of_33 : decode cX7_of 33 = .ok (.ifCond .ne 12, 3) := by decide +kernel
theorem dX7_of_36 : decode cX7_of 36 = .ok (.aload_n 0, 1) := by decide +kernel
theorem dX7_of_37 : decode cX7_of 37 = .ok (.getfield 13, 3) := by decide +kernel
theorem dX7_of_40 : decode cX7_of 40 = .ok (.iload_n 1, 1) := by decide +kernel
theorem dX7_of_41 : decode cX7_of 41 = .ok (.iaload, 1) := by decide +kernel
theorem dX7_of_42 : decode cX7_of 42 = .ok (.goto 16, 3) := by decide +kernel
theorem dX7_of_45 : decode cX7_of 45 = .ok (.aload_n 0, 1) := by decide +kernel
theorem dX7_of_46 : decode cX7_of 46 = .ok (.iload_n 1, 1) := by decide +kernel
theorem dX7_of_47 : decode cX7_of 47 = .ok (.invokevirtual 138, 3) := by decide +kernel
theorem dX7_of_50 : decode cX7_of 50 = .ok (.ifCond .eq 7, 3) := by decide +kernel
theorem dX7_of_53 : decode cX7_of 53 = .ok (.iconst 1, 1) := by decide +kernel
theorem dX7_of_54 : decode cX7_of 54 = .ok (.goto 4, 3) := by decide +kernel
theorem dX7_of_57 : decode cX7_of 57 = .ok (.iconst 0, 1) := by decide +kernel
theorem dX7_of_58 : decode cX7_of 58 = .ok (.ireturn, 1) := by decide +kernel
theorem dX7_of_59 : decode cX7_of 59 = .ok (.aload_n 0, 1) := by decide +kernel
theorem dX7_of_60 : decode cX7_of 60 = .ok (.iconst 2, 1) := by decide +kernel
theorem dX7_of_61 : decode cX7_of 61 = .ok (.iload_n 1, 1) := by decide +kernel
theorem dX7_of_62 : decode cX7_of 62 = .ok (.iload_n 2, 1) := by decide +kernel
theorem dX7_of_63 : decode cX7_of 63 = .ok (.iconst 2, 1) := by decide +kernel
theorem dX7_of_64 : decode cX7_of 64 = .ok (.isub, 1) := by decide +kernel
theorem dX7_of_65 : decode cX7_of 65 = .ok (.invokevirtual 112, 3) := by decide +kernel
theorem dX7_of_68 : decode cX7_of 68 = .ok (.aload_n 0, 1) := by decide +kernel
theorem dX7_of_69 : decode cX7_of 69 = .ok (.iconst 2, 1) := by decide +kernel
theorem dX7_of_70 : decode cX7_of 70 = .ok (.invokevirtual 85, 3) := by decide +kernel
theorem dX7_of_73 : decode cX7_of 73 = .ok (.ireturn, 1) := by decide +kernel
theorem dX7_limb_0 : decode cX7_limb 0 = .ok (.aload_n 0, 1) := by decide +kernel
theorem dX7_limb_1 : decode cX7_limb 1 = .ok (.iconst 0, 1) := by decide +kernel
theorem dX7_limb_2 : decode cX7_limb 2 = .ok (.putfield 43, 3) := by decide +kernel
theorem dX7_limb_5 : decode cX7_limb 5 = .ok (.aload_n 0, 1) := by decide +kernel
theorem dX7_limb_6 : decode cX7_limb 6 = .ok (.iload_n 1, 1) := by decide +kernel
theorem dX7_limb_7 : decode cX7_limb 7 = .ok (.invokevirtual 109, 3) := by decide +kernel
theorem dX7_limb_10 : decode cX7_limb 10 = .ok (.ifCond .eq 13, 3) := by decide +kernel
theorem dX7_limb_13 : decode cX7_limb 13 = .ok (.iload_n 2, 1) := by decide +kernel
theorem dX7_limb_14 : decode cX7_limb 14 = .ok (.i2l, 1) := by decide +kernel
theorem dX7_limb_15 : decode cX7_limb 15 = .ok (.lconst 0, 1) := by decide +kernel
theorem dX7_limb_16 : decode cX7_limb 16 = .ok (.lconst 1, 1) := by decide +kernel
theorem dX7_limb_17 : decode cX7_limb 17 = .ok (.invokestatic 81, 3) := by decide +kernel
theorem dX7_limb_20 : decode cX7_limb 20 = .ok (.ifCond .ne 5, 3) := by decide +kernel
theorem dX7_limb_23 : decode cX7_limb 23 = .ok (.iconst (-1), 1) := by decide +kernel
theorem dX7_limb_24 : decode cX7_limb 24 = .ok (.ireturn, 1) := by decide +kernel
theorem dX7_limb_25 : decode cX7_limb 25 = .ok (.iload_n 3, 1) := by decide +kernel
theorem dX7_limb_26 : decode cX7_limb 26 = .ok (.i2l, 1) := by decide +kernel
theorem dX7_limb_27 : decode cX7_limb 27 = .ok (.lconst 0, 1) := by decide +kernel
theorem dX7_limb_28 : decode cX7_limb 28 = .ok (.aload_n 0, 1) := by decide +kernel
theorem dX7_limb_29 : decode cX7_limb 29 = .ok (.getfield 21, 3) := by decide +kernel
theorem dX7_limb_32 : decode cX7_limb 32 = .ok (.iconst 2, 1) := by decide +kernel
theorem dX7_limb_33 : decode cX7_limb 33 = .ok (.iload_n 1, 1) := by decide +kernel
theorem dX7_limb_34 : decode cX7_limb 34 = .ok (.imul, 1) := by decide +kernel
theorem dX7_limb_35 : decode cX7_limb 35 = .ok (.iload_n 2, 1) := by decide +kernel
theorem dX7_limb_36 : decode cX7_limb 36 = .ok (.iadd, 1) := by decide +kernel
theorem dX7_limb_37 : decode cX7_limb 37 = .ok (.iaload, 1) := by decide +kernel
theorem dX7_limb_38 : decode cX7_limb 38 = .ok (.iconst 1, 1) := by decide +kernel
theorem dX7_limb_39 : decode cX7_limb 39 = .ok (.isub, 1) := by decide +kernel
theorem dX7_limb_40 : decode cX7_limb 40 = .ok (.i2l, 1) := by decide +kernel
theorem dX7_limb_41 : decode cX7_limb 41 = .ok (.invokestatic 81, 3) := by decide +kernel
theorem dX7_limb_44 : decode cX7_limb 44 = .ok (.ifCond .ne 10, 3) := by decide +kernel
theorem dX7_limb_47 : decode cX7_limb 47 = .ok (.aload_n 0, 1) := by decide +kernel
theorem dX7_limb_48 : decode cX7_limb 48 = .ok (.iconst 1, 1) := by decide +kernel
theorem dX7_limb_49 : decode cX7_limb 49 = .ok (.putfield 43, 3) := by decide +kernel
theorem dX7_limb_52 : decode cX7_limb 52 = .ok (.iconst 0, 1) := by decide +kernel
theorem dX7_limb_53 : decode cX7_limb 53 = .ok (.ireturn, 1) := by decide +kernel
theorem dX7_limb_54 : decode cX7_limb 54 = .ok (.aload_n 0, 1) := by decide +kernel
theorem dX7_limb_55 : decode cX7_limb 55 = .ok (.getfield 17, 3) := by decide +kernel
theorem dX7_limb_58 : decode cX7_limb 58 = .ok (.bipush 16, 2) := by decide +kernel
theorem dX7_limb_60 : decode cX7_limb 60 = .ok (.iconst 2, 1) := by decide +kernel
theorem dX7_limb_61 : decode cX7_limb 61 = .ok (.iload_n 1, 1) := by decide +kernel
theorem dX7_limb_62 : decode cX7_limb 62 = .ok (.imul, 1) := by decide +kernel
theorem dX7_limb_63 : decode cX7_limb 63 = .ok (.iload_n 2, 1) := by decide +kernel
theorem dX7_limb_64 : decode cX7_limb 64 = .ok (.iadd, 1) := by decide +kernel
theorem dX7_limb_65 : decode cX7_limb 65 = .ok (.imul, 1) := by decide +kernel
theorem dX7_limb_66 : decode cX7_limb 66 = .ok (.iload_n 3, 1) := by decide +kernel
theorem dX7_limb_67 : decode cX7_limb 67 = .ok (.iadd, 1) := by decide +kernel
theorem dX7_limb_68 : decode cX7_limb 68 = .ok (.laload, 1) := by decide +kernel
theorem dX7_limb_69 : decode cX7_limb 69 = .ok (.l2i, 1) := by decide +kernel
theorem dX7_limb_70 : decode cX7_limb 70 = .ok (.ireturn, 1) := by decide +kernel
theorem dX7_nextTerm_0 : decode cX7_nextTerm 0 = .ok (.aload_n 0, 1) := by decide +kernel
theorem dX7_nextTerm_1 : decode cX7_nextTerm 1 = .ok (.bipush 10, 2) := by decide +kernel
theorem dX7_nextTerm_3 : decode cX7_nextTerm 3 = .ok (.bipush 13, 2) := by decide +kernel
theorem dX7_nextTerm_5 : decode cX7_nextTerm 5 = .ok (.bipush 11, 2) := by decide +kernel
theorem dX7_nextTerm_7 : decode cX7_nextTerm 7 = .ok (.bipush 12, 2) := by decide +kernel
theorem dX7_nextTerm_9 : decode cX7_nextTerm 9 = .ok (.invokevirtual 96, 3) := by decide +kernel
theorem dX7_nextTerm_12 : decode cX7_nextTerm 12 = .ok (.aload_n 0, 1) := by decide +kernel
theorem dX7_nextTerm_13 : decode cX7_nextTerm 13 = .ok (.bipush 11, 2) := by decide +kernel
theorem dX7_nextTerm_15 : decode cX7_nextTerm 15 = .ok (.bipush 12, 2) := by decide +kernel
theorem dX7_nextTerm_17 : decode cX7_nextTerm 17 = .ok (.invokevirtual 66, 3) := by decide +kernel
theorem dX7_nextTerm_20 : decode cX7_nextTerm 20 = .ok (.aload_n 0, 1) := by decide +kernel
theorem dX7_nextTerm_21 : decode cX7_nextTerm 21 = .ok (.bipush 12, 2) := by decide +kernel
theorem dX7_nextTerm_23 : decode cX7_nextTerm 23 = .ok (.bipush 13, 2) := by decide +kernel
theorem dX7_nextTerm_25 : decode cX7_nextTerm 25 = .ok (.invokevirtual 66, 3) := by decide +kernel
theorem dX7_nextTerm_28 : decode cX7_nextTerm 28 = .ok (.return_, 1) := by decide +kernel
theorem dX7_terms_0 : decode cX7_terms 0 = .ok (.aload_n 0, 1) := by decide +kernel
theorem dX7_terms_1 : decode cX7_terms 1 = .ok (.iconst 0, 1) := by decide +kernel
theorem dX7_terms_2 : decode cX7_terms 2 = .ok (.putfield 43, 3) := by decide +kernel
theorem dX7_terms_5 : decode cX7_terms 5 = .ok (.aload_n 0, 1) := by decide +kernel
theorem dX7_terms_6 : decode cX7_terms 6 = .ok (.iload_n 1, 1) := by decide +kernel
theorem dX7_terms_7 : decode cX7_terms 7 = .ok (.invokevirtual 109, 3) := by decide +kernel
theorem dX7_terms_10 : decode cX7_terms 10 = .ok (.ifCond .ne 5, 3) := by decide +kernel
theorem dX7_terms_13 : decode cX7_terms 13 = .ok (.iconst (-1), 1) := by decide +kernel
theorem dX7_terms_14 : decode cX7_terms 14 = .ok (.ireturn, 1) := by decide +kernel
theorem dX7_terms_15 : decode cX7_terms 15 = .ok (.aload_n 0, 1) := by decide +kernel
theorem dX7_terms_16 : decode cX7_terms 16 = .ok (.iload_n 1, 1) := by decide +kernel
theorem dX7_terms_17 : decode cX7_terms 17 = .ok (.invokevirtual 135, 3) := by decide +kernel
theorem dX7_terms_20 : decode cX7_terms 20 = .ok (.istore_n 2, 1) := by decide +kernel
theorem dX7_terms_21 : decode cX7_terms 21 = .ok (.iconst 1, 1) := by decide +kernel
theorem dX7_terms_22 : decode cX7_terms 22 = .ok (.istore_n 3, 1) := by decide +kernel
theorem dX7_terms_23 : decode cX7_terms 23 = .ok (.aload_n 0, 1) := by decide +kernel
theorem dX7_terms_24 : decode cX7_terms 24 = .ok (.getfield 33, 3) := by decide +kernel
theorem dX7_terms_27 : decode cX7_terms 27 = .ok (.bipush 12, 2) := by decide +kernel
theorem dX7_terms_29 : decode cX7_terms 29 = .ok (.iaload, 1) := by decide +kernel
theorem dX7_terms_30 : decode cX7_terms 30 = .ok (.ifCond .le 13, 3) := by decide +kernel
theorem dX7_terms_33 : decode cX7_terms 33 = .ok (.aload_n 0, 1) := by decide +kernel
theorem dX7_terms_34 : decode cX7_terms 34 = .ok (.invokevirtual 144, 3) := by decide +kernel
theorem dX7_terms_37 : decode cX7_terms 37 = .ok (.iinc 3 1, 3) := by decide +kernel
theorem dX7_terms_40 : decode cX7_terms 40 = .ok (.goto (-17), 3) := by decide +kernel
theorem dX7_terms_43 : decode cX7_terms 43 = .ok (.iload_n 2, 1) := by decide +kernel
theorem dX7_terms_44 : decode cX7_terms 44 = .ok (.ifCond .ne 7, 3) := by decide +kernel
theorem dX7_terms_47 : decode cX7_terms 47 = .ok (.iconst (-1), 1) := by decide +kernel
theorem dX7_terms_48 : decode cX7_terms 48 = .ok (.goto 4, 3) := by decide +kernel
theorem dX7_terms_51 : decode cX7_terms 51 = .ok (.iload_n 3, 1) := by decide +kernel
theorem dX7_terms_52 : decode cX7_terms 52 = .ok (.ireturn, 1) := by decide +kernel
theorem dX7_term_0 : decode cX7_term 0 = .ok (.aload_n 0, 1) := by decide +kernel
theorem dX7_term_1 : decode cX7_term 1 = .ok (.iconst 0, 1) := by decide +kernel
theorem dX7_term_2 : decode cX7_term 2 = .ok (.putfield 43, 3) := by decide +kernel
theorem dX7_term_5 : decode cX7_term 5 = .ok (.aload_n 0, 1) := by decide +kernel
theorem dX7_term_6 : decode cX7_term 6 = .ok (.iload_n 1, 1) := by decide +kernel
theorem dX7_term_7 : decode cX7_term 7 = .ok (.invokevirtual 109, 3) := by decide +kernel
theorem dX7_term_10 : decode cX7_term 10 = .ok (.ifCond .eq 7, 3) := by decide +kernel
theorem dX7_term_13 : decode cX7_term 13 = .ok (.iload_n 2, 1) := by decide +kernel
theorem dX7_term_14 : decode cX7_term 14 = .ok (.ifCond .ge 5, 3) := by decide +kernel
theorem dX7_term_17 : decode cX7_term 17 = .ok (.iconst (-1), 1) := by decide +kernel
theorem dX7_term_18 : decode cX7_term 18 = .ok (.ireturn, 1) := by decide +kernel
theorem dX7_term_19 : decode cX7_term 19 = .ok (.aload_n 0, 1) := by decide +kernel
theorem dX7_term_20 : decode cX7_term 20 = .ok (.iload_n 1, 1) := by decide +kernel
theorem dX7_term_21 : decode cX7_term 21 = .ok (.invokevirtual 135, 3) := by decide +kernel
theorem dX7_term_24 : decode cX7_term 24 = .ok (.istore_n 3, 1) := by decide +kernel
theorem dX7_term_25 : decode cX7_term 25 = .ok (.iconst 0, 1) := by decide +kernel
theorem dX7_term_26 : decode cX7_term 26 = .ok (.istore 4, 2) := by decide +kernel
theorem dX7_term_28 : decode cX7_term 28 = .ok (.iload 4, 2) := by decide +kernel
theorem dX7_term_30 : decode cX7_term 30 = .ok (.iload_n 2, 1) := by decide +kernel
theorem dX7_term_31 : decode cX7_term 31 = .ok (.if_icmp .ge 27, 3) := by decide +kernel
theorem dX7_term_34 : decode cX7_term 34 = .ok (.aload_n 0, 1) := by decide +kernel
theorem dX7_term_35 : decode cX7_term 35 = .ok (.getfield 33, 3) := by decide +kernel
theorem dX7_term_38 : decode cX7_term 38 = .ok (.bipush 12, 2) := by decide +kernel
theorem dX7_term_40 : decode cX7_term 40 = .ok (.iaload, 1) := by decide +kernel
theorem dX7_term_41 : decode cX7_term 41 = .ok (.ifCond .ne 5, 3) := by decide +kernel
theorem dX7_term_44 : decode cX7_term 44 = .ok (.iconst (-1), 1) := by decide +kernel
theorem dX7_term_45 : decode cX7_term 45 = .ok (.ireturn, 1) := by decide +kernel
theorem dX7_term_46 : decode cX7_term 46 = .ok (.aload_n 0, 1) := by decide +kernel
theorem dX7_term_47 : decode cX7_term 47 = .ok (.invokevirtual 144, 3) := by decide +kernel
theorem dX7_term_50 : decode cX7_term 50 = .ok (.iconst 1, 1) := by decide +kernel
theorem dX7_term_51 : decode cX7_term 51 = .ok (.istore_n 3, 1) := by decide +kernel
theorem dX7_term_52 : decode cX7_term 52 = .ok (.iinc 4 1, 3) := by decide +kernel
theorem dX7_term_55 : decode cX7_term 55 = .ok (.goto (-27), 3) := by decide +kernel
theorem dX7_term_58 : decode cX7_term 58 = .ok (.aload_n 0, 1) := by decide +kernel
theorem dX7_term_59 : decode cX7_term 59 = .ok (.invokevirtual 89, 3) := by decide +kernel
theorem dX7_term_62 : decode cX7_term 62 = .ok (.bipush (-3), 2) := by decide +kernel
theorem dX7_term_64 : decode cX7_term 64 = .ok (.if_icmp .ne 8, 3) := by decide +kernel
theorem dX7_term_67 : decode cX7_term 67 = .ok (.bipush (-3), 2) := by decide +kernel
theorem dX7_term_69 : decode cX7_term 69 = .ok (.goto 10, 3) := by decide +kernel
theorem dX7_term_72 : decode cX7_term 72 = .ok (.aload_n 0, 1) := by decide +kernel
theorem dX7_term_73 : decode cX7_term 73 = .ok (.bipush 10, 2) := by decide +kernel
theorem dX7_term_75 : decode cX7_term 75 = .ok (.iload_n 3, 1) := by decide +kernel
theorem dX7_term_76 : decode cX7_term 76 = .ok (.invokevirtual 106, 3) := by decide +kernel
theorem dX7_term_79 : decode cX7_term 79 = .ok (.ireturn, 1) := by decide +kernel
theorem dX7_keepMixed_0 : decode cX7_keepMixed 0 = .ok (.aload_n 0, 1) := by decide +kernel
theorem dX7_keepMixed_1 : decode cX7_keepMixed 1 = .ok (.iconst 0, 1) := by decide +kernel
theorem dX7_keepMixed_2 : decode cX7_keepMixed 2 = .ok (.bipush 15, 2) := by decide +kernel
theorem dX7_keepMixed_4 : decode cX7_keepMixed 4 = .ok (.iconst 3, 1) := by decide +kernel
theorem dX7_keepMixed_5 : decode cX7_keepMixed 5 = .ok (.invokevirtual 116, 3) := by decide +kernel
theorem dX7_keepMixed_8 : decode cX7_keepMixed 8 = .ok (.aload_n 0, 1) := by decide +kernel
theorem dX7_keepMixed_9 : decode cX7_keepMixed 9 = .ok (.iconst 1, 1) := by decide +kernel
theorem dX7_keepMixed_10 : decode cX7_keepMixed 10 = .ok (.iconst 3, 1) := by decide +kernel
theorem dX7_keepMixed_11 : decode cX7_keepMixed 11 = .ok (.invokevirtual 66, 3) := by decide +kernel
theorem dX7_keepMixed_14 : decode cX7_keepMixed 14 = .ok (.iload_n 1, 1) := by decide +kernel
theorem dX7_keepMixed_15 : decode cX7_keepMixed 15 = .ok (.istore_n 2, 1) := by decide +kernel
theorem dX7_keepMixed_16 : decode cX7_keepMixed 16 = .ok (.iload_n 1, 1) := by decide +kernel
theorem dX7_keepMixed_17 : decode cX7_keepMixed 17 = .ok (.ifCond .ge 22, 3) := by decide +kernel
theorem dX7_keepMixed_20 : decode cX7_keepMixed 20 = .ok (.aload_n 0, 1) := by decide +kernel
theorem dX7_keepMixed_21 : decode cX7_keepMixed 21 = .ok (.getfield 33, 3) := by decide +kernel
theorem dX7_keepMixed_24 : decode cX7_keepMixed 24 = .ok (.bipush 15, 2) := by decide +kernel
theorem dX7_keepMixed_26 : decode cX7_keepMixed 26 = .ok (.iaload, 1) := by decide +kernel
theorem dX7_keepMixed_27 : decode cX7_keepMixed 27 = .ok (.ifCond .le 12, 3) := by decide +kernel
theorem dX7_keepMixed_30 : decode cX7_keepMixed 30 = .ok (.aload_n 0, 1) := by decide +kernel
theorem dX7_keepMixed_31 : decode cX7_keepMixed 31 = .ok (.iconst 0, 1) := by decide +kernel
theorem dX7_keepMixed_32 : decode cX7_keepMixed 32 = .ok (.iconst 2, 1) := by decide +kernel
theorem dX7_keepMixed_33 : decode cX7_keepMixed 33 = .ok (.invokevirtual 62, 3) := by decide +kernel
theorem dX7_keepMixed_36 : decode cX7_keepMixed 36 = .ok (.goto 11, 3) := by decide +kernel
theorem dX7_keepMixed_39 : decode cX7_keepMixed 39 = .ok (.aload_n 0, 1) := by decide +kernel
theorem dX7_keepMixed_40 : decode cX7_keepMixed 40 = .ok (.iconst 0, 1) := by decide +kernel
theorem dX7_keepMixed_41 : decode cX7_keepMixed 41 = .ok (.iconst 2, 1) := by decide +kernel
theorem dX7_keepMixed_42 : decode cX7_keepMixed 42 = .ok (.invokevirtual 122, 3) := by decide +kernel
theorem dX7_keepMixed_45 : decode cX7_keepMixed 45 = .ok (.iconst 1, 1) := by decide +kernel
theorem dX7_keepMixed_46 : decode cX7_keepMixed 46 = .ok (.istore_n 2, 1) := by decide +kernel
theorem dX7_keepMixed_47 : decode cX7_keepMixed 47 = .ok (.aload_n 0, 1) := by decide +kernel
theorem dX7_keepMixed_48 : decode cX7_keepMixed 48 = .ok (.iload_n 2, 1) := by decide +kernel
theorem dX7_keepMixed_49 : decode cX7_keepMixed 49 = .ok (.invokevirtual 100, 3) := by decide +kernel
theorem dX7_keepMixed_52 : decode cX7_keepMixed 52 = .ok (.ireturn, 1) := by decide +kernel
theorem dX7_part_0 : decode cX7_part 0 = .ok (.aload_n 0, 1) := by decide +kernel
theorem dX7_part_1 : decode cX7_part 1 = .ok (.iconst 0, 1) := by decide +kernel
theorem dX7_part_2 : decode cX7_part 2 = .ok (.putfield 43, 3) := by decide +kernel
theorem dX7_part_5 : decode cX7_part 5 = .ok (.aload_n 0, 1) := by decide +kernel
theorem dX7_part_6 : decode cX7_part 6 = .ok (.iload_n 1, 1) := by decide +kernel
theorem dX7_part_7 : decode cX7_part 7 = .ok (.invokevirtual 109, 3) := by decide +kernel
theorem dX7_part_10 : decode cX7_part 10 = .ok (.ifCond .eq 8, 3) := by decide +kernel
theorem dX7_part_13 : decode cX7_part 13 = .ok (.iload_n 2, 1) := by decide +kernel
theorem dX7_part_14 : decode cX7_part 14 = .ok (.iconst 1, 1) := by decide +kernel
theorem dX7_part_15 : decode cX7_part 15 = .ok (.if_icmp .ge 5, 3) := by decide +kernel
theorem dX7_part_18 : decode cX7_part 18 = .ok (.iconst (-1), 1) := by decide +kernel
theorem dX7_part_19 : decode cX7_part 19 = .ok (.ireturn, 1) := by decide +kernel
theorem dX7_part_20 : decode cX7_part 20 = .ok (.aload_n 0, 1) := by decide +kernel
theorem dX7_part_21 : decode cX7_part 21 = .ok (.iload_n 1, 1) := by decide +kernel
theorem dX7_part_22 : decode cX7_part 22 = .ok (.invokevirtual 135, 3) := by decide +kernel
theorem dX7_part_25 : decode cX7_part 25 = .ok (.istore_n 3, 1) := by decide +kernel
theorem dX7_part_26 : decode cX7_part 26 = .ok (.aload_n 0, 1) := by decide +kernel
theorem dX7_part_27 : decode cX7_part 27 = .ok (.bipush 15, 2) := by decide +kernel
theorem dX7_part_29 : decode cX7_part 29 = .ok (.bipush 10, 2) := by decide +kernel
theorem dX7_part_31 : decode cX7_part 31 = .ok (.invokevirtual 66, 3) := by decide +kernel
theorem dX7_part_34 : decode cX7_part 34 = .ok (.aload_n 0, 1) := by decide +kernel
theorem dX7_part_35 : decode cX7_part 35 = .ok (.iconst 2, 1) := by decide +kernel
theorem dX7_part_36 : decode cX7_part 36 = .ok (.lconst 0, 1) := by decide +kernel
theorem dX7_part_37 : decode cX7_part 37 = .ok (.invokevirtual 103, 3) := by decide +kernel
theorem dX7_part_40 : decode cX7_part 40 = .ok (.aload_n 0, 1) := by decide +kernel
theorem dX7_part_41 : decode cX7_part 41 = .ok (.iconst 3, 1) := by decide +kernel
theorem dX7_part_42 : decode cX7_part 42 = .ok (.lconst 1, 1) := by decide +kernel
theorem dX7_part_43 : decode cX7_part 43 = .ok (.invokevirtual 103, 3) := by decide +kernel
theorem dX7_part_46 : decode cX7_part 46 = .ok (.aload_n 0, 1) := by decide +kernel
theorem dX7_part_47 : decode cX7_part 47 = .ok (.iconst 4, 1) := by decide +kernel
theorem dX7_part_48 : decode cX7_part 48 = .ok (.lconst 1, 1) := by decide +kernel
theorem dX7_part_49 : decode cX7_part 49 = .ok (.invokevirtual 103, 3) := by decide +kernel
theorem dX7_part_52 : decode cX7_part 52 = .ok (.aload_n 0, 1) := by decide +kernel
theorem dX7_part_53 : decode cX7_part 53 = .ok (.iconst 5, 1) := by decide +kernel
theorem dX7_part_54 : decode cX7_part 54 = .ok (.lconst 0, 1) := by decide +kernel
theorem dX7_part_55 : decode cX7_part 55 = .ok (.invokevirtual 103, 3) := by decide +kernel
theorem dX7_part_58 : decode cX7_part 58 = .ok (.iconst 1, 1) := by decide +kernel
theorem dX7_part_59 : decode cX7_part 59 = .ok (.istore 4, 2) := by decide +kernel
theorem dX7_part_61 : decode cX7_part 61 = .ok (.iload 4, 2) := by decide +kernel
theorem dX7_part_63 : decode cX7_part 63 = .ok (.iload_n 2, 1) := by decide +kernel
theorem dX7_part_64 : decode cX7_part 64 = .ok (.if_icmp .ge 37, 3) := by decide +kernel
theorem dX7_part_67 : decode cX7_part 67 = .ok (.aload_n 0, 1) := by decide +kernel
theorem dX7_part_68 : decode cX7_part 68 = .ok (.getfield 33, 3) := by decide +kernel
theorem dX7_part_71 : decode cX7_part 71 = .ok (.bipush 12, 2) := by decide +kernel
theorem dX7_part_73 : decode cX7_part 73 = .ok (.iaload, 1) := by decide +kernel
theorem dX7_part_74 : decode cX7_part 74 = .ok (.ifCond .ne 5, 3) := by decide +kernel
theorem dX7_part_77 : decode cX7_part 77 = .ok (.iconst (-1), 1) := by decide +kernel
theorem dX7_part_78 : decode cX7_part 78 = .ok (.ireturn, 1) := by decide +kernel
theorem dX7_part_79 : decode cX7_part 79 = .ok (.aload_n 0, 1) := by decide +kernel
theorem dX7_part_80 : decode cX7_part 80 = .ok (.invokevirtual 144, 3) := by decide +kernel
theorem dX7_part_83 : decode cX7_part 83 = .ok (.aload_n 0, 1) := by decide +kernel
theorem dX7_part_84 : decode cX7_part 84 = .ok (.iconst 2, 1) := by decide +kernel
theorem dX7_part_85 : decode cX7_part 85 = .ok (.iconst 4, 1) := by decide +kernel
theorem dX7_part_86 : decode cX7_part 86 = .ok (.invokevirtual 147, 3) := by decide +kernel
theorem dX7_part_89 : decode cX7_part 89 = .ok (.aload_n 0, 1) := by decide +kernel
theorem dX7_part_90 : decode cX7_part 90 = .ok (.iconst 3, 1) := by decide +kernel
theorem dX7_part_91 : decode cX7_part 91 = .ok (.iconst 5, 1) := by decide +kernel
theorem dX7_part_92 : decode cX7_part 92 = .ok (.invokevirtual 147, 3) := by decide +kernel
theorem dX7_part_95 : decode cX7_part 95 = .ok (.iinc 4 1, 3) := by decide +kernel
theorem dX7_part_98 : decode cX7_part 98 = .ok (.goto (-37), 3) := by decide +kernel
theorem dX7_part_101 : decode cX7_part 101 = .ok (.aload_n 0, 1) := by decide +kernel
theorem dX7_part_102 : decode cX7_part 102 = .ok (.invokevirtual 89, 3) := by decide +kernel
theorem dX7_part_105 : decode cX7_part 105 = .ok (.bipush (-3), 2) := by decide +kernel
theorem dX7_part_107 : decode cX7_part 107 = .ok (.if_icmp .ne 8, 3) := by decide +kernel
theorem dX7_part_110 : decode cX7_part 110 = .ok (.bipush (-3), 2) := by decide +kernel
theorem dX7_part_112 : decode cX7_part 112 = .ok (.goto 8, 3) := by decide +kernel
theorem dX7_part_115 : decode cX7_part 115 = .ok (.aload_n 0, 1) := by decide +kernel
theorem dX7_part_116 : decode cX7_part 116 = .ok (.iload_n 3, 1) := by decide +kernel
theorem dX7_part_117 : decode cX7_part 117 = .ok (.invokevirtual 150, 3) := by decide +kernel
theorem dX7_part_120 : decode cX7_part 120 = .ok (.ireturn, 1) := by decide +kernel
theorem dX7_step_0 : decode cX7_step 0 = .ok (.aload_n 0, 1) := by decide +kernel
theorem dX7_step_1 : decode cX7_step 1 = .ok (.bipush 6, 2) := by decide +kernel
theorem dX7_step_3 : decode cX7_step 3 = .ok (.iload_n 1, 1) := by decide +kernel
theorem dX7_step_4 : decode cX7_step 4 = .ok (.bipush 10, 2) := by decide +kernel
theorem dX7_step_6 : decode cX7_step 6 = .ok (.invokevirtual 116, 3) := by decide +kernel
theorem dX7_step_9 : decode cX7_step 9 = .ok (.aload_n 0, 1) := by decide +kernel
theorem dX7_step_10 : decode cX7_step 10 = .ok (.bipush 6, 2) := by decide +kernel
theorem dX7_step_12 : decode cX7_step 12 = .ok (.iload_n 2, 1) := by decide +kernel
theorem dX7_step_13 : decode cX7_step 13 = .ok (.invokevirtual 122, 3) := by decide +kernel
theorem dX7_step_16 : decode cX7_step 16 = .ok (.aload_n 0, 1) := by decide +kernel
theorem dX7_step_17 : decode cX7_step 17 = .ok (.iload_n 2, 1) := by decide +kernel
theorem dX7_step_18 : decode cX7_step 18 = .ok (.iload_n 1, 1) := by decide +kernel
theorem dX7_step_19 : decode cX7_step 19 = .ok (.invokevirtual 66, 3) := by decide +kernel
theorem dX7_step_22 : decode cX7_step 22 = .ok (.aload_n 0, 1) := by decide +kernel
theorem dX7_step_23 : decode cX7_step 23 = .ok (.iload_n 1, 1) := by decide +kernel
theorem dX7_step_24 : decode cX7_step 24 = .ok (.bipush 6, 2) := by decide +kernel
theorem dX7_step_26 : decode cX7_step 26 = .ok (.invokevirtual 66, 3) := by decide +kernel
theorem dX7_step_29 : decode cX7_step 29 = .ok (.return_, 1) := by decide +kernel
theorem dX7_asLong_0 : decode cX7_asLong 0 = .ok (.aload_n 0, 1) := by decide +kernel
theorem dX7_asLong_1 : decode cX7_asLong 1 = .ok (.getfield 33, 3) := by decide +kernel
theorem dX7_asLong_4 : decode cX7_asLong 4 = .ok (.iload_n 1, 1) := by decide +kernel
theorem dX7_asLong_5 : decode cX7_asLong 5 = .ok (.iaload, 1) := by decide +kernel
theorem dX7_asLong_6 : decode cX7_asLong 6 = .ok (.ifCond .ne 7, 3) := by decide +kernel
theorem dX7_asLong_9 : decode cX7_asLong 9 = .ok (.lconst 0, 1) := by decide +kernel
theorem dX7_asLong_10 : decode cX7_asLong 10 = .ok (.goto 49, 3) := by decide +kernel
theorem dX7_asLong_13 : decode cX7_asLong 13 = .ok (.aload_n 0, 1) := by decide +kernel
theorem dX7_asLong_14 : decode cX7_asLong 14 = .ok (.getfield 33, 3) := by decide +kernel
theorem dX7_asLong_17 : decode cX7_asLong 17 = .ok (.iload_n 1, 1) := by decide +kernel
theorem dX7_asLong_18 : decode cX7_asLong 18 = .ok (.iaload, 1) := by decide +kernel
theorem dX7_asLong_19 : decode cX7_asLong 19 = .ok (.iconst 1, 1) := by decide +kernel
theorem dX7_asLong_20 : decode cX7_asLong 20 = .ok (.if_icmp .ne 15, 3) := by decide +kernel
theorem dX7_asLong_23 : decode cX7_asLong 23 = .ok (.aload_n 0, 1) := by decide +kernel
theorem dX7_asLong_24 : decode cX7_asLong 24 = .ok (.getfield 30, 3) := by decide +kernel
theorem dX7_asLong_27 : decode cX7_asLong 27 = .ok (.bipush 72, 2) := by decide +kernel
theorem dX7_asLong_29 : decode cX7_asLong 29 = .ok (.iload_n 1, 1) := by decide +kernel
theorem dX7_asLong_30 : decode cX7_asLong 30 = .ok (.imul, 1) := by decide +kernel
theorem dX7_asLong_31 : decode cX7_asLong 31 = .ok (.laload, 1) := by decide +kernel
theorem dX7_asLong_32 : decode cX7_asLong 32 = .ok (.goto 27, 3) := by decide +kernel
theorem dX7_asLong_35 : decode cX7_asLong 35 = .ok (.aload_n 0, 1) := by decide +kernel
theorem dX7_asLong_36 : decode cX7_asLong 36 = .ok (.getfield 30, 3) := by decide +kernel
theorem dX7_asLong_39 : decode cX7_asLong 39 = .ok (.bipush 72, 2) := by decide +kernel
theorem dX7_asLong_41 : decode cX7_asLong 41 = .ok (.iload_n 1, 1) := by decide +kernel
theorem dX7_asLong_42 : decode cX7_asLong 42 = .ok (.imul, 1) := by decide +kernel
theorem dX7_asLong_43 : decode cX7_asLong 43 = .ok (.iconst 1, 1) := by decide +kernel
theorem dX7_asLong_44 : decode cX7_asLong 44 = .ok (.iadd, 1) := by decide +kernel
theorem dX7_asLong_45 : decode cX7_asLong 45 = .ok (.laload, 1) := by decide +kernel
theorem dX7_asLong_46 : decode cX7_asLong 46 = .ok (.bipush 32, 2) := by decide +kernel
theorem dX7_asLong_48 : decode cX7_asLong 48 = .ok (.lshl, 1) := by decide +kernel
theorem dX7_asLong_49 : decode cX7_asLong 49 = .ok (.aload_n 0, 1) := by decide +kernel
theorem dX7_asLong_50 : decode cX7_asLong 50 = .ok (.getfield 30, 3) := by decide +kernel
theorem dX7_asLong_53 : decode cX7_asLong 53 = .ok (.bipush 72, 2) := by decide +kernel
theorem dX7_asLong_55 : decode cX7_asLong 55 = .ok (.iload_n 1, 1) := by decide +kernel
theorem dX7_asLong_56 : decode cX7_asLong 56 = .ok (.imul, 1) := by decide +kernel
theorem dX7_asLong_57 : decode cX7_asLong 57 = .ok (.laload, 1) := by decide +kernel
theorem dX7_asLong_58 : decode cX7_asLong 58 = .ok (.lor, 1) := by decide +kernel
theorem dX7_asLong_59 : decode cX7_asLong 59 = .ok (.lreturn, 1) := by decide +kernel
theorem dX7_best_0 : decode cX7_best 0 = .ok (.aload_n 0, 1) := by decide +kernel
theorem dX7_best_1 : decode cX7_best 1 = .ok (.iconst 0, 1) := by decide +kernel
theorem dX7_best_2 : decode cX7_best 2 = .ok (.putfield 43, 3) := by decide +kernel
theorem dX7_best_5 : decode cX7_best 5 = .ok (.aload_n 0, 1) := by decide +kernel
theorem dX7_best_6 : decode cX7_best 6 = .ok (.iload_n 1, 1) := by decide +kernel
theorem dX7_best_7 : decode cX7_best 7 = .ok (.invokevirtual 109, 3) := by decide +kernel
theorem dX7_best_10 : decode cX7_best 10 = .ok (.ifCond .eq 9, 3) := by decide +kernel
theorem dX7_best_13 : decode cX7_best 13 = .ok (.lload_n 2, 1) := by decide +kernel
theorem dX7_best_14 : decode cX7_best 14 = .ok (.lconst 1, 1) := by decide +kernel
theorem dX7_best_15 : decode cX7_best 15 = .ok (.lcmp, 1) := by decide +kernel
theorem dX7_best_16 : decode cX7_best 16 = .ok (.ifCond .ge 5, 3) := by decide +kernel
theorem dX7_best_19 : decode cX7_best 19 = .ok (.iconst (-1), 1) := by decide +kernel
theorem dX7_best_20 : decode cX7_best 20 = .ok (.ireturn, 1) := by decide +kernel
theorem dX7_best_21 : decode cX7_best 21 = .ok (.aload_n 0, 1) := by decide +kernel
theorem dX7_best_22 : decode cX7_best 22 = .ok (.invokevirtual 89, 3) := by decide +kernel
theorem dX7_best_25 : decode cX7_best 25 = .ok (.bipush (-3), 2) := by decide +kernel
theorem dX7_best_27 : decode cX7_best 27 = .ok (.if_icmp .ne 6, 3) := by decide +kernel
theorem dX7_best_30 : decode cX7_best 30 = .ok (.bipush (-3), 2) := by decide +kernel
theorem dX7_best_32 : decode cX7_best 32 = .ok (.ireturn, 1) := by decide +kernel
theorem dX7_best_33 : decode cX7_best 33 = .ok (.aload_n 0, 1) := by decide +kernel
theorem dX7_best_34 : decode cX7_best 34 = .ok (.iload_n 1, 1) := by decide +kernel
theorem dX7_best_35 : decode cX7_best 35 = .ok (.invokevirtual 135, 3) := by decide +kernel
theorem dX7_best_38 : decode cX7_best 38 = .ok (.istore 4, 2) := by decide +kernel
theorem dX7_best_40 : decode cX7_best 40 = .ok (.aload_n 0, 1) := by decide +kernel
theorem dX7_best_41 : decode cX7_best 41 = .ok (.bipush 15, 2) := by decide +kernel
theorem dX7_best_43 : decode cX7_best 43 = .ok (.bipush 10, 2) := by decide +kernel
theorem dX7_best_45 : decode cX7_best 45 = .ok (.invokevirtual 66, 3) := by decide +kernel
theorem dX7_best_48 : decode cX7_best 48 = .ok (.aload_n 0, 1) := by decide +kernel
theorem dX7_best_49 : decode cX7_best 49 = .ok (.bipush 21, 2) := by decide +kernel
theorem dX7_best_51 : decode cX7_best 51 = .ok (.bipush 12, 2) := by decide +kernel
theorem dX7_best_53 : decode cX7_best 53 = .ok (.invokevirtual 66, 3) := by decide +kernel
theorem dX7_best_56 : decode cX7_best 56 = .ok (.aload_n 0, 1) := by decide +kernel
theorem dX7_best_57 : decode cX7_best 57 = .ok (.bipush 22, 2) := by decide +kernel
theorem dX7_best_59 : decode cX7_best 59 = .ok (.bipush 11, 2) := by decide +kernel
theorem dX7_best_61 : decode cX7_best 61 = .ok (.invokevirtual 66, 3) := by decide +kernel
theorem dX7_best_64 : decode cX7_best 64 = .ok (.lconst 0, 1) := by decide +kernel
theorem dX7_best_65 : decode cX7_best 65 = .ok (.lstore 5, 2) := by decide +kernel
theorem dX7_best_67 : decode cX7_best 67 = .ok (.lconst 1, 1) := by decide +kernel
theorem dX7_best_68 : decode cX7_best 68 = .ok (.lstore 7, 2) := by decide +kernel
theorem dX7_best_70 : decode cX7_best 70 = .ok (.lconst 1, 1) := by decide +kernel
theorem dX7_best_71 : decode cX7_best 71 = .ok (.lstore 9, 2) := by decide +kernel
theorem dX7_best_73 : decode cX7_best 73 = .ok (.lconst 0, 1) := by decide +kernel
theorem dX7_best_74 : decode cX7_best 74 = .ok (.lstore 11, 2) := by decide +kernel
theorem dX7_best_76 : decode cX7_best 76 = .ok (.aload_n 0, 1) := by decide +kernel
theorem dX7_best_77 : decode cX7_best 77 = .ok (.getfield 33, 3) := by decide +kernel
theorem dX7_best_80 : decode cX7_best 80 = .ok (.bipush 12, 2) := by decide +kernel
theorem dX7_best_82 : decode cX7_best 82 = .ok (.iaload, 1) := by decide +kernel
theorem dX7_best_83 : decode cX7_best 83 = .ok (.ifCond .le 113, 3) := by decide +kernel
theorem dX7_best_86 : decode cX7_best 86 = .ok (.aload_n 0, 1) := by decide +kernel
theorem dX7_best_87 : decode cX7_best 87 = .ok (.invokevirtual 144, 3) := by decide +kernel
theorem dX7_best_90 : decode cX7_best 90 = .ok (.lload_n 2, 1) := by decide +kernel
theorem dX7_best_91 : decode cX7_best 91 = .ok (.lload 11, 2) := by decide +kernel
theorem dX7_best_93 : decode cX7_best 93 = .ok (.lsub, 1) := by decide +kernel
theorem dX7_best_94 : decode cX7_best 94 = .ok (.lload 7, 2) := by decide +kernel
theorem dX7_best_96 : decode cX7_best 96 = .ok (.ldiv, 1) := by decide +kernel
theorem dX7_best_97 : decode cX7_best 97 = .ok (.lstore 13, 2) := by decide +kernel
theorem dX7_best_99 : decode cX7_best 99 = .ok (.aload_n 0, 1) := by decide +kernel
theorem dX7_best_100 : decode cX7_best 100 = .ok (.bipush 10, 2) := by decide +kernel
theorem dX7_best_102 : decode cX7_best 102 = .ok (.invokevirtual 85, 3) := by decide +kernel
theorem dX7_best_105 : decode cX7_best 105 = .ok (.bipush 63, 2) := by decide +kernel
theorem dX7_best_107 : decode cX7_best 107 = .ok (.if_icmp .gt 15, 3) := by decide +kernel
theorem dX7_best_110 : decode cX7_best 110 = .ok (.aload_n 0, 1) := by decide +kernel
theorem dX7_best_111 : decode cX7_best 111 = .ok (.bipush 10, 2) := by decide +kernel
theorem dX7_best_113 : decode cX7_best 113 = .ok (.invokevirtual 153, 3) := by decide +kernel
theorem dX7_best_116 : decode cX7_best 116 = .ok (.lload 13, 2) := by decide +kernel
theorem dX7_best_118 : decode cX7_best 118 = .ok (.lcmp, 1) := by decide +kernel
theorem dX7_best_119 : decode cX7_best 119 = .ok (.ifCond .le 30, 3) := by decide +kernel
theorem dX7_best_122 : decode cX7_best 122 = .ok (.aload_n 0, 1) := by decide +kernel
theorem dX7_best_123 : decode cX7_best 123 = .ok (.iload 4, 2) := by decide +kernel
theorem dX7_best_125 : decode cX7_best 125 = .ok (.lload 5, 2) := by decide +kernel
theorem dX7_best_127 : decode cX7_best 127 = .ok (.lload 7, 2) := by decide +kernel
theorem dX7_best_129 : decode cX7_best 129 = .ok (.lload 9, 2) := by decide +kernel
theorem dX7_best_131 : decode cX7_best 131 = .ok (.lload 13, 2) := by decide +kernel
theorem dX7_best_133 : decode cX7_best 133 = .ok (.lload 5, 2) := by decide +kernel
theorem dX7_best_135 : decode cX7_best 135 = .ok (.lmul, 1) := by decide +kernel
theorem dX7_best_136 : decode cX7_best 136 = .ok (.ladd, 1) := by decide +kernel
theorem dX7_best_137 : decode cX7_best 137 = .ok (.lload 11, 2) := by decide +kernel
theorem dX7_best_139 : decode cX7_best 139 = .ok (.lload 13, 2) := by decide +kernel
theorem dX7_best_141 : decode cX7_best 141 = .ok (.lload 7, 2) := by decide +kernel
theorem dX7_best_143 : decode cX7_best 143 = .ok (.lmul, 1) := by decide +kernel
theorem dX7_best_144 : decode cX7_best 144 = .ok (.ladd, 1) := by decide +kernel
theorem dX7_best_145 : decode cX7_best 145 = .ok (.invokevirtual 157, 3) := by decide +kernel
theorem dX7_best_148 : decode cX7_best 148 = .ok (.ireturn, 1) := by decide +kernel
theorem dX7_best_149 : decode cX7_best 149 = .ok (.aload_n 0, 1) := by decide +kernel
theorem dX7_best_150 : decode cX7_best 150 = .ok (.bipush 10, 2) := by decide +kernel
theorem dX7_best_152 : decode cX7_best 152 = .ok (.invokevirtual 153, 3) := by decide +kernel
theorem dX7_best_155 : decode cX7_best 155 = .ok (.lstore 15, 2) := by decide +kernel
theorem dX7_best_157 : decode cX7_best 157 = .ok (.lload 9, 2) := by decide +kernel
theorem dX7_best_159 : decode cX7_best 159 = .ok (.lload 15, 2) := by decide +kernel
theorem dX7_best_161 : decode cX7_best 161 = .ok (.lload 5, 2) := by decide +kernel
theorem dX7_best_163 : decode cX7_best 163 = .ok (.lmul, 1) := by decide +kernel
theorem dX7_best_164 : decode cX7_best 164 = .ok (.ladd, 1) := by decide +kernel
theorem dX7_best_165 : decode cX7_best 165 = .ok (.lstore 17, 2) := by decide +kernel
theorem dX7_best_167 : decode cX7_best 167 = .ok (.lload 11, 2) := by decide +kernel
theorem dX7_best_169 : decode cX7_best 169 = .ok (.lload 15, 2) := by decide +kernel
theorem dX7_best_171 : decode cX7_best 171 = .ok (.lload 7, 2) := by decide +kernel
theorem dX7_best_173 : decode cX7_best 173 = .ok (.lmul, 1) := by decide +kernel
theorem dX7_best_174 : decode cX7_best 174 = .ok (.ladd, 1) := by decide +kernel
theorem dX7_best_175 : decode cX7_best 175 = .ok (.lstore 19, 2) := by decide +kernel
theorem dX7_best_177 : decode cX7_best 177 = .ok (.lload 5, 2) := by decide +kernel
theorem dX7_best_179 : decode cX7_best 179 = .ok (.lstore 9, 2) := by decide +kernel
theorem dX7_best_181 : decode cX7_best 181 = .ok (.lload 7, 2) := by decide +kernel
theorem dX7_best_183 : decode cX7_best 183 = .ok (.lstore 11, 2) := by decide +kernel
theorem dX7_best_185 : decode cX7_best 185 = .ok (.lload 17, 2) := by decide +kernel
theorem dX7_best_187 : decode cX7_best 187 = .ok (.lstore 5, 2) := by decide +kernel
theorem dX7_best_189 : decode cX7_best 189 = .ok (.lload 19, 2) := by decide +kernel
theorem dX7_best_191 : decode cX7_best 191 = .ok (.lstore 7, 2) := by decide +kernel
theorem dX7_best_193 : decode cX7_best 193 = .ok (.goto (-117), 3) := by decide +kernel
theorem dX7_best_196 : decode cX7_best 196 = .ok (.aload_n 0, 1) := by decide +kernel
theorem dX7_best_197 : decode cX7_best 197 = .ok (.iconst 2, 1) := by decide +kernel
theorem dX7_best_198 : decode cX7_best 198 = .ok (.lload 5, 2) := by decide +kernel
theorem dX7_best_200 : decode cX7_best 200 = .ok (.invokevirtual 103, 3) := by decide +kernel
theorem dX7_best_203 : decode cX7_best 203 = .ok (.aload_n 0, 1) := by decide +kernel
theorem dX7_best_204 : decode cX7_best 204 = .ok (.iconst 3, 1) := by decide +kernel
theorem dX7_best_205 : decode cX7_best 205 = .ok (.lload 7, 2) := by decide +kernel
theorem dX7_best_207 : decode cX7_best 207 = .ok (.invokevirtual 103, 3) := by decide +kernel
theorem dX7_best_210 : decode cX7_best 210 = .ok (.aload_n 0, 1) := by decide +kernel
theorem dX7_best_211 : decode cX7_best 211 = .ok (.iload 4, 2) := by decide +kernel
theorem dX7_best_213 : decode cX7_best 213 = .ok (.invokevirtual 150, 3) := by decide +kernel
theorem dX7_best_216 : decode cX7_best 216 = .ok (.ireturn, 1) := by decide +kernel
theorem dX7_distance_0 : decode cX7_distance 0 = .ok (.aload_n 0, 1) := by decide +kernel
theorem dX7_distance_1 : decode cX7_distance 1 = .ok (.iconst 4, 1) := by decide +kernel
theorem dX7_distance_2 : decode cX7_distance 2 = .ok (.lload 4, 2) := by decide +kernel
theorem dX7_distance_4 : decode cX7_distance 4 = .ok (.invokevirtual 103, 3) := by decide +kernel
theorem dX7_distance_7 : decode cX7_distance 7 = .ok (.aload_n 0, 1) := by decide +kernel
theorem dX7_distance_8 : decode cX7_distance 8 = .ok (.iload_n 1, 1) := by decide +kernel
theorem dX7_distance_9 : decode cX7_distance 9 = .ok (.bipush 21, 2) := by decide +kernel
theorem dX7_distance_11 : decode cX7_distance 11 = .ok (.iconst 4, 1) := by decide +kernel
theorem dX7_distance_12 : decode cX7_distance 12 = .ok (.invokevirtual 116, 3) := by decide +kernel
theorem dX7_distance_15 : decode cX7_distance 15 = .ok (.aload_n 0, 1) := by decide +kernel
theorem dX7_distance_16 : decode cX7_distance 16 = .ok (.iconst 4, 1) := by decide +kernel
theorem dX7_distance_17 : decode cX7_distance 17 = .ok (.lload_n 2, 1) := by decide +kernel
theorem dX7_distance_18 : decode cX7_distance 18 = .ok (.invokevirtual 103, 3) := by decide +kernel
theorem dX7_distance_21 : decode cX7_distance 21 = .ok (.aload_n 0, 1) := by decide +kernel
theorem dX7_distance_22 : decode cX7_distance 22 = .ok (.iconst 5, 1) := by decide +kernel
theorem dX7_distance_23 : decode cX7_distance 23 = .ok (.bipush 22, 2) := by decide +kernel
theorem dX7_distance_25 : decode cX7_distance 25 = .ok (.iconst 4, 1) := by decide +kernel
theorem dX7_distance_26 : decode cX7_distance 26 = .ok (.invokevirtual 116, 3) := by decide +kernel
theorem dX7_distance_29 : decode cX7_distance 29 = .ok (.aload_n 0, 1) := by decide +kernel
theorem dX7_distance_30 : decode cX7_distance 30 = .ok (.iload_n 1, 1) := by decide +kernel
theorem dX7_distance_31 : decode cX7_distance 31 = .ok (.iconst 5, 1) := by decide +kernel
theorem dX7_distance_32 : decode cX7_distance 32 = .ok (.invokevirtual 58, 3) := by decide +kernel
theorem dX7_distance_35 : decode cX7_distance 35 = .ok (.ifCond .lt 12, 3) := by decide +kernel
theorem dX7_distance_38 : decode cX7_distance 38 = .ok (.aload_n 0, 1) := by decide +kernel
theorem dX7_distance_39 : decode cX7_distance 39 = .ok (.iload_n 1, 1) := by decide +kernel
theorem dX7_distance_40 : decode cX7_distance 40 = .ok (.iconst 5, 1) := by decide +kernel
theorem dX7_distance_41 : decode cX7_distance 41 = .ok (.invokevirtual 62, 3) := by decide +kernel
theorem dX7_distance_44 : decode cX7_distance 44 = .ok (.goto 15, 3) := by decide +kernel
theorem dX7_distance_47 : decode cX7_distance 47 = .ok (.aload_n 0, 1) := by decide +kernel
theorem dX7_distance_48 : decode cX7_distance 48 = .ok (.iconst 5, 1) := by decide +kernel
theorem dX7_distance_49 : decode cX7_distance 49 = .ok (.iload_n 1, 1) := by decide +kernel
theorem dX7_distance_50 : decode cX7_distance 50 = .ok (.invokevirtual 62, 3) := by decide +kernel
theorem dX7_distance_53 : decode cX7_distance 53 = .ok (.aload_n 0, 1) := by decide +kernel
theorem dX7_distance_54 : decode cX7_distance 54 = .ok (.iload_n 1, 1) := by decide +kernel
theorem dX7_distance_55 : decode cX7_distance 55 = .ok (.iconst 5, 1) := by decide +kernel
theorem dX7_distance_56 : decode cX7_distance 56 = .ok (.invokevirtual 66, 3) := by decide +kernel
theorem dX7_distance_59 : decode cX7_distance 59 = .ok (.return_, 1) := by decide +kernel
theorem dX7_nearer_0 : decode cX7_nearer 0 = .ok (.aload_n 0, 1) := by decide +kernel
theorem dX7_nearer_1 : decode cX7_nearer 1 = .ok (.bipush 6, 2) := by decide +kernel
theorem dX7_nearer_3 : decode cX7_nearer 3 = .ok (.lload_n 2, 1) := by decide +kernel
theorem dX7_nearer_4 : decode cX7_nearer 4 = .ok (.lload 4, 2) := by decide +kernel
theorem dX7_nearer_6 : decode cX7_nearer 6 = .ok (.invokevirtual 161, 3) := by decide +kernel
theorem dX7_nearer_9 : decode cX7_nearer 9 = .ok (.aload_n 0, 1) := by decide +kernel
theorem dX7_nearer_10 : decode cX7_nearer 10 = .ok (.iconst 4, 1) := by decide +kernel
theorem dX7_nearer_11 : decode cX7_nearer 11 = .ok (.lload 8, 2) := by decide +kernel
theorem dX7_nearer_13 : decode cX7_nearer 13 = .ok (.invokevirtual 103, 3) := by decide +kernel
theorem dX7_nearer_16 : decode cX7_nearer 16 = .ok (.aload_n 0, 1) := by decide +kernel
theorem dX7_nearer_17 : decode cX7_nearer 17 = .ok (.bipush 7, 2) := by decide +kernel
theorem dX7_nearer_19 : decode cX7_nearer 19 = .ok (.bipush 6, 2) := by decide +kernel
theorem dX7_nearer_21 : decode cX7_nearer 21 = .ok (.iconst 4, 1) := by decide +kernel
theorem dX7_nearer_22 : decode cX7_nearer 22 = .ok (.invokevirtual 116, 3) := by decide +kernel
theorem dX7_nearer_25 : decode cX7_nearer 25 = .ok (.aload_n 0, 1) := by decide +kernel
theorem dX7_nearer_26 : decode cX7_nearer 26 = .ok (.bipush 6, 2) := by decide +kernel
theorem dX7_nearer_28 : decode cX7_nearer 28 = .ok (.lload 6, 2) := by decide +kernel
theorem dX7_nearer_30 : decode cX7_nearer 30 = .ok (.lload 8, 2) := by decide +kernel
theorem dX7_nearer_32 : decode cX7_nearer 32 = .ok (.invokevirtual 161, 3) := by decide +kernel
theorem dX7_nearer_35 : decode cX7_nearer 35 = .ok (.aload_n 0, 1) := by decide +kernel
theorem dX7_nearer_36 : decode cX7_nearer 36 = .ok (.iconst 4, 1) := by decide +kernel
theorem dX7_nearer_37 : decode cX7_nearer 37 = .ok (.lload 4, 2) := by decide +kernel
theorem dX7_nearer_39 : decode cX7_nearer 39 = .ok (.invokevirtual 103, 3) := by decide +kernel
theorem dX7_nearer_42 : decode cX7_nearer 42 = .ok (.aload_n 0, 1) := by decide +kernel
theorem dX7_nearer_43 : decode cX7_nearer 43 = .ok (.bipush 8, 2) := by decide +kernel
theorem dX7_nearer_45 : decode cX7_nearer 45 = .ok (.bipush 6, 2) := by decide +kernel
theorem dX7_nearer_47 : decode cX7_nearer 47 = .ok (.iconst 4, 1) := by decide +kernel
theorem dX7_nearer_48 : decode cX7_nearer 48 = .ok (.invokevirtual 116, 3) := by decide +kernel
theorem dX7_nearer_51 : decode cX7_nearer 51 = .ok (.aload_n 0, 1) := by decide +kernel
theorem dX7_nearer_52 : decode cX7_nearer 52 = .ok (.bipush 7, 2) := by decide +kernel
theorem dX7_nearer_54 : decode cX7_nearer 54 = .ok (.bipush 8, 2) := by decide +kernel
theorem dX7_nearer_56 : decode cX7_nearer 56 = .ok (.invokevirtual 58, 3) := by decide +kernel
theorem dX7_nearer_59 : decode cX7_nearer 59 = .ok (.istore 10, 2) := by decide +kernel
theorem dX7_nearer_61 : decode cX7_nearer 61 = .ok (.iload 10, 2) := by decide +kernel
theorem dX7_nearer_63 : decode cX7_nearer 63 = .ok (.ifCond .lt 31, 3) := by decide +kernel
theorem dX7_nearer_66 : decode cX7_nearer 66 = .ok (.iload 10, 2) := by decide +kernel
theorem dX7_nearer_68 : decode cX7_nearer 68 = .ok (.ifCond .ne 30, 3) := by decide +kernel
theorem dX7_nearer_71 : decode cX7_nearer 71 = .ok (.lload 4, 2) := by decide +kernel
theorem dX7_nearer_73 : decode cX7_nearer 73 = .ok (.lload 8, 2) := by decide +kernel
theorem dX7_nearer_75 : decode cX7_nearer 75 = .ok (.lcmp, 1) := by decide +kernel
theorem dX7_nearer_76 : decode cX7_nearer 76 = .ok (.ifCond .lt 18, 3) := by decide +kernel
theorem dX7_nearer_79 : decode cX7_nearer 79 = .ok (.lload 4, 2) := by decide +kernel
theorem dX7_nearer_81 : decode cX7_nearer 81 = .ok (.lload 8, 2) := by decide +kernel
theorem dX7_nearer_83 : decode cX7_nearer 83 = .ok (.lcmp, 1) := by decide +kernel
theorem dX7_nearer_84 : decode cX7_nearer 84 = .ok (.ifCond .ne 14, 3) := by decide +kernel
theorem dX7_nearer_87 : decode cX7_nearer 87 = .ok (.lload_n 2, 1) := by decide +kernel
theorem dX7_nearer_88 : decode cX7_nearer 88 = .ok (.lload 6, 2) := by decide +kernel
theorem dX7_nearer_90 : decode cX7_nearer 90 = .ok (.lcmp, 1) := by decide +kernel
theorem dX7_nearer_91 : decode cX7_nearer 91 = .ok (.ifCond .ge 7, 3) := by decide +kernel
theorem dX7_nearer_94 : decode cX7_nearer 94 = .ok (.iconst 1, 1) := by decide +kernel
theorem dX7_nearer_95 : decode cX7_nearer 95 = .ok (.goto 4, 3) := by decide +kernel
theorem dX7_nearer_98 : decode cX7_nearer 98 = .ok (.iconst 0, 1) := by decide +kernel
theorem dX7_nearer_99 : decode cX7_nearer 99 = .ok (.istore 11, 2) := by decide +kernel
theorem dX7_nearer_101 : decode cX7_nearer 101 = .ok (.aload_n 0, 1) := by decide +kernel
theorem dX7_nearer_102 : decode cX7_nearer 102 = .ok (.iconst 2, 1) := by decide +kernel
theorem dX7_nearer_103 : decode cX7_nearer 103 = .ok (.iload 11, 2) := by decide +kernel
theorem dX7_nearer_105 : decode cX7_nearer 105 = .ok (.ifCond .eq 7, 3) := by decide +kernel
theorem dX7_nearer_108 : decode cX7_nearer 108 = .ok (.lload_n 2, 1) := by decide +kernel
theorem dX7_nearer_109 : decode cX7_nearer 109 = .ok (.goto 5, 3) := by decide +kernel
theorem dX7_nearer_112 : decode cX7_nearer 112 = .ok (.lload 6, 2) := by decide +kernel
theorem dX7_nearer_114 : decode cX7_nearer 114 = .ok (.invokevirtual 103, 3) := by decide +kernel
theorem dX7_nearer_117 : decode cX7_nearer 117 = .ok (.aload_n 0, 1) := by decide +kernel
theorem dX7_nearer_118 : decode cX7_nearer 118 = .ok (.iconst 3, 1) := by decide +kernel
theorem dX7_nearer_119 : decode cX7_nearer 119 = .ok (.iload 11, 2) := by decide +kernel
theorem dX7_nearer_121 : decode cX7_nearer 121 = .ok (.ifCond .eq 8, 3) := by decide +kernel
theorem dX7_nearer_124 : decode cX7_nearer 124 = .ok (.lload 4, 2) := by decide +kernel
theorem dX7_nearer_126 : decode cX7_nearer 126 = .ok (.goto 5, 3) := by decide +kernel
theorem dX7_nearer_129 : decode cX7_nearer 129 = .ok (.lload 8, 2) := by decide +kernel
theorem dX7_nearer_131 : decode cX7_nearer 131 = .ok (.invokevirtual 103, 3) := by decide +kernel
theorem dX7_nearer_134 : decode cX7_nearer 134 = .ok (.aload_n 0, 1) := by decide +kernel
theorem dX7_nearer_135 : decode cX7_nearer 135 = .ok (.iload_n 1, 1) := by decide +kernel
theorem dX7_nearer_136 : decode cX7_nearer 136 = .ok (.invokevirtual 150, 3) := by decide +kernel
theorem dX7_nearer_139 : decode cX7_nearer 139 = .ok (.ireturn, 1) := by decide +kernel
theorem dX7_exact_0 : decode cX7_exact 0 = .ok (.aload_n 0, 1) := by decide +kernel
theorem dX7_exact_1 : decode cX7_exact 1 = .ok (.iconst 0, 1) := by decide +kernel
theorem dX7_exact_2 : decode cX7_exact 2 = .ok (.putfield 43, 3) := by decide +kernel
theorem dX7_exact_5 : decode cX7_exact 5 = .ok (.aload_n 0, 1) := by decide +kernel
theorem dX7_exact_6 : decode cX7_exact 6 = .ok (.iload_n 1, 1) := by decide +kernel
theorem dX7_exact_7 : decode cX7_exact 7 = .ok (.invokevirtual 109, 3) := by decide +kernel
theorem dX7_exact_10 : decode cX7_exact 10 = .ok (.ifCond .eq 15, 3) := by decide +kernel
theorem dX7_exact_13 : decode cX7_exact 13 = .ok (.iload_n 2, 1) := by decide +kernel
theorem dX7_exact_14 : decode cX7_exact 14 = .ok (.i2l, 1) := by decide +kernel
theorem dX7_exact_15 : decode cX7_exact 15 = .ok (.lconst 0, 1) := by decide +kernel
theorem dX7_exact_16 : decode cX7_exact 16 = .ok (.ldc2_w 165, 3) := by decide +kernel
theorem dX7_exact_19 : decode cX7_exact 19 = .ok (.invokestatic 81, 3) := by decide +kernel
theorem dX7_exact_22 : decode cX7_exact 22 = .ok (.ifCond .ne 7, 3) := by decide +kernel
theorem dX7_exact_25 : decode cX7_exact 25 = .ok (.ldc2_w 167, 3) := by decide +kernel
theorem dX7_exact_28 : decode cX7_exact 28 = .ok (.lreturn, 1) := by decide +kernel
theorem dX7_exact_29 : decode cX7_exact 29 = .ok (.aload_n 0, 1) := by decide +kernel
theorem dX7_exact_30 : decode cX7_exact 30 = .ok (.iconst 2, 1) := by decide +kernel
theorem dX7_exact_31 : decode cX7_exact 31 = .ok (.iload_n 1, 1) := by decide +kernel
theorem dX7_exact_32 : decode cX7_exact 32 = .ok (.iconst 0, 1) := by decide +kernel
theorem dX7_exact_33 : decode cX7_exact 33 = .ok (.invokevirtual 112, 3) := by decide +kernel
theorem dX7_exact_36 : decode cX7_exact 36 = .ok (.aload_n 0, 1) := by decide +kernel
theorem dX7_exact_37 : decode cX7_exact 37 = .ok (.iconst 2, 1) := by decide +kernel
theorem dX7_exact_38 : decode cX7_exact 38 = .ok (.invokevirtual 85, 3) := by decide +kernel
theorem dX7_exact_41 : decode cX7_exact 41 = .ok (.istore_n 3, 1) := by decide +kernel
theorem dX7_exact_42 : decode cX7_exact 42 = .ok (.aload_n 0, 1) := by decide +kernel
theorem dX7_exact_43 : decode cX7_exact 43 = .ok (.iconst 1, 1) := by decide +kernel
theorem dX7_exact_44 : decode cX7_exact 44 = .ok (.putfield 43, 3) := by decide +kernel
theorem dX7_exact_47 : decode cX7_exact 47 = .ok (.aload_n 0, 1) := by decide +kernel
theorem dX7_exact_48 : decode cX7_exact 48 = .ok (.iload_n 1, 1) := by decide +kernel
theorem dX7_exact_49 : decode cX7_exact 49 = .ok (.invokevirtual 138, 3) := by decide +kernel
theorem dX7_exact_52 : decode cX7_exact 52 = .ok (.ifCond .eq 9, 3) := by decide +kernel
theorem dX7_exact_55 : decode cX7_exact 55 = .ok (.iload_n 3, 1) := by decide +kernel
theorem dX7_exact_56 : decode cX7_exact 56 = .ok (.bipush 64, 2) := by decide +kernel
theorem dX7_exact_58 : decode cX7_exact 58 = .ok (.if_icmp .le 5, 3) := by decide +kernel
theorem dX7_exact_61 : decode cX7_exact 61 = .ok (.lconst 0, 1) := by decide +kernel
theorem dX7_exact_62 : decode cX7_exact 62 = .ok (.lreturn, 1) := by decide +kernel
theorem dX7_exact_63 : decode cX7_exact 63 = .ok (.aload_n 0, 1) := by decide +kernel
theorem dX7_exact_64 : decode cX7_exact 64 = .ok (.iconst 2, 1) := by decide +kernel
theorem dX7_exact_65 : decode cX7_exact 65 = .ok (.invokevirtual 153, 3) := by decide +kernel
theorem dX7_exact_68 : decode cX7_exact 68 = .ok (.lstore 4, 2) := by decide +kernel
theorem dX7_exact_70 : decode cX7_exact 70 = .ok (.aload_n 0, 1) := by decide +kernel
theorem dX7_exact_71 : decode cX7_exact 71 = .ok (.getfield 13, 3) := by decide +kernel
theorem dX7_exact_74 : decode cX7_exact 74 = .ok (.iload_n 1, 1) := by decide +kernel
theorem dX7_exact_75 : decode cX7_exact 75 = .ok (.iaload, 1) := by decide +kernel
theorem dX7_exact_76 : decode cX7_exact 76 = .ok (.ifCond .ge 7, 3) := by decide +kernel
theorem dX7_exact_79 : decode cX7_exact 79 = .ok (.iconst 1, 1) := by decide +kernel
theorem dX7_exact_80 : decode cX7_exact 80 = .ok (.goto 4, 3) := by decide +kernel
theorem dX7_exact_83 : decode cX7_exact 83 = .ok (.iconst 0, 1) := by decide +kernel
theorem dX7_exact_84 : decode cX7_exact 84 = .ok (.istore 6, 2) := by decide +kernel
theorem dX7_exact_86 : decode cX7_exact 86 = .ok (.iload_n 2, 1) := by decide +kernel
theorem dX7_exact_87 : decode cX7_exact 87 = .ok (.iconst 2, 1) := by decide +kernel
theorem dX7_exact_88 : decode cX7_exact 88 = .ok (.if_icmp .ne 38, 3) := by decide +kernel
theorem dX7_exact_91 : decode cX7_exact 91 = .ok (.aload_n 0, 1) := by decide +kernel
theorem dX7_exact_92 : decode cX7_exact 92 = .ok (.iload 6, 2) := by decide +kernel
theorem dX7_exact_94 : decode cX7_exact 94 = .ok (.ifCond .ne 9, 3) := by decide +kernel
theorem dX7_exact_97 : decode cX7_exact 97 = .ok (.iload_n 3, 1) := by decide +kernel
theorem dX7_exact_98 : decode cX7_exact 98 = .ok (.bipush 16, 2) := by decide +kernel
theorem dX7_exact_100 : decode cX7_exact 100 = .ok (.if_icmp .le 7, 3) := by decide +kernel
theorem dX7_exact_103 : decode cX7_exact 103 = .ok (.iconst 1, 1) := by decide +kernel
theorem dX7_exact_104 : decode cX7_exact 104 = .ok (.goto 4, 3) := by decide +kernel
theorem dX7_exact_107 : decode cX7_exact 107 = .ok (.iconst 0, 1) := by decide +kernel
theorem dX7_exact_108 : decode cX7_exact 108 = .ok (.putfield 43, 3) := by decide +kernel
theorem dX7_exact_111 : decode cX7_exact 111 = .ok (.aload_n 0, 1) := by decide +kernel
theorem dX7_exact_112 : decode cX7_exact 112 = .ok (.getfield 43, 3) := by decide +kernel
theorem dX7_exact_115 : decode cX7_exact 115 = .ok (.iconst 1, 1) := by decide +kernel
theorem dX7_exact_116 : decode cX7_exact 116 = .ok (.if_icmp .ne 7, 3) := by decide +kernel
theorem dX7_exact_119 : decode cX7_exact 119 = .ok (.lconst 0, 1) := by decide +kernel
theorem dX7_exact_120 : decode cX7_exact 120 = .ok (.goto 5, 3) := by decide +kernel
theorem dX7_exact_123 : decode cX7_exact 123 = .ok (.lload 4, 2) := by decide +kernel
theorem dX7_exact_125 : decode cX7_exact 125 = .ok (.lreturn, 1) := by decide +kernel
theorem dX7_exact_126 : decode cX7_exact 126 = .ok (.iload_n 2, 1) := by decide +kernel
theorem dX7_exact_127 : decode cX7_exact 127 = .ok (.ifCond .ne 8, 3) := by decide +kernel
theorem dX7_exact_130 : decode cX7_exact 130 = .ok (.bipush 7, 2) := by decide +kernel
theorem dX7_exact_132 : decode cX7_exact 132 = .ok (.goto 25, 3) := by decide +kernel
theorem dX7_exact_135 : decode cX7_exact 135 = .ok (.iload_n 2, 1) := by decide +kernel
theorem dX7_exact_136 : decode cX7_exact 136 = .ok (.iconst 1, 1) := by decide +kernel
theorem dX7_exact_137 : decode cX7_exact 137 = .ok (.if_icmp .ne 8, 3) := by decide +kernel
theorem dX7_exact_140 : decode cX7_exact 140 = .ok (.bipush 15, 2) := by decide +kernel
theorem dX7_exact_142 : decode cX7_exact 142 = .ok (.goto 15, 3) := by decide +kernel
theorem dX7_exact_145 : decode cX7_exact 145 = .ok (.iload_n 2, 1) := by decide +kernel
theorem dX7_exact_146 : decode cX7_exact 146 = .ok (.iconst 3, 1) := by decide +kernel
theorem dX7_exact_147 : decode cX7_exact 147 = .ok (.if_icmp .ne 8, 3) := by decide +kernel
theorem dX7_exact_150 : decode cX7_exact 150 = .ok (.bipush 31, 2) := by decide +kernel
theorem dX7_exact_152 : decode cX7_exact 152 = .ok (.goto 5, 3) := by decide +kernel
theorem dX7_exact_155 : decode cX7_exact 155 = .ok (.bipush 63, 2) := by decide +kernel
theorem dX7_exact_157 : decode cX7_exact 157 = .ok (.istore 7, 2) := by decide +kernel
theorem dX7_exact_159 : decode cX7_exact 159 = .ok (.iload_n 3, 1) := by decide +kernel
theorem dX7_exact_160 : decode cX7_exact 160 = .ok (.iload 7, 2) := by decide +kernel
theorem dX7_exact_162 : decode cX7_exact 162 = .ok (.if_icmp .le 31, 3) := by decide +kernel
theorem dX7_exact_165 : decode cX7_exact 165 = .ok (.iload 6, 2) := by decide +kernel
theorem dX7_exact_167 : decode cX7_exact 167 = .ok (.ifCond .eq 30, 3) := by decide +kernel
theorem dX7_exact_170 : decode cX7_exact 170 = .ok (.iload_n 3, 1) := by decide +kernel
theorem dX7_exact_171 : decode cX7_exact 171 = .ok (.iload 7, 2) := by decide +kernel
theorem dX7_exact_173 : decode cX7_exact 173 = .ok (.iconst 1, 1) := by decide +kernel
theorem dX7_exact_174 : decode cX7_exact 174 = .ok (.iadd, 1) := by decide +kernel
theorem dX7_exact_175 : decode cX7_exact 175 = .ok (.if_icmp .ne 22, 3) := by decide +kernel
theorem dX7_exact_178 : decode cX7_exact 178 = .ok (.lload 4, 2) := by decide +kernel
theorem dX7_exact_180 : decode cX7_exact 180 = .ok (.bipush 63, 2) := by decide +kernel
theorem dX7_exact_182 : decode cX7_exact 182 = .ok (.iload 7, 2) := by decide +kernel
theorem dX7_exact_184 : decode cX7_exact 184 = .ok (.isub, 1) := by decide +kernel
theorem dX7_exact_185 : decode cX7_exact 185 = .ok (.lshl, 1) := by decide +kernel
theorem dX7_exact_186 : decode cX7_exact 186 = .ok (.ldc2_w 169, 3) := by decide +kernel
theorem dX7_exact_189 : decode cX7_exact 189 = .ok (.lcmp, 1) := by decide +kernel
theorem dX7_exact_190 : decode cX7_exact 190 = .ok (.ifCond .ne 7, 3) := by decide +kernel
theorem dX7_exact_193 : decode cX7_exact 193 = .ok (.iconst 1, 1) := by decide +kernel
theorem dX7_exact_194 : decode cX7_exact 194 = .ok (.goto 4, 3) := by decide +kernel
theorem dX7_exact_197 : decode cX7_exact 197 = .ok (.iconst 0, 1) := by decide +kernel
theorem dX7_exact_198 : decode cX7_exact 198 = .ok (.istore 8, 2) := by decide +kernel
theorem dX7_exact_200 : decode cX7_exact 200 = .ok (.aload_n 0, 1) := by decide +kernel
theorem dX7_exact_201 : decode cX7_exact 201 = .ok (.iload 8, 2) := by decide +kernel
theorem dX7_exact_203 : decode cX7_exact 203 = .ok (.ifCond .eq 7, 3) := by decide +kernel
theorem dX7_exact_206 : decode cX7_exact 206 = .ok (.iconst 0, 1) := by decide +kernel
theorem dX7_exact_207 : decode cX7_exact 207 = .ok (.goto 4, 3) := by decide +kernel
theorem dX7_exact_210 : decode cX7_exact 210 = .ok (.iconst 1, 1) := by decide +kernel
theorem dX7_exact_211 : decode cX7_exact 211 = .ok (.putfield 43, 3) := by decide +kernel
theorem dX7_exact_214 : decode cX7_exact 214 = .ok (.iload 8, 2) := by decide +kernel
theorem dX7_exact_216 : decode cX7_exact 216 = .ok (.ifCond .eq 19, 3) := by decide +kernel
theorem dX7_exact_219 : decode cX7_exact 219 = .ok (.iload 6, 2) := by decide +kernel
theorem dX7_exact_221 : decode cX7_exact 221 = .ok (.ifCond .eq 9, 3) := by decide +kernel
theorem dX7_exact_224 : decode cX7_exact 224 = .ok (.lload 4, 2) := by decide +kernel
theorem dX7_exact_226 : decode cX7_exact 226 = .ok (.lneg, 1) := by decide +kernel
theorem dX7_exact_227 : decode cX7_exact 227 = .ok (.goto 9, 3) := by decide +kernel
theorem dX7_exact_230 : decode cX7_exact 230 = .ok (.lload 4, 2) := by decide +kernel
theorem dX7_exact_232 : decode cX7_exact 232 = .ok (.goto 4, 3) := by decide +kernel
theorem dX7_exact_235 : decode cX7_exact 235 = .ok (.lconst 0, 1) := by decide +kernel
theorem dX7_exact_236 : decode cX7_exact 236 = .ok (.lreturn, 1) := by decide +kernel
theorem dX7_nearest_0 : decode cX7_nearest 0 = .ok (.lload_n 0, 1) := by decide +kernel
theorem dX7_nearest_1 : decode cX7_nearest 1 = .ok (.lconst 0, 1) := by decide +kernel
theorem dX7_nearest_2 : decode cX7_nearest 2 = .ok (.lcmp, 1) := by decide +kernel
theorem dX7_nearest_3 : decode cX7_nearest 3 = .ok (.ifCond .ne 5, 3) := by decide +kernel
theorem dX7_nearest_6 : decode cX7_nearest 6 = .ok (.lconst 0, 1) := by decide +kernel
theorem dX7_nearest_7 : decode cX7_nearest 7 = .ok (.lreturn, 1) := by decide +kernel
theorem dX7_nearest_8 : decode cX7_nearest 8 = .ok (.iconst 0, 1) := by decide +kernel
theorem dX7_nearest_9 : decode cX7_nearest 9 = .ok (.istore 5, 2) := by decide +kernel
theorem dX7_nearest_11 : decode cX7_nearest 11 = .ok (.iload 5, 2) := by decide +kernel
theorem dX7_nearest_13 : decode cX7_nearest 13 = .ok (.bipush 62, 2) := by decide +kernel
theorem dX7_nearest_15 : decode cX7_nearest 15 = .ok (.if_icmp .ge 18, 3) := by decide +kernel
theorem dX7_nearest_18 : decode cX7_nearest 18 = .ok (.lload_n 0, 1) := by decide +kernel
theorem dX7_nearest_19 : decode cX7_nearest 19 = .ok (.iload 5, 2) := by decide +kernel
theorem dX7_nearest_21 : decode cX7_nearest 21 = .ok (.lshr, 1) := by decide +kernel
theorem dX7_nearest_22 : decode cX7_nearest 22 = .ok (.lconst 1, 1) := by decide +kernel
theorem dX7_nearest_23 : decode cX7_nearest 23 = .ok (.lcmp, 1) := by decide +kernel
theorem dX7_nearest_24 : decode cX7_nearest 24 = .ok (.ifCond .le 9, 3) := by decide +kernel
theorem dX7_nearest_27 : decode cX7_nearest 27 = .ok (.iinc 5 1, 3) := by decide +kernel
theorem dX7_nearest_30 : decode cX7_nearest 30 = .ok (.goto (-19), 3) := by decide +kernel
theorem dX7_nearest_33 : decode cX7_nearest 33 = .ok (.iconst 1, 1) := by decide +kernel
theorem dX7_nearest_34 : decode cX7_nearest 34 = .ok (.iload 4, 2) := by decide +kernel
theorem dX7_nearest_36 : decode cX7_nearest 36 = .ok (.isub, 1) := by decide +kernel
theorem dX7_nearest_37 : decode cX7_nearest 37 = .ok (.istore 6, 2) := by decide +kernel
theorem dX7_nearest_39 : decode cX7_nearest 39 = .ok (.iload 5, 2) := by decide +kernel
theorem dX7_nearest_41 : decode cX7_nearest 41 = .ok (.iload_n 2, 1) := by decide +kernel
theorem dX7_nearest_42 : decode cX7_nearest 42 = .ok (.iadd, 1) := by decide +kernel
theorem dX7_nearest_43 : decode cX7_nearest 43 = .ok (.iload 6, 2) := by decide +kernel
theorem dX7_nearest_45 : decode cX7_nearest 45 = .ok (.if_icmp .le 10, 3) := by decide +kernel
theorem dX7_nearest_48 : decode cX7_nearest 48 = .ok (.iload 5, 2) := by decide +kernel
theorem dX7_nearest_50 : decode cX7_nearest 50 = .ok (.iload_n 2, 1) := by decide +kernel
theorem dX7_nearest_51 : decode cX7_nearest 51 = .ok (.iadd, 1) := by decide +kernel
theorem dX7_nearest_52 : decode cX7_nearest 52 = .ok (.goto 5, 3) := by decide +kernel
theorem dX7_nearest_55 : decode cX7_nearest 55 = .ok (.iload 6, 2) := by decide +kernel
theorem dX7_nearest_57 : decode cX7_nearest 57 = .ok (.iload_n 3, 1) := by decide +kernel
theorem dX7_nearest_58 : decode cX7_nearest 58 = .ok (.isub, 1) := by decide +kernel
theorem dX7_nearest_59 : decode cX7_nearest 59 = .ok (.istore 7, 2) := by decide +kernel
theorem dX7_nearest_61 : decode cX7_nearest 61 = .ok (.iload 7, 2) := by decide +kernel
theorem dX7_nearest_63 : decode cX7_nearest 63 = .ok (.iload_n 2, 1) := by decide +kernel
theorem dX7_nearest_64 : decode cX7_nearest 64 = .ok (.isub, 1) := by decide +kernel
theorem dX7_nearest_65 : decode cX7_nearest 65 = .ok (.istore 8, 2) := by decide +kernel
theorem dX7_nearest_67 : decode cX7_nearest 67 = .ok (.iload 8, 2) := by decide +kernel
theorem dX7_nearest_69 : decode cX7_nearest 69 = .ok (.ifCond .gt 13, 3) := by decide +kernel
theorem dX7_nearest_72 : decode cX7_nearest 72 = .ok (.lload_n 0, 1) := by decide +kernel
theorem dX7_nearest_73 : decode cX7_nearest 73 = .ok (.iload 8, 2) := by decide +kernel
theorem dX7_nearest_75 : decode cX7_nearest 75 = .ok (.ineg, 1) := by decide +kernel
theorem dX7_nearest_76 : decode cX7_nearest 76 = .ok (.lshl, 1) := by decide +kernel
theorem dX7_nearest_77 : decode cX7_nearest 77 = .ok (.lstore 9, 2) := by decide +kernel
theorem dX7_nearest_79 : decode cX7_nearest 79 = .ok (.goto 74, 3) := by decide +kernel
theorem dX7_nearest_82 : decode cX7_nearest 82 = .ok (.iload 8, 2) := by decide +kernel
theorem dX7_nearest_84 : decode cX7_nearest 84 = .ok (.bipush 62, 2) := by decide +kernel
theorem dX7_nearest_86 : decode cX7_nearest 86 = .ok (.if_icmp .le 9, 3) := by decide +kernel
theorem dX7_nearest_89 : decode cX7_nearest 89 = .ok (.lconst 0, 1) := by decide +kernel
theorem dX7_nearest_90 : decode cX7_nearest 90 = .ok (.lstore 9, 2) := by decide +kernel
theorem dX7_nearest_92 : decode cX7_nearest 92 = .ok (.goto 61, 3) := by decide +kernel
theorem dX7_nearest_95 : decode cX7_nearest 95 = .ok (.lload_n 0, 1) := by decide +kernel
