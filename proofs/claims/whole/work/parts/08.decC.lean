theorem dX6_in_0 : decode cX6_in 0 = .ok (.lload_n 0, 1) := by decide +kernel
theorem dX6_in_1 : decode cX6_in 1 = .ok (.lload_n 2, 1) := by decide +kernel
theorem dX6_in_2 : decode cX6_in 2 = .ok (.lcmp, 1) := by decide +kernel
theorem dX6_in_3 : decode cX6_in 3 = .ok (.ifCond .lt 14, 3) := by decide +kernel
theorem dX6_in_6 : decode cX6_in 6 = .ok (.lload_n 0, 1) := by decide +kernel
theorem dX6_in_7 : decode cX6_in 7 = .ok (.lload 4, 2) := by decide +kernel
theorem dX6_in_9 : decode cX6_in 9 = .ok (.lcmp, 1) := by decide +kernel
theorem dX6_in_10 : decode cX6_in 10 = .ok (.ifCond .gt 7, 3) := by decide +kernel
theorem dX6_in_13 : decode cX6_in 13 = .ok (.iconst 1, 1) := by decide +kernel
theorem dX6_in_14 : decode cX6_in 14 = .ok (.goto 4, 3) := by decide +kernel
theorem dX6_in_17 : decode cX6_in 17 = .ok (.iconst 0, 1) := by decide +kernel
theorem dX6_in_18 : decode cX6_in 18 = .ok (.ireturn, 1) := by decide +kernel
theorem dX6_within_0 : decode cX6_within 0 = .ok (.iload_n 0, 1) := by decide +kernel
theorem dX6_within_1 : decode cX6_within 1 = .ok (.iload_n 1, 1) := by decide +kernel
theorem dX6_within_2 : decode cX6_within 2 = .ok (.if_icmp .ge 7, 3) := by decide +kernel
theorem dX6_within_5 : decode cX6_within 5 = .ok (.iload_n 1, 1) := by decide +kernel
theorem dX6_within_6 : decode cX6_within 6 = .ok (.goto 13, 3) := by decide +kernel
theorem dX6_within_9 : decode cX6_within 9 = .ok (.iload_n 0, 1) := by decide +kernel
theorem dX6_within_10 : decode cX6_within 10 = .ok (.iload_n 2, 1) := by decide +kernel
theorem dX6_within_11 : decode cX6_within 11 = .ok (.if_icmp .le 7, 3) := by decide +kernel
theorem dX6_within_14 : decode cX6_within 14 = .ok (.iload_n 2, 1) := by decide +kernel
theorem dX6_within_15 : decode cX6_within 15 = .ok (.goto 4, 3) := by decide +kernel
theorem dX6_within_18 : decode cX6_within 18 = .ok (.iload_n 0, 1) := by decide +kernel
theorem dX6_within_19 : decode cX6_within 19 = .ok (.ireturn, 1) := by decide +kernel
theorem dX6_init_0 : decode cX6_init 0 = .ok (.aload_n 0, 1) := by decide +kernel
theorem dX6_init_1 : decode cX6_init 1 = .ok (.invokespecial 7, 3) := by decide +kernel
theorem dX6_init_4 : decode cX6_init 4 = .ok (.aload_n 0, 1) := by decide +kernel
theorem dX6_init_5 : decode cX6_init 5 = .ok (.sipush 960, 3) := by decide +kernel
theorem dX6_init_8 : decode cX6_init 8 = .ok (.newarray .int, 2) := by decide +kernel
theorem dX6_init_10 : decode cX6_init 10 = .ok (.putfield 13, 3) := by decide +kernel
theorem dX6_init_13 : decode cX6_init 13 = .ok (.aload_n 0, 1) := by decide +kernel
theorem dX6_init_14 : decode cX6_init 14 = .ok (.bipush 6, 2) := by decide +kernel
theorem dX6_init_16 : decode cX6_init 16 = .ok (.newarray .int, 2) := by decide +kernel
theorem dX6_init_18 : decode cX6_init 18 = .ok (.putfield 17, 3) := by decide +kernel
theorem dX6_init_21 : decode cX6_init 21 = .ok (.aload_n 0, 1) := by decide +kernel
theorem dX6_init_22 : decode cX6_init 22 = .ok (.sipush 160, 3) := by decide +kernel
theorem dX6_init_25 : decode cX6_init 25 = .ok (.newarray .int, 2) := by decide +kernel
theorem dX6_init_27 : decode cX6_init 27 = .ok (.putfield 20, 3) := by decide +kernel
theorem dX6_init_30 : decode cX6_init 30 = .ok (.aload_n 0, 1) := by decide +kernel
theorem dX6_init_31 : decode cX6_init 31 = .ok (.bipush 64, 2) := by decide +kernel
theorem dX6_init_33 : decode cX6_init 33 = .ok (.newarray .int, 2) := by decide +kernel
theorem dX6_init_35 : decode cX6_init 35 = .ok (.putfield 23, 3) := by decide +kernel
theorem dX6_init_38 : decode cX6_init 38 = .ok (.aload_n 0, 1) := by decide +kernel
theorem dX6_init_39 : decode cX6_init 39 = .ok (.iconst 4, 1) := by decide +kernel
theorem dX6_init_40 : decode cX6_init 40 = .ok (.newarray .int, 2) := by decide +kernel
theorem dX6_init_42 : decode cX6_init 42 = .ok (.putfield 26, 3) := by decide +kernel
theorem dX6_init_45 : decode cX6_init 45 = .ok (.aload_n 0, 1) := by decide +kernel
theorem dX6_init_46 : decode cX6_init 46 = .ok (.bipush 25, 2) := by decide +kernel
theorem dX6_init_48 : decode cX6_init 48 = .ok (.newarray .int, 2) := by decide +kernel
theorem dX6_init_50 : decode cX6_init 50 = .ok (.putfield 29, 3) := by decide +kernel
theorem dX6_init_53 : decode cX6_init 53 = .ok (.aload_n 0, 1) := by decide +kernel
theorem dX6_init_54 : decode cX6_init 54 = .ok (.iconst (-1), 1) := by decide +kernel
theorem dX6_init_55 : decode cX6_init 55 = .ok (.putfield 32, 3) := by decide +kernel
theorem dX6_init_58 : decode cX6_init 58 = .ok (.aload_n 0, 1) := by decide +kernel
theorem dX6_init_59 : decode cX6_init 59 = .ok (.bipush 30, 2) := by decide +kernel
theorem dX6_init_61 : decode cX6_init 61 = .ok (.newarray .int, 2) := by decide +kernel
theorem dX6_init_63 : decode cX6_init 63 = .ok (.putfield 35, 3) := by decide +kernel
theorem dX6_init_66 : decode cX6_init 66 = .ok (.aload_n 0, 1) := by decide +kernel
theorem dX6_init_67 : decode cX6_init 67 = .ok (.bipush 64, 2) := by decide +kernel
theorem dX6_init_69 : decode cX6_init 69 = .ok (.newarray .int, 2) := by decide +kernel
theorem dX6_init_71 : decode cX6_init 71 = .ok (.putfield 38, 3) := by decide +kernel
theorem dX6_init_74 : decode cX6_init 74 = .ok (.aload_n 0, 1) := by decide +kernel
theorem dX6_init_75 : decode cX6_init 75 = .ok (.bipush 25, 2) := by decide +kernel
theorem dX6_init_77 : decode cX6_init 77 = .ok (.newarray .int, 2) := by decide +kernel
theorem dX6_init_79 : decode cX6_init 79 = .ok (.putfield 41, 3) := by decide +kernel
theorem dX6_init_82 : decode cX6_init 82 = .ok (.aload_n 0, 1) := by decide +kernel
theorem dX6_init_83 : decode cX6_init 83 = .ok (.bipush 64, 2) := by decide +kernel
theorem dX6_init_85 : decode cX6_init 85 = .ok (.newarray .int, 2) := by decide +kernel
theorem dX6_init_87 : decode cX6_init 87 = .ok (.putfield 44, 3) := by decide +kernel
theorem dX6_init_90 : decode cX6_init 90 = .ok (.aload_n 0, 1) := by decide +kernel
theorem dX6_init_91 : decode cX6_init 91 = .ok (.iconst 4, 1) := by decide +kernel
theorem dX6_init_92 : decode cX6_init 92 = .ok (.newarray .int, 2) := by decide +kernel
theorem dX6_init_94 : decode cX6_init 94 = .ok (.putfield 47, 3) := by decide +kernel
theorem dX6_init_97 : decode cX6_init 97 = .ok (.aload_n 0, 1) := by decide +kernel
theorem dX6_init_98 : decode cX6_init 98 = .ok (.iconst (-1), 1) := by decide +kernel
theorem dX6_init_99 : decode cX6_init 99 = .ok (.putfield 50, 3) := by decide +kernel
theorem dX6_init_102 : decode cX6_init 102 = .ok (.aload_n 0, 1) := by decide +kernel
theorem dX6_init_103 : decode cX6_init 103 = .ok (.iconst 4, 1) := by decide +kernel
theorem dX6_init_104 : decode cX6_init 104 = .ok (.newarray .boolean, 2) := by decide +kernel
theorem dX6_init_106 : decode cX6_init 106 = .ok (.putfield 53, 3) := by decide +kernel
theorem dX6_init_109 : decode cX6_init 109 = .ok (.aload_n 0, 1) := by decide +kernel
theorem dX6_init_110 : decode cX6_init 110 = .ok (.iconst 4, 1) := by decide +kernel
theorem dX6_init_111 : decode cX6_init 111 = .ok (.newarray .int, 2) := by decide +kernel
theorem dX6_init_113 : decode cX6_init 113 = .ok (.putfield 57, 3) := by decide +kernel
theorem dX6_init_116 : decode cX6_init 116 = .ok (.aload_n 0, 1) := by decide +kernel
theorem dX6_init_117 : decode cX6_init 117 = .ok (.iconst 4, 1) := by decide +kernel
theorem dX6_init_118 : decode cX6_init 118 = .ok (.newarray .int, 2) := by decide +kernel
theorem dX6_init_120 : decode cX6_init 120 = .ok (.putfield 60, 3) := by decide +kernel
theorem dX6_init_123 : decode cX6_init 123 = .ok (.aload_n 0, 1) := by decide +kernel
theorem dX6_init_124 : decode cX6_init 124 = .ok (.sipush 160, 3) := by decide +kernel
theorem dX6_init_127 : decode cX6_init 127 = .ok (.newarray .int, 2) := by decide +kernel
theorem dX6_init_129 : decode cX6_init 129 = .ok (.putfield 63, 3) := by decide +kernel
theorem dX6_init_132 : decode cX6_init 132 = .ok (.iconst 0, 1) := by decide +kernel
theorem dX6_init_133 : decode cX6_init 133 = .ok (.istore_n 1, 1) := by decide +kernel
theorem dX6_init_134 : decode cX6_init 134 = .ok (.iload_n 1, 1) := by decide +kernel
theorem dX6_init_135 : decode cX6_init 135 = .ok (.bipush 64, 2) := by decide +kernel
theorem dX6_init_137 : decode cX6_init 137 = .ok (.if_icmp .ge 18, 3) := by decide +kernel
theorem dX6_init_140 : decode cX6_init 140 = .ok (.aload_n 0, 1) := by decide +kernel
theorem dX6_init_141 : decode cX6_init 141 = .ok (.getfield 23, 3) := by decide +kernel
theorem dX6_init_144 : decode cX6_init 144 = .ok (.iload_n 1, 1) := by decide +kernel
theorem dX6_init_145 : decode cX6_init 145 = .ok (.iload_n 1, 1) := by decide +kernel
theorem dX6_init_146 : decode cX6_init 146 = .ok (.iconst 4, 1) := by decide +kernel
theorem dX6_init_147 : decode cX6_init 147 = .ok (.irem, 1) := by decide +kernel
theorem dX6_init_148 : decode cX6_init 148 = .ok (.iastore, 1) := by decide +kernel
theorem dX6_init_149 : decode cX6_init 149 = .ok (.iinc 1 1, 3) := by decide +kernel
theorem dX6_init_152 : decode cX6_init 152 = .ok (.goto (-18), 3) := by decide +kernel
theorem dX6_init_155 : decode cX6_init 155 = .ok (.aload_n 0, 1) := by decide +kernel
theorem dX6_init_156 : decode cX6_init 156 = .ok (.iconst 0, 1) := by decide +kernel
theorem dX6_init_157 : decode cX6_init 157 = .ok (.bipush 110, 2) := by decide +kernel
theorem dX6_init_159 : decode cX6_init 159 = .ok (.bipush 101, 2) := by decide +kernel
theorem dX6_init_161 : decode cX6_init 161 = .ok (.bipush 101, 2) := by decide +kernel
theorem dX6_init_163 : decode cX6_init 163 = .ok (.bipush 100, 2) := by decide +kernel
theorem dX6_init_165 : decode cX6_init 165 = .ok (.bipush 115, 2) := by decide +kernel
theorem dX6_init_167 : decode cX6_init 167 = .ok (.bipush 32, 2) := by decide +kernel
theorem dX6_init_169 : decode cX6_init 169 = .ok (.bipush 50, 2) := by decide +kernel
theorem dX6_init_171 : decode cX6_init 171 = .ok (.bipush 32, 2) := by decide +kernel
theorem dX6_init_173 : decode cX6_init 173 = .ok (.invokevirtual 66, 3) := by decide +kernel
theorem dX6_init_176 : decode cX6_init 176 = .ok (.aload_n 0, 1) := by decide +kernel
theorem dX6_init_177 : decode cX6_init 177 = .ok (.bipush 8, 2) := by decide +kernel
theorem dX6_init_179 : decode cX6_init 179 = .ok (.bipush 59, 2) := by decide +kernel
theorem dX6_init_181 : decode cX6_init 181 = .ok (.bipush 32, 2) := by decide +kernel
theorem dX6_init_183 : decode cX6_init 183 = .ok (.bipush 115, 2) := by decide +kernel
theorem dX6_init_185 : decode cX6_init 185 = .ok (.bipush 101, 2) := by decide +kernel
theorem dX6_init_187 : decode cX6_init 187 = .ok (.bipush 101, 2) := by decide +kernel
theorem dX6_init_189 : decode cX6_init 189 = .ok (.bipush 115, 2) := by decide +kernel
theorem dX6_init_191 : decode cX6_init 191 = .ok (.bipush 32, 2) := by decide +kernel
theorem dX6_init_193 : decode cX6_init 193 = .ok (.bipush 100, 2) := by decide +kernel
theorem dX6_init_195 : decode cX6_init 195 = .ok (.invokevirtual 66, 3) := by decide +kernel
theorem dX6_init_198 : decode cX6_init 198 = .ok (.aload_n 0, 1) := by decide +kernel
theorem dX6_init_199 : decode cX6_init 199 = .ok (.bipush 16, 2) := by decide +kernel
theorem dX6_init_201 : decode cX6_init 201 = .ok (.bipush 97, 2) := by decide +kernel
theorem dX6_init_203 : decode cX6_init 203 = .ok (.bipush 121, 2) := by decide +kernel
theorem dX6_init_205 : decode cX6_init 205 = .ok (.bipush 32, 2) := by decide +kernel
theorem dX6_init_207 : decode cX6_init 207 = .ok (.bipush 59, 2) := by decide +kernel
theorem dX6_init_209 : decode cX6_init 209 = .ok (.bipush 32, 2) := by decide +kernel
theorem dX6_init_211 : decode cX6_init 211 = .ok (.bipush 116, 2) := by decide +kernel
theorem dX6_init_213 : decode cX6_init 213 = .ok (.bipush 117, 2) := by decide +kernel
theorem dX6_init_215 : decode cX6_init 215 = .ok (.bipush 114, 2) := by decide +kernel
theorem dX6_init_217 : decode cX6_init 217 = .ok (.invokevirtual 66, 3) := by decide +kernel
theorem dX6_init_220 : decode cX6_init 220 = .ok (.aload_n 0, 1) := by decide +kernel
theorem dX6_init_221 : decode cX6_init 221 = .ok (.bipush 24, 2) := by decide +kernel
theorem dX6_init_223 : decode cX6_init 223 = .ok (.bipush 110, 2) := by decide +kernel
theorem dX6_init_225 : decode cX6_init 225 = .ok (.bipush 115, 2) := by decide +kernel
theorem dX6_init_227 : decode cX6_init 227 = .ok (.bipush 32, 2) := by decide +kernel
theorem dX6_init_229 : decode cX6_init 229 = .ok (.bipush 100, 2) := by decide +kernel
theorem dX6_init_231 : decode cX6_init 231 = .ok (.bipush 97, 2) := by decide +kernel
theorem dX6_init_233 : decode cX6_init 233 = .ok (.bipush 121, 2) := by decide +kernel
theorem dX6_init_235 : decode cX6_init 235 = .ok (.bipush 32, 2) := by decide +kernel
theorem dX6_init_237 : decode cX6_init 237 = .ok (.bipush 43, 2) := by decide +kernel
theorem dX6_init_239 : decode cX6_init 239 = .ok (.invokevirtual 66, 3) := by decide +kernel
theorem dX6_init_242 : decode cX6_init 242 = .ok (.aload_n 0, 1) := by decide +kernel
theorem dX6_init_243 : decode cX6_init 243 = .ok (.bipush 32, 2) := by decide +kernel
theorem dX6_init_245 : decode cX6_init 245 = .ok (.bipush 32, 2) := by decide +kernel
theorem dX6_init_247 : decode cX6_init 247 = .ok (.bipush 110, 2) := by decide +kernel
theorem dX6_init_249 : decode cX6_init 249 = .ok (.bipush 117, 2) := by decide +kernel
theorem dX6_init_251 : decode cX6_init 251 = .ok (.bipush 109, 2) := by decide +kernel
theorem dX6_init_253 : decode cX6_init 253 = .ok (.bipush 98, 2) := by decide +kernel
theorem dX6_init_255 : decode cX6_init 255 = .ok (.bipush 101, 2) := by decide +kernel
theorem dX6_init_257 : decode cX6_init 257 = .ok (.bipush 114, 2) := by decide +kernel
theorem dX6_init_259 : decode cX6_init 259 = .ok (.bipush 32, 2) := by decide +kernel
theorem dX6_init_261 : decode cX6_init 261 = .ok (.invokevirtual 66, 3) := by decide +kernel
theorem dX6_init_264 : decode cX6_init 264 = .ok (.aload_n 0, 1) := by decide +kernel
theorem dX6_init_265 : decode cX6_init 265 = .ok (.bipush 40, 2) := by decide +kernel
theorem dX6_init_267 : decode cX6_init 267 = .ok (.bipush 59, 2) := by decide +kernel
theorem dX6_init_269 : decode cX6_init 269 = .ok (.bipush 32, 2) := by decide +kernel
theorem dX6_init_271 : decode cX6_init 271 = .ok (.bipush 32, 2) := by decide +kernel
theorem dX6_init_273 : decode cX6_init 273 = .ok (.bipush 32, 2) := by decide +kernel
theorem dX6_init_275 : decode cX6_init 275 = .ok (.bipush 32, 2) := by decide +kernel
theorem dX6_init_277 : decode cX6_init 277 = .ok (.bipush 32, 2) := by decide +kernel
theorem dX6_init_279 : decode cX6_init 279 = .ok (.bipush 32, 2) := by decide +kernel
theorem dX6_init_281 : decode cX6_init 281 = .ok (.bipush 32, 2) := by decide +kernel
theorem dX6_init_283 : decode cX6_init 283 = .ok (.invokevirtual 66, 3) := by decide +kernel
theorem dX6_init_286 : decode cX6_init 286 = .ok (.aload_n 0, 1) := by decide +kernel
theorem dX6_init_287 : decode cX6_init 287 = .ok (.getfield 17, 3) := by decide +kernel
theorem dX6_init_290 : decode cX6_init 290 = .ok (.iconst 0, 1) := by decide +kernel
theorem dX6_init_291 : decode cX6_init 291 = .ok (.bipush 48, 2) := by decide +kernel
theorem dX6_init_293 : decode cX6_init 293 = .ok (.iastore, 1) := by decide +kernel
theorem dX6_init_294 : decode cX6_init 294 = .ok (.aload_n 0, 1) := by decide +kernel
theorem dX6_init_295 : decode cX6_init 295 = .ok (.iconst 1, 1) := by decide +kernel
theorem dX6_init_296 : decode cX6_init 296 = .ok (.putfield 70, 3) := by decide +kernel
theorem dX6_init_299 : decode cX6_init 299 = .ok (.return_, 1) := by decide +kernel
theorem dX6_spell_0 : decode cX6_spell 0 = .ok (.aload_n 0, 1) := by decide +kernel
theorem dX6_spell_1 : decode cX6_spell 1 = .ok (.getfield 13, 3) := by decide +kernel
theorem dX6_spell_4 : decode cX6_spell 4 = .ok (.iload_n 1, 1) := by decide +kernel
theorem dX6_spell_5 : decode cX6_spell 5 = .ok (.iload_n 2, 1) := by decide +kernel
theorem dX6_spell_6 : decode cX6_spell 6 = .ok (.iastore, 1) := by decide +kernel
theorem dX6_spell_7 : decode cX6_spell 7 = .ok (.aload_n 0, 1) := by decide +kernel
theorem dX6_spell_8 : decode cX6_spell 8 = .ok (.getfield 13, 3) := by decide +kernel
theorem dX6_spell_11 : decode cX6_spell 11 = .ok (.iload_n 1, 1) := by decide +kernel
theorem dX6_spell_12 : decode cX6_spell 12 = .ok (.iconst 1, 1) := by decide +kernel
theorem dX6_spell_13 : decode cX6_spell 13 = .ok (.iadd, 1) := by decide +kernel
theorem dX6_spell_14 : decode cX6_spell 14 = .ok (.iload_n 3, 1) := by decide +kernel
theorem dX6_spell_15 : decode cX6_spell 15 = .ok (.iastore, 1) := by decide +kernel
theorem dX6_spell_16 : decode cX6_spell 16 = .ok (.aload_n 0, 1) := by decide +kernel
theorem dX6_spell_17 : decode cX6_spell 17 = .ok (.getfield 13, 3) := by decide +kernel
theorem dX6_spell_20 : decode cX6_spell 20 = .ok (.iload_n 1, 1) := by decide +kernel
theorem dX6_spell_21 : decode cX6_spell 21 = .ok (.iconst 2, 1) := by decide +kernel
theorem dX6_spell_22 : decode cX6_spell 22 = .ok (.iadd, 1) := by decide +kernel
theorem dX6_spell_23 : decode cX6_spell 23 = .ok (.iload 4, 2) := by decide +kernel
theorem dX6_spell_25 : decode cX6_spell 25 = .ok (.iastore, 1) := by decide +kernel
theorem dX6_spell_26 : decode cX6_spell 26 = .ok (.aload_n 0, 1) := by decide +kernel
theorem dX6_spell_27 : decode cX6_spell 27 = .ok (.getfield 13, 3) := by decide +kernel
theorem dX6_spell_30 : decode cX6_spell 30 = .ok (.iload_n 1, 1) := by decide +kernel
theorem dX6_spell_31 : decode cX6_spell 31 = .ok (.iconst 3, 1) := by decide +kernel
theorem dX6_spell_32 : decode cX6_spell 32 = .ok (.iadd, 1) := by decide +kernel
theorem dX6_spell_33 : decode cX6_spell 33 = .ok (.iload 5, 2) := by decide +kernel
theorem dX6_spell_35 : decode cX6_spell 35 = .ok (.iastore, 1) := by decide +kernel
theorem dX6_spell_36 : decode cX6_spell 36 = .ok (.aload_n 0, 1) := by decide +kernel
theorem dX6_spell_37 : decode cX6_spell 37 = .ok (.getfield 13, 3) := by decide +kernel
theorem dX6_spell_40 : decode cX6_spell 40 = .ok (.iload_n 1, 1) := by decide +kernel
theorem dX6_spell_41 : decode cX6_spell 41 = .ok (.iconst 4, 1) := by decide +kernel
theorem dX6_spell_42 : decode cX6_spell 42 = .ok (.iadd, 1) := by decide +kernel
theorem dX6_spell_43 : decode cX6_spell 43 = .ok (.iload 6, 2) := by decide +kernel
theorem dX6_spell_45 : decode cX6_spell 45 = .ok (.iastore, 1) := by decide +kernel
theorem dX6_spell_46 : decode cX6_spell 46 = .ok (.aload_n 0, 1) := by decide +kernel
theorem dX6_spell_47 : decode cX6_spell 47 = .ok (.getfield 13, 3) := by decide +kernel
theorem dX6_spell_50 : decode cX6_spell 50 = .ok (.iload_n 1, 1) := by decide +kernel
theorem dX6_spell_51 : decode cX6_spell 51 = .ok (.iconst 5, 1) := by decide +kernel
theorem dX6_spell_52 : decode cX6_spell 52 = .ok (.iadd, 1) := by decide +kernel
theorem dX6_spell_53 : decode cX6_spell 53 = .ok (.iload 7, 2) := by decide +kernel
theorem dX6_spell_55 : decode cX6_spell 55 = .ok (.iastore, 1) := by decide +kernel
theorem dX6_spell_56 : decode cX6_spell 56 = .ok (.aload_n 0, 1) := by decide +kernel
theorem dX6_spell_57 : decode cX6_spell 57 = .ok (.getfield 13, 3) := by decide +kernel
theorem dX6_spell_60 : decode cX6_spell 60 = .ok (.iload_n 1, 1) := by decide +kernel
theorem dX6_spell_61 : decode cX6_spell 61 = .ok (.bipush 6, 2) := by decide +kernel
theorem dX6_spell_63 : decode cX6_spell 63 = .ok (.iadd, 1) := by decide +kernel
theorem dX6_spell_64 : decode cX6_spell 64 = .ok (.iload 8, 2) := by decide +kernel
theorem dX6_spell_66 : decode cX6_spell 66 = .ok (.iastore, 1) := by decide +kernel
theorem dX6_spell_67 : decode cX6_spell 67 = .ok (.aload_n 0, 1) := by decide +kernel
theorem dX6_spell_68 : decode cX6_spell 68 = .ok (.getfield 13, 3) := by decide +kernel
theorem dX6_spell_71 : decode cX6_spell 71 = .ok (.iload_n 1, 1) := by decide +kernel
theorem dX6_spell_72 : decode cX6_spell 72 = .ok (.bipush 7, 2) := by decide +kernel
theorem dX6_spell_74 : decode cX6_spell 74 = .ok (.iadd, 1) := by decide +kernel
theorem dX6_spell_75 : decode cX6_spell 75 = .ok (.iload 9, 2) := by decide +kernel
theorem dX6_spell_77 : decode cX6_spell 77 = .ok (.iastore, 1) := by decide +kernel
theorem dX6_spell_78 : decode cX6_spell 78 = .ok (.return_, 1) := by decide +kernel
theorem dX6_isOne_0 : decode cX6_isOne 0 = .ok (.iload_n 1, 1) := by decide +kernel
theorem dX6_isOne_1 : decode cX6_isOne 1 = .ok (.i2l, 1) := by decide +kernel
theorem dX6_isOne_2 : decode cX6_isOne 2 = .ok (.lconst 0, 1) := by decide +kernel
theorem dX6_isOne_3 : decode cX6_isOne 3 = .ok (.aload_n 0, 1) := by decide +kernel
theorem dX6_isOne_4 : decode cX6_isOne 4 = .ok (.getfield 73, 3) := by decide +kernel
theorem dX6_isOne_7 : decode cX6_isOne 7 = .ok (.iconst 1, 1) := by decide +kernel
theorem dX6_isOne_8 : decode cX6_isOne 8 = .ok (.isub, 1) := by decide +kernel
theorem dX6_isOne_9 : decode cX6_isOne 9 = .ok (.i2l, 1) := by decide +kernel
theorem dX6_isOne_10 : decode cX6_isOne 10 = .ok (.invokestatic 76, 3) := by decide +kernel
theorem dX6_isOne_13 : decode cX6_isOne 13 = .ok (.ireturn, 1) := by decide +kernel
theorem dX6_has_0 : decode cX6_has 0 = .ok (.lload_n 0, 1) := by decide +kernel
theorem dX6_has_1 : decode cX6_has 1 = .ok (.iload_n 2, 1) := by decide +kernel
theorem dX6_has_2 : decode cX6_has 2 = .ok (.lshr, 1) := by decide +kernel
theorem dX6_has_3 : decode cX6_has 3 = .ok (.lconst 1, 1) := by decide +kernel
theorem dX6_has_4 : decode cX6_has 4 = .ok (.land, 1) := by decide +kernel
theorem dX6_has_5 : decode cX6_has 5 = .ok (.lconst 1, 1) := by decide +kernel
theorem dX6_has_6 : decode cX6_has 6 = .ok (.lcmp, 1) := by decide +kernel
theorem dX6_has_7 : decode cX6_has 7 = .ok (.ifCond .ne 7, 3) := by decide +kernel
theorem dX6_has_10 : decode cX6_has 10 = .ok (.iconst 1, 1) := by decide +kernel
theorem dX6_has_11 : decode cX6_has 11 = .ok (.goto 4, 3) := by decide +kernel
theorem dX6_has_14 : decode cX6_has 14 = .ok (.iconst 0, 1) := by decide +kernel
theorem dX6_has_15 : decode cX6_has 15 = .ok (.ireturn, 1) := by decide +kernel
theorem dX6_bitsOf_0 : decode cX6_bitsOf 0 = .ok (.iconst 0, 1) := by decide +kernel
theorem dX6_bitsOf_1 : decode cX6_bitsOf 1 = .ok (.istore_n 2, 1) := by decide +kernel
theorem dX6_bitsOf_2 : decode cX6_bitsOf 2 = .ok (.lload_n 0, 1) := by decide +kernel
theorem dX6_bitsOf_3 : decode cX6_bitsOf 3 = .ok (.lstore_n 3, 1) := by decide +kernel
theorem dX6_bitsOf_4 : decode cX6_bitsOf 4 = .ok (.lload_n 3, 1) := by decide +kernel
theorem dX6_bitsOf_5 : decode cX6_bitsOf 5 = .ok (.lconst 0, 1) := by decide +kernel
theorem dX6_bitsOf_6 : decode cX6_bitsOf 6 = .ok (.lcmp, 1) := by decide +kernel
theorem dX6_bitsOf_7 : decode cX6_bitsOf 7 = .ok (.ifCond .eq 15, 3) := by decide +kernel
theorem dX6_bitsOf_10 : decode cX6_bitsOf 10 = .ok (.iinc 2 1, 3) := by decide +kernel
theorem dX6_bitsOf_13 : decode cX6_bitsOf 13 = .ok (.lload_n 3, 1) := by decide +kernel
theorem dX6_bitsOf_14 : decode cX6_bitsOf 14 = .ok (.lload_n 3, 1) := by decide +kernel
theorem dX6_bitsOf_15 : decode cX6_bitsOf 15 = .ok (.lconst 1, 1) := by decide +kernel
theorem dX6_bitsOf_16 : decode cX6_bitsOf 16 = .ok (.lsub, 1) := by decide +kernel
theorem dX6_bitsOf_17 : decode cX6_bitsOf 17 = .ok (.land, 1) := by decide +kernel
theorem dX6_bitsOf_18 : decode cX6_bitsOf 18 = .ok (.lstore_n 3, 1) := by decide +kernel
theorem dX6_bitsOf_19 : decode cX6_bitsOf 19 = .ok (.goto (-15), 3) := by decide +kernel
theorem dX6_bitsOf_22 : decode cX6_bitsOf 22 = .ok (.iload_n 2, 1) := by decide +kernel
theorem dX6_bitsOf_23 : decode cX6_bitsOf 23 = .ok (.ireturn, 1) := by decide +kernel
theorem dX6_isOf_0 : decode cX6_isOf 0 = .ok (.iload_n 1, 1) := by decide +kernel
theorem dX6_isOf_1 : decode cX6_isOf 1 = .ok (.ifCond .eq 51, 3) := by decide +kernel
theorem dX6_isOf_4 : decode cX6_isOf 4 = .ok (.iload_n 1, 1) := by decide +kernel
theorem dX6_isOf_5 : decode cX6_isOf 5 = .ok (.iconst 3, 1) := by decide +kernel
theorem dX6_isOf_6 : decode cX6_isOf 6 = .ok (.if_icmp .ge 18, 3) := by decide +kernel
theorem dX6_isOf_9 : decode cX6_isOf 9 = .ok (.iload_n 2, 1) := by decide +kernel
theorem dX6_isOf_10 : decode cX6_isOf 10 = .ok (.i2l, 1) := by decide +kernel
theorem dX6_isOf_11 : decode cX6_isOf 11 = .ok (.lconst 0, 1) := by decide +kernel
theorem dX6_isOf_12 : decode cX6_isOf 12 = .ok (.ldc2_w 80, 3) := by decide +kernel
theorem dX6_isOf_15 : decode cX6_isOf 15 = .ok (.invokestatic 76, 3) := by decide +kernel
theorem dX6_isOf_18 : decode cX6_isOf 18 = .ok (.ifCond .eq 38, 3) := by decide +kernel
theorem dX6_isOf_21 : decode cX6_isOf 21 = .ok (.goto 31, 3) := by decide +kernel
theorem dX6_isOf_24 : decode cX6_isOf 24 = .ok (.iload_n 1, 1) := by decide +kernel
theorem dX6_isOf_25 : decode cX6_isOf 25 = .ok (.iconst 3, 1) := by decide +kernel
theorem dX6_isOf_26 : decode cX6_isOf 26 = .ok (.if_icmp .ne 18, 3) := by decide +kernel
theorem dX6_isOf_29 : decode cX6_isOf 29 = .ok (.iload_n 2, 1) := by decide +kernel
theorem dX6_isOf_30 : decode cX6_isOf 30 = .ok (.i2l, 1) := by decide +kernel
theorem dX6_isOf_31 : decode cX6_isOf 31 = .ok (.lconst 0, 1) := by decide +kernel
theorem dX6_isOf_32 : decode cX6_isOf 32 = .ok (.ldc2_w 82, 3) := by decide +kernel
theorem dX6_isOf_35 : decode cX6_isOf 35 = .ok (.invokestatic 76, 3) := by decide +kernel
theorem dX6_isOf_38 : decode cX6_isOf 38 = .ok (.ifCond .eq 18, 3) := by decide +kernel
theorem dX6_isOf_41 : decode cX6_isOf 41 = .ok (.goto 11, 3) := by decide +kernel
theorem dX6_isOf_44 : decode cX6_isOf 44 = .ok (.aload_n 0, 1) := by decide +kernel
theorem dX6_isOf_45 : decode cX6_isOf 45 = .ok (.iload_n 2, 1) := by decide +kernel
theorem dX6_isOf_46 : decode cX6_isOf 46 = .ok (.invokevirtual 84, 3) := by decide +kernel
theorem dX6_isOf_49 : decode cX6_isOf 49 = .ok (.ifCond .eq 7, 3) := by decide +kernel
theorem dX6_isOf_52 : decode cX6_isOf 52 = .ok (.iconst 1, 1) := by decide +kernel
theorem dX6_isOf_53 : decode cX6_isOf 53 = .ok (.goto 4, 3) := by decide +kernel
theorem dX6_isOf_56 : decode cX6_isOf 56 = .ok (.iconst 0, 1) := by decide +kernel
theorem dX6_isOf_57 : decode cX6_isOf 57 = .ok (.ireturn, 1) := by decide +kernel
theorem dX6_mostOf_0 : decode cX6_mostOf 0 = .ok (.iload_n 0, 1) := by decide +kernel
theorem dX6_mostOf_1 : decode cX6_mostOf 1 = .ok (.ifCond .ne 9, 3) := by decide +kernel
theorem dX6_mostOf_4 : decode cX6_mostOf 4 = .ok (.sipush 999, 3) := by decide +kernel
theorem dX6_mostOf_7 : decode cX6_mostOf 7 = .ok (.goto 38, 3) := by decide +kernel
theorem dX6_mostOf_10 : decode cX6_mostOf 10 = .ok (.iload_n 0, 1) := by decide +kernel
theorem dX6_mostOf_11 : decode cX6_mostOf 11 = .ok (.iconst 1, 1) := by decide +kernel
theorem dX6_mostOf_12 : decode cX6_mostOf 12 = .ok (.if_icmp .eq 8, 3) := by decide +kernel
theorem dX6_mostOf_15 : decode cX6_mostOf 15 = .ok (.iload_n 0, 1) := by decide +kernel
theorem dX6_mostOf_16 : decode cX6_mostOf 16 = .ok (.iconst 5, 1) := by decide +kernel
theorem dX6_mostOf_17 : decode cX6_mostOf 17 = .ok (.if_icmp .ne 7, 3) := by decide +kernel
theorem dX6_mostOf_20 : decode cX6_mostOf 20 = .ok (.iconst 3, 1) := by decide +kernel
theorem dX6_mostOf_21 : decode cX6_mostOf 21 = .ok (.goto 24, 3) := by decide +kernel
theorem dX6_mostOf_24 : decode cX6_mostOf 24 = .ok (.iload_n 0, 1) := by decide +kernel
theorem dX6_mostOf_25 : decode cX6_mostOf 25 = .ok (.iconst 2, 1) := by decide +kernel
theorem dX6_mostOf_26 : decode cX6_mostOf 26 = .ok (.if_icmp .ne 7, 3) := by decide +kernel
theorem dX6_mostOf_29 : decode cX6_mostOf 29 = .ok (.iconst 1, 1) := by decide +kernel
theorem dX6_mostOf_30 : decode cX6_mostOf 30 = .ok (.goto 15, 3) := by decide +kernel
theorem dX6_mostOf_33 : decode cX6_mostOf 33 = .ok (.iload_n 0, 1) := by decide +kernel
theorem dX6_mostOf_34 : decode cX6_mostOf 34 = .ok (.iconst 4, 1) := by decide +kernel
theorem dX6_mostOf_35 : decode cX6_mostOf 35 = .ok (.if_icmp .ne 8, 3) := by decide +kernel
theorem dX6_mostOf_38 : decode cX6_mostOf 38 = .ok (.bipush 9, 2) := by decide +kernel
theorem dX6_mostOf_40 : decode cX6_mostOf 40 = .ok (.goto 5, 3) := by decide +kernel
theorem dX6_mostOf_43 : decode cX6_mostOf 43 = .ok (.bipush 99, 2) := by decide +kernel
theorem dX6_mostOf_45 : decode cX6_mostOf 45 = .ok (.ireturn, 1) := by decide +kernel
theorem dX6_set_0 : decode cX6_set 0 = .ok (.iload_n 1, 1) := by decide +kernel
theorem dX6_set_1 : decode cX6_set 1 = .ok (.i2l, 1) := by decide +kernel
theorem dX6_set_2 : decode cX6_set 2 = .ok (.lconst 0, 1) := by decide +kernel
theorem dX6_set_3 : decode cX6_set 3 = .ok (.ldc2_w 88, 3) := by decide +kernel
theorem dX6_set_6 : decode cX6_set 6 = .ok (.invokestatic 76, 3) := by decide +kernel
theorem dX6_set_9 : decode cX6_set 9 = .ok (.ifCond .eq 26, 3) := by decide +kernel
theorem dX6_set_12 : decode cX6_set 12 = .ok (.aload_n 0, 1) := by decide +kernel
theorem dX6_set_13 : decode cX6_set 13 = .ok (.iload_n 1, 1) := by decide +kernel
theorem dX6_set_14 : decode cX6_set 14 = .ok (.iload_n 2, 1) := by decide +kernel
theorem dX6_set_15 : decode cX6_set 15 = .ok (.invokevirtual 90, 3) := by decide +kernel
theorem dX6_set_18 : decode cX6_set 18 = .ok (.ifCond .eq 17, 3) := by decide +kernel
theorem dX6_set_21 : decode cX6_set 21 = .ok (.iload_n 3, 1) := by decide +kernel
theorem dX6_set_22 : decode cX6_set 22 = .ok (.i2l, 1) := by decide +kernel
theorem dX6_set_23 : decode cX6_set 23 = .ok (.lconst 0, 1) := by decide +kernel
theorem dX6_set_24 : decode cX6_set 24 = .ok (.iload_n 1, 1) := by decide +kernel
theorem dX6_set_25 : decode cX6_set 25 = .ok (.invokestatic 94, 3) := by decide +kernel
theorem dX6_set_28 : decode cX6_set 28 = .ok (.i2l, 1) := by decide +kernel
theorem dX6_set_29 : decode cX6_set 29 = .ok (.invokestatic 76, 3) := by decide +kernel
theorem dX6_set_32 : decode cX6_set 32 = .ok (.ifCond .ne 6, 3) := by decide +kernel
theorem dX6_set_35 : decode cX6_set 35 = .ok (.bipush (-2), 2) := by decide +kernel
theorem dX6_set_37 : decode cX6_set 37 = .ok (.ireturn, 1) := by decide +kernel
theorem dX6_set_38 : decode cX6_set 38 = .ok (.aload_n 0, 1) := by decide +kernel
theorem dX6_set_39 : decode cX6_set 39 = .ok (.iload_n 2, 1) := by decide +kernel
theorem dX6_set_40 : decode cX6_set 40 = .ok (.iload_n 1, 1) := by decide +kernel
theorem dX6_set_41 : decode cX6_set 41 = .ok (.invokevirtual 98, 3) := by decide +kernel
theorem dX6_set_44 : decode cX6_set 44 = .ok (.istore 4, 2) := by decide +kernel
theorem dX6_set_46 : decode cX6_set 46 = .ok (.aload_n 0, 1) := by decide +kernel
theorem dX6_set_47 : decode cX6_set 47 = .ok (.iload_n 1, 1) := by decide +kernel
theorem dX6_set_48 : decode cX6_set 48 = .ok (.iload_n 2, 1) := by decide +kernel
theorem dX6_set_49 : decode cX6_set 49 = .ok (.iload_n 3, 1) := by decide +kernel
theorem dX6_set_50 : decode cX6_set 50 = .ok (.invokevirtual 102, 3) := by decide +kernel
theorem dX6_set_53 : decode cX6_set 53 = .ok (.iload 4, 2) := by decide +kernel
theorem dX6_set_55 : decode cX6_set 55 = .ok (.ireturn, 1) := by decide +kernel
theorem dX6_lays_0 : decode cX6_lays 0 = .ok (.iload_n 1, 1) := by decide +kernel
theorem dX6_lays_1 : decode cX6_lays 1 = .ok (.ifCond .ne 11, 3) := by decide +kernel
theorem dX6_lays_4 : decode cX6_lays 4 = .ok (.aload_n 0, 1) := by decide +kernel
theorem dX6_lays_5 : decode cX6_lays 5 = .ok (.iload_n 3, 1) := by decide +kernel
theorem dX6_lays_6 : decode cX6_lays 6 = .ok (.putfield 106, 3) := by decide +kernel
theorem dX6_lays_9 : decode cX6_lays 9 = .ok (.goto 89, 3) := by decide +kernel
theorem dX6_lays_12 : decode cX6_lays 12 = .ok (.iload_n 1, 1) := by decide +kernel
theorem dX6_lays_13 : decode cX6_lays 13 = .ok (.iconst 1, 1) := by decide +kernel
theorem dX6_lays_14 : decode cX6_lays 14 = .ok (.if_icmp .ne 13, 3) := by decide +kernel
theorem dX6_lays_17 : decode cX6_lays 17 = .ok (.aload_n 0, 1) := by decide +kernel
theorem dX6_lays_18 : decode cX6_lays 18 = .ok (.getfield 23, 3) := by decide +kernel
theorem dX6_lays_21 : decode cX6_lays 21 = .ok (.iload_n 2, 1) := by decide +kernel
theorem dX6_lays_22 : decode cX6_lays 22 = .ok (.iload_n 3, 1) := by decide +kernel
theorem dX6_lays_23 : decode cX6_lays 23 = .ok (.iastore, 1) := by decide +kernel
theorem dX6_lays_24 : decode cX6_lays 24 = .ok (.goto 74, 3) := by decide +kernel
theorem dX6_lays_27 : decode cX6_lays 27 = .ok (.iload_n 1, 1) := by decide +kernel
theorem dX6_lays_28 : decode cX6_lays 28 = .ok (.iconst 2, 1) := by decide +kernel
theorem dX6_lays_29 : decode cX6_lays 29 = .ok (.if_icmp .ne 27, 3) := by decide +kernel
theorem dX6_lays_32 : decode cX6_lays 32 = .ok (.aload_n 0, 1) := by decide +kernel
theorem dX6_lays_33 : decode cX6_lays 33 = .ok (.aload_n 0, 1) := by decide +kernel
theorem dX6_lays_34 : decode cX6_lays 34 = .ok (.getfield 109, 3) := by decide +kernel
theorem dX6_lays_37 : decode cX6_lays 37 = .ok (.lconst 1, 1) := by decide +kernel
theorem dX6_lays_38 : decode cX6_lays 38 = .ok (.iload_n 2, 1) := by decide +kernel
theorem dX6_lays_39 : decode cX6_lays 39 = .ok (.lshl, 1) := by decide +kernel
theorem dX6_lays_40 : decode cX6_lays 40 = .ok (.ldc2_w 113, 3) := by decide +kernel
theorem dX6_lays_43 : decode cX6_lays 43 = .ok (.lxor, 1) := by decide +kernel
theorem dX6_lays_44 : decode cX6_lays 44 = .ok (.land, 1) := by decide +kernel
theorem dX6_lays_45 : decode cX6_lays 45 = .ok (.iload_n 3, 1) := by decide +kernel
theorem dX6_lays_46 : decode cX6_lays 46 = .ok (.i2l, 1) := by decide +kernel
theorem dX6_lays_47 : decode cX6_lays 47 = .ok (.iload_n 2, 1) := by decide +kernel
theorem dX6_lays_48 : decode cX6_lays 48 = .ok (.lshl, 1) := by decide +kernel
theorem dX6_lays_49 : decode cX6_lays 49 = .ok (.lor, 1) := by decide +kernel
theorem dX6_lays_50 : decode cX6_lays 50 = .ok (.putfield 109, 3) := by decide +kernel
theorem dX6_lays_53 : decode cX6_lays 53 = .ok (.goto 45, 3) := by decide +kernel
theorem dX6_lays_56 : decode cX6_lays 56 = .ok (.iload_n 1, 1) := by decide +kernel
theorem dX6_lays_57 : decode cX6_lays 57 = .ok (.iconst 3, 1) := by decide +kernel
theorem dX6_lays_58 : decode cX6_lays 58 = .ok (.if_icmp .ne 13, 3) := by decide +kernel
theorem dX6_lays_61 : decode cX6_lays 61 = .ok (.aload_n 0, 1) := by decide +kernel
theorem dX6_lays_62 : decode cX6_lays 62 = .ok (.getfield 26, 3) := by decide +kernel
theorem dX6_lays_65 : decode cX6_lays 65 = .ok (.iload_n 2, 1) := by decide +kernel
theorem dX6_lays_66 : decode cX6_lays 66 = .ok (.iload_n 3, 1) := by decide +kernel
theorem dX6_lays_67 : decode cX6_lays 67 = .ok (.iastore, 1) := by decide +kernel
theorem dX6_lays_68 : decode cX6_lays 68 = .ok (.goto 30, 3) := by decide +kernel
theorem dX6_lays_71 : decode cX6_lays 71 = .ok (.iload_n 1, 1) := by decide +kernel
theorem dX6_lays_72 : decode cX6_lays 72 = .ok (.bipush 9, 2) := by decide +kernel
theorem dX6_lays_74 : decode cX6_lays 74 = .ok (.if_icmp .ge 19, 3) := by decide +kernel
theorem dX6_lays_77 : decode cX6_lays 77 = .ok (.aload_n 0, 1) := by decide +kernel
theorem dX6_lays_78 : decode cX6_lays 78 = .ok (.getfield 29, 3) := by decide +kernel
theorem dX6_lays_81 : decode cX6_lays 81 = .ok (.iconst 5, 1) := by decide +kernel
theorem dX6_lays_82 : decode cX6_lays 82 = .ok (.iload_n 2, 1) := by decide +kernel
theorem dX6_lays_83 : decode cX6_lays 83 = .ok (.imul, 1) := by decide +kernel
theorem dX6_lays_84 : decode cX6_lays 84 = .ok (.iload_n 1, 1) := by decide +kernel
theorem dX6_lays_85 : decode cX6_lays 85 = .ok (.iadd, 1) := by decide +kernel
theorem dX6_lays_86 : decode cX6_lays 86 = .ok (.iconst 4, 1) := by decide +kernel
theorem dX6_lays_87 : decode cX6_lays 87 = .ok (.isub, 1) := by decide +kernel
theorem dX6_lays_88 : decode cX6_lays 88 = .ok (.iload_n 3, 1) := by decide +kernel
theorem dX6_lays_89 : decode cX6_lays 89 = .ok (.iastore, 1) := by decide +kernel
theorem dX6_lays_90 : decode cX6_lays 90 = .ok (.goto 8, 3) := by decide +kernel
theorem dX6_lays_93 : decode cX6_lays 93 = .ok (.aload_n 0, 1) := by decide +kernel
theorem dX6_lays_94 : decode cX6_lays 94 = .ok (.iload_n 3, 1) := by decide +kernel
theorem dX6_lays_95 : decode cX6_lays 95 = .ok (.putfield 115, 3) := by decide +kernel
theorem dX6_lays_98 : decode cX6_lays 98 = .ok (.return_, 1) := by decide +kernel
theorem dX6_person_0 : decode cX6_person 0 = .ok (.iload_n 1, 1) := by decide +kernel
theorem dX6_person_1 : decode cX6_person 1 = .ok (.i2l, 1) := by decide +kernel
theorem dX6_person_2 : decode cX6_person 2 = .ok (.lconst 0, 1) := by decide +kernel
theorem dX6_person_3 : decode cX6_person 3 = .ok (.ldc2_w 118, 3) := by decide +kernel
theorem dX6_person_6 : decode cX6_person 6 = .ok (.invokestatic 76, 3) := by decide +kernel
theorem dX6_person_9 : decode cX6_person 9 = .ok (.ifCond .eq 27, 3) := by decide +kernel
theorem dX6_person_12 : decode cX6_person 12 = .ok (.iload_n 2, 1) := by decide +kernel
theorem dX6_person_13 : decode cX6_person 13 = .ok (.i2l, 1) := by decide +kernel
theorem dX6_person_14 : decode cX6_person 14 = .ok (.lconst 0, 1) := by decide +kernel
theorem dX6_person_15 : decode cX6_person 15 = .ok (.ldc2_w 120, 3) := by decide +kernel
theorem dX6_person_18 : decode cX6_person 18 = .ok (.invokestatic 76, 3) := by decide +kernel
theorem dX6_person_21 : decode cX6_person 21 = .ok (.ifCond .eq 15, 3) := by decide +kernel
theorem dX6_person_24 : decode cX6_person 24 = .ok (.iload_n 3, 1) := by decide +kernel
theorem dX6_person_25 : decode cX6_person 25 = .ok (.i2l, 1) := by decide +kernel
theorem dX6_person_26 : decode cX6_person 26 = .ok (.lconst 0, 1) := by decide +kernel
theorem dX6_person_27 : decode cX6_person 27 = .ok (.ldc2_w 82, 3) := by decide +kernel
theorem dX6_person_30 : decode cX6_person 30 = .ok (.invokestatic 76, 3) := by decide +kernel
theorem dX6_person_33 : decode cX6_person 33 = .ok (.ifCond .ne 6, 3) := by decide +kernel
theorem dX6_person_36 : decode cX6_person 36 = .ok (.bipush (-2), 2) := by decide +kernel
theorem dX6_person_38 : decode cX6_person 38 = .ok (.ireturn, 1) := by decide +kernel
theorem dX6_person_39 : decode cX6_person 39 = .ok (.aload_n 0, 1) := by decide +kernel
theorem dX6_person_40 : decode cX6_person 40 = .ok (.getfield 73, 3) := by decide +kernel
theorem dX6_person_43 : decode cX6_person 43 = .ok (.iconst 5, 1) := by decide +kernel
theorem dX6_person_44 : decode cX6_person 44 = .ok (.if_icmp .ne 6, 3) := by decide +kernel
theorem dX6_person_47 : decode cX6_person 47 = .ok (.bipush (-4), 2) := by decide +kernel
theorem dX6_person_49 : decode cX6_person 49 = .ok (.ireturn, 1) := by decide +kernel
theorem dX6_person_50 : decode cX6_person 50 = .ok (.iconst 5, 1) := by decide +kernel
theorem dX6_person_51 : decode cX6_person 51 = .ok (.aload_n 0, 1) := by decide +kernel
theorem dX6_person_52 : decode cX6_person 52 = .ok (.getfield 73, 3) := by decide +kernel
theorem dX6_person_55 : decode cX6_person 55 = .ok (.imul, 1) := by decide +kernel
theorem dX6_person_56 : decode cX6_person 56 = .ok (.istore 4, 2) := by decide +kernel
theorem dX6_person_58 : decode cX6_person 58 = .ok (.aload_n 0, 1) := by decide +kernel
theorem dX6_person_59 : decode cX6_person 59 = .ok (.getfield 29, 3) := by decide +kernel
theorem dX6_person_62 : decode cX6_person 62 = .ok (.iload 4, 2) := by decide +kernel
theorem dX6_person_64 : decode cX6_person 64 = .ok (.iload_n 2, 1) := by decide +kernel
theorem dX6_person_65 : decode cX6_person 65 = .ok (.iastore, 1) := by decide +kernel
theorem dX6_person_66 : decode cX6_person 66 = .ok (.aload_n 0, 1) := by decide +kernel
theorem dX6_person_67 : decode cX6_person 67 = .ok (.getfield 29, 3) := by decide +kernel
theorem dX6_person_70 : decode cX6_person 70 = .ok (.iload 4, 2) := by decide +kernel
theorem dX6_person_72 : decode cX6_person 72 = .ok (.iconst 1, 1) := by decide +kernel
theorem dX6_person_73 : decode cX6_person 73 = .ok (.iadd, 1) := by decide +kernel
theorem dX6_person_74 : decode cX6_person 74 = .ok (.iload_n 3, 1) := by decide +kernel
theorem dX6_person_75 : decode cX6_person 75 = .ok (.iastore, 1) := by decide +kernel
theorem dX6_person_76 : decode cX6_person 76 = .ok (.aload_n 0, 1) := by decide +kernel
theorem dX6_person_77 : decode cX6_person 77 = .ok (.getfield 29, 3) := by decide +kernel
theorem dX6_person_80 : decode cX6_person 80 = .ok (.iload 4, 2) := by decide +kernel
theorem dX6_person_82 : decode cX6_person 82 = .ok (.iconst 2, 1) := by decide +kernel
theorem dX6_person_83 : decode cX6_person 83 = .ok (.iadd, 1) := by decide +kernel
theorem dX6_person_84 : decode cX6_person 84 = .ok (.iconst 0, 1) := by decide +kernel
theorem dX6_person_85 : decode cX6_person 85 = .ok (.iastore, 1) := by decide +kernel
theorem dX6_person_86 : decode cX6_person 86 = .ok (.aload_n 0, 1) := by decide +kernel
theorem dX6_person_87 : decode cX6_person 87 = .ok (.getfield 29, 3) := by decide +kernel
theorem dX6_person_90 : decode cX6_person 90 = .ok (.iload 4, 2) := by decide +kernel
theorem dX6_person_92 : decode cX6_person 92 = .ok (.iconst 3, 1) := by decide +kernel
theorem dX6_person_93 : decode cX6_person 93 = .ok (.iadd, 1) := by decide +kernel
theorem dX6_person_94 : decode cX6_person 94 = .ok (.iconst 0, 1) := by decide +kernel
theorem dX6_person_95 : decode cX6_person 95 = .ok (.iastore, 1) := by decide +kernel
theorem dX6_person_96 : decode cX6_person 96 = .ok (.aload_n 0, 1) := by decide +kernel
theorem dX6_person_97 : decode cX6_person 97 = .ok (.getfield 29, 3) := by decide +kernel
theorem dX6_person_100 : decode cX6_person 100 = .ok (.iload 4, 2) := by decide +kernel
theorem dX6_person_102 : decode cX6_person 102 = .ok (.iconst 4, 1) := by decide +kernel
theorem dX6_person_103 : decode cX6_person 103 = .ok (.iadd, 1) := by decide +kernel
theorem dX6_person_104 : decode cX6_person 104 = .ok (.iload_n 1, 1) := by decide +kernel
theorem dX6_person_105 : decode cX6_person 105 = .ok (.iastore, 1) := by decide +kernel
theorem dX6_person_106 : decode cX6_person 106 = .ok (.aload_n 0, 1) := by decide +kernel
theorem dX6_person_107 : decode cX6_person 107 = .ok (.dup, 1) := by decide +kernel
theorem dX6_person_108 : decode cX6_person 108 = .ok (.getfield 73, 3) := by decide +kernel
theorem dX6_person_111 : decode cX6_person 111 = .ok (.iconst 1, 1) := by decide +kernel
theorem dX6_person_112 : decode cX6_person 112 = .ok (.iadd, 1) := by decide +kernel
theorem dX6_person_113 : decode cX6_person 113 = .ok (.putfield 73, 3) := by decide +kernel
theorem dX6_person_116 : decode cX6_person 116 = .ok (.aload_n 0, 1) := by decide +kernel
theorem dX6_person_117 : decode cX6_person 117 = .ok (.getfield 73, 3) := by decide +kernel
theorem dX6_person_120 : decode cX6_person 120 = .ok (.iconst 1, 1) := by decide +kernel
theorem dX6_person_121 : decode cX6_person 121 = .ok (.isub, 1) := by decide +kernel
theorem dX6_person_122 : decode cX6_person 122 = .ok (.ireturn, 1) := by decide +kernel
theorem dX6_told_0 : decode cX6_told 0 = .ok (.iload_n 2, 1) := by decide +kernel
theorem dX6_told_1 : decode cX6_told 1 = .ok (.i2l, 1) := by decide +kernel
theorem dX6_told_2 : decode cX6_told 2 = .ok (.lconst 0, 1) := by decide +kernel
theorem dX6_told_3 : decode cX6_told 3 = .ok (.ldc2_w 122, 3) := by decide +kernel
theorem dX6_told_6 : decode cX6_told 6 = .ok (.invokestatic 76, 3) := by decide +kernel
theorem dX6_told_9 : decode cX6_told 9 = .ok (.ifCond .eq 12, 3) := by decide +kernel
theorem dX6_told_12 : decode cX6_told 12 = .ok (.aload_n 0, 1) := by decide +kernel
theorem dX6_told_13 : decode cX6_told 13 = .ok (.iload_n 2, 1) := by decide +kernel
theorem dX6_told_14 : decode cX6_told 14 = .ok (.iload_n 1, 1) := by decide +kernel
theorem dX6_told_15 : decode cX6_told 15 = .ok (.invokevirtual 90, 3) := by decide +kernel
theorem dX6_told_18 : decode cX6_told 18 = .ok (.ifCond .ne 7, 3) := by decide +kernel
theorem dX6_told_21 : decode cX6_told 21 = .ok (.sipush (-1000), 3) := by decide +kernel
theorem dX6_told_24 : decode cX6_told 24 = .ok (.ireturn, 1) := by decide +kernel
theorem dX6_told_25 : decode cX6_told 25 = .ok (.iload_n 2, 1) := by decide +kernel
theorem dX6_told_26 : decode cX6_told 26 = .ok (.iconst 4, 1) := by decide +kernel
theorem dX6_told_27 : decode cX6_told 27 = .ok (.if_icmp .ge 59, 3) := by decide +kernel
theorem dX6_told_30 : decode cX6_told 30 = .ok (.iload_n 2, 1) := by decide +kernel
theorem dX6_told_31 : decode cX6_told 31 = .ok (.ifCond .ne 10, 3) := by decide +kernel
theorem dX6_told_34 : decode cX6_told 34 = .ok (.aload_n 0, 1) := by decide +kernel
theorem dX6_told_35 : decode cX6_told 35 = .ok (.getfield 106, 3) := by decide +kernel
theorem dX6_told_38 : decode cX6_told 38 = .ok (.goto 47, 3) := by decide +kernel
theorem dX6_told_41 : decode cX6_told 41 = .ok (.iload_n 2, 1) := by decide +kernel
theorem dX6_told_42 : decode cX6_told 42 = .ok (.iconst 1, 1) := by decide +kernel
theorem dX6_told_43 : decode cX6_told 43 = .ok (.if_icmp .ne 12, 3) := by decide +kernel
theorem dX6_told_46 : decode cX6_told 46 = .ok (.aload_n 0, 1) := by decide +kernel
theorem dX6_told_47 : decode cX6_told 47 = .ok (.getfield 23, 3) := by decide +kernel
theorem dX6_told_50 : decode cX6_told 50 = .ok (.iload_n 1, 1) := by decide +kernel
theorem dX6_told_51 : decode cX6_told 51 = .ok (.iaload, 1) := by decide +kernel
theorem dX6_told_52 : decode cX6_told 52 = .ok (.goto 33, 3) := by decide +kernel
theorem dX6_told_55 : decode cX6_told 55 = .ok (.iload_n 2, 1) := by decide +kernel
theorem dX6_told_56 : decode cX6_told 56 = .ok (.iconst 2, 1) := by decide +kernel
theorem dX6_told_57 : decode cX6_told 57 = .ok (.if_icmp .ne 22, 3) := by decide +kernel
theorem dX6_told_60 : decode cX6_told 60 = .ok (.aload_n 0, 1) := by decide +kernel
theorem dX6_told_61 : decode cX6_told 61 = .ok (.getfield 109, 3) := by decide +kernel
theorem dX6_told_64 : decode cX6_told 64 = .ok (.iload_n 1, 1) := by decide +kernel
theorem dX6_told_65 : decode cX6_told 65 = .ok (.invokestatic 124, 3) := by decide +kernel
theorem dX6_told_68 : decode cX6_told 68 = .ok (.ifCond .eq 7, 3) := by decide +kernel
theorem dX6_told_71 : decode cX6_told 71 = .ok (.iconst 1, 1) := by decide +kernel
theorem dX6_told_72 : decode cX6_told 72 = .ok (.goto 13, 3) := by decide +kernel
theorem dX6_told_75 : decode cX6_told 75 = .ok (.iconst 0, 1) := by decide +kernel
theorem dX6_told_76 : decode cX6_told 76 = .ok (.goto 9, 3) := by decide +kernel
theorem dX6_told_79 : decode cX6_told 79 = .ok (.aload_n 0, 1) := by decide +kernel
theorem dX6_told_80 : decode cX6_told 80 = .ok (.getfield 26, 3) := by decide +kernel
theorem dX6_told_83 : decode cX6_told 83 = .ok (.iload_n 1, 1) := by decide +kernel
theorem dX6_told_84 : decode cX6_told 84 = .ok (.iaload, 1) := by decide +kernel
theorem dX6_told_85 : decode cX6_told 85 = .ok (.ireturn, 1) := by decide +kernel
theorem dX6_told_86 : decode cX6_told 86 = .ok (.iload_n 2, 1) := by decide +kernel
theorem dX6_told_87 : decode cX6_told 87 = .ok (.bipush 9, 2) := by decide +kernel
theorem dX6_told_89 : decode cX6_told 89 = .ok (.if_icmp .ge 16, 3) := by decide +kernel
theorem dX6_told_92 : decode cX6_told 92 = .ok (.aload_n 0, 1) := by decide +kernel
theorem dX6_told_93 : decode cX6_told 93 = .ok (.getfield 29, 3) := by decide +kernel
theorem dX6_told_96 : decode cX6_told 96 = .ok (.iconst 5, 1) := by decide +kernel
theorem dX6_told_97 : decode cX6_told 97 = .ok (.iload_n 1, 1) := by decide +kernel
theorem dX6_told_98 : decode cX6_told 98 = .ok (.imul, 1) := by decide +kernel
theorem dX6_told_99 : decode cX6_told 99 = .ok (.iload_n 2, 1) := by decide +kernel
theorem dX6_told_100 : decode cX6_told 100 = .ok (.iadd, 1) := by decide +kernel
theorem dX6_told_101 : decode cX6_told 101 = .ok (.iconst 4, 1) := by decide +kernel
theorem dX6_told_102 : decode cX6_told 102 = .ok (.isub, 1) := by decide +kernel
theorem dX6_told_103 : decode cX6_told 103 = .ok (.iaload, 1) := by decide +kernel
theorem dX6_told_104 : decode cX6_told 104 = .ok (.ireturn, 1) := by decide +kernel
theorem dX6_told_105 : decode cX6_told 105 = .ok (.iload_n 2, 1) := by decide +kernel
theorem dX6_told_106 : decode cX6_told 106 = .ok (.bipush 9, 2) := by decide +kernel
theorem dX6_told_108 : decode cX6_told 108 = .ok (.if_icmp .ne 11, 3) := by decide +kernel
theorem dX6_told_111 : decode cX6_told 111 = .ok (.aload_n 0, 1) := by decide +kernel
theorem dX6_told_112 : decode cX6_told 112 = .ok (.iload_n 1, 1) := by decide +kernel
theorem dX6_told_113 : decode cX6_told 113 = .ok (.invokevirtual 128, 3) := by decide +kernel
theorem dX6_told_116 : decode cX6_told 116 = .ok (.goto 22, 3) := by decide +kernel
theorem dX6_told_119 : decode cX6_told 119 = .ok (.iload_n 2, 1) := by decide +kernel
theorem dX6_told_120 : decode cX6_told 120 = .ok (.bipush 10, 2) := by decide +kernel
theorem dX6_told_122 : decode cX6_told 122 = .ok (.if_icmp .ne 11, 3) := by decide +kernel
theorem dX6_told_125 : decode cX6_told 125 = .ok (.aload_n 0, 1) := by decide +kernel
theorem dX6_told_126 : decode cX6_told 126 = .ok (.iload_n 1, 1) := by decide +kernel
theorem dX6_told_127 : decode cX6_told 127 = .ok (.invokevirtual 131, 3) := by decide +kernel
theorem dX6_told_130 : decode cX6_told 130 = .ok (.goto 8, 3) := by decide +kernel
theorem dX6_told_133 : decode cX6_told 133 = .ok (.aload_n 0, 1) := by decide +kernel
theorem dX6_told_134 : decode cX6_told 134 = .ok (.iload_n 1, 1) := by decide +kernel
theorem dX6_told_135 : decode cX6_told 135 = .ok (.invokevirtual 134, 3) := by decide +kernel
theorem dX6_told_138 : decode cX6_told 138 = .ok (.ireturn, 1) := by decide +kernel
theorem dX6_wanting_0 : decode cX6_wanting 0 = .ok (.lconst 0, 1) := by decide +kernel
theorem dX6_wanting_1 : decode cX6_wanting 1 = .ok (.lstore_n 2, 1) := by decide +kernel
theorem dX6_wanting_2 : decode cX6_wanting 2 = .ok (.iconst 0, 1) := by decide +kernel
theorem dX6_wanting_3 : decode cX6_wanting 3 = .ok (.istore 4, 2) := by decide +kernel
theorem dX6_wanting_5 : decode cX6_wanting 5 = .ok (.iload 4, 2) := by decide +kernel
theorem dX6_wanting_7 : decode cX6_wanting 7 = .ok (.bipush 64, 2) := by decide +kernel
theorem dX6_wanting_9 : decode cX6_wanting 9 = .ok (.if_icmp .ge 31, 3) := by decide +kernel
theorem dX6_wanting_12 : decode cX6_wanting 12 = .ok (.lload_n 2, 1) := by decide +kernel
theorem dX6_wanting_13 : decode cX6_wanting 13 = .ok (.aload_n 0, 1) := by decide +kernel
theorem dX6_wanting_14 : decode cX6_wanting 14 = .ok (.getfield 23, 3) := by decide +kernel
theorem dX6_wanting_17 : decode cX6_wanting 17 = .ok (.iload 4, 2) := by decide +kernel
theorem dX6_wanting_19 : decode cX6_wanting 19 = .ok (.iaload, 1) := by decide +kernel
theorem dX6_wanting_20 : decode cX6_wanting 20 = .ok (.iload_n 1, 1) := by decide +kernel
theorem dX6_wanting_21 : decode cX6_wanting 21 = .ok (.if_icmp .ne 10, 3) := by decide +kernel
theorem dX6_wanting_24 : decode cX6_wanting 24 = .ok (.lconst 1, 1) := by decide +kernel
theorem dX6_wanting_25 : decode cX6_wanting 25 = .ok (.iload 4, 2) := by decide +kernel
theorem dX6_wanting_27 : decode cX6_wanting 27 = .ok (.lshl, 1) := by decide +kernel
theorem dX6_wanting_28 : decode cX6_wanting 28 = .ok (.goto 4, 3) := by decide +kernel
theorem dX6_wanting_31 : decode cX6_wanting 31 = .ok (.lconst 0, 1) := by decide +kernel
theorem dX6_wanting_32 : decode cX6_wanting 32 = .ok (.lor, 1) := by decide +kernel
theorem dX6_wanting_33 : decode cX6_wanting 33 = .ok (.lstore_n 2, 1) := by decide +kernel
theorem dX6_wanting_34 : decode cX6_wanting 34 = .ok (.iinc 4 1, 3) := by decide +kernel
theorem dX6_wanting_37 : decode cX6_wanting 37 = .ok (.goto (-32), 3) := by decide +kernel
theorem dX6_wanting_40 : decode cX6_wanting 40 = .ok (.lload_n 2, 1) := by decide +kernel
theorem dX6_wanting_41 : decode cX6_wanting 41 = .ok (.lreturn, 1) := by decide +kernel
theorem dX6_picture_0 : decode cX6_picture 0 = .ok (.iload_n 1, 1) := by decide +kernel
theorem dX6_picture_1 : decode cX6_picture 1 = .ok (.i2l, 1) := by decide +kernel
theorem dX6_picture_2 : decode cX6_picture 2 = .ok (.lconst 0, 1) := by decide +kernel
theorem dX6_picture_3 : decode cX6_picture 3 = .ok (.ldc2_w 137, 3) := by decide +kernel
theorem dX6_picture_6 : decode cX6_picture 6 = .ok (.invokestatic 76, 3) := by decide +kernel
theorem dX6_picture_9 : decode cX6_picture 9 = .ok (.ifCond .ne 7, 3) := by decide +kernel
theorem dX6_picture_12 : decode cX6_picture 12 = .ok (.ldc2_w 139, 3) := by decide +kernel
theorem dX6_picture_15 : decode cX6_picture 15 = .ok (.lreturn, 1) := by decide +kernel
theorem dX6_picture_16 : decode cX6_picture 16 = .ok (.iload_n 1, 1) := by decide +kernel
theorem dX6_picture_17 : decode cX6_picture 17 = .ok (.iconst 4, 1) := by decide +kernel
theorem dX6_picture_18 : decode cX6_picture 18 = .ok (.if_icmp .ne 10, 3) := by decide +kernel
theorem dX6_picture_21 : decode cX6_picture 21 = .ok (.aload_n 0, 1) := by decide +kernel
theorem dX6_picture_22 : decode cX6_picture 22 = .ok (.getfield 109, 3) := by decide +kernel
theorem dX6_picture_25 : decode cX6_picture 25 = .ok (.goto 8, 3) := by decide +kernel
theorem dX6_picture_28 : decode cX6_picture 28 = .ok (.aload_n 0, 1) := by decide +kernel
theorem dX6_picture_29 : decode cX6_picture 29 = .ok (.iload_n 1, 1) := by decide +kernel
theorem dX6_picture_30 : decode cX6_picture 30 = .ok (.invokevirtual 141, 3) := by decide +kernel
theorem dX6_picture_33 : decode cX6_picture 33 = .ok (.lreturn, 1) := by decide +kernel
theorem dX6_feed_0 : decode cX6_feed 0 = .ok (.iload_n 1, 1) := by decide +kernel
theorem dX6_feed_1 : decode cX6_feed 1 = .ok (.i2l, 1) := by decide +kernel
theorem dX6_feed_2 : decode cX6_feed 2 = .ok (.lconst 0, 1) := by decide +kernel
theorem dX6_feed_3 : decode cX6_feed 3 = .ok (.ldc2_w 145, 3) := by decide +kernel
theorem dX6_feed_6 : decode cX6_feed 6 = .ok (.invokestatic 76, 3) := by decide +kernel
theorem dX6_feed_9 : decode cX6_feed 9 = .ok (.ifCond .ne 6, 3) := by decide +kernel
theorem dX6_feed_12 : decode cX6_feed 12 = .ok (.bipush (-2), 2) := by decide +kernel
theorem dX6_feed_14 : decode cX6_feed 14 = .ok (.ireturn, 1) := by decide +kernel
theorem dX6_feed_15 : decode cX6_feed 15 = .ok (.aload_n 0, 1) := by decide +kernel
theorem dX6_feed_16 : decode cX6_feed 16 = .ok (.getfield 147, 3) := by decide +kernel
theorem dX6_feed_19 : decode cX6_feed 19 = .ok (.sipush 160, 3) := by decide +kernel
theorem dX6_feed_22 : decode cX6_feed 22 = .ok (.if_icmp .ne 6, 3) := by decide +kernel
theorem dX6_feed_25 : decode cX6_feed 25 = .ok (.bipush (-4), 2) := by decide +kernel
theorem dX6_feed_27 : decode cX6_feed 27 = .ok (.ireturn, 1) := by decide +kernel
theorem dX6_feed_28 : decode cX6_feed 28 = .ok (.aload_n 0, 1) := by decide +kernel
theorem dX6_feed_29 : decode cX6_feed 29 = .ok (.getfield 20, 3) := by decide +kernel
theorem dX6_feed_32 : decode cX6_feed 32 = .ok (.aload_n 0, 1) := by decide +kernel
theorem dX6_feed_33 : decode cX6_feed 33 = .ok (.getfield 147, 3) := by decide +kernel
theorem dX6_feed_36 : decode cX6_feed 36 = .ok (.iload_n 1, 1) := by decide +kernel
theorem dX6_feed_37 : decode cX6_feed 37 = .ok (.iastore, 1) := by decide +kernel
theorem dX6_feed_38 : decode cX6_feed 38 = .ok (.aload_n 0, 1) := by decide +kernel
theorem dX6_feed_39 : decode cX6_feed 39 = .ok (.dup, 1) := by decide +kernel
theorem dX6_feed_40 : decode cX6_feed 40 = .ok (.getfield 147, 3) := by decide +kernel
theorem dX6_feed_43 : decode cX6_feed 43 = .ok (.iconst 1, 1) := by decide +kernel
theorem dX6_feed_44 : decode cX6_feed 44 = .ok (.iadd, 1) := by decide +kernel
theorem dX6_feed_45 : decode cX6_feed 45 = .ok (.putfield 147, 3) := by decide +kernel
theorem dX6_feed_48 : decode cX6_feed 48 = .ok (.aload_n 0, 1) := by decide +kernel
theorem dX6_feed_49 : decode cX6_feed 49 = .ok (.getfield 147, 3) := by decide +kernel
theorem dX6_feed_52 : decode cX6_feed 52 = .ok (.ireturn, 1) := by decide +kernel
theorem dX6_byteAt_0 : decode cX6_byteAt 0 = .ok (.iload_n 1, 1) := by decide +kernel
theorem dX6_byteAt_1 : decode cX6_byteAt 1 = .ok (.aload_n 0, 1) := by decide +kernel
theorem dX6_byteAt_2 : decode cX6_byteAt 2 = .ok (.getfield 150, 3) := by decide +kernel
theorem dX6_byteAt_5 : decode cX6_byteAt 5 = .ok (.if_icmp .ge 17, 3) := by decide +kernel
theorem dX6_byteAt_8 : decode cX6_byteAt 8 = .ok (.aload_n 0, 1) := by decide +kernel
theorem dX6_byteAt_9 : decode cX6_byteAt 9 = .ok (.getfield 13, 3) := by decide +kernel
theorem dX6_byteAt_12 : decode cX6_byteAt 12 = .ok (.aload_n 0, 1) := by decide +kernel
theorem dX6_byteAt_13 : decode cX6_byteAt 13 = .ok (.getfield 153, 3) := by decide +kernel
theorem dX6_byteAt_16 : decode cX6_byteAt 16 = .ok (.iload_n 1, 1) := by decide +kernel
theorem dX6_byteAt_17 : decode cX6_byteAt 17 = .ok (.iadd, 1) := by decide +kernel
theorem dX6_byteAt_18 : decode cX6_byteAt 18 = .ok (.iaload, 1) := by decide +kernel
theorem dX6_byteAt_19 : decode cX6_byteAt 19 = .ok (.goto 4, 3) := by decide +kernel
theorem dX6_byteAt_22 : decode cX6_byteAt 22 = .ok (.iconst (-1), 1) := by decide +kernel
theorem dX6_byteAt_23 : decode cX6_byteAt 23 = .ok (.ireturn, 1) := by decide +kernel
theorem dX6_next_0 : decode cX6_next 0 = .ok (.aload_n 0, 1) := by decide +kernel
theorem dX6_next_1 : decode cX6_next 1 = .ok (.aload_n 0, 1) := by decide +kernel
theorem dX6_next_2 : decode cX6_next 2 = .ok (.getfield 156, 3) := by decide +kernel
theorem dX6_next_5 : decode cX6_next 5 = .ok (.invokevirtual 159, 3) := by decide +kernel
theorem dX6_next_8 : decode cX6_next 8 = .ok (.bipush 32, 2) := by decide +kernel
theorem dX6_next_10 : decode cX6_next 10 = .ok (.if_icmp .eq 16, 3) := by decide +kernel
theorem dX6_next_13 : decode cX6_next 13 = .ok (.aload_n 0, 1) := by decide +kernel
theorem dX6_next_14 : decode cX6_next 14 = .ok (.aload_n 0, 1) := by decide +kernel
theorem dX6_next_15 : decode cX6_next 15 = .ok (.getfield 156, 3) := by decide +kernel
theorem dX6_next_18 : decode cX6_next 18 = .ok (.invokevirtual 159, 3) := by decide +kernel
theorem dX6_next_21 : decode cX6_next 21 = .ok (.bipush 10, 2) := by decide +kernel
theorem dX6_next_23 : decode cX6_next 23 = .ok (.if_icmp .ne 16, 3) := by decide +kernel
theorem dX6_next_26 : decode cX6_next 26 = .ok (.aload_n 0, 1) := by decide +kernel
theorem dX6_next_27 : decode cX6_next 27 = .ok (.dup, 1) := by decide +kernel
theorem dX6_next_28 : decode cX6_next 28 = .ok (.getfield 156, 3) := by decide +kernel
theorem dX6_next_31 : decode cX6_next 31 = .ok (.iconst 1, 1) := by decide +kernel
theorem dX6_next_32 : decode cX6_next 32 = .ok (.iadd, 1) := by decide +kernel
theorem dX6_next_33 : decode cX6_next 33 = .ok (.putfield 156, 3) := by decide +kernel
theorem dX6_next_36 : decode cX6_next 36 = .ok (.goto (-36), 3) := by decide +kernel
theorem dX6_next_39 : decode cX6_next 39 = .ok (.aload_n 0, 1) := by decide +kernel
theorem dX6_next_40 : decode cX6_next 40 = .ok (.aload_n 0, 1) := by decide +kernel
theorem dX6_next_41 : decode cX6_next 41 = .ok (.getfield 156, 3) := by decide +kernel
theorem dX6_next_44 : decode cX6_next 44 = .ok (.putfield 162, 3) := by decide +kernel
theorem dX6_next_47 : decode cX6_next 47 = .ok (.aload_n 0, 1) := by decide +kernel
theorem dX6_next_48 : decode cX6_next 48 = .ok (.aload_n 0, 1) := by decide +kernel
theorem dX6_next_49 : decode cX6_next 49 = .ok (.getfield 156, 3) := by decide +kernel
theorem dX6_next_52 : decode cX6_next 52 = .ok (.invokevirtual 159, 3) := by decide +kernel
theorem dX6_next_55 : decode cX6_next 55 = .ok (.istore_n 1, 1) := by decide +kernel
theorem dX6_next_56 : decode cX6_next 56 = .ok (.aload_n 0, 1) := by decide +kernel
theorem dX6_next_57 : decode cX6_next 57 = .ok (.iconst 4, 1) := by decide +kernel
theorem dX6_next_58 : decode cX6_next 58 = .ok (.putfield 165, 3) := by decide +kernel
theorem dX6_next_61 : decode cX6_next 61 = .ok (.iload_n 1, 1) := by decide +kernel
theorem dX6_next_62 : decode cX6_next 62 = .ok (.ifCond .ge 19, 3) := by decide +kernel
theorem dX6_next_65 : decode cX6_next 65 = .ok (.aload_n 0, 1) := by decide +kernel
theorem dX6_next_66 : decode cX6_next 66 = .ok (.iconst 0, 1) := by decide +kernel
theorem dX6_next_67 : decode cX6_next 67 = .ok (.putfield 165, 3) := by decide +kernel
theorem dX6_next_70 : decode cX6_next 70 = .ok (.aload_n 0, 1) := by decide +kernel
theorem dX6_next_71 : decode cX6_next 71 = .ok (.aload_n 0, 1) := by decide +kernel
theorem dX6_next_72 : decode cX6_next 72 = .ok (.getfield 150, 3) := by decide +kernel
theorem dX6_next_75 : decode cX6_next 75 = .ok (.putfield 162, 3) := by decide +kernel
theorem dX6_next_78 : decode cX6_next 78 = .ok (.goto 243, 3) := by decide +kernel
theorem dX6_next_81 : decode cX6_next 81 = .ok (.iload_n 1, 1) := by decide +kernel
theorem dX6_next_82 : decode cX6_next 82 = .ok (.i2l, 1) := by decide +kernel
theorem dX6_next_83 : decode cX6_next 83 = .ok (.ldc2_w 168, 3) := by decide +kernel
theorem dX6_next_86 : decode cX6_next 86 = .ok (.ldc2_w 170, 3) := by decide +kernel
theorem dX6_next_89 : decode cX6_next 89 = .ok (.invokestatic 76, 3) := by decide +kernel
theorem dX6_next_92 : decode cX6_next 92 = .ok (.ifCond .eq 42, 3) := by decide +kernel
theorem dX6_next_95 : decode cX6_next 95 = .ok (.aload_n 0, 1) := by decide +kernel
theorem dX6_next_96 : decode cX6_next 96 = .ok (.iconst 1, 1) := by decide +kernel
theorem dX6_next_97 : decode cX6_next 97 = .ok (.putfield 165, 3) := by decide +kernel
theorem dX6_next_100 : decode cX6_next 100 = .ok (.aload_n 0, 1) := by decide +kernel
theorem dX6_next_101 : decode cX6_next 101 = .ok (.aload_n 0, 1) := by decide +kernel
theorem dX6_next_102 : decode cX6_next 102 = .ok (.getfield 156, 3) := by decide +kernel
theorem dX6_next_105 : decode cX6_next 105 = .ok (.invokevirtual 159, 3) := by decide +kernel
theorem dX6_next_108 : decode cX6_next 108 = .ok (.i2l, 1) := by decide +kernel
theorem dX6_next_109 : decode cX6_next 109 = .ok (.ldc2_w 168, 3) := by decide +kernel
theorem dX6_next_112 : decode cX6_next 112 = .ok (.ldc2_w 170, 3) := by decide +kernel
theorem dX6_next_115 : decode cX6_next 115 = .ok (.invokestatic 76, 3) := by decide +kernel
theorem dX6_next_118 : decode cX6_next 118 = .ok (.ifCond .eq 203, 3) := by decide +kernel
theorem dX6_next_121 : decode cX6_next 121 = .ok (.aload_n 0, 1) := by decide +kernel
theorem dX6_next_122 : decode cX6_next 122 = .ok (.dup, 1) := by decide +kernel
theorem dX6_next_123 : decode cX6_next 123 = .ok (.getfield 156, 3) := by decide +kernel
theorem dX6_next_126 : decode cX6_next 126 = .ok (.iconst 1, 1) := by decide +kernel
theorem dX6_next_127 : decode cX6_next 127 = .ok (.iadd, 1) := by decide +kernel
theorem dX6_next_128 : decode cX6_next 128 = .ok (.putfield 156, 3) := by decide +kernel
theorem dX6_next_131 : decode cX6_next 131 = .ok (.goto (-31), 3) := by decide +kernel
theorem dX6_next_134 : decode cX6_next 134 = .ok (.iload_n 1, 1) := by decide +kernel
theorem dX6_next_135 : decode cX6_next 135 = .ok (.i2l, 1) := by decide +kernel
theorem dX6_next_136 : decode cX6_next 136 = .ok (.ldc2_w 172, 3) := by decide +kernel
theorem dX6_next_139 : decode cX6_next 139 = .ok (.ldc2_w 174, 3) := by decide +kernel
theorem dX6_next_142 : decode cX6_next 142 = .ok (.invokestatic 76, 3) := by decide +kernel
theorem dX6_next_145 : decode cX6_next 145 = .ok (.ifCond .eq 107, 3) := by decide +kernel
theorem dX6_next_148 : decode cX6_next 148 = .ok (.aload_n 0, 1) := by decide +kernel
theorem dX6_next_149 : decode cX6_next 149 = .ok (.iconst 2, 1) := by decide +kernel
theorem dX6_next_150 : decode cX6_next 150 = .ok (.putfield 165, 3) := by decide +kernel
theorem dX6_next_153 : decode cX6_next 153 = .ok (.aload_n 0, 1) := by decide +kernel
theorem dX6_next_154 : decode cX6_next 154 = .ok (.lconst 0, 1) := by decide +kernel
theorem dX6_next_155 : decode cX6_next 155 = .ok (.putfield 176, 3) := by decide +kernel
theorem dX6_next_158 : decode cX6_next 158 = .ok (.iconst 0, 1) := by decide +kernel
theorem dX6_next_159 : decode cX6_next 159 = .ok (.istore_n 2, 1) := by decide +kernel
theorem dX6_next_160 : decode cX6_next 160 = .ok (.aload_n 0, 1) := by decide +kernel
theorem dX6_next_161 : decode cX6_next 161 = .ok (.aload_n 0, 1) := by decide +kernel
theorem dX6_next_162 : decode cX6_next 162 = .ok (.getfield 156, 3) := by decide +kernel
theorem dX6_next_165 : decode cX6_next 165 = .ok (.invokevirtual 159, 3) := by decide +kernel
theorem dX6_next_168 : decode cX6_next 168 = .ok (.i2l, 1) := by decide +kernel
theorem dX6_next_169 : decode cX6_next 169 = .ok (.ldc2_w 172, 3) := by decide +kernel
theorem dX6_next_172 : decode cX6_next 172 = .ok (.ldc2_w 174, 3) := by decide +kernel
theorem dX6_next_175 : decode cX6_next 175 = .ok (.invokestatic 76, 3) := by decide +kernel
theorem dX6_next_178 : decode cX6_next 178 = .ok (.ifCond .eq 57, 3) := by decide +kernel
theorem dX6_next_181 : decode cX6_next 181 = .ok (.aload_n 0, 1) := by decide +kernel
theorem dX6_next_182 : decode cX6_next 182 = .ok (.iload_n 2, 1) := by decide +kernel
theorem dX6_next_183 : decode cX6_next 183 = .ok (.iconst 4, 1) := by decide +kernel
theorem dX6_next_184 : decode cX6_next 184 = .ok (.if_icmp .ge 28, 3) := by decide +kernel
theorem dX6_next_187 : decode cX6_next 187 = .ok (.ldc2_w 179, 3) := by decide +kernel
theorem dX6_next_190 : decode cX6_next 190 = .ok (.aload_n 0, 1) := by decide +kernel
theorem dX6_next_191 : decode cX6_next 191 = .ok (.getfield 176, 3) := by decide +kernel
theorem dX6_next_194 : decode cX6_next 194 = .ok (.lmul, 1) := by decide +kernel
theorem dX6_next_195 : decode cX6_next 195 = .ok (.aload_n 0, 1) := by decide +kernel
theorem dX6_next_196 : decode cX6_next 196 = .ok (.aload_n 0, 1) := by decide +kernel
theorem dX6_next_197 : decode cX6_next 197 = .ok (.getfield 156, 3) := by decide +kernel
theorem dX6_next_200 : decode cX6_next 200 = .ok (.invokevirtual 159, 3) := by decide +kernel
theorem dX6_next_203 : decode cX6_next 203 = .ok (.i2l, 1) := by decide +kernel
theorem dX6_next_204 : decode cX6_next 204 = .ok (.ladd, 1) := by decide +kernel
theorem dX6_next_205 : decode cX6_next 205 = .ok (.ldc2_w 172, 3) := by decide +kernel
theorem dX6_next_208 : decode cX6_next 208 = .ok (.lsub, 1) := by decide +kernel
theorem dX6_next_209 : decode cX6_next 209 = .ok (.goto 7, 3) := by decide +kernel
theorem dX6_next_212 : decode cX6_next 212 = .ok (.aload_n 0, 1) := by decide +kernel
theorem dX6_next_213 : decode cX6_next 213 = .ok (.getfield 176, 3) := by decide +kernel
theorem dX6_next_216 : decode cX6_next 216 = .ok (.putfield 176, 3) := by decide +kernel
theorem dX6_next_219 : decode cX6_next 219 = .ok (.iinc 2 1, 3) := by decide +kernel
theorem dX6_next_222 : decode cX6_next 222 = .ok (.aload_n 0, 1) := by decide +kernel
theorem dX6_next_223 : decode cX6_next 223 = .ok (.dup, 1) := by decide +kernel
theorem dX6_next_224 : decode cX6_next 224 = .ok (.getfield 156, 3) := by decide +kernel
theorem dX6_next_227 : decode cX6_next 227 = .ok (.iconst 1, 1) := by decide +kernel
theorem dX6_next_228 : decode cX6_next 228 = .ok (.iadd, 1) := by decide +kernel
theorem dX6_next_229 : decode cX6_next 229 = .ok (.putfield 156, 3) := by decide +kernel
theorem dX6_next_232 : decode cX6_next 232 = .ok (.goto (-72), 3) := by decide +kernel
theorem dX6_next_235 : decode cX6_next 235 = .ok (.aload_n 0, 1) := by decide +kernel
theorem dX6_next_236 : decode cX6_next 236 = .ok (.iload_n 2, 1) := by decide +kernel
theorem dX6_next_237 : decode cX6_next 237 = .ok (.iconst 4, 1) := by decide +kernel
theorem dX6_next_238 : decode cX6_next 238 = .ok (.if_icmp .le 7, 3) := by decide +kernel
theorem dX6_next_241 : decode cX6_next 241 = .ok (.iconst 4, 1) := by decide +kernel
theorem dX6_next_242 : decode cX6_next 242 = .ok (.goto 4, 3) := by decide +kernel
theorem dX6_next_245 : decode cX6_next 245 = .ok (.iconst 2, 1) := by decide +kernel
theorem dX6_next_246 : decode cX6_next 246 = .ok (.putfield 165, 3) := by decide +kernel
theorem dX6_next_249 : decode cX6_next 249 = .ok (.goto 72, 3) := by decide +kernel
theorem dX6_next_252 : decode cX6_next 252 = .ok (.iload_n 1, 1) := by decide +kernel
theorem dX6_next_253 : decode cX6_next 253 = .ok (.bipush 40, 2) := by decide +kernel
theorem dX6_next_255 : decode cX6_next 255 = .ok (.if_icmp .eq 45, 3) := by decide +kernel
theorem dX6_next_258 : decode cX6_next 258 = .ok (.iload_n 1, 1) := by decide +kernel
theorem dX6_next_259 : decode cX6_next 259 = .ok (.bipush 41, 2) := by decide +kernel
theorem dX6_next_261 : decode cX6_next 261 = .ok (.if_icmp .eq 39, 3) := by decide +kernel
theorem dX6_next_264 : decode cX6_next 264 = .ok (.iload_n 1, 1) := by decide +kernel
theorem dX6_next_265 : decode cX6_next 265 = .ok (.bipush 59, 2) := by decide +kernel
theorem dX6_next_267 : decode cX6_next 267 = .ok (.if_icmp .eq 33, 3) := by decide +kernel
theorem dX6_next_270 : decode cX6_next 270 = .ok (.iload_n 1, 1) := by decide +kernel
theorem dX6_next_271 : decode cX6_next 271 = .ok (.bipush 43, 2) := by decide +kernel
theorem dX6_next_273 : decode cX6_next 273 = .ok (.if_icmp .eq 27, 3) := by decide +kernel
theorem dX6_next_276 : decode cX6_next 276 = .ok (.iload_n 1, 1) := by decide +kernel
theorem dX6_next_277 : decode cX6_next 277 = .ok (.bipush 45, 2) := by decide +kernel
theorem dX6_next_279 : decode cX6_next 279 = .ok (.if_icmp .eq 21, 3) := by decide +kernel
theorem dX6_next_282 : decode cX6_next 282 = .ok (.iload_n 1, 1) := by decide +kernel
theorem dX6_next_283 : decode cX6_next 283 = .ok (.bipush 42, 2) := by decide +kernel
theorem dX6_next_285 : decode cX6_next 285 = .ok (.if_icmp .eq 15, 3) := by decide +kernel
theorem dX6_next_288 : decode cX6_next 288 = .ok (.iload_n 1, 1) := by decide +kernel
theorem dX6_next_289 : decode cX6_next 289 = .ok (.bipush 60, 2) := by decide +kernel
theorem dX6_next_291 : decode cX6_next 291 = .ok (.if_icmp .eq 9, 3) := by decide +kernel
theorem dX6_next_294 : decode cX6_next 294 = .ok (.iload_n 1, 1) := by decide +kernel
theorem dX6_next_295 : decode cX6_next 295 = .ok (.bipush 61, 2) := by decide +kernel
theorem dX6_next_297 : decode cX6_next 297 = .ok (.if_icmp .ne 24, 3) := by decide +kernel
theorem dX6_next_300 : decode cX6_next 300 = .ok (.aload_n 0, 1) := by decide +kernel
theorem dX6_next_301 : decode cX6_next 301 = .ok (.iconst 3, 1) := by decide +kernel
theorem dX6_next_302 : decode cX6_next 302 = .ok (.putfield 165, 3) := by decide +kernel
theorem dX6_next_305 : decode cX6_next 305 = .ok (.aload_n 0, 1) := by decide +kernel
theorem dX6_next_306 : decode cX6_next 306 = .ok (.iload_n 1, 1) := by decide +kernel
theorem dX6_next_307 : decode cX6_next 307 = .ok (.i2l, 1) := by decide +kernel
theorem dX6_next_308 : decode cX6_next 308 = .ok (.putfield 176, 3) := by decide +kernel
theorem dX6_next_311 : decode cX6_next 311 = .ok (.aload_n 0, 1) := by decide +kernel
theorem dX6_next_312 : decode cX6_next 312 = .ok (.dup, 1) := by decide +kernel
theorem dX6_next_313 : decode cX6_next 313 = .ok (.getfield 156, 3) := by decide +kernel
theorem dX6_next_316 : decode cX6_next 316 = .ok (.iconst 1, 1) := by decide +kernel
theorem dX6_next_317 : decode cX6_next 317 = .ok (.iadd, 1) := by decide +kernel
theorem dX6_next_318 : decode cX6_next 318 = .ok (.putfield 156, 3) := by decide +kernel
theorem dX6_next_321 : decode cX6_next 321 = .ok (.return_, 1) := by decide +kernel
theorem dX6_fail_0 : decode cX6_fail 0 = .ok (.aload_n 0, 1) := by decide +kernel
theorem dX6_fail_1 : decode cX6_fail 1 = .ok (.getfield 181, 3) := by decide +kernel
theorem dX6_fail_4 : decode cX6_fail 4 = .ok (.ifCond .ne 16, 3) := by decide +kernel
theorem dX6_fail_7 : decode cX6_fail 7 = .ok (.aload_n 0, 1) := by decide +kernel
theorem dX6_fail_8 : decode cX6_fail 8 = .ok (.iconst 1, 1) := by decide +kernel
theorem dX6_fail_9 : decode cX6_fail 9 = .ok (.putfield 181, 3) := by decide +kernel
theorem dX6_fail_12 : decode cX6_fail 12 = .ok (.aload_n 0, 1) := by decide +kernel
theorem dX6_fail_13 : decode cX6_fail 13 = .ok (.aload_n 0, 1) := by decide +kernel
theorem dX6_fail_14 : decode cX6_fail 14 = .ok (.getfield 162, 3) := by decide +kernel
theorem dX6_fail_17 : decode cX6_fail 17 = .ok (.putfield 185, 3) := by decide +kernel
theorem dX6_fail_20 : decode cX6_fail 20 = .ok (.return_, 1) := by decide +kernel
theorem dX6_isLetter_0 : decode cX6_isLetter 0 = .ok (.aload_n 0, 1) := by decide +kernel
theorem dX6_isLetter_1 : decode cX6_isLetter 1 = .ok (.getfield 162, 3) := by decide +kernel
theorem dX6_isLetter_4 : decode cX6_isLetter 4 = .ok (.iload_n 1, 1) := by decide +kernel
theorem dX6_isLetter_5 : decode cX6_isLetter 5 = .ok (.iadd, 1) := by decide +kernel
theorem dX6_isLetter_6 : decode cX6_isLetter 6 = .ok (.aload_n 0, 1) := by decide +kernel
theorem dX6_isLetter_7 : decode cX6_isLetter 7 = .ok (.getfield 156, 3) := by decide +kernel
theorem dX6_isLetter_10 : decode cX6_isLetter 10 = .ok (.if_icmp .ge 25, 3) := by decide +kernel
theorem dX6_isLetter_13 : decode cX6_isLetter 13 = .ok (.aload_n 0, 1) := by decide +kernel
theorem dX6_isLetter_14 : decode cX6_isLetter 14 = .ok (.aload_n 0, 1) := by decide +kernel
theorem dX6_isLetter_15 : decode cX6_isLetter 15 = .ok (.getfield 162, 3) := by decide +kernel
theorem dX6_isLetter_18 : decode cX6_isLetter 18 = .ok (.iload_n 1, 1) := by decide +kernel
theorem dX6_isLetter_19 : decode cX6_isLetter 19 = .ok (.iadd, 1) := by decide +kernel
theorem dX6_isLetter_20 : decode cX6_isLetter 20 = .ok (.invokevirtual 159, 3) := by decide +kernel
theorem dX6_isLetter_23 : decode cX6_isLetter 23 = .ok (.iload_n 2, 1) := by decide +kernel
theorem dX6_isLetter_24 : decode cX6_isLetter 24 = .ok (.if_icmp .ne 7, 3) := by decide +kernel
theorem dX6_isLetter_27 : decode cX6_isLetter 27 = .ok (.iconst 1, 1) := by decide +kernel
theorem dX6_isLetter_28 : decode cX6_isLetter 28 = .ok (.goto 16, 3) := by decide +kernel
theorem dX6_isLetter_31 : decode cX6_isLetter 31 = .ok (.iconst 0, 1) := by decide +kernel
theorem dX6_isLetter_32 : decode cX6_isLetter 32 = .ok (.goto 12, 3) := by decide +kernel
theorem dX6_isLetter_35 : decode cX6_isLetter 35 = .ok (.iload_n 2, 1) := by decide +kernel
theorem dX6_isLetter_36 : decode cX6_isLetter 36 = .ok (.ifCond .ne 7, 3) := by decide +kernel
theorem dX6_isLetter_39 : decode cX6_isLetter 39 = .ok (.iconst 1, 1) := by decide +kernel
theorem dX6_isLetter_40 : decode cX6_isLetter 40 = .ok (.goto 4, 3) := by decide +kernel
theorem dX6_isLetter_43 : decode cX6_isLetter 43 = .ok (.iconst 0, 1) := by decide +kernel
theorem dX6_isLetter_44 : decode cX6_isLetter 44 = .ok (.ireturn, 1) := by decide +kernel
theorem dX6_isWord_0 : decode cX6_isWord 0 = .ok (.aload_n 0, 1) := by decide +kernel
theorem dX6_isWord_1 : decode cX6_isWord 1 = .ok (.getfield 181, 3) := by decide +kernel
theorem dX6_isWord_4 : decode cX6_isWord 4 = .ok (.ifCond .ne 108, 3) := by decide +kernel
theorem dX6_isWord_7 : decode cX6_isWord 7 = .ok (.aload_n 0, 1) := by decide +kernel
theorem dX6_isWord_8 : decode cX6_isWord 8 = .ok (.getfield 165, 3) := by decide +kernel
theorem dX6_isWord_11 : decode cX6_isWord 11 = .ok (.iconst 1, 1) := by decide +kernel
theorem dX6_isWord_12 : decode cX6_isWord 12 = .ok (.if_icmp .ne 100, 3) := by decide +kernel
theorem dX6_isWord_15 : decode cX6_isWord 15 = .ok (.aload_n 0, 1) := by decide +kernel
theorem dX6_isWord_16 : decode cX6_isWord 16 = .ok (.getfield 156, 3) := by decide +kernel
theorem dX6_isWord_19 : decode cX6_isWord 19 = .ok (.aload_n 0, 1) := by decide +kernel
theorem dX6_isWord_20 : decode cX6_isWord 20 = .ok (.getfield 162, 3) := by decide +kernel
theorem dX6_isWord_23 : decode cX6_isWord 23 = .ok (.bipush 8, 2) := by decide +kernel
theorem dX6_isWord_25 : decode cX6_isWord 25 = .ok (.iadd, 1) := by decide +kernel
theorem dX6_isWord_26 : decode cX6_isWord 26 = .ok (.if_icmp .gt 86, 3) := by decide +kernel
theorem dX6_isWord_29 : decode cX6_isWord 29 = .ok (.aload_n 0, 1) := by decide +kernel
theorem dX6_isWord_30 : decode cX6_isWord 30 = .ok (.iconst 0, 1) := by decide +kernel
theorem dX6_isWord_31 : decode cX6_isWord 31 = .ok (.iload_n 1, 1) := by decide +kernel
theorem dX6_isWord_32 : decode cX6_isWord 32 = .ok (.invokevirtual 188, 3) := by decide +kernel
theorem dX6_isWord_35 : decode cX6_isWord 35 = .ok (.ifCond .eq 77, 3) := by decide +kernel
theorem dX6_isWord_38 : decode cX6_isWord 38 = .ok (.aload_n 0, 1) := by decide +kernel
theorem dX6_isWord_39 : decode cX6_isWord 39 = .ok (.iconst 1, 1) := by decide +kernel
theorem dX6_isWord_40 : decode cX6_isWord 40 = .ok (.iload_n 2, 1) := by decide +kernel
theorem dX6_isWord_41 : decode cX6_isWord 41 = .ok (.invokevirtual 188, 3) := by decide +kernel
theorem dX6_isWord_44 : decode cX6_isWord 44 = .ok (.ifCond .eq 68, 3) := by decide +kernel
theorem dX6_isWord_47 : decode cX6_isWord 47 = .ok (.aload_n 0, 1) := by decide +kernel
theorem dX6_isWord_48 : decode cX6_isWord 48 = .ok (.iconst 2, 1) := by decide +kernel
theorem dX6_isWord_49 : decode cX6_isWord 49 = .ok (.iload_n 3, 1) := by decide +kernel
theorem dX6_isWord_50 : decode cX6_isWord 50 = .ok (.invokevirtual 188, 3) := by decide +kernel
theorem dX6_isWord_53 : decode cX6_isWord 53 = .ok (.ifCond .eq 59, 3) := by decide +kernel
theorem dX6_isWord_56 : decode cX6_isWord 56 = .ok (.aload_n 0, 1) := by decide +kernel
theorem dX6_isWord_57 : decode cX6_isWord 57 = .ok (.iconst 3, 1) := by decide +kernel
theorem dX6_isWord_58 : decode cX6_isWord 58 = .ok (.iload 4, 2) := by decide +kernel
theorem dX6_isWord_60 : decode cX6_isWord 60 = .ok (.invokevirtual 188, 3) := by decide +kernel
theorem dX6_isWord_63 : decode cX6_isWord 63 = .ok (.ifCond .eq 49, 3) := by decide +kernel
theorem dX6_isWord_66 : decode cX6_isWord 66 = .ok (.aload_n 0, 1) := by decide +kernel
theorem dX6_isWord_67 : decode cX6_isWord 67 = .ok (.iconst 4, 1) := by decide +kernel
theorem dX6_isWord_68 : decode cX6_isWord 68 = .ok (.iload 5, 2) := by decide +kernel
theorem dX6_isWord_70 : decode cX6_isWord 70 = .ok (.invokevirtual 188, 3) := by decide +kernel
theorem dX6_isWord_73 : decode cX6_isWord 73 = .ok (.ifCond .eq 39, 3) := by decide +kernel
theorem dX6_isWord_76 : decode cX6_isWord 76 = .ok (.aload_n 0, 1) := by decide +kernel
theorem dX6_isWord_77 : decode cX6_isWord 77 = .ok (.iconst 5, 1) := by decide +kernel
theorem dX6_isWord_78 : decode cX6_isWord 78 = .ok (.iload 6, 2) := by decide +kernel
theorem dX6_isWord_80 : decode cX6_isWord 80 = .ok (.invokevirtual 188, 3) := by decide +kernel
theorem dX6_isWord_83 : decode cX6_isWord 83 = .ok (.ifCond .eq 29, 3) := by decide +kernel
theorem dX6_isWord_86 : decode cX6_isWord 86 = .ok (.aload_n 0, 1) := by decide +kernel
theorem dX6_isWord_87 : decode cX6_isWord 87 = .ok (.bipush 6, 2) := by decide +kernel
theorem dX6_isWord_89 : decode cX6_isWord 89 = .ok (.iload 7, 2) := by decide +kernel
theorem dX6_isWord_91 : decode cX6_isWord 91 = .ok (.invokevirtual 188, 3) := by decide +kernel
theorem dX6_isWord_94 : decode cX6_isWord 94 = .ok (.ifCond .eq 18, 3) := by decide +kernel
theorem dX6_isWord_97 : decode cX6_isWord 97 = .ok (.aload_n 0, 1) := by decide +kernel
theorem dX6_isWord_98 : decode cX6_isWord 98 = .ok (.bipush 7, 2) := by decide +kernel
theorem dX6_isWord_100 : decode cX6_isWord 100 = .ok (.iload 8, 2) := by decide +kernel
theorem dX6_isWord_102 : decode cX6_isWord 102 = .ok (.invokevirtual 188, 3) := by decide +kernel
theorem dX6_isWord_105 : decode cX6_isWord 105 = .ok (.ifCond .eq 7, 3) := by decide +kernel
theorem dX6_isWord_108 : decode cX6_isWord 108 = .ok (.iconst 1, 1) := by decide +kernel
theorem dX6_isWord_109 : decode cX6_isWord 109 = .ok (.goto 4, 3) := by decide +kernel
theorem dX6_isWord_112 : decode cX6_isWord 112 = .ok (.iconst 0, 1) := by decide +kernel
theorem dX6_isWord_113 : decode cX6_isWord 113 = .ok (.ireturn, 1) := by decide +kernel
theorem dX6_isSign_0 : decode cX6_isSign 0 = .ok (.aload_n 0, 1) := by decide +kernel
theorem dX6_isSign_1 : decode cX6_isSign 1 = .ok (.getfield 181, 3) := by decide +kernel
theorem dX6_isSign_4 : decode cX6_isSign 4 = .ok (.ifCond .ne 25, 3) := by decide +kernel
theorem dX6_isSign_7 : decode cX6_isSign 7 = .ok (.aload_n 0, 1) := by decide +kernel
theorem dX6_isSign_8 : decode cX6_isSign 8 = .ok (.getfield 165, 3) := by decide +kernel
theorem dX6_isSign_11 : decode cX6_isSign 11 = .ok (.iconst 3, 1) := by decide +kernel
theorem dX6_isSign_12 : decode cX6_isSign 12 = .ok (.if_icmp .ne 17, 3) := by decide +kernel
theorem dX6_isSign_15 : decode cX6_isSign 15 = .ok (.aload_n 0, 1) := by decide +kernel
theorem dX6_isSign_16 : decode cX6_isSign 16 = .ok (.getfield 176, 3) := by decide +kernel
theorem dX6_isSign_19 : decode cX6_isSign 19 = .ok (.iload_n 1, 1) := by decide +kernel
theorem dX6_isSign_20 : decode cX6_isSign 20 = .ok (.i2l, 1) := by decide +kernel
theorem dX6_isSign_21 : decode cX6_isSign 21 = .ok (.lcmp, 1) := by decide +kernel
theorem dX6_isSign_22 : decode cX6_isSign 22 = .ok (.ifCond .ne 7, 3) := by decide +kernel
theorem dX6_isSign_25 : decode cX6_isSign 25 = .ok (.iconst 1, 1) := by decide +kernel
theorem dX6_isSign_26 : decode cX6_isSign 26 = .ok (.goto 4, 3) := by decide +kernel
theorem dX6_isSign_29 : decode cX6_isSign 29 = .ok (.iconst 0, 1) := by decide +kernel
theorem dX6_isSign_30 : decode cX6_isSign 30 = .ok (.ireturn, 1) := by decide +kernel
theorem dX6_opens_0 : decode cX6_opens 0 = .ok (.aload_n 0, 1) := by decide +kernel
theorem dX6_opens_1 : decode cX6_opens 1 = .ok (.getfield 191, 3) := by decide +kernel
theorem dX6_opens_4 : decode cX6_opens 4 = .ok (.iconst 5, 1) := by decide +kernel
theorem dX6_opens_5 : decode cX6_opens 5 = .ok (.if_icmp .ne 9, 3) := by decide +kernel
theorem dX6_opens_8 : decode cX6_opens 8 = .ok (.aload_n 0, 1) := by decide +kernel
theorem dX6_opens_9 : decode cX6_opens 9 = .ok (.invokevirtual 194, 3) := by decide +kernel
theorem dX6_opens_12 : decode cX6_opens 12 = .ok (.iconst 0, 1) := by decide +kernel
theorem dX6_opens_13 : decode cX6_opens 13 = .ok (.ireturn, 1) := by decide +kernel
theorem dX6_opens_14 : decode cX6_opens 14 = .ok (.aload_n 0, 1) := by decide +kernel
theorem dX6_opens_15 : decode cX6_opens 15 = .ok (.dup, 1) := by decide +kernel
theorem dX6_opens_16 : decode cX6_opens 16 = .ok (.getfield 191, 3) := by decide +kernel
theorem dX6_opens_19 : decode cX6_opens 19 = .ok (.iconst 1, 1) := by decide +kernel
theorem dX6_opens_20 : decode cX6_opens 20 = .ok (.iadd, 1) := by decide +kernel
theorem dX6_opens_21 : decode cX6_opens 21 = .ok (.putfield 191, 3) := by decide +kernel
theorem dX6_opens_24 : decode cX6_opens 24 = .ok (.aload_n 0, 1) := by decide +kernel
theorem dX6_opens_25 : decode cX6_opens 25 = .ok (.invokevirtual 197, 3) := by decide +kernel
theorem dX6_opens_28 : decode cX6_opens 28 = .ok (.iconst 1, 1) := by decide +kernel
theorem dX6_opens_29 : decode cX6_opens 29 = .ok (.ireturn, 1) := by decide +kernel
theorem dX6_name_0 : decode cX6_name 0 = .ok (.aload_n 0, 1) := by decide +kernel
theorem dX6_name_1 : decode cX6_name 1 = .ok (.bipush 108, 2) := by decide +kernel
theorem dX6_name_3 : decode cX6_name 3 = .ok (.bipush 111, 2) := by decide +kernel
theorem dX6_name_5 : decode cX6_name 5 = .ok (.bipush 111, 2) := by decide +kernel
theorem dX6_name_7 : decode cX6_name 7 = .ok (.bipush 107, 2) := by decide +kernel
theorem dX6_name_9 : decode cX6_name 9 = .ok (.bipush 101, 2) := by decide +kernel
theorem dX6_name_11 : decode cX6_name 11 = .ok (.bipush 100, 2) := by decide +kernel
theorem dX6_name_13 : decode cX6_name 13 = .ok (.iconst 0, 1) := by decide +kernel
theorem dX6_name_14 : decode cX6_name 14 = .ok (.iconst 0, 1) := by decide +kernel
theorem dX6_name_15 : decode cX6_name 15 = .ok (.invokevirtual 200, 3) := by decide +kernel
theorem dX6_name_18 : decode cX6_name 18 = .ok (.ifCond .eq 8, 3) := by decide +kernel
theorem dX6_name_21 : decode cX6_name 21 = .ok (.aload_n 0, 1) := by decide +kernel
theorem dX6_name_22 : decode cX6_name 22 = .ok (.getfield 204, 3) := by decide +kernel
theorem dX6_name_25 : decode cX6_name 25 = .ok (.ireturn, 1) := by decide +kernel
theorem dX6_name_26 : decode cX6_name 26 = .ok (.aload_n 0, 1) := by decide +kernel
theorem dX6_name_27 : decode cX6_name 27 = .ok (.bipush 99, 2) := by decide +kernel
theorem dX6_name_29 : decode cX6_name 29 = .ok (.bipush 111, 2) := by decide +kernel
theorem dX6_name_31 : decode cX6_name 31 = .ok (.bipush 108, 2) := by decide +kernel
theorem dX6_name_33 : decode cX6_name 33 = .ok (.bipush 111, 2) := by decide +kernel
theorem dX6_name_35 : decode cX6_name 35 = .ok (.bipush 117, 2) := by decide +kernel
theorem dX6_name_37 : decode cX6_name 37 = .ok (.bipush 114, 2) := by decide +kernel
theorem dX6_name_39 : decode cX6_name 39 = .ok (.iconst 0, 1) := by decide +kernel
theorem dX6_name_40 : decode cX6_name 40 = .ok (.iconst 0, 1) := by decide +kernel
theorem dX6_name_41 : decode cX6_name 41 = .ok (.invokevirtual 200, 3) := by decide +kernel
theorem dX6_name_44 : decode cX6_name 44 = .ok (.ifCond .eq 8, 3) := by decide +kernel
theorem dX6_name_47 : decode cX6_name 47 = .ok (.aload_n 0, 1) := by decide +kernel
theorem dX6_name_48 : decode cX6_name 48 = .ok (.getfield 207, 3) := by decide +kernel
theorem dX6_name_51 : decode cX6_name 51 = .ok (.ireturn, 1) := by decide +kernel
theorem dX6_name_52 : decode cX6_name 52 = .ok (.aload_n 0, 1) := by decide +kernel
theorem dX6_name_53 : decode cX6_name 53 = .ok (.bipush 110, 2) := by decide +kernel
theorem dX6_name_55 : decode cX6_name 55 = .ok (.bipush 117, 2) := by decide +kernel
theorem dX6_name_57 : decode cX6_name 57 = .ok (.bipush 109, 2) := by decide +kernel
theorem dX6_name_59 : decode cX6_name 59 = .ok (.bipush 98, 2) := by decide +kernel
theorem dX6_name_61 : decode cX6_name 61 = .ok (.bipush 101, 2) := by decide +kernel
theorem dX6_name_63 : decode cX6_name 63 = .ok (.bipush 114, 2) := by decide +kernel
theorem dX6_name_65 : decode cX6_name 65 = .ok (.iconst 0, 1) := by decide +kernel
theorem dX6_name_66 : decode cX6_name 66 = .ok (.iconst 0, 1) := by decide +kernel
theorem dX6_name_67 : decode cX6_name 67 = .ok (.invokevirtual 200, 3) := by decide +kernel
theorem dX6_name_70 : decode cX6_name 70 = .ok (.ifCond .eq 8, 3) := by decide +kernel
theorem dX6_name_73 : decode cX6_name 73 = .ok (.aload_n 0, 1) := by decide +kernel
theorem dX6_name_74 : decode cX6_name 74 = .ok (.getfield 210, 3) := by decide +kernel
theorem dX6_name_77 : decode cX6_name 77 = .ok (.ireturn, 1) := by decide +kernel
theorem dX6_name_78 : decode cX6_name 78 = .ok (.aload_n 0, 1) := by decide +kernel
theorem dX6_name_79 : decode cX6_name 79 = .ok (.bipush 100, 2) := by decide +kernel
theorem dX6_name_81 : decode cX6_name 81 = .ok (.bipush 97, 2) := by decide +kernel
theorem dX6_name_83 : decode cX6_name 83 = .ok (.bipush 121, 2) := by decide +kernel
theorem dX6_name_85 : decode cX6_name 85 = .ok (.iconst 0, 1) := by decide +kernel
theorem dX6_name_86 : decode cX6_name 86 = .ok (.iconst 0, 1) := by decide +kernel
theorem dX6_name_87 : decode cX6_name 87 = .ok (.iconst 0, 1) := by decide +kernel
theorem dX6_name_88 : decode cX6_name 88 = .ok (.iconst 0, 1) := by decide +kernel
theorem dX6_name_89 : decode cX6_name 89 = .ok (.iconst 0, 1) := by decide +kernel
theorem dX6_name_90 : decode cX6_name 90 = .ok (.invokevirtual 200, 3) := by decide +kernel
theorem dX6_name_93 : decode cX6_name 93 = .ok (.ifCond .eq 8, 3) := by decide +kernel
theorem dX6_name_96 : decode cX6_name 96 = .ok (.aload_n 0, 1) := by decide +kernel
theorem dX6_name_97 : decode cX6_name 97 = .ok (.getfield 213, 3) := by decide +kernel
theorem dX6_name_100 : decode cX6_name 100 = .ok (.ireturn, 1) := by decide +kernel
theorem dX6_name_101 : decode cX6_name 101 = .ok (.aload_n 0, 1) := by decide +kernel
theorem dX6_name_102 : decode cX6_name 102 = .ok (.bipush 102, 2) := by decide +kernel
theorem dX6_name_104 : decode cX6_name 104 = .ok (.bipush 105, 2) := by decide +kernel
theorem dX6_name_106 : decode cX6_name 106 = .ok (.bipush 108, 2) := by decide +kernel
theorem dX6_name_108 : decode cX6_name 108 = .ok (.bipush 108, 2) := by decide +kernel
theorem dX6_name_110 : decode cX6_name 110 = .ok (.bipush 101, 2) := by decide +kernel
theorem dX6_name_112 : decode cX6_name 112 = .ok (.bipush 100, 2) := by decide +kernel
theorem dX6_name_114 : decode cX6_name 114 = .ok (.iconst 0, 1) := by decide +kernel
theorem dX6_name_115 : decode cX6_name 115 = .ok (.iconst 0, 1) := by decide +kernel
theorem dX6_name_116 : decode cX6_name 116 = .ok (.invokevirtual 200, 3) := by decide +kernel
theorem dX6_name_119 : decode cX6_name 119 = .ok (.ifCond .eq 8, 3) := by decide +kernel
theorem dX6_name_122 : decode cX6_name 122 = .ok (.aload_n 0, 1) := by decide +kernel
theorem dX6_name_123 : decode cX6_name 123 = .ok (.getfield 216, 3) := by decide +kernel
theorem dX6_name_126 : decode cX6_name 126 = .ok (.ireturn, 1) := by decide +kernel
theorem dX6_name_127 : decode cX6_name 127 = .ok (.aload_n 0, 1) := by decide +kernel
theorem dX6_name_128 : decode cX6_name 128 = .ok (.bipush 98, 2) := by decide +kernel
theorem dX6_name_130 : decode cX6_name 130 = .ok (.bipush 111, 2) := by decide +kernel
theorem dX6_name_132 : decode cX6_name 132 = .ok (.bipush 120, 2) := by decide +kernel
theorem dX6_name_134 : decode cX6_name 134 = .ok (.iconst 0, 1) := by decide +kernel
theorem dX6_name_135 : decode cX6_name 135 = .ok (.iconst 0, 1) := by decide +kernel
theorem dX6_name_136 : decode cX6_name 136 = .ok (.iconst 0, 1) := by decide +kernel
theorem dX6_name_137 : decode cX6_name 137 = .ok (.iconst 0, 1) := by decide +kernel
theorem dX6_name_138 : decode cX6_name 138 = .ok (.iconst 0, 1) := by decide +kernel
theorem dX6_name_139 : decode cX6_name 139 = .ok (.invokevirtual 200, 3) := by decide +kernel
theorem dX6_name_142 : decode cX6_name 142 = .ok (.ifCond .eq 8, 3) := by decide +kernel
theorem dX6_name_145 : decode cX6_name 145 = .ok (.aload_n 0, 1) := by decide +kernel
theorem dX6_name_146 : decode cX6_name 146 = .ok (.getfield 219, 3) := by decide +kernel
theorem dX6_name_149 : decode cX6_name 149 = .ok (.ireturn, 1) := by decide +kernel
theorem dX6_name_150 : decode cX6_name 150 = .ok (.aload_n 0, 1) := by decide +kernel
theorem dX6_name_151 : decode cX6_name 151 = .ok (.invokevirtual 194, 3) := by decide +kernel
theorem dX6_name_154 : decode cX6_name 154 = .ok (.iconst 0, 1) := by decide +kernel
theorem dX6_name_155 : decode cX6_name 155 = .ok (.ireturn, 1) := by decide +kernel
theorem dX6_atom5_0 : decode cX6_atom5 0 = .ok (.iconst 0, 1) := by decide +kernel
theorem dX6_atom5_1 : decode cX6_atom5 1 = .ok (.istore_n 1, 1) := by decide +kernel
theorem dX6_atom5_2 : decode cX6_atom5 2 = .ok (.aload_n 0, 1) := by decide +kernel
theorem dX6_atom5_3 : decode cX6_atom5 3 = .ok (.bipush 45, 2) := by decide +kernel
theorem dX6_atom5_5 : decode cX6_atom5 5 = .ok (.invokevirtual 222, 3) := by decide +kernel
theorem dX6_atom5_8 : decode cX6_atom5 8 = .ok (.ifCond .eq 11, 3) := by decide +kernel
theorem dX6_atom5_11 : decode cX6_atom5 11 = .ok (.aload_n 0, 1) := by decide +kernel
theorem dX6_atom5_12 : decode cX6_atom5 12 = .ok (.invokevirtual 225, 3) := by decide +kernel
theorem dX6_atom5_15 : decode cX6_atom5 15 = .ok (.pop, 1) := by decide +kernel
theorem dX6_atom5_16 : decode cX6_atom5 16 = .ok (.goto 86, 3) := by decide +kernel
theorem dX6_atom5_19 : decode cX6_atom5 19 = .ok (.aload_n 0, 1) := by decide +kernel
theorem dX6_atom5_20 : decode cX6_atom5 20 = .ok (.bipush 40, 2) := by decide +kernel
theorem dX6_atom5_22 : decode cX6_atom5 22 = .ok (.invokevirtual 222, 3) := by decide +kernel
theorem dX6_atom5_25 : decode cX6_atom5 25 = .ok (.ifCond .eq 11, 3) := by decide +kernel
theorem dX6_atom5_28 : decode cX6_atom5 28 = .ok (.aload_n 0, 1) := by decide +kernel
theorem dX6_atom5_29 : decode cX6_atom5 29 = .ok (.invokevirtual 225, 3) := by decide +kernel
theorem dX6_atom5_32 : decode cX6_atom5 32 = .ok (.pop, 1) := by decide +kernel
theorem dX6_atom5_33 : decode cX6_atom5 33 = .ok (.goto 69, 3) := by decide +kernel
theorem dX6_atom5_36 : decode cX6_atom5 36 = .ok (.aload_n 0, 1) := by decide +kernel
theorem dX6_atom5_37 : decode cX6_atom5 37 = .ok (.getfield 181, 3) := by decide +kernel
theorem dX6_atom5_40 : decode cX6_atom5 40 = .ok (.ifCond .ne 24, 3) := by decide +kernel
theorem dX6_atom5_43 : decode cX6_atom5 43 = .ok (.aload_n 0, 1) := by decide +kernel
theorem dX6_atom5_44 : decode cX6_atom5 44 = .ok (.getfield 165, 3) := by decide +kernel
theorem dX6_atom5_47 : decode cX6_atom5 47 = .ok (.iconst 2, 1) := by decide +kernel
theorem dX6_atom5_48 : decode cX6_atom5 48 = .ok (.if_icmp .ne 16, 3) := by decide +kernel
theorem dX6_atom5_51 : decode cX6_atom5 51 = .ok (.aload_n 0, 1) := by decide +kernel
theorem dX6_atom5_52 : decode cX6_atom5 52 = .ok (.getfield 176, 3) := by decide +kernel
theorem dX6_atom5_55 : decode cX6_atom5 55 = .ok (.l2i, 1) := by decide +kernel
theorem dX6_atom5_56 : decode cX6_atom5 56 = .ok (.istore_n 1, 1) := by decide +kernel
theorem dX6_atom5_57 : decode cX6_atom5 57 = .ok (.aload_n 0, 1) := by decide +kernel
theorem dX6_atom5_58 : decode cX6_atom5 58 = .ok (.invokevirtual 197, 3) := by decide +kernel
theorem dX6_atom5_61 : decode cX6_atom5 61 = .ok (.goto 41, 3) := by decide +kernel
theorem dX6_atom5_64 : decode cX6_atom5 64 = .ok (.aload_n 0, 1) := by decide +kernel
theorem dX6_atom5_65 : decode cX6_atom5 65 = .ok (.getfield 181, 3) := by decide +kernel
theorem dX6_atom5_68 : decode cX6_atom5 68 = .ok (.ifCond .ne 30, 3) := by decide +kernel
theorem dX6_atom5_71 : decode cX6_atom5 71 = .ok (.aload_n 0, 1) := by decide +kernel
theorem dX6_atom5_72 : decode cX6_atom5 72 = .ok (.getfield 165, 3) := by decide +kernel
theorem dX6_atom5_75 : decode cX6_atom5 75 = .ok (.iconst 1, 1) := by decide +kernel
theorem dX6_atom5_76 : decode cX6_atom5 76 = .ok (.if_icmp .ne 22, 3) := by decide +kernel
theorem dX6_atom5_79 : decode cX6_atom5 79 = .ok (.aload_n 0, 1) := by decide +kernel
theorem dX6_atom5_80 : decode cX6_atom5 80 = .ok (.invokevirtual 229, 3) := by decide +kernel
theorem dX6_atom5_83 : decode cX6_atom5 83 = .ok (.istore_n 1, 1) := by decide +kernel
theorem dX6_atom5_84 : decode cX6_atom5 84 = .ok (.aload_n 0, 1) := by decide +kernel
theorem dX6_atom5_85 : decode cX6_atom5 85 = .ok (.getfield 181, 3) := by decide +kernel
theorem dX6_atom5_88 : decode cX6_atom5 88 = .ok (.ifCond .ne 14, 3) := by decide +kernel
theorem dX6_atom5_91 : decode cX6_atom5 91 = .ok (.aload_n 0, 1) := by decide +kernel
theorem dX6_atom5_92 : decode cX6_atom5 92 = .ok (.invokevirtual 197, 3) := by decide +kernel
theorem dX6_atom5_95 : decode cX6_atom5 95 = .ok (.goto 7, 3) := by decide +kernel
theorem dX6_atom5_98 : decode cX6_atom5 98 = .ok (.aload_n 0, 1) := by decide +kernel
theorem dX6_atom5_99 : decode cX6_atom5 99 = .ok (.invokevirtual 194, 3) := by decide +kernel
theorem dX6_atom5_102 : decode cX6_atom5 102 = .ok (.iload_n 1, 1) := by decide +kernel
theorem dX6_atom5_103 : decode cX6_atom5 103 = .ok (.ireturn, 1) := by decide +kernel
theorem dX6_term5_0 : decode cX6_term5 0 = .ok (.aload_n 0, 1) := by decide +kernel
theorem dX6_term5_1 : decode cX6_term5 1 = .ok (.invokevirtual 233, 3) := by decide +kernel
theorem dX6_term5_4 : decode cX6_term5 4 = .ok (.istore_n 1, 1) := by decide +kernel
theorem dX6_term5_5 : decode cX6_term5 5 = .ok (.aload_n 0, 1) := by decide +kernel
theorem dX6_term5_6 : decode cX6_term5 6 = .ok (.bipush 42, 2) := by decide +kernel
theorem dX6_term5_8 : decode cX6_term5 8 = .ok (.invokevirtual 222, 3) := by decide +kernel
theorem dX6_term5_11 : decode cX6_term5 11 = .ok (.ifCond .eq 17, 3) := by decide +kernel
theorem dX6_term5_14 : decode cX6_term5 14 = .ok (.aload_n 0, 1) := by decide +kernel
theorem dX6_term5_15 : decode cX6_term5 15 = .ok (.invokevirtual 197, 3) := by decide +kernel
theorem dX6_term5_18 : decode cX6_term5 18 = .ok (.iload_n 1, 1) := by decide +kernel
theorem dX6_term5_19 : decode cX6_term5 19 = .ok (.aload_n 0, 1) := by decide +kernel
theorem dX6_term5_20 : decode cX6_term5 20 = .ok (.invokevirtual 233, 3) := by decide +kernel
theorem dX6_term5_23 : decode cX6_term5 23 = .ok (.imul, 1) := by decide +kernel
theorem dX6_term5_24 : decode cX6_term5 24 = .ok (.istore_n 1, 1) := by decide +kernel
theorem dX6_term5_25 : decode cX6_term5 25 = .ok (.goto (-20), 3) := by decide +kernel
theorem dX6_term5_28 : decode cX6_term5 28 = .ok (.iload_n 1, 1) := by decide +kernel
theorem dX6_term5_29 : decode cX6_term5 29 = .ok (.ireturn, 1) := by decide +kernel
theorem dX6_added5_0 : decode cX6_added5 0 = .ok (.aload_n 0, 1) := by decide +kernel
theorem dX6_added5_1 : decode cX6_added5 1 = .ok (.invokevirtual 236, 3) := by decide +kernel
theorem dX6_added5_4 : decode cX6_added5 4 = .ok (.istore_n 1, 1) := by decide +kernel
theorem dX6_added5_5 : decode cX6_added5 5 = .ok (.aload_n 0, 1) := by decide +kernel
theorem dX6_added5_6 : decode cX6_added5 6 = .ok (.bipush 43, 2) := by decide +kernel
theorem dX6_added5_8 : decode cX6_added5 8 = .ok (.invokevirtual 222, 3) := by decide +kernel
theorem dX6_added5_11 : decode cX6_added5 11 = .ok (.ifCond .ne 12, 3) := by decide +kernel
theorem dX6_added5_14 : decode cX6_added5 14 = .ok (.aload_n 0, 1) := by decide +kernel
theorem dX6_added5_15 : decode cX6_added5 15 = .ok (.bipush 45, 2) := by decide +kernel
theorem dX6_added5_17 : decode cX6_added5 17 = .ok (.invokevirtual 222, 3) := by decide +kernel
theorem dX6_added5_20 : decode cX6_added5 20 = .ok (.ifCond .eq 46, 3) := by decide +kernel
theorem dX6_added5_23 : decode cX6_added5 23 = .ok (.aload_n 0, 1) := by decide +kernel
theorem dX6_added5_24 : decode cX6_added5 24 = .ok (.getfield 176, 3) := by decide +kernel
theorem dX6_added5_27 : decode cX6_added5 27 = .ok (.ldc2_w 239, 3) := by decide +kernel
theorem dX6_added5_30 : decode cX6_added5 30 = .ok (.lcmp, 1) := by decide +kernel
theorem dX6_added5_31 : decode cX6_added5 31 = .ok (.ifCond .ne 7, 3) := by decide +kernel
theorem dX6_added5_34 : decode cX6_added5 34 = .ok (.iconst 1, 1) := by decide +kernel
theorem dX6_added5_35 : decode cX6_added5 35 = .ok (.goto 4, 3) := by decide +kernel
theorem dX6_added5_38 : decode cX6_added5 38 = .ok (.iconst 0, 1) := by decide +kernel
theorem dX6_added5_39 : decode cX6_added5 39 = .ok (.istore_n 2, 1) := by decide +kernel
theorem dX6_added5_40 : decode cX6_added5 40 = .ok (.aload_n 0, 1) := by decide +kernel
theorem dX6_added5_41 : decode cX6_added5 41 = .ok (.invokevirtual 197, 3) := by decide +kernel
theorem dX6_added5_44 : decode cX6_added5 44 = .ok (.aload_n 0, 1) := by decide +kernel
theorem dX6_added5_45 : decode cX6_added5 45 = .ok (.invokevirtual 236, 3) := by decide +kernel
theorem dX6_added5_48 : decode cX6_added5 48 = .ok (.istore_n 3, 1) := by decide +kernel
theorem dX6_added5_49 : decode cX6_added5 49 = .ok (.iload_n 2, 1) := by decide +kernel
theorem dX6_added5_50 : decode cX6_added5 50 = .ok (.ifCond .eq 9, 3) := by decide +kernel
theorem dX6_added5_53 : decode cX6_added5 53 = .ok (.iload_n 1, 1) := by decide +kernel
theorem dX6_added5_54 : decode cX6_added5 54 = .ok (.iload_n 3, 1) := by decide +kernel
theorem dX6_added5_55 : decode cX6_added5 55 = .ok (.iadd, 1) := by decide +kernel
theorem dX6_added5_56 : decode cX6_added5 56 = .ok (.goto 6, 3) := by decide +kernel
theorem dX6_added5_59 : decode cX6_added5 59 = .ok (.iload_n 1, 1) := by decide +kernel
theorem dX6_added5_60 : decode cX6_added5 60 = .ok (.iload_n 3, 1) := by decide +kernel
theorem dX6_added5_61 : decode cX6_added5 61 = .ok (.isub, 1) := by decide +kernel
theorem dX6_added5_62 : decode cX6_added5 62 = .ok (.istore_n 1, 1) := by decide +kernel
theorem dX6_added5_63 : decode cX6_added5 63 = .ok (.goto (-58), 3) := by decide +kernel
theorem dX6_added5_66 : decode cX6_added5 66 = .ok (.iload_n 1, 1) := by decide +kernel
theorem dX6_added5_67 : decode cX6_added5 67 = .ok (.ireturn, 1) := by decide +kernel
theorem dX6_not5_0 : decode cX6_not5 0 = .ok (.aload_n 0, 1) := by decide +kernel
theorem dX6_not5_1 : decode cX6_not5 1 = .ok (.bipush 110, 2) := by decide +kernel
theorem dX6_not5_3 : decode cX6_not5 3 = .ok (.bipush 111, 2) := by decide +kernel
theorem dX6_not5_5 : decode cX6_not5 5 = .ok (.bipush 116, 2) := by decide +kernel
theorem dX6_not5_7 : decode cX6_not5 7 = .ok (.iconst 0, 1) := by decide +kernel
theorem dX6_not5_8 : decode cX6_not5 8 = .ok (.iconst 0, 1) := by decide +kernel
theorem dX6_not5_9 : decode cX6_not5 9 = .ok (.iconst 0, 1) := by decide +kernel
theorem dX6_not5_10 : decode cX6_not5 10 = .ok (.iconst 0, 1) := by decide +kernel
theorem dX6_not5_11 : decode cX6_not5 11 = .ok (.iconst 0, 1) := by decide +kernel
theorem dX6_not5_12 : decode cX6_not5 12 = .ok (.invokevirtual 200, 3) := by decide +kernel
theorem dX6_not5_15 : decode cX6_not5 15 = .ok (.ifCond .eq 10, 3) := by decide +kernel
theorem dX6_not5_18 : decode cX6_not5 18 = .ok (.aload_n 0, 1) := by decide +kernel
theorem dX6_not5_19 : decode cX6_not5 19 = .ok (.invokevirtual 225, 3) := by decide +kernel
theorem dX6_not5_22 : decode cX6_not5 22 = .ok (.pop, 1) := by decide +kernel
theorem dX6_not5_23 : decode cX6_not5 23 = .ok (.iconst 0, 1) := by decide +kernel
theorem dX6_not5_24 : decode cX6_not5 24 = .ok (.ireturn, 1) := by decide +kernel
theorem dX6_not5_25 : decode cX6_not5 25 = .ok (.aload_n 0, 1) := by decide +kernel
theorem dX6_not5_26 : decode cX6_not5 26 = .ok (.invokevirtual 241, 3) := by decide +kernel
theorem dX6_not5_29 : decode cX6_not5 29 = .ok (.istore_n 1, 1) := by decide +kernel
theorem dX6_not5_30 : decode cX6_not5 30 = .ok (.aload_n 0, 1) := by decide +kernel
theorem dX6_not5_31 : decode cX6_not5 31 = .ok (.bipush 60, 2) := by decide +kernel
theorem dX6_not5_33 : decode cX6_not5 33 = .ok (.invokevirtual 222, 3) := by decide +kernel
theorem dX6_not5_36 : decode cX6_not5 36 = .ok (.ifCond .ne 14, 3) := by decide +kernel
theorem dX6_not5_39 : decode cX6_not5 39 = .ok (.aload_n 0, 1) := by decide +kernel
theorem dX6_not5_40 : decode cX6_not5 40 = .ok (.bipush 61, 2) := by decide +kernel
theorem dX6_not5_42 : decode cX6_not5 42 = .ok (.invokevirtual 222, 3) := by decide +kernel
theorem dX6_not5_45 : decode cX6_not5 45 = .ok (.ifCond .ne 5, 3) := by decide +kernel
theorem dX6_not5_48 : decode cX6_not5 48 = .ok (.iload_n 1, 1) := by decide +kernel
theorem dX6_not5_49 : decode cX6_not5 49 = .ok (.ireturn, 1) := by decide +kernel
theorem dX6_not5_50 : decode cX6_not5 50 = .ok (.aload_n 0, 1) := by decide +kernel
theorem dX6_not5_51 : decode cX6_not5 51 = .ok (.getfield 176, 3) := by decide +kernel
theorem dX6_not5_54 : decode cX6_not5 54 = .ok (.ldc2_w 244, 3) := by decide +kernel
theorem dX6_not5_57 : decode cX6_not5 57 = .ok (.lcmp, 1) := by decide +kernel
theorem dX6_not5_58 : decode cX6_not5 58 = .ok (.ifCond .ne 7, 3) := by decide +kernel
theorem dX6_not5_61 : decode cX6_not5 61 = .ok (.iconst 1, 1) := by decide +kernel
theorem dX6_not5_62 : decode cX6_not5 62 = .ok (.goto 4, 3) := by decide +kernel
theorem dX6_not5_65 : decode cX6_not5 65 = .ok (.iconst 0, 1) := by decide +kernel
theorem dX6_not5_66 : decode cX6_not5 66 = .ok (.istore_n 2, 1) := by decide +kernel
theorem dX6_not5_67 : decode cX6_not5 67 = .ok (.aload_n 0, 1) := by decide +kernel
theorem dX6_not5_68 : decode cX6_not5 68 = .ok (.invokevirtual 197, 3) := by decide +kernel
theorem dX6_not5_71 : decode cX6_not5 71 = .ok (.aload_n 0, 1) := by decide +kernel
theorem dX6_not5_72 : decode cX6_not5 72 = .ok (.invokevirtual 241, 3) := by decide +kernel
theorem dX6_not5_75 : decode cX6_not5 75 = .ok (.istore_n 3, 1) := by decide +kernel
theorem dX6_not5_76 : decode cX6_not5 76 = .ok (.iload_n 2, 1) := by decide +kernel
theorem dX6_not5_77 : decode cX6_not5 77 = .ok (.ifCond .eq 11, 3) := by decide +kernel
theorem dX6_not5_80 : decode cX6_not5 80 = .ok (.iload_n 1, 1) := by decide +kernel
theorem dX6_not5_81 : decode cX6_not5 81 = .ok (.iload_n 3, 1) := by decide +kernel
theorem dX6_not5_82 : decode cX6_not5 82 = .ok (.if_icmp .ge 15, 3) := by decide +kernel
theorem dX6_not5_85 : decode cX6_not5 85 = .ok (.goto 8, 3) := by decide +kernel
theorem dX6_not5_88 : decode cX6_not5 88 = .ok (.iload_n 1, 1) := by decide +kernel
theorem dX6_not5_89 : decode cX6_not5 89 = .ok (.iload_n 3, 1) := by decide +kernel
theorem dX6_not5_90 : decode cX6_not5 90 = .ok (.if_icmp .ne 7, 3) := by decide +kernel
theorem dX6_not5_93 : decode cX6_not5 93 = .ok (.iconst 1, 1) := by decide +kernel
theorem dX6_not5_94 : decode cX6_not5 94 = .ok (.goto 4, 3) := by decide +kernel
theorem dX6_not5_97 : decode cX6_not5 97 = .ok (.iconst 0, 1) := by decide +kernel
theorem dX6_not5_98 : decode cX6_not5 98 = .ok (.ireturn, 1) := by decide +kernel
theorem dX6_both5_0 : decode cX6_both5 0 = .ok (.aload_n 0, 1) := by decide +kernel
theorem dX6_both5_1 : decode cX6_both5 1 = .ok (.invokevirtual 246, 3) := by decide +kernel
theorem dX6_both5_4 : decode cX6_both5 4 = .ok (.istore_n 1, 1) := by decide +kernel
theorem dX6_both5_5 : decode cX6_both5 5 = .ok (.aload_n 0, 1) := by decide +kernel
theorem dX6_both5_6 : decode cX6_both5 6 = .ok (.bipush 97, 2) := by decide +kernel
theorem dX6_both5_8 : decode cX6_both5 8 = .ok (.bipush 110, 2) := by decide +kernel
theorem dX6_both5_10 : decode cX6_both5 10 = .ok (.bipush 100, 2) := by decide +kernel
theorem dX6_both5_12 : decode cX6_both5 12 = .ok (.iconst 0, 1) := by decide +kernel
theorem dX6_both5_13 : decode cX6_both5 13 = .ok (.iconst 0, 1) := by decide +kernel
theorem dX6_both5_14 : decode cX6_both5 14 = .ok (.iconst 0, 1) := by decide +kernel
theorem dX6_both5_15 : decode cX6_both5 15 = .ok (.iconst 0, 1) := by decide +kernel
theorem dX6_both5_16 : decode cX6_both5 16 = .ok (.iconst 0, 1) := by decide +kernel
theorem dX6_both5_17 : decode cX6_both5 17 = .ok (.invokevirtual 200, 3) := by decide +kernel
theorem dX6_both5_20 : decode cX6_both5 20 = .ok (.ifCond .eq 29, 3) := by decide +kernel
theorem dX6_both5_23 : decode cX6_both5 23 = .ok (.aload_n 0, 1) := by decide +kernel
theorem dX6_both5_24 : decode cX6_both5 24 = .ok (.invokevirtual 197, 3) := by decide +kernel
theorem dX6_both5_27 : decode cX6_both5 27 = .ok (.aload_n 0, 1) := by decide +kernel
theorem dX6_both5_28 : decode cX6_both5 28 = .ok (.invokevirtual 246, 3) := by decide +kernel
theorem dX6_both5_31 : decode cX6_both5 31 = .ok (.istore_n 2, 1) := by decide +kernel
theorem dX6_both5_32 : decode cX6_both5 32 = .ok (.iload_n 1, 1) := by decide +kernel
theorem dX6_both5_33 : decode cX6_both5 33 = .ok (.ifCond .eq 11, 3) := by decide +kernel
theorem dX6_both5_36 : decode cX6_both5 36 = .ok (.iload_n 2, 1) := by decide +kernel
theorem dX6_both5_37 : decode cX6_both5 37 = .ok (.ifCond .eq 7, 3) := by decide +kernel
theorem dX6_both5_40 : decode cX6_both5 40 = .ok (.iconst 1, 1) := by decide +kernel
theorem dX6_both5_41 : decode cX6_both5 41 = .ok (.goto 4, 3) := by decide +kernel
theorem dX6_both5_44 : decode cX6_both5 44 = .ok (.iconst 0, 1) := by decide +kernel
theorem dX6_both5_45 : decode cX6_both5 45 = .ok (.istore_n 1, 1) := by decide +kernel
theorem dX6_both5_46 : decode cX6_both5 46 = .ok (.goto (-41), 3) := by decide +kernel
theorem dX6_both5_49 : decode cX6_both5 49 = .ok (.iload_n 1, 1) := by decide +kernel
theorem dX6_both5_50 : decode cX6_both5 50 = .ok (.ireturn, 1) := by decide +kernel
theorem dX6_either5_0 : decode cX6_either5 0 = .ok (.aload_n 0, 1) := by decide +kernel
theorem dX6_either5_1 : decode cX6_either5 1 = .ok (.invokevirtual 249, 3) := by decide +kernel
theorem dX6_either5_4 : decode cX6_either5 4 = .ok (.istore_n 1, 1) := by decide +kernel
theorem dX6_either5_5 : decode cX6_either5 5 = .ok (.aload_n 0, 1) := by decide +kernel
theorem dX6_either5_6 : decode cX6_either5 6 = .ok (.bipush 111, 2) := by decide +kernel
theorem dX6_either5_8 : decode cX6_either5 8 = .ok (.bipush 114, 2) := by decide +kernel
theorem dX6_either5_10 : decode cX6_either5 10 = .ok (.iconst 0, 1) := by decide +kernel
theorem dX6_either5_11 : decode cX6_either5 11 = .ok (.iconst 0, 1) := by decide +kernel
theorem dX6_either5_12 : decode cX6_either5 12 = .ok (.iconst 0, 1) := by decide +kernel
theorem dX6_either5_13 : decode cX6_either5 13 = .ok (.iconst 0, 1) := by decide +kernel
theorem dX6_either5_14 : decode cX6_either5 14 = .ok (.iconst 0, 1) := by decide +kernel
theorem dX6_either5_15 : decode cX6_either5 15 = .ok (.iconst 0, 1) := by decide +kernel
theorem dX6_either5_16 : decode cX6_either5 16 = .ok (.invokevirtual 200, 3) := by decide +kernel
theorem dX6_either5_19 : decode cX6_either5 19 = .ok (.ifCond .eq 29, 3) := by decide +kernel
theorem dX6_either5_22 : decode cX6_either5 22 = .ok (.aload_n 0, 1) := by decide +kernel
theorem dX6_either5_23 : decode cX6_either5 23 = .ok (.invokevirtual 197, 3) := by decide +kernel
theorem dX6_either5_26 : decode cX6_either5 26 = .ok (.aload_n 0, 1) := by decide +kernel
theorem dX6_either5_27 : decode cX6_either5 27 = .ok (.invokevirtual 249, 3) := by decide +kernel
theorem dX6_either5_30 : decode cX6_either5 30 = .ok (.istore_n 2, 1) := by decide +kernel
theorem dX6_either5_31 : decode cX6_either5 31 = .ok (.iload_n 1, 1) := by decide +kernel
theorem dX6_either5_32 : decode cX6_either5 32 = .ok (.ifCond .ne 7, 3) := by decide +kernel
theorem dX6_either5_35 : decode cX6_either5 35 = .ok (.iload_n 2, 1) := by decide +kernel
theorem dX6_either5_36 : decode cX6_either5 36 = .ok (.ifCond .eq 7, 3) := by decide +kernel
theorem dX6_either5_39 : decode cX6_either5 39 = .ok (.iconst 1, 1) := by decide +kernel
theorem dX6_either5_40 : decode cX6_either5 40 = .ok (.goto 4, 3) := by decide +kernel
theorem dX6_either5_43 : decode cX6_either5 43 = .ok (.iconst 0, 1) := by decide +kernel
theorem dX6_either5_44 : decode cX6_either5 44 = .ok (.istore_n 1, 1) := by decide +kernel
theorem dX6_either5_45 : decode cX6_either5 45 = .ok (.goto (-40), 3) := by decide +kernel
theorem dX6_either5_48 : decode cX6_either5 48 = .ok (.iload_n 1, 1) := by decide +kernel
theorem dX6_either5_49 : decode cX6_either5 49 = .ok (.ireturn, 1) := by decide +kernel
theorem dX6_atom4_0 : decode cX6_atom4 0 = .ok (.iconst 0, 1) := by decide +kernel
theorem dX6_atom4_1 : decode cX6_atom4 1 = .ok (.istore_n 1, 1) := by decide +kernel
theorem dX6_atom4_2 : decode cX6_atom4 2 = .ok (.aload_n 0, 1) := by decide +kernel
theorem dX6_atom4_3 : decode cX6_atom4 3 = .ok (.bipush 45, 2) := by decide +kernel
theorem dX6_atom4_5 : decode cX6_atom4 5 = .ok (.invokevirtual 222, 3) := by decide +kernel
theorem dX6_atom4_8 : decode cX6_atom4 8 = .ok (.ifCond .eq 29, 3) := by decide +kernel
theorem dX6_atom4_11 : decode cX6_atom4 11 = .ok (.aload_n 0, 1) := by decide +kernel
theorem dX6_atom4_12 : decode cX6_atom4 12 = .ok (.invokevirtual 225, 3) := by decide +kernel
theorem dX6_atom4_15 : decode cX6_atom4 15 = .ok (.ifCond .eq 146, 3) := by decide +kernel
theorem dX6_atom4_18 : decode cX6_atom4 18 = .ok (.aload_n 0, 1) := by decide +kernel
theorem dX6_atom4_19 : decode cX6_atom4 19 = .ok (.invokevirtual 233, 3) := by decide +kernel
theorem dX6_atom4_22 : decode cX6_atom4 22 = .ok (.ineg, 1) := by decide +kernel
theorem dX6_atom4_23 : decode cX6_atom4 23 = .ok (.istore_n 1, 1) := by decide +kernel
theorem dX6_atom4_24 : decode cX6_atom4 24 = .ok (.aload_n 0, 1) := by decide +kernel
theorem dX6_atom4_25 : decode cX6_atom4 25 = .ok (.dup, 1) := by decide +kernel
theorem dX6_atom4_26 : decode cX6_atom4 26 = .ok (.getfield 191, 3) := by decide +kernel
theorem dX6_atom4_29 : decode cX6_atom4 29 = .ok (.iconst 1, 1) := by decide +kernel
theorem dX6_atom4_30 : decode cX6_atom4 30 = .ok (.isub, 1) := by decide +kernel
theorem dX6_atom4_31 : decode cX6_atom4 31 = .ok (.putfield 191, 3) := by decide +kernel
theorem dX6_atom4_34 : decode cX6_atom4 34 = .ok (.goto 127, 3) := by decide +kernel
theorem dX6_atom4_37 : decode cX6_atom4 37 = .ok (.aload_n 0, 1) := by decide +kernel
theorem dX6_atom4_38 : decode cX6_atom4 38 = .ok (.bipush 40, 2) := by decide +kernel
theorem dX6_atom4_40 : decode cX6_atom4 40 = .ok (.invokevirtual 222, 3) := by decide +kernel
theorem dX6_atom4_43 : decode cX6_atom4 43 = .ok (.ifCond .eq 52, 3) := by decide +kernel
theorem dX6_atom4_46 : decode cX6_atom4 46 = .ok (.aload_n 0, 1) := by decide +kernel
theorem dX6_atom4_47 : decode cX6_atom4 47 = .ok (.invokevirtual 225, 3) := by decide +kernel
theorem dX6_atom4_50 : decode cX6_atom4 50 = .ok (.ifCond .eq 111, 3) := by decide +kernel
theorem dX6_atom4_53 : decode cX6_atom4 53 = .ok (.aload_n 0, 1) := by decide +kernel
theorem dX6_atom4_54 : decode cX6_atom4 54 = .ok (.invokevirtual 252, 3) := by decide +kernel
theorem dX6_atom4_57 : decode cX6_atom4 57 = .ok (.istore_n 1, 1) := by decide +kernel
theorem dX6_atom4_58 : decode cX6_atom4 58 = .ok (.aload_n 0, 1) := by decide +kernel
theorem dX6_atom4_59 : decode cX6_atom4 59 = .ok (.bipush 41, 2) := by decide +kernel
theorem dX6_atom4_61 : decode cX6_atom4 61 = .ok (.invokevirtual 222, 3) := by decide +kernel
theorem dX6_atom4_64 : decode cX6_atom4 64 = .ok (.ifCond .ne 7, 3) := by decide +kernel
theorem dX6_atom4_67 : decode cX6_atom4 67 = .ok (.aload_n 0, 1) := by decide +kernel
theorem dX6_atom4_68 : decode cX6_atom4 68 = .ok (.invokevirtual 194, 3) := by decide +kernel
theorem dX6_atom4_71 : decode cX6_atom4 71 = .ok (.aload_n 0, 1) := by decide +kernel
theorem dX6_atom4_72 : decode cX6_atom4 72 = .ok (.dup, 1) := by decide +kernel
theorem dX6_atom4_73 : decode cX6_atom4 73 = .ok (.getfield 191, 3) := by decide +kernel
theorem dX6_atom4_76 : decode cX6_atom4 76 = .ok (.iconst 1, 1) := by decide +kernel
theorem dX6_atom4_77 : decode cX6_atom4 77 = .ok (.isub, 1) := by decide +kernel
theorem dX6_atom4_78 : decode cX6_atom4 78 = .ok (.putfield 191, 3) := by decide +kernel
theorem dX6_atom4_81 : decode cX6_atom4 81 = .ok (.aload_n 0, 1) := by decide +kernel
theorem dX6_atom4_82 : decode cX6_atom4 82 = .ok (.getfield 181, 3) := by decide +kernel
theorem dX6_atom4_85 : decode cX6_atom4 85 = .ok (.ifCond .ne 76, 3) := by decide +kernel
theorem dX6_atom4_88 : decode cX6_atom4 88 = .ok (.aload_n 0, 1) := by decide +kernel
theorem dX6_atom4_89 : decode cX6_atom4 89 = .ok (.invokevirtual 197, 3) := by decide +kernel
theorem dX6_atom4_92 : decode cX6_atom4 92 = .ok (.goto 69, 3) := by decide +kernel
theorem dX6_atom4_95 : decode cX6_atom4 95 = .ok (.aload_n 0, 1) := by decide +kernel
theorem dX6_atom4_96 : decode cX6_atom4 96 = .ok (.getfield 181, 3) := by decide +kernel
theorem dX6_atom4_99 : decode cX6_atom4 99 = .ok (.ifCond .ne 24, 3) := by decide +kernel
theorem dX6_atom4_102 : decode cX6_atom4 102 = .ok (.aload_n 0, 1) := by decide +kernel
theorem dX6_atom4_103 : decode cX6_atom4 103 = .ok (.getfield 165, 3) := by decide +kernel
theorem dX6_atom4_106 : decode cX6_atom4 106 = .ok (.iconst 2, 1) := by decide +kernel
theorem dX6_atom4_107 : decode cX6_atom4 107 = .ok (.if_icmp .ne 16, 3) := by decide +kernel
theorem dX6_atom4_110 : decode cX6_atom4 110 = .ok (.aload_n 0, 1) := by decide +kernel
theorem dX6_atom4_111 : decode cX6_atom4 111 = .ok (.getfield 176, 3) := by decide +kernel
theorem dX6_atom4_114 : decode cX6_atom4 114 = .ok (.l2i, 1) := by decide +kernel
theorem dX6_atom4_115 : decode cX6_atom4 115 = .ok (.istore_n 1, 1) := by decide +kernel
theorem dX6_atom4_116 : decode cX6_atom4 116 = .ok (.aload_n 0, 1) := by decide +kernel
theorem dX6_atom4_117 : decode cX6_atom4 117 = .ok (.invokevirtual 197, 3) := by decide +kernel
theorem dX6_atom4_120 : decode cX6_atom4 120 = .ok (.goto 41, 3) := by decide +kernel
theorem dX6_atom4_123 : decode cX6_atom4 123 = .ok (.aload_n 0, 1) := by decide +kernel
theorem dX6_atom4_124 : decode cX6_atom4 124 = .ok (.getfield 181, 3) := by decide +kernel
theorem dX6_atom4_127 : decode cX6_atom4 127 = .ok (.ifCond .ne 30, 3) := by decide +kernel
theorem dX6_atom4_130 : decode cX6_atom4 130 = .ok (.aload_n 0, 1) := by decide +kernel
theorem dX6_atom4_131 : decode cX6_atom4 131 = .ok (.getfield 165, 3) := by decide +kernel
theorem dX6_atom4_134 : decode cX6_atom4 134 = .ok (.iconst 1, 1) := by decide +kernel
theorem dX6_atom4_135 : decode cX6_atom4 135 = .ok (.if_icmp .ne 22, 3) := by decide +kernel
theorem dX6_atom4_138 : decode cX6_atom4 138 = .ok (.aload_n 0, 1) := by decide +kernel
theorem dX6_atom4_139 : decode cX6_atom4 139 = .ok (.invokevirtual 229, 3) := by decide +kernel
theorem dX6_atom4_142 : decode cX6_atom4 142 = .ok (.istore_n 1, 1) := by decide +kernel
theorem dX6_atom4_143 : decode cX6_atom4 143 = .ok (.aload_n 0, 1) := by decide +kernel
theorem dX6_atom4_144 : decode cX6_atom4 144 = .ok (.getfield 181, 3) := by decide +kernel
theorem dX6_atom4_147 : decode cX6_atom4 147 = .ok (.ifCond .ne 14, 3) := by decide +kernel
theorem dX6_atom4_150 : decode cX6_atom4 150 = .ok (.aload_n 0, 1) := by decide +kernel
theorem dX6_atom4_151 : decode cX6_atom4 151 = .ok (.invokevirtual 197, 3) := by decide +kernel
theorem dX6_atom4_154 : decode cX6_atom4 154 = .ok (.goto 7, 3) := by decide +kernel
theorem dX6_atom4_157 : decode cX6_atom4 157 = .ok (.aload_n 0, 1) := by decide +kernel
theorem dX6_atom4_158 : decode cX6_atom4 158 = .ok (.invokevirtual 194, 3) := by decide +kernel
theorem dX6_atom4_161 : decode cX6_atom4 161 = .ok (.iload_n 1, 1) := by decide +kernel
theorem dX6_atom4_162 : decode cX6_atom4 162 = .ok (.ireturn, 1) := by decide +kernel
theorem dX6_term4_0 : decode cX6_term4 0 = .ok (.aload_n 0, 1) := by decide +kernel
theorem dX6_term4_1 : decode cX6_term4 1 = .ok (.invokevirtual 255, 3) := by decide +kernel
theorem dX6_term4_4 : decode cX6_term4 4 = .ok (.istore_n 1, 1) := by decide +kernel
theorem dX6_term4_5 : decode cX6_term4 5 = .ok (.aload_n 0, 1) := by decide +kernel
theorem dX6_term4_6 : decode cX6_term4 6 = .ok (.bipush 42, 2) := by decide +kernel
theorem dX6_term4_8 : decode cX6_term4 8 = .ok (.invokevirtual 222, 3) := by decide +kernel
theorem dX6_term4_11 : decode cX6_term4 11 = .ok (.ifCond .eq 17, 3) := by decide +kernel
theorem dX6_term4_14 : decode cX6_term4 14 = .ok (.aload_n 0, 1) := by decide +kernel
theorem dX6_term4_15 : decode cX6_term4 15 = .ok (.invokevirtual 197, 3) := by decide +kernel
theorem dX6_term4_18 : decode cX6_term4 18 = .ok (.iload_n 1, 1) := by decide +kernel
theorem dX6_term4_19 : decode cX6_term4 19 = .ok (.aload_n 0, 1) := by decide +kernel
theorem dX6_term4_20 : decode cX6_term4 20 = .ok (.invokevirtual 255, 3) := by decide +kernel
theorem dX6_term4_23 : decode cX6_term4 23 = .ok (.imul, 1) := by decide +kernel
theorem dX6_term4_24 : decode cX6_term4 24 = .ok (.istore_n 1, 1) := by decide +kernel
theorem dX6_term4_25 : decode cX6_term4 25 = .ok (.goto (-20), 3) := by decide +kernel
theorem dX6_term4_28 : decode cX6_term4 28 = .ok (.iload_n 1, 1) := by decide +kernel
theorem dX6_term4_29 : decode cX6_term4 29 = .ok (.ireturn, 1) := by decide +kernel
theorem dX6_added4_0 : decode cX6_added4 0 = .ok (.aload_n 0, 1) := by decide +kernel
theorem dX6_added4_1 : decode cX6_added4 1 = .ok (.invokevirtual 258, 3) := by decide +kernel
theorem dX6_added4_4 : decode cX6_added4 4 = .ok (.istore_n 1, 1) := by decide +kernel
theorem dX6_added4_5 : decode cX6_added4 5 = .ok (.aload_n 0, 1) := by decide +kernel
theorem dX6_added4_6 : decode cX6_added4 6 = .ok (.bipush 43, 2) := by decide +kernel
theorem dX6_added4_8 : decode cX6_added4 8 = .ok (.invokevirtual 222, 3) := by decide +kernel
theorem dX6_added4_11 : decode cX6_added4 11 = .ok (.ifCond .ne 12, 3) := by decide +kernel
theorem dX6_added4_14 : decode cX6_added4 14 = .ok (.aload_n 0, 1) := by decide +kernel
theorem dX6_added4_15 : decode cX6_added4 15 = .ok (.bipush 45, 2) := by decide +kernel
theorem dX6_added4_17 : decode cX6_added4 17 = .ok (.invokevirtual 222, 3) := by decide +kernel
theorem dX6_added4_20 : decode cX6_added4 20 = .ok (.ifCond .eq 46, 3) := by decide +kernel
theorem dX6_added4_23 : decode cX6_added4 23 = .ok (.aload_n 0, 1) := by decide +kernel
theorem dX6_added4_24 : decode cX6_added4 24 = .ok (.getfield 176, 3) := by decide +kernel
theorem dX6_added4_27 : decode cX6_added4 27 = .ok (.ldc2_w 239, 3) := by decide +kernel
theorem dX6_added4_30 : decode cX6_added4 30 = .ok (.lcmp, 1) := by decide +kernel
theorem dX6_added4_31 : decode cX6_added4 31 = .ok (.ifCond .ne 7, 3) := by decide +kernel
theorem dX6_added4_34 : decode cX6_added4 34 = .ok (.iconst 1, 1) := by decide +kernel
theorem dX6_added4_35 : decode cX6_added4 35 = .ok (.goto 4, 3) := by decide +kernel
theorem dX6_added4_38 : decode cX6_added4 38 = .ok (.iconst 0, 1) := by decide +kernel
theorem dX6_added4_39 : decode cX6_added4 39 = .ok (.istore_n 2, 1) := by decide +kernel
theorem dX6_added4_40 : decode cX6_added4 40 = .ok (.aload_n 0, 1) := by decide +kernel
theorem dX6_added4_41 : decode cX6_added4 41 = .ok (.invokevirtual 197, 3) := by decide +kernel
theorem dX6_added4_44 : decode cX6_added4 44 = .ok (.aload_n 0, 1) := by decide +kernel
theorem dX6_added4_45 : decode cX6_added4 45 = .ok (.invokevirtual 258, 3) := by decide +kernel
theorem dX6_added4_48 : decode cX6_added4 48 = .ok (.istore_n 3, 1) := by decide +kernel
theorem dX6_added4_49 : decode cX6_added4 49 = .ok (.iload_n 2, 1) := by decide +kernel
theorem dX6_added4_50 : decode cX6_added4 50 = .ok (.ifCond .eq 9, 3) := by decide +kernel
theorem dX6_added4_53 : decode cX6_added4 53 = .ok (.iload_n 1, 1) := by decide +kernel
theorem dX6_added4_54 : decode cX6_added4 54 = .ok (.iload_n 3, 1) := by decide +kernel
theorem dX6_added4_55 : decode cX6_added4 55 = .ok (.iadd, 1) := by decide +kernel
theorem dX6_added4_56 : decode cX6_added4 56 = .ok (.goto 6, 3) := by decide +kernel
theorem dX6_added4_59 : decode cX6_added4 59 = .ok (.iload_n 1, 1) := by decide +kernel
theorem dX6_added4_60 : decode cX6_added4 60 = .ok (.iload_n 3, 1) := by decide +kernel
theorem dX6_added4_61 : decode cX6_added4 61 = .ok (.isub, 1) := by decide +kernel
theorem dX6_added4_62 : decode cX6_added4 62 = .ok (.istore_n 1, 1) := by decide +kernel
theorem dX6_added4_63 : decode cX6_added4 63 = .ok (.goto (-58), 3) := by decide +kernel
theorem dX6_added4_66 : decode cX6_added4 66 = .ok (.iload_n 1, 1) := by decide +kernel
theorem dX6_added4_67 : decode cX6_added4 67 = .ok (.ireturn, 1) := by decide +kernel
theorem dX6_not4_0 : decode cX6_not4 0 = .ok (.aload_n 0, 1) := by decide +kernel
theorem dX6_not4_1 : decode cX6_not4 1 = .ok (.bipush 110, 2) := by decide +kernel
theorem dX6_not4_3 : decode cX6_not4 3 = .ok (.bipush 111, 2) := by decide +kernel
theorem dX6_not4_5 : decode cX6_not4 5 = .ok (.bipush 116, 2) := by decide +kernel
theorem dX6_not4_7 : decode cX6_not4 7 = .ok (.iconst 0, 1) := by decide +kernel
theorem dX6_not4_8 : decode cX6_not4 8 = .ok (.iconst 0, 1) := by decide +kernel
theorem dX6_not4_9 : decode cX6_not4 9 = .ok (.iconst 0, 1) := by decide +kernel
theorem dX6_not4_10 : decode cX6_not4 10 = .ok (.iconst 0, 1) := by decide +kernel
theorem dX6_not4_11 : decode cX6_not4 11 = .ok (.iconst 0, 1) := by decide +kernel
theorem dX6_not4_12 : decode cX6_not4 12 = .ok (.invokevirtual 200, 3) := by decide +kernel
theorem dX6_not4_15 : decode cX6_not4 15 = .ok (.ifCond .eq 37, 3) := by decide +kernel
theorem dX6_not4_18 : decode cX6_not4 18 = .ok (.aload_n 0, 1) := by decide +kernel
theorem dX6_not4_19 : decode cX6_not4 19 = .ok (.invokevirtual 225, 3) := by decide +kernel
theorem dX6_not4_22 : decode cX6_not4 22 = .ok (.ifCond .ne 5, 3) := by decide +kernel
theorem dX6_not4_25 : decode cX6_not4 25 = .ok (.iconst 0, 1) := by decide +kernel
theorem dX6_not4_26 : decode cX6_not4 26 = .ok (.ireturn, 1) := by decide +kernel
theorem dX6_not4_27 : decode cX6_not4 27 = .ok (.aload_n 0, 1) := by decide +kernel
theorem dX6_not4_28 : decode cX6_not4 28 = .ok (.invokevirtual 246, 3) := by decide +kernel
theorem dX6_not4_31 : decode cX6_not4 31 = .ok (.istore_n 1, 1) := by decide +kernel
theorem dX6_not4_32 : decode cX6_not4 32 = .ok (.aload_n 0, 1) := by decide +kernel
theorem dX6_not4_33 : decode cX6_not4 33 = .ok (.dup, 1) := by decide +kernel
theorem dX6_not4_34 : decode cX6_not4 34 = .ok (.getfield 191, 3) := by decide +kernel
theorem dX6_not4_37 : decode cX6_not4 37 = .ok (.iconst 1, 1) := by decide +kernel
theorem dX6_not4_38 : decode cX6_not4 38 = .ok (.isub, 1) := by decide +kernel
theorem dX6_not4_39 : decode cX6_not4 39 = .ok (.putfield 191, 3) := by decide +kernel
theorem dX6_not4_42 : decode cX6_not4 42 = .ok (.iload_n 1, 1) := by decide +kernel
theorem dX6_not4_43 : decode cX6_not4 43 = .ok (.ifCond .ne 7, 3) := by decide +kernel
theorem dX6_not4_46 : decode cX6_not4 46 = .ok (.iconst 1, 1) := by decide +kernel
theorem dX6_not4_47 : decode cX6_not4 47 = .ok (.goto 4, 3) := by decide +kernel
theorem dX6_not4_50 : decode cX6_not4 50 = .ok (.iconst 0, 1) := by decide +kernel
theorem dX6_not4_51 : decode cX6_not4 51 = .ok (.ireturn, 1) := by decide +kernel
theorem dX6_not4_52 : decode cX6_not4 52 = .ok (.aload_n 0, 1) := by decide +kernel
theorem dX6_not4_53 : decode cX6_not4 53 = .ok (.invokevirtual 261, 3) := by decide +kernel
theorem dX6_not4_56 : decode cX6_not4 56 = .ok (.istore_n 1, 1) := by decide +kernel
theorem dX6_not4_57 : decode cX6_not4 57 = .ok (.aload_n 0, 1) := by decide +kernel
theorem dX6_not4_58 : decode cX6_not4 58 = .ok (.bipush 60, 2) := by decide +kernel
theorem dX6_not4_60 : decode cX6_not4 60 = .ok (.invokevirtual 222, 3) := by decide +kernel
theorem dX6_not4_63 : decode cX6_not4 63 = .ok (.ifCond .ne 14, 3) := by decide +kernel
theorem dX6_not4_66 : decode cX6_not4 66 = .ok (.aload_n 0, 1) := by decide +kernel
theorem dX6_not4_67 : decode cX6_not4 67 = .ok (.bipush 61, 2) := by decide +kernel
theorem dX6_not4_69 : decode cX6_not4 69 = .ok (.invokevirtual 222, 3) := by decide +kernel
theorem dX6_not4_72 : decode cX6_not4 72 = .ok (.ifCond .ne 5, 3) := by decide +kernel
theorem dX6_not4_75 : decode cX6_not4 75 = .ok (.iload_n 1, 1) := by decide +kernel
theorem dX6_not4_76 : decode cX6_not4 76 = .ok (.ireturn, 1) := by decide +kernel
theorem dX6_not4_77 : decode cX6_not4 77 = .ok (.aload_n 0, 1) := by decide +kernel
theorem dX6_not4_78 : decode cX6_not4 78 = .ok (.getfield 176, 3) := by decide +kernel
theorem dX6_not4_81 : decode cX6_not4 81 = .ok (.ldc2_w 244, 3) := by decide +kernel
theorem dX6_not4_84 : decode cX6_not4 84 = .ok (.lcmp, 1) := by decide +kernel
theorem dX6_not4_85 : decode cX6_not4 85 = .ok (.ifCond .ne 7, 3) := by decide +kernel
theorem dX6_not4_88 : decode cX6_not4 88 = .ok (.iconst 1, 1) := by decide +kernel
theorem dX6_not4_89 : decode cX6_not4 89 = .ok (.goto 4, 3) := by decide +kernel
theorem dX6_not4_92 : decode cX6_not4 92 = .ok (.iconst 0, 1) := by decide +kernel
theorem dX6_not4_93 : decode cX6_not4 93 = .ok (.istore_n 2, 1) := by decide +kernel
theorem dX6_not4_94 : decode cX6_not4 94 = .ok (.aload_n 0, 1) := by decide +kernel
theorem dX6_not4_95 : decode cX6_not4 95 = .ok (.invokevirtual 197, 3) := by decide +kernel
theorem dX6_not4_98 : decode cX6_not4 98 = .ok (.aload_n 0, 1) := by decide +kernel
theorem dX6_not4_99 : decode cX6_not4 99 = .ok (.invokevirtual 261, 3) := by decide +kernel
theorem dX6_not4_102 : decode cX6_not4 102 = .ok (.istore_n 3, 1) := by decide +kernel
theorem dX6_not4_103 : decode cX6_not4 103 = .ok (.iload_n 2, 1) := by decide +kernel
theorem dX6_not4_104 : decode cX6_not4 104 = .ok (.ifCond .eq 11, 3) := by decide +kernel
theorem dX6_not4_107 : decode cX6_not4 107 = .ok (.iload_n 1, 1) := by decide +kernel
theorem dX6_not4_108 : decode cX6_not4 108 = .ok (.iload_n 3, 1) := by decide +kernel
theorem dX6_not4_109 : decode cX6_not4 109 = .ok (.if_icmp .ge 15, 3) := by decide +kernel
theorem dX6_not4_112 : decode cX6_not4 112 = .ok (.goto 8, 3) := by decide +kernel
theorem dX6_not4_115 : decode cX6_not4 115 = .ok (.iload_n 1, 1) := by decide +kernel
theorem dX6_not4_116 : decode cX6_not4 116 = .ok (.iload_n 3, 1) := by decide +kernel
theorem dX6_not4_117 : decode cX6_not4 117 = .ok (.if_icmp .ne 7, 3) := by decide +kernel
theorem dX6_not4_120 : decode cX6_not4 120 = .ok (.iconst 1, 1) := by decide +kernel
theorem dX6_not4_121 : decode cX6_not4 121 = .ok (.goto 4, 3) := by decide +kernel
theorem dX6_not4_124 : decode cX6_not4 124 = .ok (.iconst 0, 1) := by decide +kernel
theorem dX6_not4_125 : decode cX6_not4 125 = .ok (.ireturn, 1) := by decide +kernel
theorem dX6_both4_0 : decode cX6_both4 0 = .ok (.aload_n 0, 1) := by decide +kernel
theorem dX6_both4_1 : decode cX6_both4 1 = .ok (.invokevirtual 264, 3) := by decide +kernel
theorem dX6_both4_4 : decode cX6_both4 4 = .ok (.istore_n 1, 1) := by decide +kernel
theorem dX6_both4_5 : decode cX6_both4 5 = .ok (.aload_n 0, 1) := by decide +kernel
theorem dX6_both4_6 : decode cX6_both4 6 = .ok (.bipush 97, 2) := by decide +kernel
theorem dX6_both4_8 : decode cX6_both4 8 = .ok (.bipush 110, 2) := by decide +kernel
theorem dX6_both4_10 : decode cX6_both4 10 = .ok (.bipush 100, 2) := by decide +kernel
theorem dX6_both4_12 : decode cX6_both4 12 = .ok (.iconst 0, 1) := by decide +kernel
theorem dX6_both4_13 : decode cX6_both4 13 = .ok (.iconst 0, 1) := by decide +kernel
theorem dX6_both4_14 : decode cX6_both4 14 = .ok (.iconst 0, 1) := by decide +kernel
theorem dX6_both4_15 : decode cX6_both4 15 = .ok (.iconst 0, 1) := by decide +kernel
theorem dX6_both4_16 : decode cX6_both4 16 = .ok (.iconst 0, 1) := by decide +kernel
theorem dX6_both4_17 : decode cX6_both4 17 = .ok (.invokevirtual 200, 3) := by decide +kernel
theorem dX6_both4_20 : decode cX6_both4 20 = .ok (.ifCond .eq 29, 3) := by decide +kernel
theorem dX6_both4_23 : decode cX6_both4 23 = .ok (.aload_n 0, 1) := by decide +kernel
theorem dX6_both4_24 : decode cX6_both4 24 = .ok (.invokevirtual 197, 3) := by decide +kernel
theorem dX6_both4_27 : decode cX6_both4 27 = .ok (.aload_n 0, 1) := by decide +kernel
theorem dX6_both4_28 : decode cX6_both4 28 = .ok (.invokevirtual 264, 3) := by decide +kernel
theorem dX6_both4_31 : decode cX6_both4 31 = .ok (.istore_n 2, 1) := by decide +kernel
theorem dX6_both4_32 : decode cX6_both4 32 = .ok (.iload_n 1, 1) := by decide +kernel
theorem dX6_both4_33 : decode cX6_both4 33 = .ok (.ifCond .eq 11, 3) := by decide +kernel
theorem dX6_both4_36 : decode cX6_both4 36 = .ok (.iload_n 2, 1) := by decide +kernel
theorem dX6_both4_37 : decode cX6_both4 37 = .ok (.ifCond .eq 7, 3) := by decide +kernel
theorem dX6_both4_40 : decode cX6_both4 40 = .ok (.iconst 1, 1) := by decide +kernel
theorem dX6_both4_41 : decode cX6_both4 41 = .ok (.goto 4, 3) := by decide +kernel
theorem dX6_both4_44 : decode cX6_both4 44 = .ok (.iconst 0, 1) := by decide +kernel
theorem dX6_both4_45 : decode cX6_both4 45 = .ok (.istore_n 1, 1) := by decide +kernel
theorem dX6_both4_46 : decode cX6_both4 46 = .ok (.goto (-41), 3) := by decide +kernel
theorem dX6_both4_49 : decode cX6_both4 49 = .ok (.iload_n 1, 1) := by decide +kernel
theorem dX6_both4_50 : decode cX6_both4 50 = .ok (.ireturn, 1) := by decide +kernel
theorem dX6_either4_0 : decode cX6_either4 0 = .ok (.aload_n 0, 1) := by decide +kernel
theorem dX6_either4_1 : decode cX6_either4 1 = .ok (.invokevirtual 267, 3) := by decide +kernel
theorem dX6_either4_4 : decode cX6_either4 4 = .ok (.istore_n 1, 1) := by decide +kernel
theorem dX6_either4_5 : decode cX6_either4 5 = .ok (.aload_n 0, 1) := by decide +kernel
theorem dX6_either4_6 : decode cX6_either4 6 = .ok (.bipush 111, 2) := by decide +kernel
theorem dX6_either4_8 : decode cX6_either4 8 = .ok (.bipush 114, 2) := by decide +kernel
theorem dX6_either4_10 : decode cX6_either4 10 = .ok (.iconst 0, 1) := by decide +kernel
theorem dX6_either4_11 : decode cX6_either4 11 = .ok (.iconst 0, 1) := by decide +kernel
theorem dX6_either4_12 : decode cX6_either4 12 = .ok (.iconst 0, 1) := by decide +kernel
theorem dX6_either4_13 : decode cX6_either4 13 = .ok (.iconst 0, 1) := by decide +kernel
theorem dX6_either4_14 : decode cX6_either4 14 = .ok (.iconst 0, 1) := by decide +kernel
theorem dX6_either4_15 : decode cX6_either4 15 = .ok (.iconst 0, 1) := by decide +kernel
theorem dX6_either4_16 : decode cX6_either4 16 = .ok (.invokevirtual 200, 3) := by decide +kernel
theorem dX6_either4_19 : decode cX6_either4 19 = .ok (.ifCond .eq 29, 3) := by decide +kernel
theorem dX6_either4_22 : decode cX6_either4 22 = .ok (.aload_n 0, 1) := by decide +kernel
theorem dX6_either4_23 : decode cX6_either4 23 = .ok (.invokevirtual 197, 3) := by decide +kernel
theorem dX6_either4_26 : decode cX6_either4 26 = .ok (.aload_n 0, 1) := by decide +kernel
theorem dX6_either4_27 : decode cX6_either4 27 = .ok (.invokevirtual 267, 3) := by decide +kernel
theorem dX6_either4_30 : decode cX6_either4 30 = .ok (.istore_n 2, 1) := by decide +kernel
theorem dX6_either4_31 : decode cX6_either4 31 = .ok (.iload_n 1, 1) := by decide +kernel
theorem dX6_either4_32 : decode cX6_either4 32 = .ok (.ifCond .ne 7, 3) := by decide +kernel
theorem dX6_either4_35 : decode cX6_either4 35 = .ok (.iload_n 2, 1) := by decide +kernel
theorem dX6_either4_36 : decode cX6_either4 36 = .ok (.ifCond .eq 7, 3) := by decide +kernel
theorem dX6_either4_39 : decode cX6_either4 39 = .ok (.iconst 1, 1) := by decide +kernel
theorem dX6_either4_40 : decode cX6_either4 40 = .ok (.goto 4, 3) := by decide +kernel
theorem dX6_either4_43 : decode cX6_either4 43 = .ok (.iconst 0, 1) := by decide +kernel
theorem dX6_either4_44 : decode cX6_either4 44 = .ok (.istore_n 1, 1) := by decide +kernel
theorem dX6_either4_45 : decode cX6_either4 45 = .ok (.goto (-40), 3) := by decide +kernel
theorem dX6_either4_48 : decode cX6_either4 48 = .ok (.iload_n 1, 1) := by decide +kernel
theorem dX6_either4_49 : decode cX6_either4 49 = .ok (.ireturn, 1) := by decide +kernel
theorem dX6_atom3_0 : decode cX6_atom3 0 = .ok (.iconst 0, 1) := by decide +kernel
theorem dX6_atom3_1 : decode cX6_atom3 1 = .ok (.istore_n 1, 1) := by decide +kernel
theorem dX6_atom3_2 : decode cX6_atom3 2 = .ok (.aload_n 0, 1) := by decide +kernel
theorem dX6_atom3_3 : decode cX6_atom3 3 = .ok (.bipush 45, 2) := by decide +kernel
theorem dX6_atom3_5 : decode cX6_atom3 5 = .ok (.invokevirtual 222, 3) := by decide +kernel
theorem dX6_atom3_8 : decode cX6_atom3 8 = .ok (.ifCond .eq 29, 3) := by decide +kernel
theorem dX6_atom3_11 : decode cX6_atom3 11 = .ok (.aload_n 0, 1) := by decide +kernel
theorem dX6_atom3_12 : decode cX6_atom3 12 = .ok (.invokevirtual 225, 3) := by decide +kernel
theorem dX6_atom3_15 : decode cX6_atom3 15 = .ok (.ifCond .eq 146, 3) := by decide +kernel
theorem dX6_atom3_18 : decode cX6_atom3 18 = .ok (.aload_n 0, 1) := by decide +kernel
theorem dX6_atom3_19 : decode cX6_atom3 19 = .ok (.invokevirtual 255, 3) := by decide +kernel
theorem dX6_atom3_22 : decode cX6_atom3 22 = .ok (.ineg, 1) := by decide +kernel
theorem dX6_atom3_23 : decode cX6_atom3 23 = .ok (.istore_n 1, 1) := by decide +kernel
theorem dX6_atom3_24 : decode cX6_atom3 24 = .ok (.aload_n 0, 1) := by decide +kernel
theorem dX6_atom3_25 : decode cX6_atom3 25 = .ok (.dup, 1) := by decide +kernel
theorem dX6_atom3_26 : decode cX6_atom3 26 = .ok (.getfield 191, 3) := by decide +kernel
theorem dX6_atom3_29 : decode cX6_atom3 29 = .ok (.iconst 1, 1) := by decide +kernel
theorem dX6_atom3_30 : decode cX6_atom3 30 = .ok (.isub, 1) := by decide +kernel
theorem dX6_atom3_31 : decode cX6_atom3 31 = .ok (.putfield 191, 3) := by decide +kernel
theorem dX6_atom3_34 : decode cX6_atom3 34 = .ok (.goto 127, 3) := by decide +kernel
theorem dX6_atom3_37 : decode cX6_atom3 37 = .ok (.aload_n 0, 1) := by decide +kernel
theorem dX6_atom3_38 : decode cX6_atom3 38 = .ok (.bipush 40, 2) := by decide +kernel
theorem dX6_atom3_40 : decode cX6_atom3 40 = .ok (.invokevirtual 222, 3) := by decide +kernel
theorem dX6_atom3_43 : decode cX6_atom3 43 = .ok (.ifCond .eq 52, 3) := by decide +kernel
theorem dX6_atom3_46 : decode cX6_atom3 46 = .ok (.aload_n 0, 1) := by decide +kernel
theorem dX6_atom3_47 : decode cX6_atom3 47 = .ok (.invokevirtual 225, 3) := by decide +kernel
theorem dX6_atom3_50 : decode cX6_atom3 50 = .ok (.ifCond .eq 111, 3) := by decide +kernel
theorem dX6_atom3_53 : decode cX6_atom3 53 = .ok (.aload_n 0, 1) := by decide +kernel
theorem dX6_atom3_54 : decode cX6_atom3 54 = .ok (.invokevirtual 270, 3) := by decide +kernel
theorem dX6_atom3_57 : decode cX6_atom3 57 = .ok (.istore_n 1, 1) := by decide +kernel
theorem dX6_atom3_58 : decode cX6_atom3 58 = .ok (.aload_n 0, 1) := by decide +kernel
theorem dX6_atom3_59 : decode cX6_atom3 59 = .ok (.bipush 41, 2) := by decide +kernel
theorem dX6_atom3_61 : decode cX6_atom3 61 = .ok (.invokevirtual 222, 3) := by decide +kernel
theorem dX6_atom3_64 : decode cX6_atom3 64 = .ok (.ifCond .ne 7, 3) := by decide +kernel
theorem dX6_atom3_67 : decode cX6_atom3 67 = .ok (.aload_n 0, 1) := by decide +kernel
theorem dX6_atom3_68 : decode cX6_atom3 68 = .ok (.invokevirtual 194, 3) := by decide +kernel
theorem dX6_atom3_71 : decode cX6_atom3 71 = .ok (.aload_n 0, 1) := by decide +kernel
theorem dX6_atom3_72 : decode cX6_atom3 72 = .ok (.dup, 1) := by decide +kernel
theorem dX6_atom3_73 : decode cX6_atom3 73 = .ok (.getfield 191, 3) := by decide +kernel
theorem dX6_atom3_76 : decode cX6_atom3 76 = .ok (.iconst 1, 1) := by decide +kernel
theorem dX6_atom3_77 : decode cX6_atom3 77 = .ok (.isub, 1) := by decide +kernel
theorem dX6_atom3_78 : decode cX6_atom3 78 = .ok (.putfield 191, 3) := by decide +kernel
theorem dX6_atom3_81 : decode cX6_atom3 81 = .ok (.aload_n 0, 1) := by decide +kernel
theorem dX6_atom3_82 : decode cX6_atom3 82 = .ok (.getfield 181, 3) := by decide +kernel
theorem dX6_atom3_85 : decode cX6_atom3 85 = .ok (.ifCond .ne 76, 3) := by decide +kernel
theorem dX6_atom3_88 : decode cX6_atom3 88 = .ok (.aload_n 0, 1) := by decide +kernel
theorem dX6_atom3_89 : decode cX6_atom3 89 = .ok (.invokevirtual 197, 3) := by decide +kernel
theorem dX6_atom3_92 : decode cX6_atom3 92 = .ok (.goto 69, 3) := by decide +kernel
theorem dX6_atom3_95 : decode cX6_atom3 95 = .ok (.aload_n 0, 1) := by decide +kernel
theorem dX6_atom3_96 : decode cX6_atom3 96 = .ok (.getfield 181, 3) := by decide +kernel
theorem dX6_atom3_99 : decode cX6_atom3 99 = .ok (.ifCond .ne 24, 3) := by decide +kernel
theorem dX6_atom3_102 : decode cX6_atom3 102 = .ok (.aload_n 0, 1) := by decide +kernel
theorem dX6_atom3_103 : decode cX6_atom3 103 = .ok (.getfield 165, 3) := by decide +kernel
theorem dX6_atom3_106 : decode cX6_atom3 106 = .ok (.iconst 2, 1) := by decide +kernel
theorem dX6_atom3_107 : decode cX6_atom3 107 = .ok (.if_icmp .ne 16, 3) := by decide +kernel
theorem dX6_atom3_110 : decode cX6_atom3 110 = .ok (.aload_n 0, 1) := by decide +kernel
theorem dX6_atom3_111 : decode cX6_atom3 111 = .ok (.getfield 176, 3) := by decide +kernel
theorem dX6_atom3_114 : decode cX6_atom3 114 = .ok (.l2i, 1) := by decide +kernel
theorem dX6_atom3_115 : decode cX6_atom3 115 = .ok (.istore_n 1, 1) := by decide +kernel
theorem dX6_atom3_116 : decode cX6_atom3 116 = .ok (.aload_n 0, 1) := by decide +kernel
theorem dX6_atom3_117 : decode cX6_atom3 117 = .ok (.invokevirtual 197, 3) := by decide +kernel
theorem dX6_atom3_120 : decode cX6_atom3 120 = .ok (.goto 41, 3) := by decide +kernel
theorem dX6_atom3_123 : decode cX6_atom3 123 = .ok (.aload_n 0, 1) := by decide +kernel
theorem dX6_atom3_124 : decode cX6_atom3 124 = .ok (.getfield 181, 3) := by decide +kernel
theorem dX6_atom3_127 : decode cX6_atom3 127 = .ok (.ifCond .ne 30, 3) := by decide +kernel
theorem dX6_atom3_130 : decode cX6_atom3 130 = .ok (.aload_n 0, 1) := by decide +kernel
theorem dX6_atom3_131 : decode cX6_atom3 131 = .ok (.getfield 165, 3) := by decide +kernel
theorem dX6_atom3_134 : decode cX6_atom3 134 = .ok (.iconst 1, 1) := by decide +kernel
theorem dX6_atom3_135 : decode cX6_atom3 135 = .ok (.if_icmp .ne 22, 3) := by decide +kernel
theorem dX6_atom3_138 : decode cX6_atom3 138 = .ok (.aload_n 0, 1) := by decide +kernel
theorem dX6_atom3_139 : decode cX6_atom3 139 = .ok (.invokevirtual 229, 3) := by decide +kernel
theorem dX6_atom3_142 : decode cX6_atom3 142 = .ok (.istore_n 1, 1) := by decide +kernel
theorem dX6_atom3_143 : decode cX6_atom3 143 = .ok (.aload_n 0, 1) := by decide +kernel
theorem dX6_atom3_144 : decode cX6_atom3 144 = .ok (.getfield 181, 3) := by decide +kernel
theorem dX6_atom3_147 : decode cX6_atom3 147 = .ok (.ifCond .ne 14, 3) := by decide +kernel
theorem dX6_atom3_150 : decode cX6_atom3 150 = .ok (.aload_n 0, 1) := by decide +kernel
theorem dX6_atom3_151 : decode cX6_atom3 151 = .ok (.invokevirtual 197, 3) := by decide +kernel
theorem dX6_atom3_154 : decode cX6_atom3 154 = .ok (.goto 7, 3) := by decide +kernel
theorem dX6_atom3_157 : decode cX6_atom3 157 = .ok (.aload_n 0, 1) := by decide +kernel
theorem dX6_atom3_158 : decode cX6_atom3 158 = .ok (.invokevirtual 194, 3) := by decide +kernel
theorem dX6_atom3_161 : decode cX6_atom3 161 = .ok (.iload_n 1, 1) := by decide +kernel
theorem dX6_atom3_162 : decode cX6_atom3 162 = .ok (.ireturn, 1) := by decide +kernel
theorem dX6_term3_0 : decode cX6_term3 0 = .ok (.aload_n 0, 1) := by decide +kernel
theorem dX6_term3_1 : decode cX6_term3 1 = .ok (.invokevirtual 273, 3) := by decide +kernel
theorem dX6_term3_4 : decode cX6_term3 4 = .ok (.istore_n 1, 1) := by decide +kernel
theorem dX6_term3_5 : decode cX6_term3 5 = .ok (.aload_n 0, 1) := by decide +kernel
theorem dX6_term3_6 : decode cX6_term3 6 = .ok (.bipush 42, 2) := by decide +kernel
theorem dX6_term3_8 : decode cX6_term3 8 = .ok (.invokevirtual 222, 3) := by decide +kernel
theorem dX6_term3_11 : decode cX6_term3 11 = .ok (.ifCond .eq 17, 3) := by decide +kernel
theorem dX6_term3_14 : decode cX6_term3 14 = .ok (.aload_n 0, 1) := by decide +kernel
theorem dX6_term3_15 : decode cX6_term3 15 = .ok (.invokevirtual 197, 3) := by decide +kernel
theorem dX6_term3_18 : decode cX6_term3 18 = .ok (.iload_n 1, 1) := by decide +kernel
theorem dX6_term3_19 : decode cX6_term3 19 = .ok (.aload_n 0, 1) := by decide +kernel
theorem dX6_term3_20 : decode cX6_term3 20 = .ok (.invokevirtual 273, 3) := by decide +kernel
theorem dX6_term3_23 : decode cX6_term3 23 = .ok (.imul, 1) := by decide +kernel
theorem dX6_term3_24 : decode cX6_term3 24 = .ok (.istore_n 1, 1) := by decide +kernel
theorem dX6_term3_25 : decode cX6_term3 25 = .ok (.goto (-20), 3) := by decide +kernel
theorem dX6_term3_28 : decode cX6_term3 28 = .ok (.iload_n 1, 1) := by decide +kernel
theorem dX6_term3_29 : decode cX6_term3 29 = .ok (.ireturn, 1) := by decide +kernel
theorem dX6_added3_0 : decode cX6_added3 0 = .ok (.aload_n 0, 1) := by decide +kernel
theorem dX6_added3_1 : decode cX6_added3 1 = .ok (.invokevirtual 276, 3) := by decide +kernel
theorem dX6_added3_4 : decode cX6_added3 4 = .ok (.istore_n 1, 1) := by decide +kernel
theorem dX6_added3_5 : decode cX6_added3 5 = .ok (.aload_n 0, 1) := by decide +kernel
theorem dX6_added3_6 : decode cX6_added3 6 = .ok (.bipush 43, 2) := by decide +kernel
theorem dX6_added3_8 : decode cX6_added3 8 = .ok (.invokevirtual 222, 3) := by decide +kernel
theorem dX6_added3_11 : decode cX6_added3 11 = .ok (.ifCond .ne 12, 3) := by decide +kernel
theorem dX6_added3_14 : decode cX6_added3 14 = .ok (.aload_n 0, 1) := by decide +kernel
theorem dX6_added3_15 : decode cX6_added3 15 = .ok (.bipush 45, 2) := by decide +kernel
theorem dX6_added3_17 : decode cX6_added3 17 = .ok (.invokevirtual 222, 3) := by decide +kernel
theorem dX6_added3_20 : decode cX6_added3 20 = .ok (.ifCond .eq 46, 3) := by decide +kernel
theorem dX6_added3_23 : decode cX6_added3 23 = .ok (.aload_n 0, 1) := by decide +kernel
theorem dX6_added3_24 : decode cX6_added3 24 = .ok (.getfield 176, 3) := by decide +kernel
theorem dX6_added3_27 : decode cX6_added3 27 = .ok (.ldc2_w 239, 3) := by decide +kernel
theorem dX6_added3_30 : decode cX6_added3 30 = .ok (.lcmp, 1) := by decide +kernel
theorem dX6_added3_31 : decode cX6_added3 31 = .ok (.ifCond .ne 7, 3) := by decide +kernel
theorem dX6_added3_34 : decode cX6_added3 34 = .ok (.iconst 1, 1) := by decide +kernel
theorem dX6_added3_35 : decode cX6_added3 35 = .ok (.goto 4, 3) := by decide +kernel
theorem dX6_added3_38 : decode cX6_added3 38 = .ok (.iconst 0, 1) := by decide +kernel
theorem dX6_added3_39 : decode cX6_added3 39 = .ok (.istore_n 2, 1) := by decide +kernel
theorem dX6_added3_40 : decode cX6_added3 40 = .ok (.aload_n 0, 1) := by decide +kernel
theorem dX6_added3_41 : decode cX6_added3 41 = .ok (.invokevirtual 197, 3) := by decide +kernel
theorem dX6_added3_44 : decode cX6_added3 44 = .ok (.aload_n 0, 1) := by decide +kernel
theorem dX6_added3_45 : decode cX6_added3 45 = .ok (.invokevirtual 276, 3) := by decide +kernel
theorem dX6_added3_48 : decode cX6_added3 48 = .ok (.istore_n 3, 1) := by decide +kernel
theorem dX6_added3_49 : decode cX6_added3 49 = .ok (.iload_n 2, 1) := by decide +kernel
theorem dX6_added3_50 : decode cX6_added3 50 = .ok (.ifCond .eq 9, 3) := by decide +kernel
theorem dX6_added3_53 : decode cX6_added3 53 = .ok (.iload_n 1, 1) := by decide +kernel
theorem dX6_added3_54 : decode cX6_added3 54 = .ok (.iload_n 3, 1) := by decide +kernel
theorem dX6_added3_55 : decode cX6_added3 55 = .ok (.iadd, 1) := by decide +kernel
theorem dX6_added3_56 : decode cX6_added3 56 = .ok (.goto 6, 3) := by decide +kernel
theorem dX6_added3_59 : decode cX6_added3 59 = .ok (.iload_n 1, 1) := by decide +kernel
theorem dX6_added3_60 : decode cX6_added3 60 = .ok (.iload_n 3, 1) := by decide +kernel
theorem dX6_added3_61 : decode cX6_added3 61 = .ok (.isub, 1) := by decide +kernel
theorem dX6_added3_62 : decode cX6_added3 62 = .ok (.istore_n 1, 1) := by decide +kernel
theorem dX6_added3_63 : decode cX6_added3 63 = .ok (.goto (-58), 3) := by decide +kernel
theorem dX6_added3_66 : decode cX6_added3 66 = .ok (.iload_n 1, 1) := by decide +kernel
theorem dX6_added3_67 : decode cX6_added3 67 = .ok (.ireturn, 1) := by decide +kernel
theorem dX6_not3_0 : decode cX6_not3 0 = .ok (.aload_n 0, 1) := by decide +kernel
theorem dX6_not3_1 : decode cX6_not3 1 = .ok (.bipush 110, 2) := by decide +kernel
theorem dX6_not3_3 : decode cX6_not3 3 = .ok (.bipush 111, 2) := by decide +kernel
theorem dX6_not3_5 : decode cX6_not3 5 = .ok (.bipush 116, 2) := by decide +kernel
theorem dX6_not3_7 : decode cX6_not3 7 = .ok (.iconst 0, 1) := by decide +kernel
theorem dX6_not3_8 : decode cX6_not3 8 = .ok (.iconst 0, 1) := by decide +kernel
theorem dX6_not3_9 : decode cX6_not3 9 = .ok (.iconst 0, 1) := by decide +kernel
theorem dX6_not3_10 : decode cX6_not3 10 = .ok (.iconst 0, 1) := by decide +kernel
theorem dX6_not3_11 : decode cX6_not3 11 = .ok (.iconst 0, 1) := by decide +kernel
theorem dX6_not3_12 : decode cX6_not3 12 = .ok (.invokevirtual 200, 3) := by decide +kernel
theorem dX6_not3_15 : decode cX6_not3 15 = .ok (.ifCond .eq 37, 3) := by decide +kernel
theorem dX6_not3_18 : decode cX6_not3 18 = .ok (.aload_n 0, 1) := by decide +kernel
theorem dX6_not3_19 : decode cX6_not3 19 = .ok (.invokevirtual 225, 3) := by decide +kernel
theorem dX6_not3_22 : decode cX6_not3 22 = .ok (.ifCond .ne 5, 3) := by decide +kernel
theorem dX6_not3_25 : decode cX6_not3 25 = .ok (.iconst 0, 1) := by decide +kernel
theorem dX6_not3_26 : decode cX6_not3 26 = .ok (.ireturn, 1) := by decide +kernel
theorem dX6_not3_27 : decode cX6_not3 27 = .ok (.aload_n 0, 1) := by decide +kernel
theorem dX6_not3_28 : decode cX6_not3 28 = .ok (.invokevirtual 264, 3) := by decide +kernel
theorem dX6_not3_31 : decode cX6_not3 31 = .ok (.istore_n 1, 1) := by decide +kernel
theorem dX6_not3_32 : decode cX6_not3 32 = .ok (.aload_n 0, 1) := by decide +kernel
theorem dX6_not3_33 : decode cX6_not3 33 = .ok (.dup, 1) := by decide +kernel
theorem dX6_not3_34 : decode cX6_not3 34 = .ok (.getfield 191, 3) := by decide +kernel
theorem dX6_not3_37 : decode cX6_not3 37 = .ok (.iconst 1, 1) := by decide +kernel
theorem dX6_not3_38 : decode cX6_not3 38 = .ok (.isub, 1) := by decide +kernel
theorem dX6_not3_39 : decode cX6_not3 39 = .ok (.putfield 191, 3) := by decide +kernel
theorem dX6_not3_42 : decode cX6_not3 42 = .ok (.iload_n 1, 1) := by decide +kernel
theorem dX6_not3_43 : decode cX6_not3 43 = .ok (.ifCond .ne 7, 3) := by decide +kernel
theorem dX6_not3_46 : decode cX6_not3 46 = .ok (.iconst 1, 1) := by decide +kernel
theorem dX6_not3_47 : decode cX6_not3 47 = .ok (.goto 4, 3) := by decide +kernel
theorem dX6_not3_50 : decode cX6_not3 50 = .ok (.iconst 0, 1) := by decide +kernel
theorem dX6_not3_51 : decode cX6_not3 51 = .ok (.ireturn, 1) := by decide +kernel
theorem dX6_not3_52 : decode cX6_not3 52 = .ok (.aload_n 0, 1) := by decide +kernel
theorem dX6_not3_53 : decode cX6_not3 53 = .ok (.invokevirtual 279, 3) := by decide +kernel
theorem dX6_not3_56 : decode cX6_not3 56 = .ok (.istore_n 1, 1) := by decide +kernel
theorem dX6_not3_57 : decode cX6_not3 57 = .ok (.aload_n 0, 1) := by decide +kernel
theorem dX6_not3_58 : decode cX6_not3 58 = .ok (.bipush 60, 2) := by decide +kernel
theorem dX6_not3_60 : decode cX6_not3 60 = .ok (.invokevirtual 222, 3) := by decide +kernel
theorem dX6_not3_63 : decode cX6_not3 63 = .ok (.ifCond .ne 14, 3) := by decide +kernel
theorem dX6_not3_66 : decode cX6_not3 66 = .ok (.aload_n 0, 1) := by decide +kernel
theorem dX6_not3_67 : decode cX6_not3 67 = .ok (.bipush 61, 2) := by decide +kernel
theorem dX6_not3_69 : decode cX6_not3 69 = .ok (.invokevirtual 222, 3) := by decide +kernel
theorem dX6_not3_72 : decode cX6_not3 72 = .ok (.ifCond .ne 5, 3) := by decide +kernel
theorem dX6_not3_75 : decode cX6_not3 75 = .ok (.iload_n 1, 1) := by decide +kernel
theorem dX6_not3_76 : decode cX6_not3 76 = .ok (.ireturn, 1) := by decide +kernel
theorem dX6_not3_77 : decode cX6_not3 77 = .ok (.aload_n 0, 1) := by decide +kernel
theorem dX6_not3_78 : decode cX6_not3 78 = .ok (.getfield 176, 3) := by decide +kernel
theorem dX6_not3_81 : decode cX6_not3 81 = .ok (.ldc2_w 244, 3) := by decide +kernel
theorem dX6_not3_84 : decode cX6_not3 84 = .ok (.lcmp, 1) := by decide +kernel
theorem dX6_not3_85 : decode cX6_not3 85 = .ok (.ifCond .ne 7, 3) := by decide +kernel
theorem dX6_not3_88 : decode cX6_not3 88 = .ok (.iconst 1, 1) := by decide +kernel
theorem dX6_not3_89 : decode cX6_not3 89 = .ok (.goto 4, 3) := by decide +kernel
theorem dX6_not3_92 : decode cX6_not3 92 = .ok (.iconst 0, 1) := by decide +kernel
theorem dX6_not3_93 : decode cX6_not3 93 = .ok (.istore_n 2, 1) := by decide +kernel
theorem dX6_not3_94 : decode cX6_not3 94 = .ok (.aload_n 0, 1) := by decide +kernel
theorem dX6_not3_95 : decode cX6_not3 95 = .ok (.invokevirtual 197, 3) := by decide +kernel
theorem dX6_not3_98 : decode cX6_not3 98 = .ok (.aload_n 0, 1) := by decide +kernel
theorem dX6_not3_99 : decode cX6_not3 99 = .ok (.invokevirtual 279, 3) := by decide +kernel
theorem dX6_not3_102 : decode cX6_not3 102 = .ok (.istore_n 3, 1) := by decide +kernel
theorem dX6_not3_103 : decode cX6_not3 103 = .ok (.iload_n 2, 1) := by decide +kernel
theorem dX6_not3_104 : decode cX6_not3 104 = .ok (.ifCond .eq 11, 3) := by decide +kernel
theorem dX6_not3_107 : decode cX6_not3 107 = .ok (.iload_n 1, 1) := by decide +kernel
theorem dX6_not3_108 : decode cX6_not3 108 = .ok (.iload_n 3, 1) := by decide +kernel
theorem dX6_not3_109 : decode cX6_not3 109 = .ok (.if_icmp .ge 15, 3) := by decide +kernel
theorem dX6_not3_112 : decode cX6_not3 112 = .ok (.goto 8, 3) := by decide +kernel
theorem dX6_not3_115 : decode cX6_not3 115 = .ok (.iload_n 1, 1) := by decide +kernel
theorem dX6_not3_116 : decode cX6_not3 116 = .ok (.iload_n 3, 1) := by decide +kernel
theorem dX6_not3_117 : decode cX6_not3 117 = .ok (.if_icmp .ne 7, 3) := by decide +kernel
theorem dX6_not3_120 : decode cX6_not3 120 = .ok (.iconst 1, 1) := by decide +kernel
theorem dX6_not3_121 : decode cX6_not3 121 = .ok (.goto 4, 3) := by decide +kernel
theorem dX6_not3_124 : decode cX6_not3 124 = .ok (.iconst 0, 1) := by decide +kernel
theorem dX6_not3_125 : decode cX6_not3 125 = .ok (.ireturn, 1) := by decide +kernel
theorem dX6_both3_0 : decode cX6_both3 0 = .ok (.aload_n 0, 1) := by decide +kernel
theorem dX6_both3_1 : decode cX6_both3 1 = .ok (.invokevirtual 282, 3) := by decide +kernel
theorem dX6_both3_4 : decode cX6_both3 4 = .ok (.istore_n 1, 1) := by decide +kernel
theorem dX6_both3_5 : decode cX6_both3 5 = .ok (.aload_n 0, 1) := by decide +kernel
theorem dX6_both3_6 : decode cX6_both3 6 = .ok (.bipush 97, 2) := by decide +kernel
theorem dX6_both3_8 : decode cX6_both3 8 = .ok (.bipush 110, 2) := by decide +kernel
theorem dX6_both3_10 : decode cX6_both3 10 = .ok (.bipush 100, 2) := by decide +kernel
theorem dX6_both3_12 : decode cX6_both3 12 = .ok (.iconst 0, 1) := by decide +kernel
theorem dX6_both3_13 : decode cX6_both3 13 = .ok (.iconst 0, 1) := by decide +kernel
theorem dX6_both3_14 : decode cX6_both3 14 = .ok (.iconst 0, 1) := by decide +kernel
theorem dX6_both3_15 : decode cX6_both3 15 = .ok (.iconst 0, 1) := by decide +kernel
theorem dX6_both3_16 : decode cX6_both3 16 = .ok (.iconst 0, 1) := by decide +kernel
theorem dX6_both3_17 : decode cX6_both3 17 = .ok (.invokevirtual 200, 3) := by decide +kernel
theorem dX6_both3_20 : decode cX6_both3 20 = .ok (.ifCond .eq 29, 3) := by decide +kernel
theorem dX6_both3_23 : decode cX6_both3 23 = .ok (.aload_n 0, 1) := by decide +kernel
theorem dX6_both3_24 : decode cX6_both3 24 = .ok (.invokevirtual 197, 3) := by decide +kernel
theorem dX6_both3_27 : decode cX6_both3 27 = .ok (.aload_n 0, 1) := by decide +kernel
theorem dX6_both3_28 : decode cX6_both3 28 = .ok (.invokevirtual 282, 3) := by decide +kernel
theorem dX6_both3_31 : decode cX6_both3 31 = .ok (.istore_n 2, 1) := by decide +kernel
theorem dX6_both3_32 : decode cX6_both3 32 = .ok (.iload_n 1, 1) := by decide +kernel
theorem dX6_both3_33 : decode cX6_both3 33 = .ok (.ifCond .eq 11, 3) := by decide +kernel
theorem dX6_both3_36 : decode cX6_both3 36 = .ok (.iload_n 2, 1) := by decide +kernel
theorem dX6_both3_37 : decode cX6_both3 37 = .ok (.ifCond .eq 7, 3) := by decide +kernel
theorem dX6_both3_40 : decode cX6_both3 40 = .ok (.iconst 1, 1) := by decide +kernel
theorem dX6_both3_41 : decode cX6_both3 41 = .ok (.goto 4, 3) := by decide +kernel
theorem dX6_both3_44 : decode cX6_both3 44 = .ok (.iconst 0, 1) := by decide +kernel
theorem dX6_both3_45 : decode cX6_both3 45 = .ok (.istore_n 1, 1) := by decide +kernel
theorem dX6_both3_46 : decode cX6_both3 46 = .ok (.goto (-41), 3) := by decide +kernel
theorem dX6_both3_49 : decode cX6_both3 49 = .ok (.iload_n 1, 1) := by decide +kernel
theorem dX6_both3_50 : decode cX6_both3 50 = .ok (.ireturn, 1) := by decide +kernel
theorem dX6_either3_0 : decode cX6_either3 0 = .ok (.aload_n 0, 1) := by decide +kernel
theorem dX6_either3_1 : decode cX6_either3 1 = .ok (.invokevirtual 285, 3) := by decide +kernel
theorem dX6_either3_4 : decode cX6_either3 4 = .ok (.istore_n 1, 1) := by decide +kernel
theorem dX6_either3_5 : decode cX6_either3 5 = .ok (.aload_n 0, 1) := by decide +kernel
theorem dX6_either3_6 : decode cX6_either3 6 = .ok (.bipush 111, 2) := by decide +kernel
theorem dX6_either3_8 : decode cX6_either3 8 = .ok (.bipush 114, 2) := by decide +kernel
theorem dX6_either3_10 : decode cX6_either3 10 = .ok (.iconst 0, 1) := by decide +kernel
theorem dX6_either3_11 : decode cX6_either3 11 = .ok (.iconst 0, 1) := by decide +kernel
theorem dX6_either3_12 : decode cX6_either3 12 = .ok (.iconst 0, 1) := by decide +kernel
theorem dX6_either3_13 : decode cX6_either3 13 = .ok (.iconst 0, 1) := by decide +kernel
theorem dX6_either3_14 : decode cX6_either3 14 = .ok (.iconst 0, 1) := by decide +kernel
theorem dX6_either3_15 : decode cX6_either3 15 = .ok (.iconst 0, 1) := by decide +kernel
theorem dX6_either3_16 : decode cX6_either3 16 = .ok (.invokevirtual 200, 3) := by decide +kernel
theorem dX6_either3_19 : decode cX6_either3 19 = .ok (.ifCond .eq 29, 3) := by decide +kernel
theorem dX6_either3_22 : decode cX6_either3 22 = .ok (.aload_n 0, 1) := by decide +kernel
theorem dX6_either3_23 : decode cX6_either3 23 = .ok (.invokevirtual 197, 3) := by decide +kernel
theorem dX6_either3_26 : decode cX6_either3 26 = .ok (.aload_n 0, 1) := by decide +kernel
theorem dX6_either3_27 : decode cX6_either3 27 = .ok (.invokevirtual 285, 3) := by decide +kernel
theorem dX6_either3_30 : decode cX6_either3 30 = .ok (.istore_n 2, 1) := by decide +kernel
theorem dX6_either3_31 : decode cX6_either3 31 = .ok (.iload_n 1, 1) := by decide +kernel
theorem dX6_either3_32 : decode cX6_either3 32 = .ok (.ifCond .ne 7, 3) := by decide +kernel
theorem dX6_either3_35 : decode cX6_either3 35 = .ok (.iload_n 2, 1) := by decide +kernel
theorem dX6_either3_36 : decode cX6_either3 36 = .ok (.ifCond .eq 7, 3) := by decide +kernel
theorem dX6_either3_39 : decode cX6_either3 39 = .ok (.iconst 1, 1) := by decide +kernel
theorem dX6_either3_40 : decode cX6_either3 40 = .ok (.goto 4, 3) := by decide +kernel
theorem dX6_either3_43 : decode cX6_either3 43 = .ok (.iconst 0, 1) := by decide +kernel
theorem dX6_either3_44 : decode cX6_either3 44 = .ok (.istore_n 1, 1) := by decide +kernel
theorem dX6_either3_45 : decode cX6_either3 45 = .ok (.goto (-40), 3) := by decide +kernel
theorem dX6_either3_48 : decode cX6_either3 48 = .ok (.iload_n 1, 1) := by decide +kernel
theorem dX6_either3_49 : decode cX6_either3 49 = .ok (.ireturn, 1) := by decide +kernel
theorem dX6_atom2_0 : decode cX6_atom2 0 = .ok (.iconst 0, 1) := by decide +kernel
theorem dX6_atom2_1 : decode cX6_atom2 1 = .ok (.istore_n 1, 1) := by decide +kernel
theorem dX6_atom2_2 : decode cX6_atom2 2 = .ok (.aload_n 0, 1) := by decide +kernel
theorem dX6_atom2_3 : decode cX6_atom2 3 = .ok (.bipush 45, 2) := by decide +kernel
theorem dX6_atom2_5 : decode cX6_atom2 5 = .ok (.invokevirtual 222, 3) := by decide +kernel
theorem dX6_atom2_8 : decode cX6_atom2 8 = .ok (.ifCond .eq 29, 3) := by decide +kernel
theorem dX6_atom2_11 : decode cX6_atom2 11 = .ok (.aload_n 0, 1) := by decide +kernel
theorem dX6_atom2_12 : decode cX6_atom2 12 = .ok (.invokevirtual 225, 3) := by decide +kernel
theorem dX6_atom2_15 : decode cX6_atom2 15 = .ok (.ifCond .eq 146, 3) := by decide +kernel
theorem dX6_atom2_18 : decode cX6_atom2 18 = .ok (.aload_n 0, 1) := by decide +kernel
theorem dX6_atom2_19 : decode cX6_atom2 19 = .ok (.invokevirtual 273, 3) := by decide +kernel
theorem dX6_atom2_22 : decode cX6_atom2 22 = .ok (.ineg, 1) := by decide +kernel
theorem dX6_atom2_23 : decode cX6_atom2 23 = .ok (.istore_n 1, 1) := by decide +kernel
theorem dX6_atom2_24 : decode cX6_atom2 24 = .ok (.aload_n 0, 1) := by decide +kernel
theorem dX6_atom2_25 : decode cX6_atom2 25 = .ok (.dup, 1) := by decide +kernel
theorem dX6_atom2_26 : decode cX6_atom2 26 = .ok (.getfield 191, 3) := by decide +kernel
theorem dX6_atom2_29 : decode cX6_atom2 29 = .ok (.iconst 1, 1) := by decide +kernel
theorem dX6_atom2_30 : decode cX6_atom2 30 = .ok (.isub, 1) := by decide +kernel
theorem dX6_atom2_31 : decode cX6_atom2 31 = .ok (.putfield 191, 3) := by decide +kernel
theorem dX6_atom2_34 : decode cX6_atom2 34 = .ok (.goto 127, 3) := by decide +kernel
theorem dX6_atom2_37 : decode cX6_atom2 37 = .ok (.aload_n 0, 1) := by decide +kernel
theorem dX6_atom2_38 : decode cX6_atom2 38 = .ok (.bipush 40, 2) := by decide +kernel
theorem dX6_atom2_40 : decode cX6_atom2 40 = .ok (.invokevirtual 222, 3) := by decide +kernel
theorem dX6_atom2_43 : decode cX6_atom2 43 = .ok (.ifCond .eq 52, 3) := by decide +kernel
theorem dX6_atom2_46 : decode cX6_atom2 46 = .ok (.aload_n 0, 1) := by decide +kernel
theorem dX6_atom2_47 : decode cX6_atom2 47 = .ok (.invokevirtual 225, 3) := by decide +kernel
theorem dX6_atom2_50 : decode cX6_atom2 50 = .ok (.ifCond .eq 111, 3) := by decide +kernel
theorem dX6_atom2_53 : decode cX6_atom2 53 = .ok (.aload_n 0, 1) := by decide +kernel
theorem dX6_atom2_54 : decode cX6_atom2 54 = .ok (.invokevirtual 288, 3) := by decide +kernel
theorem dX6_atom2_57 : decode cX6_atom2 57 = .ok (.istore_n 1, 1) := by decide +kernel
theorem dX6_atom2_58 : decode cX6_atom2 58 = .ok (.aload_n 0, 1) := by decide +kernel
theorem dX6_atom2_59 : decode cX6_atom2 59 = .ok (.bipush 41, 2) := by decide +kernel
theorem dX6_atom2_61 : decode cX6_atom2 61 = .ok (.invokevirtual 222, 3) := by decide +kernel
theorem dX6_atom2_64 : decode cX6_atom2 64 = .ok (.ifCond .ne 7, 3) := by decide +kernel
theorem dX6_atom2_67 : decode cX6_atom2 67 = .ok (.aload_n 0, 1) := by decide +kernel
theorem dX6_atom2_68 : decode cX6_atom2 68 = .ok (.invokevirtual 194, 3) := by decide +kernel
theorem dX6_atom2_71 : decode cX6_atom2 71 = .ok (.aload_n 0, 1) := by decide +kernel
theorem dX6_atom2_72 : decode cX6_atom2 72 = .ok (.dup, 1) := by decide +kernel
theorem dX6_atom2_73 : decode cX6_atom2 73 = .ok (.getfield 191, 3) := by decide +kernel
theorem dX6_atom2_76 : decode cX6_atom2 76 = .ok (.iconst 1, 1) := by decide +kernel
theorem dX6_atom2_77 : decode cX6_atom2 77 = .ok (.isub, 1) := by decide +kernel
theorem dX6_atom2_78 : decode cX6_atom2 78 = .ok (.putfield 191, 3) := by decide +kernel
theorem dX6_atom2_81 : decode cX6_atom2 81 = .ok (.aload_n 0, 1) := by decide +kernel
theorem dX6_atom2_82 : decode cX6_atom2 82 = .ok (.getfield 181, 3) := by decide +kernel
theorem dX6_atom2_85 : decode cX6_atom2 85 = .ok (.ifCond .ne 76, 3) := by decide +kernel
theorem dX6_atom2_88 : decode cX6_atom2 88 = .ok (.aload_n 0, 1) := by decide +kernel
theorem dX6_atom2_89 : decode cX6_atom2 89 = .ok (.invokevirtual 197, 3) := by decide +kernel
theorem dX6_atom2_92 : decode cX6_atom2 92 = .ok (.goto 69, 3) := by decide +kernel
theorem dX6_atom2_95 : decode cX6_atom2 95 = .ok (.aload_n 0, 1) := by decide +kernel
theorem dX6_atom2_96 : decode cX6_atom2 96 = .ok (.getfield 181, 3) := by decide +kernel
theorem dX6_atom2_99 : decode cX6_atom2 99 = .ok (.ifCond .ne 24, 3) := by decide +kernel
theorem dX6_atom2_102 : decode cX6_atom2 102 = .ok (.aload_n 0, 1) := by decide +kernel
theorem dX6_atom2_103 : decode cX6_atom2 103 = .ok (.getfield 165, 3) := by decide +kernel
theorem dX6_atom2_106 : decode cX6_atom2 106 = .ok (.iconst 2, 1) := by decide +kernel
theorem dX6_atom2_107 : decode cX6_atom2 107 = .ok (.if_icmp .ne 16, 3) := by decide +kernel
theorem dX6_atom2_110 : decode cX6_atom2 110 = .ok (.aload_n 0, 1) := by decide +kernel
theorem dX6_atom2_111 : decode cX6_atom2 111 = .ok (.getfield 176, 3) := by decide +kernel
theorem dX6_atom2_114 : decode cX6_atom2 114 = .ok (.l2i, 1) := by decide +kernel
theorem dX6_atom2_115 : decode cX6_atom2 115 = .ok (.istore_n 1, 1) := by decide +kernel
theorem dX6_atom2_116 : decode cX6_atom2 116 = .ok (.aload_n 0, 1) := by decide +kernel
theorem dX6_atom2_117 : decode cX6_atom2 117 = .ok (.invokevirtual 197, 3) := by decide +kernel
theorem dX6_atom2_120 : decode cX6_atom2 120 = .ok (.goto 41, 3) := by decide +kernel
theorem dX6_atom2_123 : decode cX6_atom2 123 = .ok (.aload_n 0, 1) := by decide +kernel
theorem dX6_atom2_124 : decode cX6_atom2 124 = .ok (.getfield 181, 3) := by decide +kernel
theorem dX6_atom2_127 : decode cX6_atom2 127 = .ok (.ifCond .ne 30, 3) := by decide +kernel
theorem dX6_atom2_130 : decode cX6_atom2 130 = .ok (.aload_n 0, 1) := by decide +kernel
theorem dX6_atom2_131 : decode cX6_atom2 131 = .ok (.getfield 165, 3) := by decide +kernel
theorem dX6_atom2_134 : decode cX6_atom2 134 = .ok (.iconst 1, 1) := by decide +kernel
theorem dX6_atom2_135 : decode cX6_atom2 135 = .ok (.if_icmp .ne 22, 3) := by decide +kernel
theorem dX6_atom2_138 : decode cX6_atom2 138 = .ok (.aload_n 0, 1) := by decide +kernel
theorem dX6_atom2_139 : decode cX6_atom2 139 = .ok (.invokevirtual 229, 3) := by decide +kernel
theorem dX6_atom2_142 : decode cX6_atom2 142 = .ok (.istore_n 1, 1) := by decide +kernel
theorem dX6_atom2_143 : decode cX6_atom2 143 = .ok (.aload_n 0, 1) := by decide +kernel
theorem dX6_atom2_144 : decode cX6_atom2 144 = .ok (.getfield 181, 3) := by decide +kernel
theorem dX6_atom2_147 : decode cX6_atom2 147 = .ok (.ifCond .ne 14, 3) := by decide +kernel
theorem dX6_atom2_150 : decode cX6_atom2 150 = .ok (.aload_n 0, 1) := by decide +kernel
theorem dX6_atom2_151 : decode cX6_atom2 151 = .ok (.invokevirtual 197, 3) := by decide +kernel
theorem dX6_atom2_154 : decode cX6_atom2 154 = .ok (.goto 7, 3) := by decide +kernel
theorem dX6_atom2_157 : decode cX6_atom2 157 = .ok (.aload_n 0, 1) := by decide +kernel
theorem dX6_atom2_158 : decode cX6_atom2 158 = .ok (.invokevirtual 194, 3) := by decide +kernel
theorem dX6_atom2_161 : decode cX6_atom2 161 = .ok (.iload_n 1, 1) := by decide +kernel
theorem dX6_atom2_162 : decode cX6_atom2 162 = .ok (.ireturn, 1) := by decide +kernel
theorem dX6_term2_0 : decode cX6_term2 0 = .ok (.aload_n 0, 1) := by decide +kernel
theorem dX6_term2_1 : decode cX6_term2 1 = .ok (.invokevirtual 291, 3) := by decide +kernel
theorem dX6_term2_4 : decode cX6_term2 4 = .ok (.istore_n 1, 1) := by decide +kernel
theorem dX6_term2_5 : decode cX6_term2 5 = .ok (.aload_n 0, 1) := by decide +kernel
theorem dX6_term2_6 : decode cX6_term2 6 = .ok (.bipush 42, 2) := by decide +kernel
theorem dX6_term2_8 : decode cX6_term2 8 = .ok (.invokevirtual 222, 3) := by decide +kernel
theorem dX6_term2_11 : decode cX6_term2 11 = .ok (.ifCond .eq 17, 3) := by decide +kernel
theorem dX6_term2_14 : decode cX6_term2 14 = .ok (.aload_n 0, 1) := by decide +kernel
theorem dX6_term2_15 : decode cX6_term2 15 = .ok (.invokevirtual 197, 3) := by decide +kernel
theorem dX6_term2_18 : decode cX6_term2 18 = .ok (.iload_n 1, 1) := by decide +kernel
theorem dX6_term2_19 : decode cX6_term2 19 = .ok (.aload_n 0, 1) := by decide +kernel
theorem dX6_term2_20 : decode cX6_term2 20 = .ok (.invokevirtual 291, 3) := by decide +kernel
theorem dX6_term2_23 : decode cX6_term2 23 = .ok (.imul, 1) := by decide +kernel
theorem dX6_term2_24 : decode cX6_term2 24 = .ok (.istore_n 1, 1) := by decide +kernel
theorem dX6_term2_25 : decode cX6_term2 25 = .ok (.goto (-20), 3) := by decide +kernel
theorem dX6_term2_28 : decode cX6_term2 28 = .ok (.iload_n 1, 1) := by decide +kernel
theorem dX6_term2_29 : decode cX6_term2 29 = .ok (.ireturn, 1) := by decide +kernel
theorem dX6_added2_0 : decode cX6_added2 0 = .ok (.aload_n 0, 1) := by decide +kernel
theorem dX6_added2_1 : decode cX6_added2 1 = .ok (.invokevirtual 294, 3) := by decide +kernel
theorem dX6_added2_4 : decode cX6_added2 4 = .ok (.istore_n 1, 1) := by decide +kernel
theorem dX6_added2_5 : decode cX6_added2 5 = .ok (.aload_n 0, 1) := by decide +kernel
theorem dX6_added2_6 : decode cX6_added2 6 = .ok (.bipush 43, 2) := by decide +kernel
theorem dX6_added2_8 : decode cX6_added2 8 = .ok (.invokevirtual 222, 3) := by decide +kernel
theorem dX6_added2_11 : decode cX6_added2 11 = .ok (.ifCond .ne 12, 3) := by decide +kernel
theorem dX6_added2_14 : decode cX6_added2 14 = .ok (.aload_n 0, 1) := by decide +kernel
theorem dX6_added2_15 : decode cX6_added2 15 = .ok (.bipush 45, 2) := by decide +kernel
theorem dX6_added2_17 : decode cX6_added2 17 = .ok (.invokevirtual 222, 3) := by decide +kernel
theorem dX6_added2_20 : decode cX6_added2 20 = .ok (.ifCond .eq 46, 3) := by decide +kernel
theorem dX6_added2_23 : decode cX6_added2 23 = .ok (.aload_n 0, 1) := by decide +kernel
theorem dX6_added2_24 : decode cX6_added2 24 = .ok (.getfield 176, 3) := by decide +kernel
theorem dX6_added2_27 : decode cX6_added2 27 = .ok (.ldc2_w 239, 3) := by decide +kernel
theorem dX6_added2_30 : decode cX6_added2 30 = .ok (.lcmp, 1) := by decide +kernel
theorem dX6_added2_31 : decode cX6_added2 31 = .ok (.ifCond .ne 7, 3) := by decide +kernel
theorem dX6_added2_34 : decode cX6_added2 34 = .ok (.iconst 1, 1) := by decide +kernel
theorem dX6_added2_35 : decode cX6_added2 35 = .ok (.goto 4, 3) := by decide +kernel
theorem dX6_added2_38 : decode cX6_added2 38 = .ok (.iconst 0, 1) := by decide +kernel
theorem dX6_added2_39 : decode cX6_added2 39 = .ok (.istore_n 2, 1) := by decide +kernel
theorem dX6_added2_40 : decode cX6_added2 40 = .ok (.aload_n 0, 1) := by decide +kernel
theorem dX6_added2_41 : decode cX6_added2 41 = .ok (.invokevirtual 197, 3) := by decide +kernel
theorem dX6_added2_44 : decode cX6_added2 44 = .ok (.aload_n 0, 1) := by decide +kernel
theorem dX6_added2_45 : decode cX6_added2 45 = .ok (.invokevirtual 294, 3) := by decide +kernel
theorem dX6_added2_48 : decode cX6_added2 48 = .ok (.istore_n 3, 1) := by decide +kernel
theorem dX6_added2_49 : decode cX6_added2 49 = .ok (.iload_n 2, 1) := by decide +kernel
theorem dX6_added2_50 : decode cX6_added2 50 = .ok (.ifCond .eq 9, 3) := by decide +kernel
theorem dX6_added2_53 : decode cX6_added2 53 = .ok (.iload_n 1, 1) := by decide +kernel
theorem dX6_added2_54 : decode cX6_added2 54 = .ok (.iload_n 3, 1) := by decide +kernel
theorem dX6_added2_55 : decode cX6_added2 55 = .ok (.iadd, 1) := by decide +kernel
theorem dX6_added2_56 : decode cX6_added2 56 = .ok (.goto 6, 3) := by decide +kernel
theorem dX6_added2_59 : decode cX6_added2 59 = .ok (.iload_n 1, 1) := by decide +kernel
theorem dX6_added2_60 : decode cX6_added2 60 = .ok (.iload_n 3, 1) := by decide +kernel
theorem dX6_added2_61 : decode cX6_added2 61 = .ok (.isub, 1) := by decide +kernel
theorem dX6_added2_62 : decode cX6_added2 62 = .ok (.istore_n 1, 1) := by decide +kernel
theorem dX6_added2_63 : decode cX6_added2 63 = .ok (.goto (-58), 3) := by decide +kernel
theorem dX6_added2_66 : decode cX6_added2 66 = .ok (.iload_n 1, 1) := by decide +kernel
theorem dX6_added2_67 : decode cX6_added2 67 = .ok (.ireturn, 1) := by decide +kernel
theorem dX6_not2_0 : decode cX6_not2 0 = .ok (.aload_n 0, 1) := by decide +kernel
theorem dX6_not2_1 : decode cX6_not2 1 = .ok (.bipush 110, 2) := by decide +kernel
theorem dX6_not2_3 : decode cX6_not2 3 = .ok (.bipush 111, 2) := by decide +kernel
theorem dX6_not2_5 : decode cX6_not2 5 = .ok (.bipush 116, 2) := by decide +kernel
theorem dX6_not2_7 : decode cX6_not2 7 = .ok (.iconst 0, 1) := by decide +kernel
theorem dX6_not2_8 : decode cX6_not2 8 = .ok (.iconst 0, 1) := by decide +kernel
theorem dX6_not2_9 : decode cX6_not2 9 = .ok (.iconst 0, 1) := by decide +kernel
theorem dX6_not2_10 : decode cX6_not2 10 = .ok (.iconst 0, 1) := by decide +kernel
theorem dX6_not2_11 : decode cX6_not2 11 = .ok (.iconst 0, 1) := by decide +kernel
theorem dX6_not2_12 : decode cX6_not2 12 = .ok (.invokevirtual 200, 3) := by decide +kernel
theorem dX6_not2_15 : decode cX6_not2 15 = .ok (.ifCond .eq 37, 3) := by decide +kernel
theorem dX6_not2_18 : decode cX6_not2 18 = .ok (.aload_n 0, 1) := by decide +kernel
theorem dX6_not2_19 : decode cX6_not2 19 = .ok (.invokevirtual 225, 3) := by decide +kernel
theorem dX6_not2_22 : decode cX6_not2 22 = .ok (.ifCond .ne 5, 3) := by decide +kernel
theorem dX6_not2_25 : decode cX6_not2 25 = .ok (.iconst 0, 1) := by decide +kernel
theorem dX6_not2_26 : decode cX6_not2 26 = .ok (.ireturn, 1) := by decide +kernel
theorem dX6_not2_27 : decode cX6_not2 27 = .ok (.aload_n 0, 1) := by decide +kernel
theorem dX6_not2_28 : decode cX6_not2 28 = .ok (.invokevirtual 282, 3) := by decide +kernel
theorem dX6_not2_31 : decode cX6_not2 31 = .ok (.istore_n 1, 1) := by decide +kernel
theorem dX6_not2_32 : decode cX6_not2 32 = .ok (.aload_n 0, 1) := by decide +kernel
theorem dX6_not2_33 : decode cX6_not2 33 = .ok (.dup, 1) := by decide +kernel
theorem dX6_not2_34 : decode cX6_not2 34 = .ok (.getfield 191, 3) := by decide +kernel
theorem dX6_not2_37 : decode cX6_not2 37 = .ok (.iconst 1, 1) := by decide +kernel
theorem dX6_not2_38 : decode cX6_not2 38 = .ok (.isub, 1) := by decide +kernel
theorem dX6_not2_39 : decode cX6_not2 39 = .ok (.putfield 191, 3) := by decide +kernel
theorem dX6_not2_42 : decode cX6_not2 42 = .ok (.iload_n 1, 1) := by decide +kernel
theorem dX6_not2_43 : decode cX6_not2 43 = .ok (.ifCond .ne 7, 3) := by decide +kernel
theorem dX6_not2_46 : decode cX6_not2 46 = .ok (.iconst 1, 1) := by decide +kernel
theorem dX6_not2_47 : decode cX6_not2 47 = .ok (.goto 4, 3) := by decide +kernel
theorem dX6_not2_50 : decode cX6_not2 50 = .ok (.iconst 0, 1) := by decide +kernel
theorem dX6_not2_51 : decode cX6_not2 51 = .ok (.ireturn, 1) := by decide +kernel
theorem dX6_not2_52 : decode cX6_not2 52 = .ok (.aload_n 0, 1) := by decide +kernel
theorem dX6_not2_53 : decode cX6_not2 53 = .ok (.invokevirtual 297, 3) := by decide +kernel
theorem dX6_not2_56 : decode cX6_not2 56 = .ok (.istore_n 1, 1) := by decide +kernel
theorem dX6_not2_57 : decode cX6_not2 57 = .ok (.aload_n 0, 1) := by decide +kernel
theorem dX6_not2_58 : decode cX6_not2 58 = .ok (.bipush 60, 2) := by decide +kernel
theorem dX6_not2_60 : decode cX6_not2 60 = .ok (.invokevirtual 222, 3) := by decide +kernel
theorem dX6_not2_63 : decode cX6_not2 63 = .ok (.ifCond .ne 14, 3) := by decide +kernel
theorem dX6_not2_66 : decode cX6_not2 66 = .ok (.aload_n 0, 1) := by decide +kernel
theorem dX6_not2_67 : decode cX6_not2 67 = .ok (.bipush 61, 2) := by decide +kernel
theorem dX6_not2_69 : decode cX6_not2 69 = .ok (.invokevirtual 222, 3) := by decide +kernel
theorem dX6_not2_72 : decode cX6_not2 72 = .ok (.ifCond .ne 5, 3) := by decide +kernel
theorem dX6_not2_75 : decode cX6_not2 75 = .ok (.iload_n 1, 1) := by decide +kernel
theorem dX6_not2_76 : decode cX6_not2 76 = .ok (.ireturn, 1) := by decide +kernel
theorem dX6_not2_77 : decode cX6_not2 77 = .ok (.aload_n 0, 1) := by decide +kernel
theorem dX6_not2_78 : decode cX6_not2 78 = .ok (.getfield 176, 3) := by decide +kernel
theorem dX6_not2_81 : decode cX6_not2 81 = .ok (.ldc2_w 244, 3) := by decide +kernel
theorem dX6_not2_84 : decode cX6_not2 84 = .ok (.lcmp, 1) := by decide +kernel
theorem dX6_not2_85 : decode cX6_not2 85 = .ok (.ifCond .ne 7, 3) := by decide +kernel
theorem dX6_not2_88 : decode cX6_not2 88 = .ok (.iconst 1, 1) := by decide +kernel
theorem dX6_not2_89 : decode cX6_not2 89 = .ok (.goto 4, 3) := by decide +kernel
theorem dX6_not2_92 : decode cX6_not2 92 = .ok (.iconst 0, 1) := by decide +kernel
theorem dX6_not2_93 : decode cX6_not2 93 = .ok (.istore_n 2, 1) := by decide +kernel
theorem dX6_not2_94 : decode cX6_not2 94 = .ok (.aload_n 0, 1) := by decide +kernel
theorem dX6_not2_95 : decode cX6_not2 95 = .ok (.invokevirtual 197, 3) := by decide +kernel
theorem dX6_not2_98 : decode cX6_not2 98 = .ok (.aload_n 0, 1) := by decide +kernel
theorem dX6_not2_99 : decode cX6_not2 99 = .ok (.invokevirtual 297, 3) := by decide +kernel
theorem dX6_not2_102 : decode cX6_not2 102 = .ok (.istore_n 3, 1) := by decide +kernel
theorem dX6_not2_103 : decode cX6_not2 103 = .ok (.iload_n 2, 1) := by decide +kernel
theorem dX6_not2_104 : decode cX6_not2 104 = .ok (.ifCond .eq 11, 3) := by decide +kernel
theorem dX6_not2_107 : decode cX6_not2 107 = .ok (.iload_n 1, 1) := by decide +kernel
theorem dX6_not2_108 : decode cX6_not2 108 = .ok (.iload_n 3, 1) := by decide +kernel
theorem dX6_not2_109 : decode cX6_not2 109 = .ok (.if_icmp .ge 15, 3) := by decide +kernel
theorem dX6_not2_112 : decode cX6_not2 112 = .ok (.goto 8, 3) := by decide +kernel
theorem dX6_not2_115 : decode cX6_not2 115 = .ok (.iload_n 1, 1) := by decide +kernel
theorem dX6_not2_116 : decode cX6_not2 116 = .ok (.iload_n 3, 1) := by decide +kernel
theorem dX6_not2_117 : decode cX6_not2 117 = .ok (.if_icmp .ne 7, 3) := by decide +kernel
theorem dX6_not2_120 : decode cX6_not2 120 = .ok (.iconst 1, 1) := by decide +kernel
theorem dX6_not2_121 : decode cX6_not2 121 = .ok (.goto 4, 3) := by decide +kernel
theorem dX6_not2_124 : decode cX6_not2 124 = .ok (.iconst 0, 1) := by decide +kernel
theorem dX6_not2_125 : decode cX6_not2 125 = .ok (.ireturn, 1) := by decide +kernel
theorem dX6_both2_0 : decode cX6_both2 0 = .ok (.aload_n 0, 1) := by decide +kernel
theorem dX6_both2_1 : decode cX6_both2 1 = .ok (.invokevirtual 300, 3) := by decide +kernel
theorem dX6_both2_4 : decode cX6_both2 4 = .ok (.istore_n 1, 1) := by decide +kernel
theorem dX6_both2_5 : decode cX6_both2 5 = .ok (.aload_n 0, 1) := by decide +kernel
theorem dX6_both2_6 : decode cX6_both2 6 = .ok (.bipush 97, 2) := by decide +kernel
theorem dX6_both2_8 : decode cX6_both2 8 = .ok (.bipush 110, 2) := by decide +kernel
theorem dX6_both2_10 : decode cX6_both2 10 = .ok (.bipush 100, 2) := by decide +kernel
theorem dX6_both2_12 : decode cX6_both2 12 = .ok (.iconst 0, 1) := by decide +kernel
theorem dX6_both2_13 : decode cX6_both2 13 = .ok (.iconst 0, 1) := by decide +kernel
theorem dX6_both2_14 : decode cX6_both2 14 = .ok (.iconst 0, 1) := by decide +kernel
theorem dX6_both2_15 : decode cX6_both2 15 = .ok (.iconst 0, 1) := by decide +kernel
theorem dX6_both2_16 : decode cX6_both2 16 = .ok (.iconst 0, 1) := by decide +kernel
theorem dX6_both2_17 : decode cX6_both2 17 = .ok (.invokevirtual 200, 3) := by decide +kernel
theorem dX6_both2_20 : decode cX6_both2 20 = .ok (.ifCond .eq 29, 3) := by decide +kernel
theorem dX6_both2_23 : decode cX6_both2 23 = .ok (.aload_n 0, 1) := by decide +kernel
theorem dX6_both2_24 : decode cX6_both2 24 = .ok (.invokevirtual 197, 3) := by decide +kernel
theorem dX6_both2_27 : decode cX6_both2 27 = .ok (.aload_n 0, 1) := by decide +kernel
theorem dX6_both2_28 : decode cX6_both2 28 = .ok (.invokevirtual 300, 3) := by decide +kernel
theorem dX6_both2_31 : decode cX6_both2 31 = .ok (.istore_n 2, 1) := by decide +kernel
theorem dX6_both2_32 : decode cX6_both2 32 = .ok (.iload_n 1, 1) := by decide +kernel
theorem dX6_both2_33 : decode cX6_both2 33 = .ok (.ifCond .eq 11, 3) := by decide +kernel
theorem dX6_both2_36 : decode cX6_both2 36 = .ok (.iload_n 2, 1) := by decide +kernel
theorem dX6_both2_37 : decode cX6_both2 37 = .ok (.ifCond .eq 7, 3) := by decide +kernel
theorem dX6_both2_40 : decode cX6_both2 40 = .ok (.iconst 1, 1) := by decide +kernel
theorem dX6_both2_41 : decode cX6_both2 41 = .ok (.goto 4, 3) := by decide +kernel
theorem dX6_both2_44 : decode cX6_both2 44 = .ok (.iconst 0, 1) := by decide +kernel
theorem dX6_both2_45 : decode cX6_both2 45 = .ok (.istore_n 1, 1) := by decide +kernel
theorem dX6_both2_46 : decode cX6_both2 46 = .ok (.goto (-41), 3) := by decide +kernel
theorem dX6_both2_49 : decode cX6_both2 49 = .ok (.iload_n 1, 1) := by decide +kernel
theorem dX6_both2_50 : decode cX6_both2 50 = .ok (.ireturn, 1) := by decide +kernel
theorem dX6_either2_0 : decode cX6_either2 0 = .ok (.aload_n 0, 1) := by decide +kernel
theorem dX6_either2_1 : decode cX6_either2 1 = .ok (.invokevirtual 303, 3) := by decide +kernel
theorem dX6_either2_4 : decode cX6_either2 4 = .ok (.istore_n 1, 1) := by decide +kernel
theorem dX6_either2_5 : decode cX6_either2 5 = .ok (.aload_n 0, 1) := by decide +kernel
theorem dX6_either2_6 : decode cX6_either2 6 = .ok (.bipush 111, 2) := by decide +kernel
theorem dX6_either2_8 : decode cX6_either2 8 = .ok (.bipush 114, 2) := by decide +kernel
theorem dX6_either2_10 : decode cX6_either2 10 = .ok (.iconst 0, 1) := by decide +kernel
theorem dX6_either2_11 : decode cX6_either2 11 = .ok (.iconst 0, 1) := by decide +kernel
theorem dX6_either2_12 : decode cX6_either2 12 = .ok (.iconst 0, 1) := by decide +kernel
theorem dX6_either2_13 : decode cX6_either2 13 = .ok (.iconst 0, 1) := by decide +kernel
theorem dX6_either2_14 : decode cX6_either2 14 = .ok (.iconst 0, 1) := by decide +kernel
theorem dX6_either2_15 : decode cX6_either2 15 = .ok (.iconst 0, 1) := by decide +kernel
theorem dX6_either2_16 : decode cX6_either2 16 = .ok (.invokevirtual 200, 3) := by decide +kernel
theorem dX6_either2_19 : decode cX6_either2 19 = .ok (.ifCond .eq 29, 3) := by decide +kernel
theorem dX6_either2_22 : decode cX6_either2 22 = .ok (.aload_n 0, 1) := by decide +kernel
theorem dX6_either2_23 : decode cX6_either2 23 = .ok (.invokevirtual 197, 3) := by decide +kernel
theorem dX6_either2_26 : decode cX6_either2 26 = .ok (.aload_n 0, 1) := by decide +kernel
theorem dX6_either2_27 : decode cX6_either2 27 = .ok (.invokevirtual 303, 3) := by decide +kernel
theorem dX6_either2_30 : decode cX6_either2 30 = .ok (.istore_n 2, 1) := by decide +kernel
theorem dX6_either2_31 : decode cX6_either2 31 = .ok (.iload_n 1, 1) := by decide +kernel
theorem dX6_either2_32 : decode cX6_either2 32 = .ok (.ifCond .ne 7, 3) := by decide +kernel
theorem dX6_either2_35 : decode cX6_either2 35 = .ok (.iload_n 2, 1) := by decide +kernel
theorem dX6_either2_36 : decode cX6_either2 36 = .ok (.ifCond .eq 7, 3) := by decide +kernel
theorem dX6_either2_39 : decode cX6_either2 39 = .ok (.iconst 1, 1) := by decide +kernel
theorem dX6_either2_40 : decode cX6_either2 40 = .ok (.goto 4, 3) := by decide +kernel
theorem dX6_either2_43 : decode cX6_either2 43 = .ok (.iconst 0, 1) := by decide +kernel
theorem dX6_either2_44 : decode cX6_either2 44 = .ok (.istore_n 1, 1) := by decide +kernel
theorem dX6_either2_45 : decode cX6_either2 45 = .ok (.goto (-40), 3) := by decide +kernel
theorem dX6_either2_48 : decode cX6_either2 48 = .ok (.iload_n 1, 1) := by decide +kernel
theorem dX6_either2_49 : decode cX6_either2 49 = .ok (.ireturn, 1) := by decide +kernel
theorem dX6_atom1_0 : decode cX6_atom1 0 = .ok (.iconst 0, 1) := by decide +kernel
theorem dX6_atom1_1 : decode cX6_atom1 1 = .ok (.istore_n 1, 1) := by decide +kernel
theorem dX6_atom1_2 : decode cX6_atom1 2 = .ok (.aload_n 0, 1) := by decide +kernel
theorem dX6_atom1_3 : decode cX6_atom1 3 = .ok (.bipush 45, 2) := by decide +kernel
theorem dX6_atom1_5 : decode cX6_atom1 5 = .ok (.invokevirtual 222, 3) := by decide +kernel
theorem dX6_atom1_8 : decode cX6_atom1 8 = .ok (.ifCond .eq 29, 3) := by decide +kernel
theorem dX6_atom1_11 : decode cX6_atom1 11 = .ok (.aload_n 0, 1) := by decide +kernel
theorem dX6_atom1_12 : decode cX6_atom1 12 = .ok (.invokevirtual 225, 3) := by decide +kernel
theorem dX6_atom1_15 : decode cX6_atom1 15 = .ok (.ifCond .eq 146, 3) := by decide +kernel
theorem dX6_atom1_18 : decode cX6_atom1 18 = .ok (.aload_n 0, 1) := by decide +kernel
theorem dX6_atom1_19 : decode cX6_atom1 19 = .ok (.invokevirtual 291, 3) := by decide +kernel
theorem dX6_atom1_22 : decode cX6_atom1 22 = .ok (.ineg, 1) := by decide +kernel
theorem dX6_atom1_23 : decode cX6_atom1 23 = .ok (.istore_n 1, 1) := by decide +kernel
theorem dX6_atom1_24 : decode cX6_atom1 24 = .ok (.aload_n 0, 1) := by decide +kernel
theorem dX6_atom1_25 : decode cX6_atom1 25 = .ok (.dup, 1) := by decide +kernel
theorem dX6_atom1_26 : decode cX6_atom1 26 = .ok (.getfield 191, 3) := by decide +kernel
theorem dX6_atom1_29 : decode cX6_atom1 29 = .ok (.iconst 1, 1) := by decide +kernel
theorem dX6_atom1_30 : decode cX6_atom1 30 = .ok (.isub, 1) := by decide +kernel
theorem dX6_atom1_31 : decode cX6_atom1 31 = .ok (.putfield 191, 3) := by decide +kernel
theorem dX6_atom1_34 : decode cX6_atom1 34 = .ok (.goto 127, 3) := by decide +kernel
theorem dX6_atom1_37 : decode cX6_atom1 37 = .ok (.aload_n 0, 1) := by decide +kernel
theorem dX6_atom1_38 : decode cX6_atom1 38 = .ok (.bipush 40, 2) := by decide +kernel
theorem dX6_atom1_40 : decode cX6_atom1 40 = .ok (.invokevirtual 222, 3) := by decide +kernel
theorem dX6_atom1_43 : decode cX6_atom1 43 = .ok (.ifCond .eq 52, 3) := by decide +kernel
theorem dX6_atom1_46 : decode cX6_atom1 46 = .ok (.aload_n 0, 1) := by decide +kernel
theorem dX6_atom1_47 : decode cX6_atom1 47 = .ok (.invokevirtual 225, 3) := by decide +kernel
theorem dX6_atom1_50 : decode cX6_atom1 50 = .ok (.ifCond .eq 111, 3) := by decide +kernel
theorem dX6_atom1_53 : decode cX6_atom1 53 = .ok (.aload_n 0, 1) := by decide +kernel
theorem dX6_atom1_54 : decode cX6_atom1 54 = .ok (.invokevirtual 306, 3) := by decide +kernel
theorem dX6_atom1_57 : decode cX6_atom1 57 = .ok (.istore_n 1, 1) := by decide +kernel
theorem dX6_atom1_58 : decode cX6_atom1 58 = .ok (.aload_n 0, 1) := by decide +kernel
theorem dX6_atom1_59 : decode cX6_atom1 59 = .ok (.bipush 41, 2) := by decide +kernel
theorem dX6_atom1_61 : decode cX6_atom1 61 = .ok (.invokevirtual 222, 3) := by decide +kernel
theorem dX6_atom1_64 : decode cX6_atom1 64 = .ok (.ifCond .ne 7, 3) := by decide +kernel
theorem dX6_atom1_67 : decode cX6_atom1 67 = .ok (.aload_n 0, 1) := by decide +kernel
theorem dX6_atom1_68 : decode cX6_atom1 68 = .ok (.invokevirtual 194, 3) := by decide +kernel
theorem dX6_atom1_71 : decode cX6_atom1 71 = .ok (.aload_n 0, 1) := by decide +kernel
theorem dX6_atom1_72 : decode cX6_atom1 72 = .ok (.dup, 1) := by decide +kernel
theorem dX6_atom1_73 : decode cX6_atom1 73 = .ok (.getfield 191, 3) := by decide +kernel
theorem dX6_atom1_76 : decode cX6_atom1 76 = .ok (.iconst 1, 1) := by decide +kernel
theorem dX6_atom1_77 : decode cX6_atom1 77 = .ok (.isub, 1) := by decide +kernel
theorem dX6_atom1_78 : decode cX6_atom1 78 = .ok (.putfield 191, 3) := by decide +kernel
theorem dX6_atom1_81 : decode cX6_atom1 81 = .ok (.aload_n 0, 1) := by decide +kernel
theorem dX6_atom1_82 : decode cX6_atom1 82 = .ok (.getfield 181, 3) := by decide +kernel
theorem dX6_atom1_85 : decode cX6_atom1 85 = .ok (.ifCond .ne 76, 3) := by decide +kernel
theorem dX6_atom1_88 : decode cX6_atom1 88 = .ok (.aload_n 0, 1) := by decide +kernel
theorem dX6_atom1_89 : decode cX6_atom1 89 = .ok (.invokevirtual 197, 3) := by decide +kernel
theorem dX6_atom1_92 : decode cX6_atom1 92 = .ok (.goto 69, 3) := by decide +kernel
theorem dX6_atom1_95 : decode cX6_atom1 95 = .ok (.aload_n 0, 1) := by decide +kernel
theorem dX6_atom1_96 : decode cX6_atom1 96 = .ok (.getfield 181, 3) := by decide +kernel
theorem dX6_atom1_99 : decode cX6_atom1 99 = .ok (.ifCond .ne 24, 3) := by decide +kernel
theorem dX6_atom1_102 : decode cX6_atom1 102 = .ok (.aload_n 0, 1) := by decide +kernel
theorem dX6_atom1_103 : decode cX6_atom1 103 = .ok (.getfield 165, 3) := by decide +kernel
theorem dX6_atom1_106 : decode cX6_atom1 106 = .ok (.iconst 2, 1) := by decide +kernel
theorem dX6_atom1_107 : decode cX6_atom1 107 = .ok (.if_icmp .ne 16, 3) := by decide +kernel
theorem dX6_atom1_110 : decode cX6_atom1 110 = .ok (.aload_n 0, 1) := by decide +kernel
theorem dX6_atom1_111 : decode cX6_atom1 111 = .ok (.getfield 176, 3) := by decide +kernel
theorem dX6_atom1_114 : decode cX6_atom1 114 = .ok (.l2i, 1) := by decide +kernel
theorem dX6_atom1_115 : decode cX6_atom1 115 = .ok (.istore_n 1, 1) := by decide +kernel
theorem dX6_atom1_116 : decode cX6_atom1 116 = .ok (.aload_n 0, 1) := by decide +kernel
theorem dX6_atom1_117 : decode cX6_atom1 117 = .ok (.invokevirtual 197, 3) := by decide +kernel
theorem dX6_atom1_120 : decode cX6_atom1 120 = .ok (.goto 41, 3) := by decide +kernel
theorem dX6_atom1_123 : decode cX6_atom1 123 = .ok (.aload_n 0, 1) := by decide +kernel
theorem dX6_atom1_124 : decode cX6_atom1 124 = .ok (.getfield 181, 3) := by decide +kernel
theorem dX6_atom1_127 : decode cX6_atom1 127 = .ok (.ifCond .ne 30, 3) := by decide +kernel
theorem dX6_atom1_130 : decode cX6_atom1 130 = .ok (.aload_n 0, 1) := by decide +kernel
theorem dX6_atom1_131 : decode cX6_atom1 131 = .ok (.getfield 165, 3) := by decide +kernel
theorem dX6_atom1_134 : decode cX6_atom1 134 = .ok (.iconst 1, 1) := by decide +kernel
theorem dX6_atom1_135 : decode cX6_atom1 135 = .ok (.if_icmp .ne 22, 3) := by decide +kernel
theorem dX6_atom1_138 : decode cX6_atom1 138 = .ok (.aload_n 0, 1) := by decide +kernel
theorem dX6_atom1_139 : decode cX6_atom1 139 = .ok (.invokevirtual 229, 3) := by decide +kernel
theorem dX6_atom1_142 : decode cX6_atom1 142 = .ok (.istore_n 1, 1) := by decide +kernel
theorem dX6_atom1_143 : decode cX6_atom1 143 = .ok (.aload_n 0, 1) := by decide +kernel
theorem dX6_atom1_144 : decode cX6_atom1 144 = .ok (.getfield 181, 3) := by decide +kernel
theorem dX6_atom1_147 : decode cX6_atom1 147 = .ok (.ifCond .ne 14, 3) := by decide +kernel
theorem dX6_atom1_150 : decode cX6_atom1 150 = .ok (.aload_n 0, 1) := by decide +kernel
theorem dX6_atom1_151 : decode cX6_atom1 151 = .ok (.invokevirtual 197, 3) := by decide +kernel
theorem dX6_atom1_154 : decode cX6_atom1 154 = .ok (.goto 7, 3) := by decide +kernel
theorem dX6_atom1_157 : decode cX6_atom1 157 = .ok (.aload_n 0, 1) := by decide +kernel
theorem dX6_atom1_158 : decode cX6_atom1 158 = .ok (.invokevirtual 194, 3) := by decide +kernel
theorem dX6_atom1_161 : decode cX6_atom1 161 = .ok (.iload_n 1, 1) := by decide +kernel
theorem dX6_atom1_162 : decode cX6_atom1 162 = .ok (.ireturn, 1) := by decide +kernel
theorem dX6_term1_0 : decode cX6_term1 0 = .ok (.aload_n 0, 1) := by decide +kernel
theorem dX6_term1_1 : decode cX6_term1 1 = .ok (.invokevirtual 309, 3) := by decide +kernel
theorem dX6_term1_4 : decode cX6_term1 4 = .ok (.istore_n 1, 1) := by decide +kernel
theorem dX6_term1_5 : decode cX6_term1 5 = .ok (.aload_n 0, 1) := by decide +kernel
theorem dX6_term1_6 : decode cX6_term1 6 = .ok (.bipush 42, 2) := by decide +kernel
theorem dX6_term1_8 : decode cX6_term1 8 = .ok (.invokevirtual 222, 3) := by decide +kernel
theorem dX6_term1_11 : decode cX6_term1 11 = .ok (.ifCond .eq 17, 3) := by decide +kernel
theorem dX6_term1_14 : decode cX6_term1 14 = .ok (.aload_n 0, 1) := by decide +kernel
theorem dX6_term1_15 : decode cX6_term1 15 = .ok (.invokevirtual 197, 3) := by decide +kernel
theorem dX6_term1_18 : decode cX6_term1 18 = .ok (.iload_n 1, 1) := by decide +kernel
theorem dX6_term1_19 : decode cX6_term1 19 = .ok (.aload_n 0, 1) := by decide +kernel
theorem dX6_term1_20 : decode cX6_term1 20 = .ok (.invokevirtual 309, 3) := by decide +kernel
theorem dX6_term1_23 : decode cX6_term1 23 = .ok (.imul, 1) := by decide +kernel
theorem dX6_term1_24 : decode cX6_term1 24 = .ok (.istore_n 1, 1) := by decide +kernel
theorem dX6_term1_25 : decode cX6_term1 25 = .ok (.goto (-20), 3) := by decide +kernel
theorem dX6_term1_28 : decode cX6_term1 28 = .ok (.iload_n 1, 1) := by decide +kernel
theorem dX6_term1_29 : decode cX6_term1 29 = .ok (.ireturn, 1) := by decide +kernel
theorem dX6_added1_0 : decode cX6_added1 0 = .ok (.aload_n 0, 1) := by decide +kernel
theorem dX6_added1_1 : decode cX6_added1 1 = .ok (.invokevirtual 312, 3) := by decide +kernel
theorem dX6_added1_4 : decode cX6_added1 4 = .ok (.istore_n 1, 1) := by decide +kernel
theorem dX6_added1_5 : decode cX6_added1 5 = .ok (.aload_n 0, 1) := by decide +kernel
theorem dX6_added1_6 : decode cX6_added1 6 = .ok (.bipush 43, 2) := by decide +kernel
theorem dX6_added1_8 : decode cX6_added1 8 = .ok (.invokevirtual 222, 3) := by decide +kernel
theorem dX6_added1_11 : decode cX6_added1 11 = .ok (.ifCond .ne 12, 3) := by decide +kernel
theorem dX6_added1_14 : decode cX6_added1 14 = .ok (.aload_n 0, 1) := by decide +kernel
theorem dX6_added1_15 : decode cX6_added1 15 = .ok (.bipush 45, 2) := by decide +kernel
theorem dX6_added1_17 : decode cX6_added1 17 = .ok (.invokevirtual 222, 3) := by decide +kernel
theorem dX6_added1_20 : decode cX6_added1 20 = .ok (.ifCond .eq 46, 3) := by decide +kernel
theorem dX6_added1_23 : decode cX6_added1 23 = .ok (.aload_n 0, 1) := by decide +kernel
theorem dX6_added1_24 : decode cX6_added1 24 = .ok (.getfield 176, 3) := by decide +kernel
theorem dX6_added1_27 : decode cX6_added1 27 = .ok (.ldc2_w 239, 3) := by decide +kernel
theorem dX6_added1_30 : decode cX6_added1 30 = .ok (.lcmp, 1) := by decide +kernel
theorem dX6_added1_31 : decode cX6_added1 31 = .ok (.ifCond .ne 7, 3) := by decide +kernel
theorem dX6_added1_34 : decode cX6_added1 34 = .ok (.iconst 1, 1) := by decide +kernel
theorem dX6_added1_35 : decode cX6_added1 35 = .ok (.goto 4, 3) := by decide +kernel
theorem dX6_added1_38 : decode cX6_added1 38 = .ok (.iconst 0, 1) := by decide +kernel
theorem dX6_added1_39 : decode cX6_added1 39 = .ok (.istore_n 2, 1) := by decide +kernel
theorem dX6_added1_40 : decode cX6_added1 40 = .ok (.aload_n 0, 1) := by decide +kernel
theorem dX6_added1_41 : decode cX6_added1 41 = .ok (.invokevirtual 197, 3) := by decide +kernel
theorem dX6_added1_44 : decode cX6_added1 44 = .ok (.aload_n 0, 1) := by decide +kernel
theorem dX6_added1_45 : decode cX6_added1 45 = .ok (.invokevirtual 312, 3) := by decide +kernel
theorem dX6_added1_48 : decode cX6_added1 48 = .ok (.istore_n 3, 1) := by decide +kernel
theorem dX6_added1_49 : decode cX6_added1 49 = .ok (.iload_n 2, 1) := by decide +kernel
theorem dX6_added1_50 : decode cX6_added1 50 = .ok (.ifCond .eq 9, 3) := by decide +kernel
theorem dX6_added1_53 : decode cX6_added1 53 = .ok (.iload_n 1, 1) := by decide +kernel
theorem dX6_added1_54 : decode cX6_added1 54 = .ok (.iload_n 3, 1) := by decide +kernel
theorem dX6_added1_55 : decode cX6_added1 55 = .ok (.iadd, 1) := by decide +kernel
theorem dX6_added1_56 : decode cX6_added1 56 = .ok (.goto 6, 3) := by decide +kernel
theorem dX6_added1_59 : decode cX6_added1 59 = .ok (.iload_n 1, 1) := by decide +kernel
theorem dX6_added1_60 : decode cX6_added1 60 = .ok (.iload_n 3, 1) := by decide +kernel
theorem dX6_added1_61 : decode cX6_added1 61 = .ok (.isub, 1) := by decide +kernel
theorem dX6_added1_62 : decode cX6_added1 62 = .ok (.istore_n 1, 1) := by decide +kernel
theorem dX6_added1_63 : decode cX6_added1 63 = .ok (.goto (-58), 3) := by decide +kernel
theorem dX6_added1_66 : decode cX6_added1 66 = .ok (.iload_n 1, 1) := by decide +kernel
theorem dX6_added1_67 : decode cX6_added1 67 = .ok (.ireturn, 1) := by decide +kernel
theorem dX6_not1_0 : decode cX6_not1 0 = .ok (.aload_n 0, 1) := by decide +kernel
theorem dX6_not1_1 : decode cX6_not1 1 = .ok (.bipush 110, 2) := by decide +kernel
theorem dX6_not1_3 : decode cX6_not1 3 = .ok (.bipush 111, 2) := by decide +kernel
theorem dX6_not1_5 : decode cX6_not1 5 = .ok (.bipush 116, 2) := by decide +kernel
theorem dX6_not1_7 : decode cX6_not1 7 = .ok (.iconst 0, 1) := by decide +kernel
theorem dX6_not1_8 : decode cX6_not1 8 = .ok (.iconst 0, 1) := by decide +kernel
theorem dX6_not1_9 : decode cX6_not1 9 = .ok (.iconst 0, 1) := by decide +kernel
theorem dX6_not1_10 : decode cX6_not1 10 = .ok (.iconst 0, 1) := by decide +kernel
theorem dX6_not1_11 : decode cX6_not1 11 = .ok (.iconst 0, 1) := by decide +kernel
theorem dX6_not1_12 : decode cX6_not1 12 = .ok (.invokevirtual 200, 3) := by decide +kernel
theorem dX6_not1_15 : decode cX6_not1 15 = .ok (.ifCond .eq 37, 3) := by decide +kernel
theorem dX6_not1_18 : decode cX6_not1 18 = .ok (.aload_n 0, 1) := by decide +kernel
theorem dX6_not1_19 : decode cX6_not1 19 = .ok (.invokevirtual 225, 3) := by decide +kernel
theorem dX6_not1_22 : decode cX6_not1 22 = .ok (.ifCond .ne 5, 3) := by decide +kernel
theorem dX6_not1_25 : decode cX6_not1 25 = .ok (.iconst 0, 1) := by decide +kernel
theorem dX6_not1_26 : decode cX6_not1 26 = .ok (.ireturn, 1) := by decide +kernel
theorem dX6_not1_27 : decode cX6_not1 27 = .ok (.aload_n 0, 1) := by decide +kernel
theorem dX6_not1_28 : decode cX6_not1 28 = .ok (.invokevirtual 300, 3) := by decide +kernel
theorem dX6_not1_31 : decode cX6_not1 31 = .ok (.istore_n 1, 1) := by decide +kernel
theorem dX6_not1_32 : decode cX6_not1 32 = .ok (.aload_n 0, 1) := by decide +kernel
theorem dX6_not1_33 : decode cX6_not1 33 = .ok (.dup, 1) := by decide +kernel
theorem dX6_not1_34 : decode cX6_not1 34 = .ok (.getfield 191, 3) := by decide +kernel
theorem dX6_not1_37 : decode cX6_not1 37 = .ok (.iconst 1, 1) := by decide +kernel
theorem dX6_not1_38 : decode cX6_not1 38 = .ok (.isub, 1) := by decide +kernel
theorem dX6_not1_39 : decode cX6_not1 39 = .ok (.putfield 191, 3) := by decide +kernel
theorem dX6_not1_42 : decode cX6_not1 42 = .ok (.iload_n 1, 1) := by decide +kernel
theorem dX6_not1_43 : decode cX6_not1 43 = .ok (.ifCond .ne 7, 3) := by decide +kernel
theorem dX6_not1_46 : decode cX6_not1 46 = .ok (.iconst 1, 1) := by decide +kernel
theorem dX6_not1_47 : decode cX6_not1 47 = .ok (.goto 4, 3) := by decide +kernel
theorem dX6_not1_50 : decode cX6_not1 50 = .ok (.iconst 0, 1) := by decide +kernel
theorem dX6_not1_51 : decode cX6_not1 51 = .ok (.ireturn, 1) := by decide +kernel
theorem dX6_not1_52 : decode cX6_not1 52 = .ok (.aload_n 0, 1) := by decide +kernel
theorem dX6_not1_53 : decode cX6_not1 53 = .ok (.invokevirtual 315, 3) := by decide +kernel
theorem dX6_not1_56 : decode cX6_not1 56 = .ok (.istore_n 1, 1) := by decide +kernel
theorem dX6_not1_57 : decode cX6_not1 57 = .ok (.aload_n 0, 1) := by decide +kernel
theorem dX6_not1_58 : decode cX6_not1 58 = .ok (.bipush 60, 2) := by decide +kernel
theorem dX6_not1_60 : decode cX6_not1 60 = .ok (.invokevirtual 222, 3) := by decide +kernel
theorem dX6_not1_63 : decode cX6_not1 63 = .ok (.ifCond .ne 14, 3) := by decide +kernel
theorem dX6_not1_66 : decode cX6_not1 66 = .ok (.aload_n 0, 1) := by decide +kernel
theorem dX6_not1_67 : decode cX6_not1 67 = .ok (.bipush 61, 2) := by decide +kernel
theorem dX6_not1_69 : decode cX6_not1 69 = .ok (.invokevirtual 222, 3) := by decide +kernel
theorem dX6_not1_72 : decode cX6_not1 72 = .ok (.ifCond .ne 5, 3) := by decide +kernel
theorem dX6_not1_75 : decode cX6_not1 75 = .ok (.iload_n 1, 1) := by decide +kernel
theorem dX6_not1_76 : decode cX6_not1 76 = .ok (.ireturn, 1) := by decide +kernel
theorem dX6_not1_77 : decode cX6_not1 77 = .ok (.aload_n 0, 1) := by decide +kernel
theorem dX6_not1_78 : decode cX6_not1 78 = .ok (.getfield 176, 3) := by decide +kernel
theorem dX6_not1_81 : decode cX6_not1 81 = .ok (.ldc2_w 244, 3) := by decide +kernel
theorem dX6_not1_84 : decode cX6_not1 84 = .ok (.lcmp, 1) := by decide +kernel
theorem dX6_not1_85 : decode cX6_not1 85 = .ok (.ifCond .ne 7, 3) := by decide +kernel
theorem dX6_not1_88 : decode cX6_not1 88 = .ok (.iconst 1, 1) := by decide +kernel
theorem dX6_not1_89 : decode cX6_not1 89 = .ok (.goto 4, 3) := by decide +kernel
theorem dX6_not1_92 : decode cX6_not1 92 = .ok (.iconst 0, 1) := by decide +kernel
theorem dX6_not1_93 : decode cX6_not1 93 = .ok (.istore_n 2, 1) := by decide +kernel
theorem dX6_not1_94 : decode cX6_not1 94 = .ok (.aload_n 0, 1) := by decide +kernel
theorem dX6_not1_95 : decode cX6_not1 95 = .ok (.invokevirtual 197, 3) := by decide +kernel
theorem dX6_not1_98 : decode cX6_not1 98 = .ok (.aload_n 0, 1) := by decide +kernel
theorem dX6_not1_99 : decode cX6_not1 99 = .ok (.invokevirtual 315, 3) := by decide +kernel
theorem dX6_not1_102 : decode cX6_not1 102 = .ok (.istore_n 3, 1) := by decide +kernel
theorem dX6_not1_103 : decode cX6_not1 103 = .ok (.iload_n 2, 1) := by decide +kernel
theorem dX6_not1_104 : decode cX6_not1 104 = .ok (.ifCond .eq 11, 3) := by decide +kernel
theorem dX6_not1_107 : decode cX6_not1 107 = .ok (.iload_n 1, 1) := by decide +kernel
theorem dX6_not1_108 : decode cX6_not1 108 = .ok (.iload_n 3, 1) := by decide +kernel
theorem dX6_not1_109 : decode cX6_not1 109 = .ok (.if_icmp .ge 15, 3) := by decide +kernel
theorem dX6_not1_112 : decode cX6_not1 112 = .ok (.goto 8, 3) := by decide +kernel
theorem dX6_not1_115 : decode cX6_not1 115 = .ok (.iload_n 1, 1) := by decide +kernel
theorem dX6_not1_116 : decode cX6_not1 116 = .ok (.iload_n 3, 1) := by decide +kernel
theorem dX6_not1_117 : decode cX6_not1 117 = .ok (.if_icmp .ne 7, 3) := by decide +kernel
theorem dX6_not1_120 : decode cX6_not1 120 = .ok (.iconst 1, 1) := by decide +kernel
theorem dX6_not1_121 : decode cX6_not1 121 = .ok (.goto 4, 3) := by decide +kernel
theorem dX6_not1_124 : decode cX6_not1 124 = .ok (.iconst 0, 1) := by decide +kernel
theorem dX6_not1_125 : decode cX6_not1 125 = .ok (.ireturn, 1) := by decide +kernel
theorem dX6_both1_0 : decode cX6_both1 0 = .ok (.aload_n 0, 1) := by decide +kernel
theorem dX6_both1_1 : decode cX6_both1 1 = .ok (.invokevirtual 318, 3) := by decide +kernel
theorem dX6_both1_4 : decode cX6_both1 4 = .ok (.istore_n 1, 1) := by decide +kernel
theorem dX6_both1_5 : decode cX6_both1 5 = .ok (.aload_n 0, 1) := by decide +kernel
theorem dX6_both1_6 : decode cX6_both1 6 = .ok (.bipush 97, 2) := by decide +kernel
theorem dX6_both1_8 : decode cX6_both1 8 = .ok (.bipush 110, 2) := by decide +kernel
theorem dX6_both1_10 : decode cX6_both1 10 = .ok (.bipush 100, 2) := by decide +kernel
theorem dX6_both1_12 : decode cX6_both1 12 = .ok (.iconst 0, 1) := by decide +kernel
theorem dX6_both1_13 : decode cX6_both1 13 = .ok (.iconst 0, 1) := by decide +kernel
theorem dX6_both1_14 : decode cX6_both1 14 = .ok (.iconst 0, 1) := by decide +kernel
theorem dX6_both1_15 : decode cX6_both1 15 = .ok (.iconst 0, 1) := by decide +kernel
theorem dX6_both1_16 : decode cX6_both1 16 = .ok (.iconst 0, 1) := by decide +kernel
theorem dX6_both1_17 : decode cX6_both1 17 = .ok (.invokevirtual 200, 3) := by decide +kernel
theorem dX6_both1_20 : decode cX6_both1 20 = .ok (.ifCond .eq 29, 3) := by decide +kernel
theorem dX6_both1_23 : decode cX6_both1 23 = .ok (.aload_n 0, 1) := by decide +kernel
theorem dX6_both1_24 : decode cX6_both1 24 = .ok (.invokevirtual 197, 3) := by decide +kernel
theorem dX6_both1_27 : decode cX6_both1 27 = .ok (.aload_n 0, 1) := by decide +kernel
theorem dX6_both1_28 : decode cX6_both1 28 = .ok (.invokevirtual 318, 3) := by decide +kernel
theorem dX6_both1_31 : decode cX6_both1 31 = .ok (.istore_n 2, 1) := by decide +kernel
theorem dX6_both1_32 : decode cX6_both1 32 = .ok (.iload_n 1, 1) := by decide +kernel
theorem dX6_both1_33 : decode cX6_both1 33 = .ok (.ifCond .eq 11, 3) := by decide +kernel
theorem dX6_both1_36 : decode cX6_both1 36 = .ok (.iload_n 2, 1) := by decide +kernel
theorem dX6_both1_37 : decode cX6_both1 37 = .ok (.ifCond .eq 7, 3) := by decide +kernel
theorem dX6_both1_40 : decode cX6_both1 40 = .ok (.iconst 1, 1) := by decide +kernel
theorem dX6_both1_41 : decode cX6_both1 41 = .ok (.goto 4, 3) := by decide +kernel
theorem dX6_both1_44 : decode cX6_both1 44 = .ok (.iconst 0, 1) := by decide +kernel
theorem dX6_both1_45 : decode cX6_both1 45 = .ok (.istore_n 1, 1) := by decide +kernel
theorem dX6_both1_46 : decode cX6_both1 46 = .ok (.goto (-41), 3) := by decide +kernel
theorem dX6_both1_49 : decode cX6_both1 49 = .ok (.iload_n 1, 1) := by decide +kernel
theorem dX6_both1_50 : decode cX6_both1 50 = .ok (.ireturn, 1) := by decide +kernel
theorem dX6_either1_0 : decode cX6_either1 0 = .ok (.aload_n 0, 1) := by decide +kernel
theorem dX6_either1_1 : decode cX6_either1 1 = .ok (.invokevirtual 321, 3) := by decide +kernel
theorem dX6_either1_4 : decode cX6_either1 4 = .ok (.istore_n 1, 1) := by decide +kernel
theorem dX6_either1_5 : decode cX6_either1 5 = .ok (.aload_n 0, 1) := by decide +kernel
theorem dX6_either1_6 : decode cX6_either1 6 = .ok (.bipush 111, 2) := by decide +kernel
theorem dX6_either1_8 : decode cX6_either1 8 = .ok (.bipush 114, 2) := by decide +kernel
theorem dX6_either1_10 : decode cX6_either1 10 = .ok (.iconst 0, 1) := by decide +kernel
theorem dX6_either1_11 : decode cX6_either1 11 = .ok (.iconst 0, 1) := by decide +kernel
theorem dX6_either1_12 : decode cX6_either1 12 = .ok (.iconst 0, 1) := by decide +kernel
theorem dX6_either1_13 : decode cX6_either1 13 = .ok (.iconst 0, 1) := by decide +kernel
theorem dX6_either1_14 : decode cX6_either1 14 = .ok (.iconst 0, 1) := by decide +kernel
theorem dX6_either1_15 : decode cX6_either1 15 = .ok (.iconst 0, 1) := by decide +kernel
theorem dX6_either1_16 : decode cX6_either1 16 = .ok (.invokevirtual 200, 3) := by decide +kernel
theorem dX6_either1_19 : decode cX6_either1 19 = .ok (.ifCond .eq 29, 3) := by decide +kernel
theorem dX6_either1_22 : decode cX6_either1 22 = .ok (.aload_n 0, 1) := by decide +kernel
theorem dX6_either1_23 : decode cX6_either1 23 = .ok (.invokevirtual 197, 3) := by decide +kernel
theorem dX6_either1_26 : decode cX6_either1 26 = .ok (.aload_n 0, 1) := by decide +kernel
theorem dX6_either1_27 : decode cX6_either1 27 = .ok (.invokevirtual 321, 3) := by decide +kernel
theorem dX6_either1_30 : decode cX6_either1 30 = .ok (.istore_n 2, 1) := by decide +kernel
theorem dX6_either1_31 : decode cX6_either1 31 = .ok (.iload_n 1, 1) := by decide +kernel
theorem dX6_either1_32 : decode cX6_either1 32 = .ok (.ifCond .ne 7, 3) := by decide +kernel
theorem dX6_either1_35 : decode cX6_either1 35 = .ok (.iload_n 2, 1) := by decide +kernel
theorem dX6_either1_36 : decode cX6_either1 36 = .ok (.ifCond .eq 7, 3) := by decide +kernel
theorem dX6_either1_39 : decode cX6_either1 39 = .ok (.iconst 1, 1) := by decide +kernel
theorem dX6_either1_40 : decode cX6_either1 40 = .ok (.goto 4, 3) := by decide +kernel
theorem dX6_either1_43 : decode cX6_either1 43 = .ok (.iconst 0, 1) := by decide +kernel
theorem dX6_either1_44 : decode cX6_either1 44 = .ok (.istore_n 1, 1) := by decide +kernel
theorem dX6_either1_45 : decode cX6_either1 45 = .ok (.goto (-40), 3) := by decide +kernel
theorem dX6_either1_48 : decode cX6_either1 48 = .ok (.iload_n 1, 1) := by decide +kernel
theorem dX6_either1_49 : decode cX6_either1 49 = .ok (.ireturn, 1) := by decide +kernel
theorem dX6_atom0_0 : decode cX6_atom0 0 = .ok (.iconst 0, 1) := by decide +kernel
theorem dX6_atom0_1 : decode cX6_atom0 1 = .ok (.istore_n 1, 1) := by decide +kernel
theorem dX6_atom0_2 : decode cX6_atom0 2 = .ok (.aload_n 0, 1) := by decide +kernel
theorem dX6_atom0_3 : decode cX6_atom0 3 = .ok (.bipush 45, 2) := by decide +kernel
theorem dX6_atom0_5 : decode cX6_atom0 5 = .ok (.invokevirtual 222, 3) := by decide +kernel
theorem dX6_atom0_8 : decode cX6_atom0 8 = .ok (.ifCond .eq 29, 3) := by decide +kernel
theorem dX6_atom0_11 : decode cX6_atom0 11 = .ok (.aload_n 0, 1) := by decide +kernel
theorem dX6_atom0_12 : decode cX6_atom0 12 = .ok (.invokevirtual 225, 3) := by decide +kernel
theorem dX6_atom0_15 : decode cX6_atom0 15 = .ok (.ifCond .eq 146, 3) := by decide +kernel
theorem dX6_atom0_18 : decode cX6_atom0 18 = .ok (.aload_n 0, 1) := by decide +kernel
theorem dX6_atom0_19 : decode cX6_atom0 19 = .ok (.invokevirtual 309, 3) := by decide +kernel
theorem dX6_atom0_22 : decode cX6_atom0 22 = .ok (.ineg, 1) := by decide +kernel
theorem dX6_atom0_23 : decode cX6_atom0 23 = .ok (.istore_n 1, 1) := by decide +kernel
theorem dX6_atom0_24 : decode cX6_atom0 24 = .ok (.aload_n 0, 1) := by decide +kernel
theorem dX6_atom0_25 : decode cX6_atom0 25 = .ok (.dup, 1) := by decide +kernel
theorem dX6_atom0_26 : decode cX6_atom0 26 = .ok (.getfield 191, 3) := by decide +kernel
theorem dX6_atom0_29 : decode cX6_atom0 29 = .ok (.iconst 1, 1) := by decide +kernel
theorem dX6_atom0_30 : decode cX6_atom0 30 = .ok (.isub, 1) := by decide +kernel
theorem dX6_atom0_31 : decode cX6_atom0 31 = .ok (.putfield 191, 3) := by decide +kernel
theorem dX6_atom0_34 : decode cX6_atom0 34 = .ok (.goto 127, 3) := by decide +kernel
theorem dX6_atom0_37 : decode cX6_atom0 37 = .ok (.aload_n 0, 1) := by decide +kernel
theorem dX6_atom0_38 : decode cX6_atom0 38 = .ok (.bipush 40, 2) := by decide +kernel
theorem dX6_atom0_40 : decode cX6_atom0 40 = .ok (.invokevirtual 222, 3) := by decide +kernel
theorem dX6_atom0_43 : decode cX6_atom0 43 = .ok (.ifCond .eq 52, 3) := by decide +kernel
theorem dX6_atom0_46 : decode cX6_atom0 46 = .ok (.aload_n 0, 1) := by decide +kernel
theorem dX6_atom0_47 : decode cX6_atom0 47 = .ok (.invokevirtual 225, 3) := by decide +kernel
theorem dX6_atom0_50 : decode cX6_atom0 50 = .ok (.ifCond .eq 111, 3) := by decide +kernel
theorem dX6_atom0_53 : decode cX6_atom0 53 = .ok (.aload_n 0, 1) := by decide +kernel
theorem dX6_atom0_54 : decode cX6_atom0 54 = .ok (.invokevirtual 324, 3) := by decide +kernel
theorem dX6_atom0_57 : decode cX6_atom0 57 = .ok (.istore_n 1, 1) := by decide +kernel
