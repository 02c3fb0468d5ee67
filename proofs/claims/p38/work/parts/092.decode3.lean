theorem dL_plates_225 : decode cL_plates 225 = .ok (.isub, 1) := by decide +kernel
theorem dL_plates_226 : decode cL_plates 226 = .ok (.aload 6, 2) := by decide +kernel
theorem dL_plates_228 : decode cL_plates 228 = .ok (.iconst 0, 1) := by decide +kernel
theorem dL_plates_229 : decode cL_plates 229 = .ok (.iaload, 1) := by decide +kernel
theorem dL_plates_230 : decode cL_plates 230 = .ok (.iconst 1, 1) := by decide +kernel
theorem dL_plates_231 : decode cL_plates 231 = .ok (.isub, 1) := by decide +kernel
theorem dL_plates_232 : decode cL_plates 232 = .ok (.invokevirtual 99, 3) := by decide +kernel
theorem dL_plates_235 : decode cL_plates 235 = .ok (.iconst (-1), 1) := by decide +kernel
theorem dL_plates_236 : decode cL_plates 236 = .ok (.if_icmp .ne 7, 3) := by decide +kernel
theorem dL_plates_239 : decode cL_plates 239 = .ok (.iconst 1, 1) := by decide +kernel
theorem dL_plates_240 : decode cL_plates 240 = .ok (.goto 4, 3) := by decide +kernel
theorem dL_plates_243 : decode cL_plates 243 = .ok (.iconst 0, 1) := by decide +kernel
theorem dL_plates_244 : decode cL_plates 244 = .ok (.ireturn, 1) := by decide +kernel
theorem dL_plates_245 : decode cL_plates 245 = .ok (.aload 6, 2) := by decide +kernel
theorem dL_plates_247 : decode cL_plates 247 = .ok (.iconst 2, 1) := by decide +kernel
theorem dL_plates_248 : decode cL_plates 248 = .ok (.iaload, 1) := by decide +kernel
theorem dL_plates_249 : decode cL_plates 249 = .ok (.ifCond .ne 5, 3) := by decide +kernel
theorem dL_plates_252 : decode cL_plates 252 = .ok (.iconst 1, 1) := by decide +kernel
theorem dL_plates_253 : decode cL_plates 253 = .ok (.ireturn, 1) := by decide +kernel
theorem dL_plates_254 : decode cL_plates 254 = .ok (.iload_n 2, 1) := by decide +kernel
theorem dL_plates_255 : decode cL_plates 255 = .ok (.aload 6, 2) := by decide +kernel
theorem dL_plates_257 : decode cL_plates 257 = .ok (.iconst 2, 1) := by decide +kernel
theorem dL_plates_258 : decode cL_plates 258 = .ok (.iaload, 1) := by decide +kernel
theorem dL_plates_259 : decode cL_plates 259 = .ok (.irem, 1) := by decide +kernel
theorem dL_plates_260 : decode cL_plates 260 = .ok (.istore 7, 2) := by decide +kernel
theorem dL_plates_262 : decode cL_plates 262 = .ok (.aload_n 0, 1) := by decide +kernel
theorem dL_plates_263 : decode cL_plates 263 = .ok (.iload 7, 2) := by decide +kernel
theorem dL_plates_265 : decode cL_plates 265 = .ok (.aload 6, 2) := by decide +kernel
theorem dL_plates_267 : decode cL_plates 267 = .ok (.iconst 0, 1) := by decide +kernel
theorem dL_plates_268 : decode cL_plates 268 = .ok (.iaload, 1) := by decide +kernel
theorem dL_plates_269 : decode cL_plates 269 = .ok (.invokevirtual 99, 3) := by decide +kernel
theorem dL_plates_272 : decode cL_plates 272 = .ok (.istore 8, 2) := by decide +kernel
theorem dL_plates_274 : decode cL_plates 274 = .ok (.aload 6, 2) := by decide +kernel
theorem dL_plates_276 : decode cL_plates 276 = .ok (.iconst 0, 1) := by decide +kernel
theorem dL_plates_277 : decode cL_plates 277 = .ok (.iaload, 1) := by decide +kernel
theorem dL_plates_278 : decode cL_plates 278 = .ok (.ifCond .ne 7, 3) := by decide +kernel
theorem dL_plates_281 : decode cL_plates 281 = .ok (.iconst (-1), 1) := by decide +kernel
theorem dL_plates_282 : decode cL_plates 282 = .ok (.goto 15, 3) := by decide +kernel
theorem dL_plates_285 : decode cL_plates 285 = .ok (.aload_n 0, 1) := by decide +kernel
theorem dL_plates_286 : decode cL_plates 286 = .ok (.iload 7, 2) := by decide +kernel
theorem dL_plates_288 : decode cL_plates 288 = .ok (.aload 6, 2) := by decide +kernel
theorem dL_plates_290 : decode cL_plates 290 = .ok (.iconst 0, 1) := by decide +kernel
theorem dL_plates_291 : decode cL_plates 291 = .ok (.iaload, 1) := by decide +kernel
theorem dL_plates_292 : decode cL_plates 292 = .ok (.iconst 1, 1) := by decide +kernel
theorem dL_plates_293 : decode cL_plates 293 = .ok (.isub, 1) := by decide +kernel
theorem dL_plates_294 : decode cL_plates 294 = .ok (.invokevirtual 99, 3) := by decide +kernel
theorem dL_plates_297 : decode cL_plates 297 = .ok (.istore 9, 2) := by decide +kernel
theorem dL_plates_299 : decode cL_plates 299 = .ok (.aload_n 0, 1) := by decide +kernel
theorem dL_plates_300 : decode cL_plates 300 = .ok (.iload 7, 2) := by decide +kernel
theorem dL_plates_302 : decode cL_plates 302 = .ok (.iload_n 3, 1) := by decide +kernel
theorem dL_plates_303 : decode cL_plates 303 = .ok (.bipush 6, 2) := by decide +kernel
theorem dL_plates_305 : decode cL_plates 305 = .ok (.irem, 1) := by decide +kernel
theorem dL_plates_306 : decode cL_plates 306 = .ok (.invokevirtual 126, 3) := by decide +kernel
theorem dL_plates_309 : decode cL_plates 309 = .ok (.iload 8, 2) := by decide +kernel
theorem dL_plates_311 : decode cL_plates 311 = .ok (.if_icmp .ne 48, 3) := by decide +kernel
theorem dL_plates_314 : decode cL_plates 314 = .ok (.aload_n 0, 1) := by decide +kernel
theorem dL_plates_315 : decode cL_plates 315 = .ok (.iload 7, 2) := by decide +kernel
theorem dL_plates_317 : decode cL_plates 317 = .ok (.aload 6, 2) := by decide +kernel
theorem dL_plates_319 : decode cL_plates 319 = .ok (.iconst 0, 1) := by decide +kernel
theorem dL_plates_320 : decode cL_plates 320 = .ok (.iaload, 1) := by decide +kernel
theorem dL_plates_321 : decode cL_plates 321 = .ok (.invokevirtual 99, 3) := by decide +kernel
theorem dL_plates_324 : decode cL_plates 324 = .ok (.iload_n 3, 1) := by decide +kernel
theorem dL_plates_325 : decode cL_plates 325 = .ok (.bipush 6, 2) := by decide +kernel
theorem dL_plates_327 : decode cL_plates 327 = .ok (.irem, 1) := by decide +kernel
theorem dL_plates_328 : decode cL_plates 328 = .ok (.if_icmp .ne 31, 3) := by decide +kernel
theorem dL_plates_331 : decode cL_plates 331 = .ok (.aload 6, 2) := by decide +kernel
theorem dL_plates_333 : decode cL_plates 333 = .ok (.iconst 0, 1) := by decide +kernel
theorem dL_plates_334 : decode cL_plates 334 = .ok (.iaload, 1) := by decide +kernel
theorem dL_plates_335 : decode cL_plates 335 = .ok (.ifCond .eq 20, 3) := by decide +kernel
theorem dL_plates_338 : decode cL_plates 338 = .ok (.aload_n 0, 1) := by decide +kernel
theorem dL_plates_339 : decode cL_plates 339 = .ok (.iload 7, 2) := by decide +kernel
theorem dL_plates_341 : decode cL_plates 341 = .ok (.aload 6, 2) := by decide +kernel
theorem dL_plates_343 : decode cL_plates 343 = .ok (.iconst 0, 1) := by decide +kernel
theorem dL_plates_344 : decode cL_plates 344 = .ok (.iaload, 1) := by decide +kernel
theorem dL_plates_345 : decode cL_plates 345 = .ok (.iconst 1, 1) := by decide +kernel
theorem dL_plates_346 : decode cL_plates 346 = .ok (.isub, 1) := by decide +kernel
theorem dL_plates_347 : decode cL_plates 347 = .ok (.invokevirtual 99, 3) := by decide +kernel
theorem dL_plates_350 : decode cL_plates 350 = .ok (.iload 9, 2) := by decide +kernel
theorem dL_plates_352 : decode cL_plates 352 = .ok (.if_icmp .ne 7, 3) := by decide +kernel
theorem dL_plates_355 : decode cL_plates 355 = .ok (.iconst 1, 1) := by decide +kernel
theorem dL_plates_356 : decode cL_plates 356 = .ok (.goto 4, 3) := by decide +kernel
theorem dL_plates_359 : decode cL_plates 359 = .ok (.iconst 0, 1) := by decide +kernel
theorem dL_plates_360 : decode cL_plates 360 = .ok (.ireturn, 1) := by decide +kernel
theorem dL_readings_0 : decode cL_readings 0 = .ok (.iload_n 1, 1) := by decide +kernel
theorem dL_readings_1 : decode cL_readings 1 = .ok (.iconst 3, 1) := by decide +kernel
theorem dL_readings_2 : decode cL_readings 2 = .ok (.if_icmp .ge 162, 3) := by decide +kernel
theorem dL_readings_5 : decode cL_readings 5 = .ok (.iload_n 3, 1) := by decide +kernel
theorem dL_readings_6 : decode cL_readings 6 = .ok (.bipush 6, 2) := by decide +kernel
theorem dL_readings_8 : decode cL_readings 8 = .ok (.irem, 1) := by decide +kernel
theorem dL_readings_9 : decode cL_readings 9 = .ok (.ifCond .ne 17, 3) := by decide +kernel
theorem dL_readings_12 : decode cL_readings 12 = .ok (.iload_n 3, 1) := by decide +kernel
theorem dL_readings_13 : decode cL_readings 13 = .ok (.bipush 6, 2) := by decide +kernel
theorem dL_readings_15 : decode cL_readings 15 = .ok (.idiv, 1) := by decide +kernel
theorem dL_readings_16 : decode cL_readings 16 = .ok (.aload 7, 2) := by decide +kernel
theorem dL_readings_18 : decode cL_readings 18 = .ok (.iconst 0, 1) := by decide +kernel
theorem dL_readings_19 : decode cL_readings 19 = .ok (.iaload, 1) := by decide +kernel
theorem dL_readings_20 : decode cL_readings 20 = .ok (.iconst 1, 1) := by decide +kernel
theorem dL_readings_21 : decode cL_readings 21 = .ok (.iadd, 1) := by decide +kernel
theorem dL_readings_22 : decode cL_readings 22 = .ok (.irem, 1) := by decide +kernel
theorem dL_readings_23 : decode cL_readings 23 = .ok (.goto 37, 3) := by decide +kernel
theorem dL_readings_26 : decode cL_readings 26 = .ok (.aload 7, 2) := by decide +kernel
theorem dL_readings_28 : decode cL_readings 28 = .ok (.iconst 0, 1) := by decide +kernel
theorem dL_readings_29 : decode cL_readings 29 = .ok (.iaload, 1) := by decide +kernel
theorem dL_readings_30 : decode cL_readings 30 = .ok (.iload_n 3, 1) := by decide +kernel
theorem dL_readings_31 : decode cL_readings 31 = .ok (.bipush 6, 2) := by decide +kernel
theorem dL_readings_33 : decode cL_readings 33 = .ok (.idiv, 1) := by decide +kernel
theorem dL_readings_34 : decode cL_readings 34 = .ok (.bipush 60, 2) := by decide +kernel
theorem dL_readings_36 : decode cL_readings 36 = .ok (.irem, 1) := by decide +kernel
theorem dL_readings_37 : decode cL_readings 37 = .ok (.isub, 1) := by decide +kernel
theorem dL_readings_38 : decode cL_readings 38 = .ok (.ifCond .ge 10, 3) := by decide +kernel
theorem dL_readings_41 : decode cL_readings 41 = .ok (.aload 7, 2) := by decide +kernel
theorem dL_readings_43 : decode cL_readings 43 = .ok (.iconst 0, 1) := by decide +kernel
theorem dL_readings_44 : decode cL_readings 44 = .ok (.iaload, 1) := by decide +kernel
theorem dL_readings_45 : decode cL_readings 45 = .ok (.goto 15, 3) := by decide +kernel
theorem dL_readings_48 : decode cL_readings 48 = .ok (.aload 7, 2) := by decide +kernel
theorem dL_readings_50 : decode cL_readings 50 = .ok (.iconst 0, 1) := by decide +kernel
theorem dL_readings_51 : decode cL_readings 51 = .ok (.iaload, 1) := by decide +kernel
theorem dL_readings_52 : decode cL_readings 52 = .ok (.iload_n 3, 1) := by decide +kernel
theorem dL_readings_53 : decode cL_readings 53 = .ok (.bipush 6, 2) := by decide +kernel
theorem dL_readings_55 : decode cL_readings 55 = .ok (.idiv, 1) := by decide +kernel
theorem dL_readings_56 : decode cL_readings 56 = .ok (.bipush 60, 2) := by decide +kernel
theorem dL_readings_58 : decode cL_readings 58 = .ok (.irem, 1) := by decide +kernel
theorem dL_readings_59 : decode cL_readings 59 = .ok (.isub, 1) := by decide +kernel
theorem dL_readings_60 : decode cL_readings 60 = .ok (.istore 8, 2) := by decide +kernel
theorem dL_readings_62 : decode cL_readings 62 = .ok (.aload 4, 2) := by decide +kernel
theorem dL_readings_64 : decode cL_readings 64 = .ok (.iconst 0, 1) := by decide +kernel
theorem dL_readings_65 : decode cL_readings 65 = .ok (.iaload, 1) := by decide +kernel
theorem dL_readings_66 : decode cL_readings 66 = .ok (.invokestatic 47, 3) := by decide +kernel
theorem dL_readings_69 : decode cL_readings 69 = .ok (.ifCond .le 16, 3) := by decide +kernel
theorem dL_readings_72 : decode cL_readings 72 = .ok (.aload 7, 2) := by decide +kernel
theorem dL_readings_74 : decode cL_readings 74 = .ok (.iconst 3, 1) := by decide +kernel
theorem dL_readings_75 : decode cL_readings 75 = .ok (.iaload, 1) := by decide +kernel
theorem dL_readings_76 : decode cL_readings 76 = .ok (.bipush 60, 2) := by decide +kernel
theorem dL_readings_78 : decode cL_readings 78 = .ok (.if_icmp .ge 7, 3) := by decide +kernel
theorem dL_readings_81 : decode cL_readings 81 = .ok (.iconst 1, 1) := by decide +kernel
theorem dL_readings_82 : decode cL_readings 82 = .ok (.goto 4, 3) := by decide +kernel
theorem dL_readings_85 : decode cL_readings 85 = .ok (.iconst 0, 1) := by decide +kernel
theorem dL_readings_86 : decode cL_readings 86 = .ok (.istore 9, 2) := by decide +kernel
theorem dL_readings_88 : decode cL_readings 88 = .ok (.iload 9, 2) := by decide +kernel
theorem dL_readings_90 : decode cL_readings 90 = .ok (.ifCond .eq 38, 3) := by decide +kernel
theorem dL_readings_93 : decode cL_readings 93 = .ok (.aload 6, 2) := by decide +kernel
theorem dL_readings_95 : decode cL_readings 95 = .ok (.aload 7, 2) := by decide +kernel
theorem dL_readings_97 : decode cL_readings 97 = .ok (.iconst 3, 1) := by decide +kernel
theorem dL_readings_98 : decode cL_readings 98 = .ok (.iaload, 1) := by decide +kernel
theorem dL_readings_99 : decode cL_readings 99 = .ok (.iload_n 2, 1) := by decide +kernel
theorem dL_readings_100 : decode cL_readings 100 = .ok (.bipush 8, 2) := by decide +kernel
theorem dL_readings_102 : decode cL_readings 102 = .ok (.irem, 1) := by decide +kernel
theorem dL_readings_103 : decode cL_readings 103 = .ok (.iload 8, 2) := by decide +kernel
theorem dL_readings_105 : decode cL_readings 105 = .ok (.iconst 3, 1) := by decide +kernel
theorem dL_readings_106 : decode cL_readings 106 = .ok (.ishl, 1) := by decide +kernel
theorem dL_readings_107 : decode cL_readings 107 = .ok (.ior, 1) := by decide +kernel
theorem dL_readings_108 : decode cL_readings 108 = .ok (.iastore, 1) := by decide +kernel
theorem dL_readings_109 : decode cL_readings 109 = .ok (.aload 5, 2) := by decide +kernel
theorem dL_readings_111 : decode cL_readings 111 = .ok (.aload 7, 2) := by decide +kernel
theorem dL_readings_113 : decode cL_readings 113 = .ok (.iconst 3, 1) := by decide +kernel
theorem dL_readings_114 : decode cL_readings 114 = .ok (.iaload, 1) := by decide +kernel
theorem dL_readings_115 : decode cL_readings 115 = .ok (.aload 4, 2) := by decide +kernel
theorem dL_readings_117 : decode cL_readings 117 = .ok (.iconst 0, 1) := by decide +kernel
theorem dL_readings_118 : decode cL_readings 118 = .ok (.iaload, 1) := by decide +kernel
theorem dL_readings_119 : decode cL_readings 119 = .ok (.iastore, 1) := by decide +kernel
theorem dL_readings_120 : decode cL_readings 120 = .ok (.aload 7, 2) := by decide +kernel
theorem dL_readings_122 : decode cL_readings 122 = .ok (.iconst 3, 1) := by decide +kernel
theorem dL_readings_123 : decode cL_readings 123 = .ok (.dup2, 1) := by decide +kernel
theorem dL_readings_124 : decode cL_readings 124 = .ok (.iaload, 1) := by decide +kernel
theorem dL_readings_125 : decode cL_readings 125 = .ok (.iconst 1, 1) := by decide +kernel
theorem dL_readings_126 : decode cL_readings 126 = .ok (.iadd, 1) := by decide +kernel
theorem dL_readings_127 : decode cL_readings 127 = .ok (.iastore, 1) := by decide +kernel
theorem dL_readings_128 : decode cL_readings 128 = .ok (.aload_n 0, 1) := by decide +kernel
theorem dL_readings_129 : decode cL_readings 129 = .ok (.iconst 2, 1) := by decide +kernel
theorem dL_readings_130 : decode cL_readings 130 = .ok (.iload_n 2, 1) := by decide +kernel
theorem dL_readings_131 : decode cL_readings 131 = .ok (.bipush 8, 2) := by decide +kernel
theorem dL_readings_133 : decode cL_readings 133 = .ok (.irem, 1) := by decide +kernel
theorem dL_readings_134 : decode cL_readings 134 = .ok (.iload 8, 2) := by decide +kernel
theorem dL_readings_136 : decode cL_readings 136 = .ok (.invokestatic 89, 3) := by decide +kernel
theorem dL_readings_139 : decode cL_readings 139 = .ok (.iload 9, 2) := by decide +kernel
theorem dL_readings_141 : decode cL_readings 141 = .ok (.ifCond .eq 12, 3) := by decide +kernel
theorem dL_readings_144 : decode cL_readings 144 = .ok (.aload 7, 2) := by decide +kernel
theorem dL_readings_146 : decode cL_readings 146 = .ok (.iconst 3, 1) := by decide +kernel
theorem dL_readings_147 : decode cL_readings 147 = .ok (.iaload, 1) := by decide +kernel
theorem dL_readings_148 : decode cL_readings 148 = .ok (.iconst 1, 1) := by decide +kernel
theorem dL_readings_149 : decode cL_readings 149 = .ok (.isub, 1) := by decide +kernel
theorem dL_readings_150 : decode cL_readings 150 = .ok (.goto 5, 3) := by decide +kernel
theorem dL_readings_153 : decode cL_readings 153 = .ok (.bipush (-108), 2) := by decide +kernel
theorem dL_readings_155 : decode cL_readings 155 = .ok (.if_icmp .ne 7, 3) := by decide +kernel
theorem dL_readings_158 : decode cL_readings 158 = .ok (.iconst 1, 1) := by decide +kernel
theorem dL_readings_159 : decode cL_readings 159 = .ok (.goto 4, 3) := by decide +kernel
theorem dL_readings_162 : decode cL_readings 162 = .ok (.iconst 0, 1) := by decide +kernel
theorem dL_readings_163 : decode cL_readings 163 = .ok (.ireturn, 1) := by decide +kernel
theorem dL_readings_164 : decode cL_readings 164 = .ok (.aload 7, 2) := by decide +kernel
theorem dL_readings_166 : decode cL_readings 166 = .ok (.iconst 3, 1) := by decide +kernel
theorem dL_readings_167 : decode cL_readings 167 = .ok (.iaload, 1) := by decide +kernel
theorem dL_readings_168 : decode cL_readings 168 = .ok (.ifCond .ne 5, 3) := by decide +kernel
theorem dL_readings_171 : decode cL_readings 171 = .ok (.iconst 1, 1) := by decide +kernel
theorem dL_readings_172 : decode cL_readings 172 = .ok (.ireturn, 1) := by decide +kernel
theorem dL_readings_173 : decode cL_readings 173 = .ok (.iload_n 2, 1) := by decide +kernel
theorem dL_readings_174 : decode cL_readings 174 = .ok (.aload 7, 2) := by decide +kernel
theorem dL_readings_176 : decode cL_readings 176 = .ok (.iconst 3, 1) := by decide +kernel
theorem dL_readings_177 : decode cL_readings 177 = .ok (.iaload, 1) := by decide +kernel
theorem dL_readings_178 : decode cL_readings 178 = .ok (.irem, 1) := by decide +kernel
theorem dL_readings_179 : decode cL_readings 179 = .ok (.istore 8, 2) := by decide +kernel
theorem dL_readings_181 : decode cL_readings 181 = .ok (.aload 6, 2) := by decide +kernel
theorem dL_readings_183 : decode cL_readings 183 = .ok (.iload 8, 2) := by decide +kernel
theorem dL_readings_185 : decode cL_readings 185 = .ok (.iaload, 1) := by decide +kernel
theorem dL_readings_186 : decode cL_readings 186 = .ok (.bipush 19, 2) := by decide +kernel
theorem dL_readings_188 : decode cL_readings 188 = .ok (.iconst 1, 1) := by decide +kernel
theorem dL_readings_189 : decode cL_readings 189 = .ok (.invokestatic 10, 3) := by decide +kernel
theorem dL_readings_192 : decode cL_readings 192 = .ok (.iconst 1, 1) := by decide +kernel
theorem dL_readings_193 : decode cL_readings 193 = .ok (.if_icmp .ne 7, 3) := by decide +kernel
theorem dL_readings_196 : decode cL_readings 196 = .ok (.iconst 1, 1) := by decide +kernel
theorem dL_readings_197 : decode cL_readings 197 = .ok (.goto 4, 3) := by decide +kernel
theorem dL_readings_200 : decode cL_readings 200 = .ok (.iconst 0, 1) := by decide +kernel
theorem dL_readings_201 : decode cL_readings 201 = .ok (.istore 9, 2) := by decide +kernel
theorem dL_readings_203 : decode cL_readings 203 = .ok (.iload_n 1, 1) := by decide +kernel
theorem dL_readings_204 : decode cL_readings 204 = .ok (.iconst 3, 1) := by decide +kernel
theorem dL_readings_205 : decode cL_readings 205 = .ok (.if_icmp .ne 77, 3) := by decide +kernel
theorem dL_readings_208 : decode cL_readings 208 = .ok (.iload_n 3, 1) := by decide +kernel
theorem dL_readings_209 : decode cL_readings 209 = .ok (.aload 7, 2) := by decide +kernel
theorem dL_readings_211 : decode cL_readings 211 = .ok (.iconst 2, 1) := by decide +kernel
theorem dL_readings_212 : decode cL_readings 212 = .ok (.iaload, 1) := by decide +kernel
theorem dL_readings_213 : decode cL_readings 213 = .ok (.iconst 1, 1) := by decide +kernel
theorem dL_readings_214 : decode cL_readings 214 = .ok (.iadd, 1) := by decide +kernel
theorem dL_readings_215 : decode cL_readings 215 = .ok (.irem, 1) := by decide +kernel
theorem dL_readings_216 : decode cL_readings 216 = .ok (.iconst 1, 1) := by decide +kernel
theorem dL_readings_217 : decode cL_readings 217 = .ok (.isub, 1) := by decide +kernel
theorem dL_readings_218 : decode cL_readings 218 = .ok (.istore 10, 2) := by decide +kernel
theorem dL_readings_220 : decode cL_readings 220 = .ok (.aload_n 0, 1) := by decide +kernel
theorem dL_readings_221 : decode cL_readings 221 = .ok (.iload 8, 2) := by decide +kernel
theorem dL_readings_223 : decode cL_readings 223 = .ok (.invokevirtual 76, 3) := by decide +kernel
theorem dL_readings_226 : decode cL_readings 226 = .ok (.istore 11, 2) := by decide +kernel
theorem dL_readings_228 : decode cL_readings 228 = .ok (.aload 6, 2) := by decide +kernel
theorem dL_readings_230 : decode cL_readings 230 = .ok (.iload 8, 2) := by decide +kernel
theorem dL_readings_232 : decode cL_readings 232 = .ok (.aload 6, 2) := by decide +kernel
theorem dL_readings_234 : decode cL_readings 234 = .ok (.iload 8, 2) := by decide +kernel
theorem dL_readings_236 : decode cL_readings 236 = .ok (.iaload, 1) := by decide +kernel
theorem dL_readings_237 : decode cL_readings 237 = .ok (.ldc 129, 2) := by decide +kernel
theorem dL_readings_239 : decode cL_readings 239 = .ok (.iand, 1) := by decide +kernel
theorem dL_readings_240 : decode cL_readings 240 = .ok (.ldc 130, 2) := by decide +kernel
theorem dL_readings_242 : decode cL_readings 242 = .ok (.ior, 1) := by decide +kernel
theorem dL_readings_243 : decode cL_readings 243 = .ok (.iload 10, 2) := by decide +kernel
theorem dL_readings_245 : decode cL_readings 245 = .ok (.iconst 1, 1) := by decide +kernel
theorem dL_readings_246 : decode cL_readings 246 = .ok (.iadd, 1) := by decide +kernel
theorem dL_readings_247 : decode cL_readings 247 = .ok (.bipush 20, 2) := by decide +kernel
theorem dL_readings_249 : decode cL_readings 249 = .ok (.ishl, 1) := by decide +kernel
theorem dL_readings_250 : decode cL_readings 250 = .ok (.ior, 1) := by decide +kernel
theorem dL_readings_251 : decode cL_readings 251 = .ok (.iastore, 1) := by decide +kernel
theorem dL_readings_252 : decode cL_readings 252 = .ok (.aload_n 0, 1) := by decide +kernel
theorem dL_readings_253 : decode cL_readings 253 = .ok (.iload 8, 2) := by decide +kernel
theorem dL_readings_255 : decode cL_readings 255 = .ok (.iload 10, 2) := by decide +kernel
theorem dL_readings_257 : decode cL_readings 257 = .ok (.invokevirtual 131, 3) := by decide +kernel
theorem dL_readings_260 : decode cL_readings 260 = .ok (.iload 11, 2) := by decide +kernel
theorem dL_readings_262 : decode cL_readings 262 = .ok (.if_icmp .ne 18, 3) := by decide +kernel
theorem dL_readings_265 : decode cL_readings 265 = .ok (.aload_n 0, 1) := by decide +kernel
theorem dL_readings_266 : decode cL_readings 266 = .ok (.iload 8, 2) := by decide +kernel
theorem dL_readings_268 : decode cL_readings 268 = .ok (.invokevirtual 76, 3) := by decide +kernel
theorem dL_readings_271 : decode cL_readings 271 = .ok (.iload 10, 2) := by decide +kernel
theorem dL_readings_273 : decode cL_readings 273 = .ok (.if_icmp .ne 7, 3) := by decide +kernel
theorem dL_readings_276 : decode cL_readings 276 = .ok (.iconst 1, 1) := by decide +kernel
theorem dL_readings_277 : decode cL_readings 277 = .ok (.goto 4, 3) := by decide +kernel
theorem dL_readings_280 : decode cL_readings 280 = .ok (.iconst 0, 1) := by decide +kernel
theorem dL_readings_281 : decode cL_readings 281 = .ok (.ireturn, 1) := by decide +kernel
theorem dL_readings_282 : decode cL_readings 282 = .ok (.aload 6, 2) := by decide +kernel
theorem dL_readings_284 : decode cL_readings 284 = .ok (.iload 8, 2) := by decide +kernel
theorem dL_readings_286 : decode cL_readings 286 = .ok (.dup2, 1) := by decide +kernel
theorem dL_readings_287 : decode cL_readings 287 = .ok (.iaload, 1) := by decide +kernel
theorem dL_readings_288 : decode cL_readings 288 = .ok (.ldc 129, 2) := by decide +kernel
theorem dL_readings_290 : decode cL_readings 290 = .ok (.iand, 1) := by decide +kernel
theorem dL_readings_291 : decode cL_readings 291 = .ok (.iastore, 1) := by decide +kernel
theorem dL_readings_292 : decode cL_readings 292 = .ok (.aload_n 0, 1) := by decide +kernel
theorem dL_readings_293 : decode cL_readings 293 = .ok (.iconst 3, 1) := by decide +kernel
theorem dL_readings_294 : decode cL_readings 294 = .ok (.iload 8, 2) := by decide +kernel
theorem dL_readings_296 : decode cL_readings 296 = .ok (.iconst 0, 1) := by decide +kernel
theorem dL_readings_297 : decode cL_readings 297 = .ok (.invokestatic 89, 3) := by decide +kernel
theorem dL_readings_300 : decode cL_readings 300 = .ok (.istore 10, 2) := by decide +kernel
theorem dL_readings_302 : decode cL_readings 302 = .ok (.iload 9, 2) := by decide +kernel
theorem dL_readings_304 : decode cL_readings 304 = .ok (.ifCond .eq 22, 3) := by decide +kernel
theorem dL_readings_307 : decode cL_readings 307 = .ok (.iload 10, 2) := by decide +kernel
theorem dL_readings_309 : decode cL_readings 309 = .ok (.aload_n 0, 1) := by decide +kernel
theorem dL_readings_310 : decode cL_readings 310 = .ok (.iload 8, 2) := by decide +kernel
theorem dL_readings_312 : decode cL_readings 312 = .ok (.invokevirtual 76, 3) := by decide +kernel
theorem dL_readings_315 : decode cL_readings 315 = .ok (.if_icmp .ne 7, 3) := by decide +kernel
theorem dL_readings_318 : decode cL_readings 318 = .ok (.iconst 1, 1) := by decide +kernel
theorem dL_readings_319 : decode cL_readings 319 = .ok (.goto 19, 3) := by decide +kernel
theorem dL_readings_322 : decode cL_readings 322 = .ok (.iconst 0, 1) := by decide +kernel
theorem dL_readings_323 : decode cL_readings 323 = .ok (.goto 15, 3) := by decide +kernel
theorem dL_readings_326 : decode cL_readings 326 = .ok (.iload 10, 2) := by decide +kernel
theorem dL_readings_328 : decode cL_readings 328 = .ok (.bipush (-108), 2) := by decide +kernel
theorem dL_readings_330 : decode cL_readings 330 = .ok (.if_icmp .ne 7, 3) := by decide +kernel
theorem dL_readings_333 : decode cL_readings 333 = .ok (.iconst 1, 1) := by decide +kernel
theorem dL_readings_334 : decode cL_readings 334 = .ok (.goto 4, 3) := by decide +kernel
theorem dL_readings_337 : decode cL_readings 337 = .ok (.iconst 0, 1) := by decide +kernel
theorem dL_readings_338 : decode cL_readings 338 = .ok (.ireturn, 1) := by decide +kernel
theorem dL_step_0 : decode cL_step 0 = .ok (.iload_n 1, 1) := by decide +kernel
theorem dL_step_1 : decode cL_step 1 = .ok (.iconst 5, 1) := by decide +kernel
theorem dL_step_2 : decode cL_step 2 = .ok (.if_icmp .ge 48, 3) := by decide +kernel
theorem dL_step_5 : decode cL_step 5 = .ok (.aload_n 0, 1) := by decide +kernel
theorem dL_step_6 : decode cL_step 6 = .ok (.iload_n 1, 1) := by decide +kernel
theorem dL_step_7 : decode cL_step 7 = .ok (.iconst 3, 1) := by decide +kernel
theorem dL_step_8 : decode cL_step 8 = .ok (.if_icmp .ge 7, 3) := by decide +kernel
theorem dL_step_11 : decode cL_step 11 = .ok (.iconst 0, 1) := by decide +kernel
theorem dL_step_12 : decode cL_step 12 = .ok (.goto 30, 3) := by decide +kernel
theorem dL_step_15 : decode cL_step 15 = .ok (.iload_n 1, 1) := by decide +kernel
theorem dL_step_16 : decode cL_step 16 = .ok (.iconst 3, 1) := by decide +kernel
theorem dL_step_17 : decode cL_step 17 = .ok (.if_icmp .ne 14, 3) := by decide +kernel
theorem dL_step_20 : decode cL_step 20 = .ok (.iconst 1, 1) := by decide +kernel
theorem dL_step_21 : decode cL_step 21 = .ok (.iload_n 3, 1) := by decide +kernel
theorem dL_step_22 : decode cL_step 22 = .ok (.bipush 7, 2) := by decide +kernel
theorem dL_step_24 : decode cL_step 24 = .ok (.idiv, 1) := by decide +kernel
theorem dL_step_25 : decode cL_step 25 = .ok (.iconst 2, 1) := by decide +kernel
theorem dL_step_26 : decode cL_step 26 = .ok (.irem, 1) := by decide +kernel
theorem dL_step_27 : decode cL_step 27 = .ok (.iadd, 1) := by decide +kernel
theorem dL_step_28 : decode cL_step 28 = .ok (.goto 14, 3) := by decide +kernel
theorem dL_step_31 : decode cL_step 31 = .ok (.iload_n 3, 1) := by decide +kernel
theorem dL_step_32 : decode cL_step 32 = .ok (.iconst 2, 1) := by decide +kernel
theorem dL_step_33 : decode cL_step 33 = .ok (.irem, 1) := by decide +kernel
theorem dL_step_34 : decode cL_step 34 = .ok (.ifCond .ne 7, 3) := by decide +kernel
theorem dL_step_37 : decode cL_step 37 = .ok (.iconst 3, 1) := by decide +kernel
theorem dL_step_38 : decode cL_step 38 = .ok (.goto 4, 3) := by decide +kernel
theorem dL_step_41 : decode cL_step 41 = .ok (.iconst 0, 1) := by decide +kernel
theorem dL_step_42 : decode cL_step 42 = .ok (.iload_n 2, 1) := by decide +kernel
theorem dL_step_43 : decode cL_step 43 = .ok (.iload_n 3, 1) := by decide +kernel
theorem dL_step_44 : decode cL_step 44 = .ok (.aload 4, 2) := by decide +kernel
theorem dL_step_46 : decode cL_step 46 = .ok (.invokestatic 134, 3) := by decide +kernel
theorem dL_step_49 : decode cL_step 49 = .ok (.ireturn, 1) := by decide +kernel
theorem dL_step_50 : decode cL_step 50 = .ok (.iload_n 1, 1) := by decide +kernel
theorem dL_step_51 : decode cL_step 51 = .ok (.bipush 8, 2) := by decide +kernel
theorem dL_step_53 : decode cL_step 53 = .ok (.if_icmp .ge 27, 3) := by decide +kernel
theorem dL_step_56 : decode cL_step 56 = .ok (.aload_n 0, 1) := by decide +kernel
theorem dL_step_57 : decode cL_step 57 = .ok (.iload_n 1, 1) := by decide +kernel
theorem dL_step_58 : decode cL_step 58 = .ok (.bipush 7, 2) := by decide +kernel
theorem dL_step_60 : decode cL_step 60 = .ok (.if_icmp .ge 7, 3) := by decide +kernel
theorem dL_step_63 : decode cL_step 63 = .ok (.iconst 0, 1) := by decide +kernel
theorem dL_step_64 : decode cL_step 64 = .ok (.goto 4, 3) := by decide +kernel
theorem dL_step_67 : decode cL_step 67 = .ok (.iconst 1, 1) := by decide +kernel
theorem dL_step_68 : decode cL_step 68 = .ok (.iload_n 2, 1) := by decide +kernel
theorem dL_step_69 : decode cL_step 69 = .ok (.iload_n 3, 1) := by decide +kernel
theorem dL_step_70 : decode cL_step 70 = .ok (.aload 4, 2) := by decide +kernel
theorem dL_step_72 : decode cL_step 72 = .ok (.aload 7, 2) := by decide +kernel
theorem dL_step_74 : decode cL_step 74 = .ok (.aload 9, 2) := by decide +kernel
theorem dL_step_76 : decode cL_step 76 = .ok (.invokestatic 138, 3) := by decide +kernel
theorem dL_step_79 : decode cL_step 79 = .ok (.ireturn, 1) := by decide +kernel
theorem dL_step_80 : decode cL_step 80 = .ok (.iload_n 1, 1) := by decide +kernel
theorem dL_step_81 : decode cL_step 81 = .ok (.bipush 15, 2) := by decide +kernel
theorem dL_step_83 : decode cL_step 83 = .ok (.if_icmp .ge 32, 3) := by decide +kernel
theorem dL_step_86 : decode cL_step 86 = .ok (.aload_n 0, 1) := by decide +kernel
theorem dL_step_87 : decode cL_step 87 = .ok (.iload_n 1, 1) := by decide +kernel
theorem dL_step_88 : decode cL_step 88 = .ok (.bipush 13, 2) := by decide +kernel
theorem dL_step_90 : decode cL_step 90 = .ok (.if_icmp .ge 7, 3) := by decide +kernel
theorem dL_step_93 : decode cL_step 93 = .ok (.iconst 0, 1) := by decide +kernel
theorem dL_step_94 : decode cL_step 94 = .ok (.goto 7, 3) := by decide +kernel
theorem dL_step_97 : decode cL_step 97 = .ok (.iload_n 1, 1) := by decide +kernel
theorem dL_step_98 : decode cL_step 98 = .ok (.bipush 10, 2) := by decide +kernel
theorem dL_step_100 : decode cL_step 100 = .ok (.isub, 1) := by decide +kernel
theorem dL_step_101 : decode cL_step 101 = .ok (.iload_n 2, 1) := by decide +kernel
theorem dL_step_102 : decode cL_step 102 = .ok (.iload_n 3, 1) := by decide +kernel
theorem dL_step_103 : decode cL_step 103 = .ok (.aload 4, 2) := by decide +kernel
theorem dL_step_105 : decode cL_step 105 = .ok (.aload 5, 2) := by decide +kernel
theorem dL_step_107 : decode cL_step 107 = .ok (.aload 6, 2) := by decide +kernel
theorem dL_step_109 : decode cL_step 109 = .ok (.aload 9, 2) := by decide +kernel
theorem dL_step_111 : decode cL_step 111 = .ok (.invokestatic 141, 3) := by decide +kernel
theorem dL_step_114 : decode cL_step 114 = .ok (.ireturn, 1) := by decide +kernel
theorem dL_step_115 : decode cL_step 115 = .ok (.iload_n 1, 1) := by decide +kernel
theorem dL_step_116 : decode cL_step 116 = .ok (.bipush 18, 2) := by decide +kernel
theorem dL_step_118 : decode cL_step 118 = .ok (.if_icmp .ge 122, 3) := by decide +kernel
theorem dL_step_121 : decode cL_step 121 = .ok (.iload_n 2, 1) := by decide +kernel
theorem dL_step_122 : decode cL_step 122 = .ok (.bipush 8, 2) := by decide +kernel
theorem dL_step_124 : decode cL_step 124 = .ok (.irem, 1) := by decide +kernel
theorem dL_step_125 : decode cL_step 125 = .ok (.istore 12, 2) := by decide +kernel
theorem dL_step_127 : decode cL_step 127 = .ok (.iload 12, 2) := by decide +kernel
theorem dL_step_129 : decode cL_step 129 = .ok (.iconst 1, 1) := by decide +kernel
theorem dL_step_130 : decode cL_step 130 = .ok (.iadd, 1) := by decide +kernel
theorem dL_step_131 : decode cL_step 131 = .ok (.iload_n 2, 1) := by decide +kernel
theorem dL_step_132 : decode cL_step 132 = .ok (.bipush 8, 2) := by decide +kernel
theorem dL_step_134 : decode cL_step 134 = .ok (.idiv, 1) := by decide +kernel
theorem dL_step_135 : decode cL_step 135 = .ok (.bipush 7, 2) := by decide +kernel
theorem dL_step_137 : decode cL_step 137 = .ok (.irem, 1) := by decide +kernel
theorem dL_step_138 : decode cL_step 138 = .ok (.iadd, 1) := by decide +kernel
theorem dL_step_139 : decode cL_step 139 = .ok (.bipush 8, 2) := by decide +kernel
theorem dL_step_141 : decode cL_step 141 = .ok (.irem, 1) := by decide +kernel
theorem dL_step_142 : decode cL_step 142 = .ok (.istore 13, 2) := by decide +kernel
theorem dL_step_144 : decode cL_step 144 = .ok (.iload_n 3, 1) := by decide +kernel
theorem dL_step_145 : decode cL_step 145 = .ok (.bipush 6, 2) := by decide +kernel
theorem dL_step_147 : decode cL_step 147 = .ok (.irem, 1) := by decide +kernel
theorem dL_step_148 : decode cL_step 148 = .ok (.ifCond .ne 7, 3) := by decide +kernel
theorem dL_step_151 : decode cL_step 151 = .ok (.iconst 0, 1) := by decide +kernel
theorem dL_step_152 : decode cL_step 152 = .ok (.goto 26, 3) := by decide +kernel
theorem dL_step_155 : decode cL_step 155 = .ok (.iconst 1, 1) := by decide +kernel
theorem dL_step_156 : decode cL_step 156 = .ok (.iload_n 3, 1) := by decide +kernel
theorem dL_step_157 : decode cL_step 157 = .ok (.bipush 6, 2) := by decide +kernel
theorem dL_step_159 : decode cL_step 159 = .ok (.idiv, 1) := by decide +kernel
theorem dL_step_160 : decode cL_step 160 = .ok (.iload_n 3, 1) := by decide +kernel
theorem dL_step_161 : decode cL_step 161 = .ok (.bipush 6, 2) := by decide +kernel
theorem dL_step_163 : decode cL_step 163 = .ok (.irem, 1) := by decide +kernel
theorem dL_step_164 : decode cL_step 164 = .ok (.iconst 1, 1) := by decide +kernel
theorem dL_step_165 : decode cL_step 165 = .ok (.if_icmp .ne 9, 3) := by decide +kernel
theorem dL_step_168 : decode cL_step 168 = .ok (.sipush 200, 3) := by decide +kernel
theorem dL_step_171 : decode cL_step 171 = .ok (.goto 5, 3) := by decide +kernel
theorem dL_step_174 : decode cL_step 174 = .ok (.bipush 20, 2) := by decide +kernel
theorem dL_step_176 : decode cL_step 176 = .ok (.irem, 1) := by decide +kernel
theorem dL_step_177 : decode cL_step 177 = .ok (.iadd, 1) := by decide +kernel
theorem dL_step_178 : decode cL_step 178 = .ok (.istore 14, 2) := by decide +kernel
theorem dL_step_180 : decode cL_step 180 = .ok (.aload 10, 2) := by decide +kernel
theorem dL_step_182 : decode cL_step 182 = .ok (.bipush 8, 2) := by decide +kernel
theorem dL_step_184 : decode cL_step 184 = .ok (.iload 12, 2) := by decide +kernel
theorem dL_step_186 : decode cL_step 186 = .ok (.imul, 1) := by decide +kernel
theorem dL_step_187 : decode cL_step 187 = .ok (.iload 13, 2) := by decide +kernel
theorem dL_step_189 : decode cL_step 189 = .ok (.iadd, 1) := by decide +kernel
theorem dL_step_190 : decode cL_step 190 = .ok (.iaload, 1) := by decide +kernel
theorem dL_step_191 : decode cL_step 191 = .ok (.istore 15, 2) := by decide +kernel
theorem dL_step_193 : decode cL_step 193 = .ok (.aload 10, 2) := by decide +kernel
theorem dL_step_195 : decode cL_step 195 = .ok (.bipush 8, 2) := by decide +kernel
theorem dL_step_197 : decode cL_step 197 = .ok (.iload 12, 2) := by decide +kernel
theorem dL_step_199 : decode cL_step 199 = .ok (.imul, 1) := by decide +kernel
theorem dL_step_200 : decode cL_step 200 = .ok (.iload 13, 2) := by decide +kernel
theorem dL_step_202 : decode cL_step 202 = .ok (.iadd, 1) := by decide +kernel
theorem dL_step_203 : decode cL_step 203 = .ok (.iload 14, 2) := by decide +kernel
theorem dL_step_205 : decode cL_step 205 = .ok (.iastore, 1) := by decide +kernel
theorem dL_step_206 : decode cL_step 206 = .ok (.aload 10, 2) := by decide +kernel
theorem dL_step_208 : decode cL_step 208 = .ok (.bipush 8, 2) := by decide +kernel
theorem dL_step_210 : decode cL_step 210 = .ok (.iload 13, 2) := by decide +kernel
theorem dL_step_212 : decode cL_step 212 = .ok (.imul, 1) := by decide +kernel
theorem dL_step_213 : decode cL_step 213 = .ok (.iload 12, 2) := by decide +kernel
theorem dL_step_215 : decode cL_step 215 = .ok (.iadd, 1) := by decide +kernel
theorem dL_step_216 : decode cL_step 216 = .ok (.iload 14, 2) := by decide +kernel
theorem dL_step_218 : decode cL_step 218 = .ok (.iastore, 1) := by decide +kernel
theorem dL_step_219 : decode cL_step 219 = .ok (.aload_n 0, 1) := by decide +kernel
theorem dL_step_220 : decode cL_step 220 = .ok (.iload 12, 2) := by decide +kernel
theorem dL_step_222 : decode cL_step 222 = .ok (.iload 13, 2) := by decide +kernel
theorem dL_step_224 : decode cL_step 224 = .ok (.iload 14, 2) := by decide +kernel
theorem dL_step_226 : decode cL_step 226 = .ok (.invokevirtual 145, 3) := by decide +kernel
theorem dL_step_229 : decode cL_step 229 = .ok (.iload 15, 2) := by decide +kernel
theorem dL_step_231 : decode cL_step 231 = .ok (.if_icmp .ne 7, 3) := by decide +kernel
theorem dL_step_234 : decode cL_step 234 = .ok (.iconst 1, 1) := by decide +kernel
theorem dL_step_235 : decode cL_step 235 = .ok (.goto 4, 3) := by decide +kernel
theorem dL_step_238 : decode cL_step 238 = .ok (.iconst 0, 1) := by decide +kernel
theorem dL_step_239 : decode cL_step 239 = .ok (.ireturn, 1) := by decide +kernel
theorem dL_step_240 : decode cL_step 240 = .ok (.iload_n 1, 1) := by decide +kernel
theorem dL_step_241 : decode cL_step 241 = .ok (.bipush 20, 2) := by decide +kernel
theorem dL_step_243 : decode cL_step 243 = .ok (.if_icmp .ge 95, 3) := by decide +kernel
theorem dL_step_246 : decode cL_step 246 = .ok (.iconst 1, 1) := by decide +kernel
theorem dL_step_247 : decode cL_step 247 = .ok (.iload_n 3, 1) := by decide +kernel
theorem dL_step_248 : decode cL_step 248 = .ok (.iload_n 3, 1) := by decide +kernel
theorem dL_step_249 : decode cL_step 249 = .ok (.iconst 5, 1) := by decide +kernel
theorem dL_step_250 : decode cL_step 250 = .ok (.irem, 1) := by decide +kernel
theorem dL_step_251 : decode cL_step 251 = .ok (.ifCond .ne 9, 3) := by decide +kernel
theorem dL_step_254 : decode cL_step 254 = .ok (.sipush 2000, 3) := by decide +kernel
theorem dL_step_257 : decode cL_step 257 = .ok (.goto 5, 3) := by decide +kernel
theorem dL_step_260 : decode cL_step 260 = .ok (.bipush 40, 2) := by decide +kernel
theorem dL_step_262 : decode cL_step 262 = .ok (.irem, 1) := by decide +kernel
theorem dL_step_263 : decode cL_step 263 = .ok (.iadd, 1) := by decide +kernel
theorem dL_step_264 : decode cL_step 264 = .ok (.istore 12, 2) := by decide +kernel
theorem dL_step_266 : decode cL_step 266 = .ok (.aload 9, 2) := by decide +kernel
theorem dL_step_268 : decode cL_step 268 = .ok (.iconst 0, 1) := by decide +kernel
theorem dL_step_269 : decode cL_step 269 = .ok (.iaload, 1) := by decide +kernel
theorem dL_step_270 : decode cL_step 270 = .ok (.iload 12, 2) := by decide +kernel
theorem dL_step_272 : decode cL_step 272 = .ok (.iadd, 1) := by decide +kernel
theorem dL_step_273 : decode cL_step 273 = .ok (.ldc 148, 2) := by decide +kernel
theorem dL_step_275 : decode cL_step 275 = .ok (.if_icmp .gt 7, 3) := by decide +kernel
theorem dL_step_278 : decode cL_step 278 = .ok (.iconst 1, 1) := by decide +kernel
theorem dL_step_279 : decode cL_step 279 = .ok (.goto 4, 3) := by decide +kernel
theorem dL_step_282 : decode cL_step 282 = .ok (.iconst 0, 1) := by decide +kernel
theorem dL_step_283 : decode cL_step 283 = .ok (.istore 13, 2) := by decide +kernel
theorem dL_step_285 : decode cL_step 285 = .ok (.aload 9, 2) := by decide +kernel
theorem dL_step_287 : decode cL_step 287 = .ok (.iconst 0, 1) := by decide +kernel
theorem dL_step_288 : decode cL_step 288 = .ok (.dup2, 1) := by decide +kernel
theorem dL_step_289 : decode cL_step 289 = .ok (.iaload, 1) := by decide +kernel
theorem dL_step_290 : decode cL_step 290 = .ok (.iload 13, 2) := by decide +kernel
theorem dL_step_292 : decode cL_step 292 = .ok (.ifCond .eq 8, 3) := by decide +kernel
theorem dL_step_295 : decode cL_step 295 = .ok (.iload 12, 2) := by decide +kernel
theorem dL_step_297 : decode cL_step 297 = .ok (.goto 4, 3) := by decide +kernel
theorem dL_step_300 : decode cL_step 300 = .ok (.iconst 0, 1) := by decide +kernel
theorem dL_step_301 : decode cL_step 301 = .ok (.iadd, 1) := by decide +kernel
theorem dL_step_302 : decode cL_step 302 = .ok (.iastore, 1) := by decide +kernel
theorem dL_step_303 : decode cL_step 303 = .ok (.iload 13, 2) := by decide +kernel
theorem dL_step_305 : decode cL_step 305 = .ok (.ifCond .eq 27, 3) := by decide +kernel
theorem dL_step_308 : decode cL_step 308 = .ok (.aload_n 0, 1) := by decide +kernel
theorem dL_step_309 : decode cL_step 309 = .ok (.iload 12, 2) := by decide +kernel
theorem dL_step_311 : decode cL_step 311 = .ok (.invokevirtual 149, 3) := by decide +kernel
theorem dL_step_314 : decode cL_step 314 = .ok (.aload 9, 2) := by decide +kernel
theorem dL_step_316 : decode cL_step 316 = .ok (.iconst 0, 1) := by decide +kernel
theorem dL_step_317 : decode cL_step 317 = .ok (.iaload, 1) := by decide +kernel
theorem dL_step_318 : decode cL_step 318 = .ok (.if_icmp .ne 18, 3) := by decide +kernel
theorem dL_step_321 : decode cL_step 321 = .ok (.aload_n 0, 1) := by decide +kernel
theorem dL_step_322 : decode cL_step 322 = .ok (.invokevirtual 152, 3) := by decide +kernel
theorem dL_step_325 : decode cL_step 325 = .ok (.aload 9, 2) := by decide +kernel
theorem dL_step_327 : decode cL_step 327 = .ok (.iconst 0, 1) := by decide +kernel
theorem dL_step_328 : decode cL_step 328 = .ok (.iaload, 1) := by decide +kernel
theorem dL_step_329 : decode cL_step 329 = .ok (.if_icmp .ne 7, 3) := by decide +kernel
theorem dL_step_332 : decode cL_step 332 = .ok (.iconst 1, 1) := by decide +kernel
theorem dL_step_333 : decode cL_step 333 = .ok (.goto 4, 3) := by decide +kernel
theorem dL_step_336 : decode cL_step 336 = .ok (.iconst 0, 1) := by decide +kernel
theorem dL_step_337 : decode cL_step 337 = .ok (.ireturn, 1) := by decide +kernel
theorem dL_step_338 : decode cL_step 338 = .ok (.iload_n 1, 1) := by decide +kernel
theorem dL_step_339 : decode cL_step 339 = .ok (.bipush 20, 2) := by decide +kernel
theorem dL_step_341 : decode cL_step 341 = .ok (.if_icmp .ne 83, 3) := by decide +kernel
theorem dL_step_344 : decode cL_step 344 = .ok (.iload_n 2, 1) := by decide +kernel
theorem dL_step_345 : decode cL_step 345 = .ok (.bipush 14, 2) := by decide +kernel
theorem dL_step_347 : decode cL_step 347 = .ok (.irem, 1) := by decide +kernel
theorem dL_step_348 : decode cL_step 348 = .ok (.istore 12, 2) := by decide +kernel
theorem dL_step_350 : decode cL_step 350 = .ok (.iload 12, 2) := by decide +kernel
theorem dL_step_352 : decode cL_step 352 = .ok (.iconst 1, 1) := by decide +kernel
theorem dL_step_353 : decode cL_step 353 = .ok (.iadd, 1) := by decide +kernel
theorem dL_step_354 : decode cL_step 354 = .ok (.iload_n 3, 1) := by decide +kernel
theorem dL_step_355 : decode cL_step 355 = .ok (.bipush 13, 2) := by decide +kernel
theorem dL_step_357 : decode cL_step 357 = .ok (.irem, 1) := by decide +kernel
theorem dL_step_358 : decode cL_step 358 = .ok (.iadd, 1) := by decide +kernel
theorem dL_step_359 : decode cL_step 359 = .ok (.bipush 14, 2) := by decide +kernel
theorem dL_step_361 : decode cL_step 361 = .ok (.irem, 1) := by decide +kernel
theorem dL_step_362 : decode cL_step 362 = .ok (.istore 13, 2) := by decide +kernel
theorem dL_step_364 : decode cL_step 364 = .ok (.aload 8, 2) := by decide +kernel
theorem dL_step_366 : decode cL_step 366 = .ok (.iload 12, 2) := by decide +kernel
theorem dL_step_368 : decode cL_step 368 = .ok (.dup2, 1) := by decide +kernel
theorem dL_step_369 : decode cL_step 369 = .ok (.iaload, 1) := by decide +kernel
theorem dL_step_370 : decode cL_step 370 = .ok (.iconst 1, 1) := by decide +kernel
theorem dL_step_371 : decode cL_step 371 = .ok (.iload 13, 2) := by decide +kernel
theorem dL_step_373 : decode cL_step 373 = .ok (.ishl, 1) := by decide +kernel
theorem dL_step_374 : decode cL_step 374 = .ok (.ixor, 1) := by decide +kernel
theorem dL_step_375 : decode cL_step 375 = .ok (.iastore, 1) := by decide +kernel
theorem dL_step_376 : decode cL_step 376 = .ok (.aload 8, 2) := by decide +kernel
theorem dL_step_378 : decode cL_step 378 = .ok (.iload 13, 2) := by decide +kernel
theorem dL_step_380 : decode cL_step 380 = .ok (.dup2, 1) := by decide +kernel
theorem dL_step_381 : decode cL_step 381 = .ok (.iaload, 1) := by decide +kernel
theorem dL_step_382 : decode cL_step 382 = .ok (.iconst 1, 1) := by decide +kernel
theorem dL_step_383 : decode cL_step 383 = .ok (.iload 12, 2) := by decide +kernel
theorem dL_step_385 : decode cL_step 385 = .ok (.ishl, 1) := by decide +kernel
theorem dL_step_386 : decode cL_step 386 = .ok (.ixor, 1) := by decide +kernel
theorem dL_step_387 : decode cL_step 387 = .ok (.iastore, 1) := by decide +kernel
theorem dL_step_388 : decode cL_step 388 = .ok (.aload_n 0, 1) := by decide +kernel
theorem dL_step_389 : decode cL_step 389 = .ok (.iload 12, 2) := by decide +kernel
theorem dL_step_391 : decode cL_step 391 = .ok (.iload 13, 2) := by decide +kernel
theorem dL_step_393 : decode cL_step 393 = .ok (.invokevirtual 155, 3) := by decide +kernel
theorem dL_step_396 : decode cL_step 396 = .ok (.aload 8, 2) := by decide +kernel
theorem dL_step_398 : decode cL_step 398 = .ok (.iload 12, 2) := by decide +kernel
theorem dL_step_400 : decode cL_step 400 = .ok (.iaload, 1) := by decide +kernel
theorem dL_step_401 : decode cL_step 401 = .ok (.iload 13, 2) := by decide +kernel
theorem dL_step_403 : decode cL_step 403 = .ok (.ishr, 1) := by decide +kernel
theorem dL_step_404 : decode cL_step 404 = .ok (.iconst 1, 1) := by decide +kernel
theorem dL_step_405 : decode cL_step 405 = .ok (.iand, 1) := by decide +kernel
theorem dL_step_406 : decode cL_step 406 = .ok (.iconst 1, 1) := by decide +kernel
theorem dL_step_407 : decode cL_step 407 = .ok (.if_icmp .ne 7, 3) := by decide +kernel
theorem dL_step_410 : decode cL_step 410 = .ok (.iconst 1, 1) := by decide +kernel
theorem dL_step_411 : decode cL_step 411 = .ok (.goto 4, 3) := by decide +kernel
theorem dL_step_414 : decode cL_step 414 = .ok (.iconst 0, 1) := by decide +kernel
theorem dL_step_415 : decode cL_step 415 = .ok (.if_icmp .ne 7, 3) := by decide +kernel
theorem dL_step_418 : decode cL_step 418 = .ok (.iconst 1, 1) := by decide +kernel
theorem dL_step_419 : decode cL_step 419 = .ok (.goto 4, 3) := by decide +kernel
theorem dL_step_422 : decode cL_step 422 = .ok (.iconst 0, 1) := by decide +kernel
theorem dL_step_423 : decode cL_step 423 = .ok (.ireturn, 1) := by decide +kernel
theorem dL_step_424 : decode cL_step 424 = .ok (.iload_n 1, 1) := by decide +kernel
theorem dL_step_425 : decode cL_step 425 = .ok (.bipush 21, 2) := by decide +kernel
theorem dL_step_427 : decode cL_step 427 = .ok (.if_icmp .ne 36, 3) := by decide +kernel
theorem dL_step_430 : decode cL_step 430 = .ok (.aload 9, 2) := by decide +kernel
theorem dL_step_432 : decode cL_step 432 = .ok (.iconst 1, 1) := by decide +kernel
theorem dL_step_433 : decode cL_step 433 = .ok (.iaload, 1) := by decide +kernel
theorem dL_step_434 : decode cL_step 434 = .ok (.istore 12, 2) := by decide +kernel
theorem dL_step_436 : decode cL_step 436 = .ok (.aload 9, 2) := by decide +kernel
theorem dL_step_438 : decode cL_step 438 = .ok (.iconst 1, 1) := by decide +kernel
theorem dL_step_439 : decode cL_step 439 = .ok (.iload_n 3, 1) := by decide +kernel
theorem dL_step_440 : decode cL_step 440 = .ok (.bipush 60, 2) := by decide +kernel
theorem dL_step_442 : decode cL_step 442 = .ok (.irem, 1) := by decide +kernel
theorem dL_step_443 : decode cL_step 443 = .ok (.iastore, 1) := by decide +kernel
theorem dL_step_444 : decode cL_step 444 = .ok (.aload_n 0, 1) := by decide +kernel
theorem dL_step_445 : decode cL_step 445 = .ok (.aload 9, 2) := by decide +kernel
theorem dL_step_447 : decode cL_step 447 = .ok (.iconst 1, 1) := by decide +kernel
theorem dL_step_448 : decode cL_step 448 = .ok (.iaload, 1) := by decide +kernel
theorem dL_step_449 : decode cL_step 449 = .ok (.invokevirtual 158, 3) := by decide +kernel
theorem dL_step_452 : decode cL_step 452 = .ok (.iload 12, 2) := by decide +kernel
theorem dL_step_454 : decode cL_step 454 = .ok (.if_icmp .ne 7, 3) := by decide +kernel
theorem dL_step_457 : decode cL_step 457 = .ok (.iconst 1, 1) := by decide +kernel
theorem dL_step_458 : decode cL_step 458 = .ok (.goto 4, 3) := by decide +kernel
theorem dL_step_461 : decode cL_step 461 = .ok (.iconst 0, 1) := by decide +kernel
theorem dL_step_462 : decode cL_step 462 = .ok (.ireturn, 1) := by decide +kernel
theorem dL_step_463 : decode cL_step 463 = .ok (.aload 11, 2) := by decide +kernel
theorem dL_step_465 : decode cL_step 465 = .ok (.iload_n 2, 1) := by decide +kernel
theorem dL_step_466 : decode cL_step 466 = .ok (.iconst 4, 1) := by decide +kernel
theorem dL_step_467 : decode cL_step 467 = .ok (.irem, 1) := by decide +kernel
theorem dL_step_468 : decode cL_step 468 = .ok (.iaload, 1) := by decide +kernel
theorem dL_step_469 : decode cL_step 469 = .ok (.istore 12, 2) := by decide +kernel
theorem dL_step_471 : decode cL_step 471 = .ok (.aload 11, 2) := by decide +kernel
theorem dL_step_473 : decode cL_step 473 = .ok (.iload_n 2, 1) := by decide +kernel
theorem dL_step_474 : decode cL_step 474 = .ok (.iconst 4, 1) := by decide +kernel
theorem dL_step_475 : decode cL_step 475 = .ok (.irem, 1) := by decide +kernel
theorem dL_step_476 : decode cL_step 476 = .ok (.iload_n 3, 1) := by decide +kernel
theorem dL_step_477 : decode cL_step 477 = .ok (.bipush 51, 2) := by decide +kernel
theorem dL_step_479 : decode cL_step 479 = .ok (.irem, 1) := by decide +kernel
theorem dL_step_480 : decode cL_step 480 = .ok (.iastore, 1) := by decide +kernel
theorem dL_step_481 : decode cL_step 481 = .ok (.aload_n 0, 1) := by decide +kernel
theorem dL_step_482 : decode cL_step 482 = .ok (.iload_n 2, 1) := by decide +kernel
theorem dL_step_483 : decode cL_step 483 = .ok (.iconst 4, 1) := by decide +kernel
theorem dL_step_484 : decode cL_step 484 = .ok (.irem, 1) := by decide +kernel
theorem dL_step_485 : decode cL_step 485 = .ok (.aload 11, 2) := by decide +kernel
theorem dL_step_487 : decode cL_step 487 = .ok (.iload_n 2, 1) := by decide +kernel
theorem dL_step_488 : decode cL_step 488 = .ok (.iconst 4, 1) := by decide +kernel
theorem dL_step_489 : decode cL_step 489 = .ok (.irem, 1) := by decide +kernel
theorem dL_step_490 : decode cL_step 490 = .ok (.iaload, 1) := by decide +kernel
theorem dL_step_491 : decode cL_step 491 = .ok (.invokevirtual 161, 3) := by decide +kernel
theorem dL_step_494 : decode cL_step 494 = .ok (.iload 12, 2) := by decide +kernel
theorem dL_step_496 : decode cL_step 496 = .ok (.if_icmp .ne 7, 3) := by decide +kernel
theorem dL_step_499 : decode cL_step 499 = .ok (.iconst 1, 1) := by decide +kernel
theorem dL_step_500 : decode cL_step 500 = .ok (.goto 4, 3) := by decide +kernel
theorem dL_step_503 : decode cL_step 503 = .ok (.iconst 0, 1) := by decide +kernel
theorem dL_step_504 : decode cL_step 504 = .ok (.ireturn, 1) := by decide +kernel
theorem dL_keeper_0 : decode cL_keeper 0 = .ok (.new 17, 3) := by decide +kernel
theorem dL_keeper_3 : decode cL_keeper 3 = .ok (.dup, 1) := by decide +kernel
theorem dL_keeper_4 : decode cL_keeper 4 = .ok (.invokespecial 164, 3) := by decide +kernel
theorem dL_keeper_7 : decode cL_keeper 7 = .ok (.astore_n 2, 1) := by decide +kernel
theorem dL_keeper_8 : decode cL_keeper 8 = .ok (.bipush 11, 2) := by decide +kernel
theorem dL_keeper_10 : decode cL_keeper 10 = .ok (.newarray .int, 2) := by decide +kernel
theorem dL_keeper_12 : decode cL_keeper 12 = .ok (.astore_n 3, 1) := by decide +kernel
theorem dL_keeper_13 : decode cL_keeper 13 = .ok (.bipush 60, 2) := by decide +kernel
theorem dL_keeper_15 : decode cL_keeper 15 = .ok (.newarray .int, 2) := by decide +kernel
theorem dL_keeper_17 : decode cL_keeper 17 = .ok (.astore 4, 2) := by decide +kernel
theorem dL_keeper_19 : decode cL_keeper 19 = .ok (.bipush 60, 2) := by decide +kernel
theorem dL_keeper_21 : decode cL_keeper 21 = .ok (.newarray .int, 2) := by decide +kernel
theorem dL_keeper_23 : decode cL_keeper 23 = .ok (.astore 5, 2) := by decide +kernel
theorem dL_keeper_25 : decode cL_keeper 25 = .ok (.bipush 10, 2) := by decide +kernel
theorem dL_keeper_27 : decode cL_keeper 27 = .ok (.newarray .int, 2) := by decide +kernel
theorem dL_keeper_29 : decode cL_keeper 29 = .ok (.astore 6, 2) := by decide +kernel
theorem dL_keeper_31 : decode cL_keeper 31 = .ok (.bipush 15, 2) := by decide +kernel
theorem dL_keeper_33 : decode cL_keeper 33 = .ok (.newarray .int, 2) := by decide +kernel
theorem dL_keeper_35 : decode cL_keeper 35 = .ok (.astore 7, 2) := by decide +kernel
theorem dL_keeper_37 : decode cL_keeper 37 = .ok (.iconst 4, 1) := by decide +kernel
theorem dL_keeper_38 : decode cL_keeper 38 = .ok (.newarray .int, 2) := by decide +kernel
theorem dL_keeper_40 : decode cL_keeper 40 = .ok (.astore 8, 2) := by decide +kernel
theorem dL_keeper_42 : decode cL_keeper 42 = .ok (.bipush 64, 2) := by decide +kernel
theorem dL_keeper_44 : decode cL_keeper 44 = .ok (.newarray .int, 2) := by decide +kernel
theorem dL_keeper_46 : decode cL_keeper 46 = .ok (.astore 9, 2) := by decide +kernel
theorem dL_keeper_48 : decode cL_keeper 48 = .ok (.iconst 4, 1) := by decide +kernel
theorem dL_keeper_49 : decode cL_keeper 49 = .ok (.newarray .int, 2) := by decide +kernel
theorem dL_keeper_51 : decode cL_keeper 51 = .ok (.astore 10, 2) := by decide +kernel
theorem dL_keeper_53 : decode cL_keeper 53 = .ok (.aload 8, 2) := by decide +kernel
theorem dL_keeper_55 : decode cL_keeper 55 = .ok (.iconst 1, 1) := by decide +kernel
theorem dL_keeper_56 : decode cL_keeper 56 = .ok (.bipush 30, 2) := by decide +kernel
theorem dL_keeper_58 : decode cL_keeper 58 = .ok (.iastore, 1) := by decide +kernel
theorem dL_keeper_59 : decode cL_keeper 59 = .ok (.iconst 0, 1) := by decide +kernel
theorem dL_keeper_60 : decode cL_keeper 60 = .ok (.istore 11, 2) := by decide +kernel
theorem dL_keeper_62 : decode cL_keeper 62 = .ok (.iload 11, 2) := by decide +kernel
theorem dL_keeper_64 : decode cL_keeper 64 = .ok (.iconst 4, 1) := by decide +kernel
theorem dL_keeper_65 : decode cL_keeper 65 = .ok (.if_icmp .ge 18, 3) := by decide +kernel
theorem dL_keeper_68 : decode cL_keeper 68 = .ok (.aload 10, 2) := by decide +kernel
theorem dL_keeper_70 : decode cL_keeper 70 = .ok (.iload 11, 2) := by decide +kernel
theorem dL_keeper_72 : decode cL_keeper 72 = .ok (.iconst 1, 1) := by decide +kernel
theorem dL_keeper_73 : decode cL_keeper 73 = .ok (.iload 11, 2) := by decide +kernel
theorem dL_keeper_75 : decode cL_keeper 75 = .ok (.ishl, 1) := by decide +kernel
theorem dL_keeper_76 : decode cL_keeper 76 = .ok (.iastore, 1) := by decide +kernel
theorem dL_keeper_77 : decode cL_keeper 77 = .ok (.iinc 11 1, 3) := by decide +kernel
theorem dL_keeper_80 : decode cL_keeper 80 = .ok (.goto (-18), 3) := by decide +kernel
theorem dL_keeper_83 : decode cL_keeper 83 = .ok (.iconst 0, 1) := by decide +kernel
theorem dL_keeper_84 : decode cL_keeper 84 = .ok (.istore 11, 2) := by decide +kernel
theorem dL_keeper_86 : decode cL_keeper 86 = .ok (.iload 11, 2) := by decide +kernel
theorem dL_keeper_88 : decode cL_keeper 88 = .ok (.bipush 78, 2) := by decide +kernel
theorem dL_keeper_90 : decode cL_keeper 90 = .ok (.if_icmp .ge 289, 3) := by decide +kernel
theorem dL_keeper_93 : decode cL_keeper 93 = .ok (.aload_n 0, 1) := by decide +kernel
theorem dL_keeper_94 : decode cL_keeper 94 = .ok (.iload_n 1, 1) := by decide +kernel
theorem dL_keeper_95 : decode cL_keeper 95 = .ok (.iconst 3, 1) := by decide +kernel
theorem dL_keeper_96 : decode cL_keeper 96 = .ok (.iload 11, 2) := by decide +kernel
theorem dL_keeper_98 : decode cL_keeper 98 = .ok (.imul, 1) := by decide +kernel
theorem dL_keeper_99 : decode cL_keeper 99 = .ok (.iadd, 1) := by decide +kernel
theorem dL_keeper_100 : decode cL_keeper 100 = .ok (.iconst 1, 1) := by decide +kernel
theorem dL_keeper_101 : decode cL_keeper 101 = .ok (.iadd, 1) := by decide +kernel
theorem dL_keeper_102 : decode cL_keeper 102 = .ok (.ldc 165, 2) := by decide +kernel
theorem dL_keeper_104 : decode cL_keeper 104 = .ok (.invokestatic 166, 3) := by decide +kernel
theorem dL_keeper_107 : decode cL_keeper 107 = .ok (.istore 12, 2) := by decide +kernel
theorem dL_keeper_109 : decode cL_keeper 109 = .ok (.aload_n 0, 1) := by decide +kernel
theorem dL_keeper_110 : decode cL_keeper 110 = .ok (.iload_n 1, 1) := by decide +kernel
theorem dL_keeper_111 : decode cL_keeper 111 = .ok (.iconst 3, 1) := by decide +kernel
theorem dL_keeper_112 : decode cL_keeper 112 = .ok (.iload 11, 2) := by decide +kernel
theorem dL_keeper_114 : decode cL_keeper 114 = .ok (.imul, 1) := by decide +kernel
theorem dL_keeper_115 : decode cL_keeper 115 = .ok (.iadd, 1) := by decide +kernel
theorem dL_keeper_116 : decode cL_keeper 116 = .ok (.iconst 2, 1) := by decide +kernel
theorem dL_keeper_117 : decode cL_keeper 117 = .ok (.iadd, 1) := by decide +kernel
theorem dL_keeper_118 : decode cL_keeper 118 = .ok (.ldc 165, 2) := by decide +kernel
theorem dL_keeper_120 : decode cL_keeper 120 = .ok (.invokestatic 166, 3) := by decide +kernel
theorem dL_keeper_123 : decode cL_keeper 123 = .ok (.istore 13, 2) := by decide +kernel
theorem dL_keeper_125 : decode cL_keeper 125 = .ok (.iload 11, 2) := by decide +kernel
theorem dL_keeper_127 : decode cL_keeper 127 = .ok (.iconst 2, 1) := by decide +kernel
theorem dL_keeper_128 : decode cL_keeper 128 = .ok (.if_icmp .ge 7, 3) := by decide +kernel
theorem dL_keeper_131 : decode cL_keeper 131 = .ok (.iconst 0, 1) := by decide +kernel
theorem dL_keeper_132 : decode cL_keeper 132 = .ok (.goto 61, 3) := by decide +kernel
theorem dL_keeper_135 : decode cL_keeper 135 = .ok (.iload 11, 2) := by decide +kernel
theorem dL_keeper_137 : decode cL_keeper 137 = .ok (.iconst 2, 1) := by decide +kernel
theorem dL_keeper_138 : decode cL_keeper 138 = .ok (.if_icmp .ne 7, 3) := by decide +kernel
theorem dL_keeper_141 : decode cL_keeper 141 = .ok (.iconst 5, 1) := by decide +kernel
theorem dL_keeper_142 : decode cL_keeper 142 = .ok (.goto 51, 3) := by decide +kernel
theorem dL_keeper_145 : decode cL_keeper 145 = .ok (.iload 11, 2) := by decide +kernel
theorem dL_keeper_147 : decode cL_keeper 147 = .ok (.bipush 6, 2) := by decide +kernel
theorem dL_keeper_149 : decode cL_keeper 149 = .ok (.if_icmp .ge 8, 3) := by decide +kernel
theorem dL_keeper_152 : decode cL_keeper 152 = .ok (.bipush 16, 2) := by decide +kernel
theorem dL_keeper_154 : decode cL_keeper 154 = .ok (.goto 39, 3) := by decide +kernel
theorem dL_keeper_157 : decode cL_keeper 157 = .ok (.iload 11, 2) := by decide +kernel
theorem dL_keeper_159 : decode cL_keeper 159 = .ok (.bipush 6, 2) := by decide +kernel
theorem dL_keeper_161 : decode cL_keeper 161 = .ok (.if_icmp .ne 8, 3) := by decide +kernel
theorem dL_keeper_164 : decode cL_keeper 164 = .ok (.bipush 19, 2) := by decide +kernel
theorem dL_keeper_166 : decode cL_keeper 166 = .ok (.goto 27, 3) := by decide +kernel
theorem dL_keeper_169 : decode cL_keeper 169 = .ok (.iload 11, 2) := by decide +kernel
theorem dL_keeper_171 : decode cL_keeper 171 = .ok (.bipush 9, 2) := by decide +kernel
theorem dL_keeper_173 : decode cL_keeper 173 = .ok (.if_icmp .ge 8, 3) := by decide +kernel
theorem dL_keeper_176 : decode cL_keeper 176 = .ok (.bipush 9, 2) := by decide +kernel
theorem dL_keeper_178 : decode cL_keeper 178 = .ok (.goto 15, 3) := by decide +kernel
theorem dL_keeper_181 : decode cL_keeper 181 = .ok (.aload_n 0, 1) := by decide +kernel
theorem dL_keeper_182 : decode cL_keeper 182 = .ok (.iload_n 1, 1) := by decide +kernel
theorem dL_keeper_183 : decode cL_keeper 183 = .ok (.iconst 3, 1) := by decide +kernel
theorem dL_keeper_184 : decode cL_keeper 184 = .ok (.iload 11, 2) := by decide +kernel
theorem dL_keeper_186 : decode cL_keeper 186 = .ok (.imul, 1) := by decide +kernel
theorem dL_keeper_187 : decode cL_keeper 187 = .ok (.iadd, 1) := by decide +kernel
theorem dL_keeper_188 : decode cL_keeper 188 = .ok (.bipush 23, 2) := by decide +kernel
theorem dL_keeper_190 : decode cL_keeper 190 = .ok (.invokestatic 166, 3) := by decide +kernel
theorem dL_keeper_193 : decode cL_keeper 193 = .ok (.istore 14, 2) := by decide +kernel
theorem dL_keeper_195 : decode cL_keeper 195 = .ok (.aload_n 2, 1) := by decide +kernel
theorem dL_keeper_196 : decode cL_keeper 196 = .ok (.iload 14, 2) := by decide +kernel
theorem dL_keeper_198 : decode cL_keeper 198 = .ok (.iload 12, 2) := by decide +kernel
theorem dL_keeper_200 : decode cL_keeper 200 = .ok (.iload 13, 2) := by decide +kernel
theorem dL_keeper_202 : decode cL_keeper 202 = .ok (.aload_n 3, 1) := by decide +kernel
theorem dL_keeper_203 : decode cL_keeper 203 = .ok (.aload 4, 2) := by decide +kernel
theorem dL_keeper_205 : decode cL_keeper 205 = .ok (.aload 5, 2) := by decide +kernel
theorem dL_keeper_207 : decode cL_keeper 207 = .ok (.aload 6, 2) := by decide +kernel
theorem dL_keeper_209 : decode cL_keeper 209 = .ok (.aload 7, 2) := by decide +kernel
theorem dL_keeper_211 : decode cL_keeper 211 = .ok (.aload 8, 2) := by decide +kernel
theorem dL_keeper_213 : decode cL_keeper 213 = .ok (.aload 9, 2) := by decide +kernel
theorem dL_keeper_215 : decode cL_keeper 215 = .ok (.aload 10, 2) := by decide +kernel
theorem dL_keeper_217 : decode cL_keeper 217 = .ok (.invokestatic 169, 3) := by decide +kernel
theorem dL_keeper_220 : decode cL_keeper 220 = .ok (.ifCond .eq 34, 3) := by decide +kernel
theorem dL_keeper_223 : decode cL_keeper 223 = .ok (.iload 11, 2) := by decide +kernel
theorem dL_keeper_225 : decode cL_keeper 225 = .ok (.iconst 3, 1) := by decide +kernel
theorem dL_keeper_226 : decode cL_keeper 226 = .ok (.irem, 1) := by decide +kernel
theorem dL_keeper_227 : decode cL_keeper 227 = .ok (.ifCond .ne 29, 3) := by decide +kernel
theorem dL_keeper_230 : decode cL_keeper 230 = .ok (.aload_n 2, 1) := by decide +kernel
theorem dL_keeper_231 : decode cL_keeper 231 = .ok (.aload_n 3, 1) := by decide +kernel
theorem dL_keeper_232 : decode cL_keeper 232 = .ok (.iconst 0, 1) := by decide +kernel
theorem dL_keeper_233 : decode cL_keeper 233 = .ok (.iaload, 1) := by decide +kernel
theorem dL_keeper_234 : decode cL_keeper 234 = .ok (.invokestatic 173, 3) := by decide +kernel
theorem dL_keeper_237 : decode cL_keeper 237 = .ok (.ifCond .eq 17, 3) := by decide +kernel
theorem dL_keeper_240 : decode cL_keeper 240 = .ok (.aload_n 2, 1) := by decide +kernel
theorem dL_keeper_241 : decode cL_keeper 241 = .ok (.aload 9, 2) := by decide +kernel
theorem dL_keeper_243 : decode cL_keeper 243 = .ok (.iload 12, 2) := by decide +kernel
theorem dL_keeper_245 : decode cL_keeper 245 = .ok (.bipush 8, 2) := by decide +kernel
theorem dL_keeper_247 : decode cL_keeper 247 = .ok (.irem, 1) := by decide +kernel
theorem dL_keeper_248 : decode cL_keeper 248 = .ok (.invokestatic 177, 3) := by decide +kernel
theorem dL_keeper_251 : decode cL_keeper 251 = .ok (.ifCond .ne 5, 3) := by decide +kernel
theorem dL_keeper_254 : decode cL_keeper 254 = .ok (.iconst 0, 1) := by decide +kernel
theorem dL_keeper_255 : decode cL_keeper 255 = .ok (.ireturn, 1) := by decide +kernel
theorem dL_keeper_256 : decode cL_keeper 256 = .ok (.aload 8, 2) := by decide +kernel
theorem dL_keeper_258 : decode cL_keeper 258 = .ok (.iconst 3, 1) := by decide +kernel
theorem dL_keeper_259 : decode cL_keeper 259 = .ok (.iaload, 1) := by decide +kernel
theorem dL_keeper_260 : decode cL_keeper 260 = .ok (.ifCond .le 28, 3) := by decide +kernel
theorem dL_keeper_263 : decode cL_keeper 263 = .ok (.aload_n 2, 1) := by decide +kernel
theorem dL_keeper_264 : decode cL_keeper 264 = .ok (.aload_n 3, 1) := by decide +kernel
theorem dL_keeper_265 : decode cL_keeper 265 = .ok (.aload 4, 2) := by decide +kernel
theorem dL_keeper_267 : decode cL_keeper 267 = .ok (.aload 5, 2) := by decide +kernel
theorem dL_keeper_269 : decode cL_keeper 269 = .ok (.aload 7, 2) := by decide +kernel
theorem dL_keeper_271 : decode cL_keeper 271 = .ok (.aload 8, 2) := by decide +kernel
theorem dL_keeper_273 : decode cL_keeper 273 = .ok (.iload 13, 2) := by decide +kernel
theorem dL_keeper_275 : decode cL_keeper 275 = .ok (.iconst 5, 1) := by decide +kernel
theorem dL_keeper_276 : decode cL_keeper 276 = .ok (.idiv, 1) := by decide +kernel
theorem dL_keeper_277 : decode cL_keeper 277 = .ok (.aload 8, 2) := by decide +kernel
theorem dL_keeper_279 : decode cL_keeper 279 = .ok (.iconst 3, 1) := by decide +kernel
theorem dL_keeper_280 : decode cL_keeper 280 = .ok (.iaload, 1) := by decide +kernel
theorem dL_keeper_281 : decode cL_keeper 281 = .ok (.irem, 1) := by decide +kernel
theorem dL_keeper_282 : decode cL_keeper 282 = .ok (.invokestatic 181, 3) := by decide +kernel
theorem dL_keeper_285 : decode cL_keeper 285 = .ok (.ifCond .eq 86, 3) := by decide +kernel
theorem dL_keeper_288 : decode cL_keeper 288 = .ok (.iload 11, 2) := by decide +kernel
theorem dL_keeper_290 : decode cL_keeper 290 = .ok (.bipush 6, 2) := by decide +kernel
theorem dL_keeper_292 : decode cL_keeper 292 = .ok (.irem, 1) := by decide +kernel
theorem dL_keeper_293 : decode cL_keeper 293 = .ok (.iconst 5, 1) := by decide +kernel
theorem dL_keeper_294 : decode cL_keeper 294 = .ok (.if_icmp .ne 37, 3) := by decide +kernel
theorem dL_keeper_297 : decode cL_keeper 297 = .ok (.aload_n 2, 1) := by decide +kernel
theorem dL_keeper_298 : decode cL_keeper 298 = .ok (.aload_n 3, 1) := by decide +kernel
theorem dL_keeper_299 : decode cL_keeper 299 = .ok (.aload 8, 2) := by decide +kernel
theorem dL_keeper_301 : decode cL_keeper 301 = .ok (.invokestatic 185, 3) := by decide +kernel
theorem dL_keeper_304 : decode cL_keeper 304 = .ok (.ifCond .eq 67, 3) := by decide +kernel
theorem dL_keeper_307 : decode cL_keeper 307 = .ok (.aload_n 2, 1) := by decide +kernel
theorem dL_keeper_308 : decode cL_keeper 308 = .ok (.aload 8, 2) := by decide +kernel
theorem dL_keeper_310 : decode cL_keeper 310 = .ok (.iload 11, 2) := by decide +kernel
theorem dL_keeper_312 : decode cL_keeper 312 = .ok (.bipush 12, 2) := by decide +kernel
theorem dL_keeper_314 : decode cL_keeper 314 = .ok (.irem, 1) := by decide +kernel
theorem dL_keeper_315 : decode cL_keeper 315 = .ok (.bipush 11, 2) := by decide +kernel
theorem dL_keeper_317 : decode cL_keeper 317 = .ok (.if_icmp .ne 7, 3) := by decide +kernel
theorem dL_keeper_320 : decode cL_keeper 320 = .ok (.iconst 1, 1) := by decide +kernel
theorem dL_keeper_321 : decode cL_keeper 321 = .ok (.goto 4, 3) := by decide +kernel
theorem dL_keeper_324 : decode cL_keeper 324 = .ok (.iconst 0, 1) := by decide +kernel
theorem dL_keeper_325 : decode cL_keeper 325 = .ok (.invokestatic 189, 3) := by decide +kernel
theorem dL_keeper_328 : decode cL_keeper 328 = .ok (.ifCond .eq 43, 3) := by decide +kernel
theorem dL_keeper_331 : decode cL_keeper 331 = .ok (.iload 11, 2) := by decide +kernel
theorem dL_keeper_333 : decode cL_keeper 333 = .ok (.iconst 5, 1) := by decide +kernel
theorem dL_keeper_334 : decode cL_keeper 334 = .ok (.irem, 1) := by decide +kernel
theorem dL_keeper_335 : decode cL_keeper 335 = .ok (.iconst 4, 1) := by decide +kernel
theorem dL_keeper_336 : decode cL_keeper 336 = .ok (.if_icmp .ne 37, 3) := by decide +kernel
theorem dL_keeper_339 : decode cL_keeper 339 = .ok (.aload 8, 2) := by decide +kernel
theorem dL_keeper_341 : decode cL_keeper 341 = .ok (.iconst 2, 1) := by decide +kernel
theorem dL_keeper_342 : decode cL_keeper 342 = .ok (.iaload, 1) := by decide +kernel
theorem dL_keeper_343 : decode cL_keeper 343 = .ok (.ifCond .le 30, 3) := by decide +kernel
theorem dL_keeper_346 : decode cL_keeper 346 = .ok (.aload_n 2, 1) := by decide +kernel
theorem dL_keeper_347 : decode cL_keeper 347 = .ok (.aload 5, 2) := by decide +kernel
theorem dL_keeper_349 : decode cL_keeper 349 = .ok (.aload 6, 2) := by decide +kernel
theorem dL_keeper_351 : decode cL_keeper 351 = .ok (.aload 8, 2) := by decide +kernel
theorem dL_keeper_353 : decode cL_keeper 353 = .ok (.aload 10, 2) := by decide +kernel
theorem dL_keeper_355 : decode cL_keeper 355 = .ok (.iload 13, 2) := by decide +kernel
theorem dL_keeper_357 : decode cL_keeper 357 = .ok (.bipush 7, 2) := by decide +kernel
theorem dL_keeper_359 : decode cL_keeper 359 = .ok (.idiv, 1) := by decide +kernel
theorem dL_keeper_360 : decode cL_keeper 360 = .ok (.aload 8, 2) := by decide +kernel
theorem dL_keeper_362 : decode cL_keeper 362 = .ok (.iconst 2, 1) := by decide +kernel
theorem dL_keeper_363 : decode cL_keeper 363 = .ok (.iaload, 1) := by decide +kernel
theorem dL_keeper_364 : decode cL_keeper 364 = .ok (.irem, 1) := by decide +kernel
theorem dL_keeper_365 : decode cL_keeper 365 = .ok (.invokestatic 193, 3) := by decide +kernel
theorem dL_keeper_368 : decode cL_keeper 368 = .ok (.ifCond .ne 5, 3) := by decide +kernel
theorem dL_keeper_371 : decode cL_keeper 371 = .ok (.iconst 0, 1) := by decide +kernel
theorem dL_keeper_372 : decode cL_keeper 372 = .ok (.ireturn, 1) := by decide +kernel
theorem dL_keeper_373 : decode cL_keeper 373 = .ok (.iinc 11 1, 3) := by decide +kernel
theorem dL_keeper_376 : decode cL_keeper 376 = .ok (.goto (-290), 3) := by decide +kernel
theorem dL_keeper_379 : decode cL_keeper 379 = .ok (.aload_n 2, 1) := by decide +kernel
theorem dL_keeper_380 : decode cL_keeper 380 = .ok (.aload 8, 2) := by decide +kernel
theorem dL_keeper_382 : decode cL_keeper 382 = .ok (.iconst 1, 1) := by decide +kernel
theorem dL_keeper_383 : decode cL_keeper 383 = .ok (.invokestatic 189, 3) := by decide +kernel
theorem dL_keeper_386 : decode cL_keeper 386 = .ok (.ireturn, 1) := by decide +kernel
theorem dL_law_0 : decode cL_law 0 = .ok (.aload_n 0, 1) := by decide +kernel
theorem dL_law_1 : decode cL_law 1 = .ok (.iconst 0, 1) := by decide +kernel
theorem dL_law_2 : decode cL_law 2 = .ok (.invokestatic 197, 3) := by decide +kernel
theorem dL_law_5 : decode cL_law 5 = .ok (.ifCond .eq 27, 3) := by decide +kernel
theorem dL_law_8 : decode cL_law 8 = .ok (.aload_n 0, 1) := by decide +kernel
theorem dL_law_9 : decode cL_law 9 = .ok (.sipush 240, 3) := by decide +kernel
theorem dL_law_12 : decode cL_law 12 = .ok (.invokestatic 197, 3) := by decide +kernel
theorem dL_law_15 : decode cL_law 15 = .ok (.ifCond .eq 17, 3) := by decide +kernel
theorem dL_law_18 : decode cL_law 18 = .ok (.aload_n 0, 1) := by decide +kernel
theorem dL_law_19 : decode cL_law 19 = .ok (.sipush 480, 3) := by decide +kernel
theorem dL_law_22 : decode cL_law 22 = .ok (.invokestatic 197, 3) := by decide +kernel
theorem dL_law_25 : decode cL_law 25 = .ok (.ifCond .eq 7, 3) := by decide +kernel
theorem dL_law_28 : decode cL_law 28 = .ok (.iconst 1, 1) := by decide +kernel
theorem dL_law_29 : decode cL_law 29 = .ok (.goto 4, 3) := by decide +kernel
theorem dL_law_32 : decode cL_law 32 = .ok (.iconst 0, 1) := by decide +kernel
theorem dL_law_33 : decode cL_law 33 = .ok (.ireturn, 1) := by decide +kernel
