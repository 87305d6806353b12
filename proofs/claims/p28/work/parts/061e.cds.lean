/-! ===== the code table, row by row: by program (wip/p28/gen4.py) ===== -/
theorem cd_151_0 : cd 151 0 = some (.aload_n 0, 1, 0, 0, 0, []) := rfl
theorem cd_151_1 : cd 151 1 = some (.bipush 6, 2, 0, 0, 0, []) := rfl
theorem cd_151_3 : cd 151 3 = some (.invokestatic 79, 3, 137, 2, 7, []) := rfl
theorem cd_151_6 : cd 151 6 = some (.istore_n 1, 1, 0, 0, 0, []) := rfl
theorem cd_151_7 : cd 151 7 = some (.aload_n 0, 1, 0, 0, 0, []) := rfl
theorem cd_151_8 : cd 151 8 = some (.iconst 0, 1, 0, 0, 0, []) := rfl
theorem cd_151_9 : cd 151 9 = some (.invokestatic 79, 3, 137, 2, 7, []) := rfl
theorem cd_151_12 : cd 151 12 = some (.istore_n 2, 1, 0, 0, 0, []) := rfl
theorem cd_151_13 : cd 151 13 = some (.iconst 0, 1, 0, 0, 0, []) := rfl
theorem cd_151_14 : cd 151 14 = some (.istore_n 3, 1, 0, 0, 0, []) := rfl
theorem cd_151_15 : cd 151 15 = some (.iconst 0, 1, 0, 0, 0, []) := rfl
theorem cd_151_16 : cd 151 16 = some (.istore 4, 2, 0, 0, 0, []) := rfl
theorem cd_151_18 : cd 151 18 = some (.bipush 49, 2, 0, 0, 0, []) := rfl
theorem cd_151_20 : cd 151 20 = some (.newarray .int, 2, 0, 0, 0, []) := rfl
theorem cd_151_22 : cd 151 22 = some (.astore 5, 2, 0, 0, 0, []) := rfl
theorem cd_151_24 : cd 151 24 = some (.iload_n 1, 1, 0, 0, 0, []) := rfl
theorem cd_151_25 : cd 151 25 = some (.iconst 2, 1, 0, 0, 0, []) := rfl
theorem cd_151_26 : cd 151 26 = some (.iload_n 2, 1, 0, 0, 0, []) := rfl
theorem cd_151_27 : cd 151 27 = some (.aload_n 0, 1, 0, 0, 0, []) := rfl
theorem cd_151_28 : cd 151 28 = some (.iconst 1, 1, 0, 0, 0, []) := rfl
theorem cd_151_29 : cd 151 29 = some (.invokestatic 79, 3, 137, 2, 7, []) := rfl
theorem cd_151_32 : cd 151 32 = some (.iadd, 1, 0, 0, 0, []) := rfl
theorem cd_151_33 : cd 151 33 = some (.imul, 1, 0, 0, 0, []) := rfl
theorem cd_151_34 : cd 151 34 = some (.if_icmp .ne 7, 3, 0, 0, 0, []) := rfl
theorem cd_151_37 : cd 151 37 = some (.iconst 1, 1, 0, 0, 0, []) := rfl
theorem cd_151_38 : cd 151 38 = some (.goto 4, 3, 0, 0, 0, []) := rfl
theorem cd_151_41 : cd 151 41 = some (.iconst 0, 1, 0, 0, 0, []) := rfl
theorem cd_151_42 : cd 151 42 = some (.istore 6, 2, 0, 0, 0, [6, 7, 8, 9, 10, 11, 12, 13, 14, 15, 16, 17, 18, 19]) := rfl
theorem cd_151_44 : cd 151 44 = some (.iconst 0, 1, 0, 0, 0, []) := rfl
theorem cd_151_45 : cd 151 45 = some (.istore 7, 2, 0, 0, 0, []) := rfl
theorem cd_151_47 : cd 151 47 = some (.iload 7, 2, 0, 0, 0, [8, 9, 10, 11, 12, 13, 14, 15, 16, 17, 18, 19]) := rfl
theorem cd_151_49 : cd 151 49 = some (.iload_n 1, 1, 0, 0, 0, []) := rfl
theorem cd_151_50 : cd 151 50 = some (.if_icmp .ge 554, 3, 0, 0, 0, []) := rfl
theorem cd_151_53 : cd 151 53 = some (.iload 6, 2, 0, 0, 0, []) := rfl
theorem cd_151_55 : cd 151 55 = some (.ifCond .eq 549, 3, 0, 0, 0, []) := rfl
theorem cd_151_58 : cd 151 58 = some (.aload_n 0, 1, 0, 0, 0, []) := rfl
theorem cd_151_59 : cd 151 59 = some (.iload 7, 2, 0, 0, 0, []) := rfl
theorem cd_151_61 : cd 151 61 = some (.iconst 1, 1, 0, 0, 0, []) := rfl
theorem cd_151_62 : cd 151 62 = some (.invokestatic 88, 3, 139, 3, 7, []) := rfl
theorem cd_151_65 : cd 151 65 = some (.istore 8, 2, 0, 0, 0, []) := rfl
theorem cd_151_67 : cd 151 67 = some (.aload_n 0, 1, 0, 0, 0, []) := rfl
theorem cd_151_68 : cd 151 68 = some (.iload 7, 2, 0, 0, 0, []) := rfl
theorem cd_151_70 : cd 151 70 = some (.iconst 3, 1, 0, 0, 0, []) := rfl
theorem cd_151_71 : cd 151 71 = some (.invokestatic 88, 3, 139, 3, 7, []) := rfl
theorem cd_151_74 : cd 151 74 = some (.istore 9, 2, 0, 0, 0, []) := rfl
theorem cd_151_76 : cd 151 76 = some (.iconst 0, 1, 0, 0, 0, []) := rfl
theorem cd_151_77 : cd 151 77 = some (.istore 10, 2, 0, 0, 0, []) := rfl
theorem cd_151_79 : cd 151 79 = some (.iconst 0, 1, 0, 0, 0, []) := rfl
theorem cd_151_80 : cd 151 80 = some (.istore 11, 2, 0, 0, 0, []) := rfl
theorem cd_151_82 : cd 151 82 = some (.lconst 0, 1, 0, 0, 0, []) := rfl
theorem cd_151_83 : cd 151 83 = some (.lstore 12, 2, 0, 0, 0, []) := rfl
theorem cd_151_85 : cd 151 85 = some (.iconst 0, 1, 0, 0, 0, []) := rfl
theorem cd_151_86 : cd 151 86 = some (.istore 14, 2, 0, 0, 0, []) := rfl
theorem cd_151_88 : cd 151 88 = some (.aload_n 0, 1, 0, 0, 0, []) := rfl
theorem cd_151_89 : cd 151 89 = some (.iload 7, 2, 0, 0, 0, []) := rfl
theorem cd_151_91 : cd 151 91 = some (.iconst 0, 1, 0, 0, 0, []) := rfl
theorem cd_151_92 : cd 151 92 = some (.invokestatic 88, 3, 139, 3, 7, []) := rfl
theorem cd_151_95 : cd 151 95 = some (.iload 7, 2, 0, 0, 0, []) := rfl
theorem cd_151_97 : cd 151 97 = some (.if_icmp .ne 7, 3, 0, 0, 0, []) := rfl
theorem cd_151_100 : cd 151 100 = some (.iconst 1, 1, 0, 0, 0, []) := rfl
theorem cd_151_101 : cd 151 101 = some (.goto 4, 3, 0, 0, 0, []) := rfl
theorem cd_151_104 : cd 151 104 = some (.iconst 0, 1, 0, 0, 0, []) := rfl
theorem cd_151_105 : cd 151 105 = some (.istore 15, 2, 0, 0, 0, [6, 13, 15, 16, 17, 18, 19]) := rfl
theorem cd_151_107 : cd 151 107 = some (.iload_n 3, 1, 0, 0, 0, []) := rfl
theorem cd_151_108 : cd 151 108 = some (.iload 15, 2, 0, 0, 0, []) := rfl
theorem cd_151_110 : cd 151 110 = some (.ifCond .eq 7, 3, 0, 0, 0, []) := rfl
theorem cd_151_113 : cd 151 113 = some (.iconst 1, 1, 0, 0, 0, []) := rfl
theorem cd_151_114 : cd 151 114 = some (.goto 4, 3, 0, 0, 0, []) := rfl
theorem cd_151_117 : cd 151 117 = some (.iconst 0, 1, 0, 0, 0, []) := rfl
theorem cd_151_118 : cd 151 118 = some (.iadd, 1, 0, 0, 0, [3, 6, 13, 16, 17, 18, 19]) := rfl
theorem cd_151_119 : cd 151 119 = some (.istore_n 3, 1, 0, 0, 0, []) := rfl
theorem cd_151_120 : cd 151 120 = some (.iload 4, 2, 0, 0, 0, []) := rfl
theorem cd_151_122 : cd 151 122 = some (.iload 15, 2, 0, 0, 0, []) := rfl
theorem cd_151_124 : cd 151 124 = some (.ifCond .eq 14, 3, 0, 0, 0, []) := rfl
theorem cd_151_127 : cd 151 127 = some (.aload_n 0, 1, 0, 0, 0, []) := rfl
theorem cd_151_128 : cd 151 128 = some (.iload 7, 2, 0, 0, 0, []) := rfl
theorem cd_151_130 : cd 151 130 = some (.bipush 6, 2, 0, 0, 0, []) := rfl
theorem cd_151_132 : cd 151 132 = some (.invokestatic 88, 3, 139, 3, 7, []) := rfl
theorem cd_151_135 : cd 151 135 = some (.goto 4, 3, 0, 0, 0, []) := rfl
theorem cd_151_138 : cd 151 138 = some (.iconst 0, 1, 0, 0, 0, []) := rfl
theorem cd_151_139 : cd 151 139 = some (.iadd, 1, 0, 0, 0, [4, 6, 13, 16, 17, 18, 19]) := rfl
theorem cd_151_140 : cd 151 140 = some (.istore 4, 2, 0, 0, 0, []) := rfl
theorem cd_151_142 : cd 151 142 = some (.iload 9, 2, 0, 0, 0, []) := rfl
theorem cd_151_144 : cd 151 144 = some (.ifCond .le 147, 3, 0, 0, 0, []) := rfl
theorem cd_151_147 : cd 151 147 = some (.iload 15, 2, 0, 0, 0, []) := rfl
theorem cd_151_149 : cd 151 149 = some (.iload 8, 2, 0, 0, 0, []) := rfl
theorem cd_151_151 : cd 151 151 = some (.iconst (-1), 1, 0, 0, 0, []) := rfl
theorem cd_151_152 : cd 151 152 = some (.if_icmp .eq 10, 3, 0, 0, 0, []) := rfl
theorem cd_151_155 : cd 151 155 = some (.iload 7, 2, 0, 0, 0, []) := rfl
theorem cd_151_157 : cd 151 157 = some (.iload 8, 2, 0, 0, 0, []) := rfl
theorem cd_151_159 : cd 151 159 = some (.if_icmp .gt 7, 3, 0, 0, 0, []) := rfl
theorem cd_151_162 : cd 151 162 = some (.iconst 1, 1, 0, 0, 0, [6, 13, 16, 17, 18, 19]) := rfl
theorem cd_151_163 : cd 151 163 = some (.goto 4, 3, 0, 0, 0, []) := rfl
theorem cd_151_166 : cd 151 166 = some (.iconst 0, 1, 0, 0, 0, []) := rfl
theorem cd_151_167 : cd 151 167 = some (.if_icmp .ne 124, 3, 0, 0, 0, [6, 13, 16, 17, 18, 19]) := rfl
theorem cd_151_170 : cd 151 170 = some (.iload 15, 2, 0, 0, 0, []) := rfl
theorem cd_151_172 : cd 151 172 = some (.ifCond .ne 15, 3, 0, 0, 0, []) := rfl
theorem cd_151_175 : cd 151 175 = some (.aload_n 0, 1, 0, 0, 0, []) := rfl
theorem cd_151_176 : cd 151 176 = some (.iload 7, 2, 0, 0, 0, []) := rfl
theorem cd_151_178 : cd 151 178 = some (.iconst 0, 1, 0, 0, 0, []) := rfl
theorem cd_151_179 : cd 151 179 = some (.invokestatic 88, 3, 139, 3, 7, []) := rfl
theorem cd_151_182 : cd 151 182 = some (.iload 8, 2, 0, 0, 0, []) := rfl
theorem cd_151_184 : cd 151 184 = some (.if_icmp .ne 107, 3, 0, 0, 0, []) := rfl
theorem cd_151_187 : cd 151 187 = some (.iload 8, 2, 0, 0, 0, [6, 13, 16, 17, 18, 19]) := rfl
theorem cd_151_189 : cd 151 189 = some (.iconst (-1), 1, 0, 0, 0, []) := rfl
theorem cd_151_190 : cd 151 190 = some (.if_icmp .ne 23, 3, 0, 0, 0, []) := rfl
theorem cd_151_193 : cd 151 193 = some (.aload_n 0, 1, 0, 0, 0, []) := rfl
theorem cd_151_194 : cd 151 194 = some (.aload_n 0, 1, 0, 0, 0, []) := rfl
theorem cd_151_195 : cd 151 195 = some (.iload 7, 2, 0, 0, 0, []) := rfl
theorem cd_151_197 : cd 151 197 = some (.iconst 2, 1, 0, 0, 0, []) := rfl
theorem cd_151_198 : cd 151 198 = some (.invokestatic 88, 3, 139, 3, 7, []) := rfl
theorem cd_151_201 : cd 151 201 = some (.iconst 0, 1, 0, 0, 0, []) := rfl
theorem cd_151_202 : cd 151 202 = some (.invokestatic 84, 3, 136, 3, 7, []) := rfl
theorem cd_151_205 : cd 151 205 = some (.bipush 35, 2, 0, 0, 0, []) := rfl
theorem cd_151_207 : cd 151 207 = some (.if_icmp .ne 84, 3, 0, 0, 0, []) := rfl
theorem cd_151_210 : cd 151 210 = some (.goto 44, 3, 0, 0, 0, []) := rfl
theorem cd_151_213 : cd 151 213 = some (.aload_n 0, 1, 0, 0, 0, []) := rfl
theorem cd_151_214 : cd 151 214 = some (.iload 8, 2, 0, 0, 0, []) := rfl
theorem cd_151_216 : cd 151 216 = some (.iconst 1, 1, 0, 0, 0, []) := rfl
theorem cd_151_217 : cd 151 217 = some (.invokestatic 88, 3, 139, 3, 7, []) := rfl
theorem cd_151_220 : cd 151 220 = some (.iload 7, 2, 0, 0, 0, []) := rfl
theorem cd_151_222 : cd 151 222 = some (.if_icmp .ne 69, 3, 0, 0, 0, []) := rfl
theorem cd_151_225 : cd 151 225 = some (.aload_n 0, 1, 0, 0, 0, []) := rfl
theorem cd_151_226 : cd 151 226 = some (.iload 8, 2, 0, 0, 0, []) := rfl
theorem cd_151_228 : cd 151 228 = some (.iconst 3, 1, 0, 0, 0, []) := rfl
theorem cd_151_229 : cd 151 229 = some (.invokestatic 88, 3, 139, 3, 7, []) := rfl
theorem cd_151_232 : cd 151 232 = some (.iload 9, 2, 0, 0, 0, []) := rfl
theorem cd_151_234 : cd 151 234 = some (.if_icmp .ne 57, 3, 0, 0, 0, []) := rfl
theorem cd_151_237 : cd 151 237 = some (.aload_n 0, 1, 0, 0, 0, []) := rfl
theorem cd_151_238 : cd 151 238 = some (.iload 8, 2, 0, 0, 0, []) := rfl
theorem cd_151_240 : cd 151 240 = some (.iconst 4, 1, 0, 0, 0, []) := rfl
theorem cd_151_241 : cd 151 241 = some (.invokestatic 88, 3, 139, 3, 7, []) := rfl
theorem cd_151_244 : cd 151 244 = some (.aload_n 0, 1, 0, 0, 0, []) := rfl
theorem cd_151_245 : cd 151 245 = some (.iload 7, 2, 0, 0, 0, []) := rfl
theorem cd_151_247 : cd 151 247 = some (.iconst 4, 1, 0, 0, 0, []) := rfl
theorem cd_151_248 : cd 151 248 = some (.invokestatic 88, 3, 139, 3, 7, []) := rfl
theorem cd_151_251 : cd 151 251 = some (.if_icmp .ne 40, 3, 0, 0, 0, []) := rfl
theorem cd_151_254 : cd 151 254 = some (.aload_n 0, 1, 0, 0, 0, [6, 13, 16, 17, 18, 19]) := rfl
theorem cd_151_255 : cd 151 255 = some (.iload 7, 2, 0, 0, 0, []) := rfl
theorem cd_151_257 : cd 151 257 = some (.iload 9, 2, 0, 0, 0, []) := rfl
theorem cd_151_259 : cd 151 259 = some (.invokestatic 104, 3, 140, 3, 7, []) := rfl
theorem cd_151_262 : cd 151 262 = some (.ldc 23, 2, 3, 0, 0, []) := rfl
theorem cd_151_264 : cd 151 264 = some (.if_icmp .ne 27, 3, 0, 0, 0, []) := rfl
theorem cd_151_267 : cd 151 267 = some (.aload_n 0, 1, 0, 0, 0, []) := rfl
theorem cd_151_268 : cd 151 268 = some (.iload 7, 2, 0, 0, 0, []) := rfl
theorem cd_151_270 : cd 151 270 = some (.iconst 2, 1, 0, 0, 0, []) := rfl
theorem cd_151_271 : cd 151 271 = some (.invokestatic 88, 3, 139, 3, 7, []) := rfl
theorem cd_151_274 : cd 151 274 = some (.aload_n 0, 1, 0, 0, 0, []) := rfl
theorem cd_151_275 : cd 151 275 = some (.iload 7, 2, 0, 0, 0, []) := rfl
theorem cd_151_277 : cd 151 277 = some (.iload 9, 2, 0, 0, 0, []) := rfl
theorem cd_151_279 : cd 151 279 = some (.iconst 1, 1, 0, 0, 0, []) := rfl
theorem cd_151_280 : cd 151 280 = some (.isub, 1, 0, 0, 0, []) := rfl
theorem cd_151_281 : cd 151 281 = some (.invokestatic 104, 3, 140, 3, 7, []) := rfl
theorem cd_151_284 : cd 151 284 = some (.if_icmp .ne 7, 3, 0, 0, 0, []) := rfl
theorem cd_151_287 : cd 151 287 = some (.iconst 1, 1, 0, 0, 0, []) := rfl
theorem cd_151_288 : cd 151 288 = some (.goto 4, 3, 0, 0, 0, []) := rfl
theorem cd_151_291 : cd 151 291 = some (.iconst 0, 1, 0, 0, 0, [6, 13, 16, 17, 18, 19]) := rfl
theorem cd_151_292 : cd 151 292 = some (.istore 6, 2, 0, 0, 0, [6, 13, 16, 17, 18, 19]) := rfl
theorem cd_151_294 : cd 151 294 = some (.iconst 0, 1, 0, 0, 0, []) := rfl
theorem cd_151_295 : cd 151 295 = some (.istore 16, 2, 0, 0, 0, []) := rfl
theorem cd_151_297 : cd 151 297 = some (.iload 16, 2, 0, 0, 0, [13, 17, 18, 19]) := rfl
theorem cd_151_299 : cd 151 299 = some (.iload 9, 2, 0, 0, 0, []) := rfl
theorem cd_151_301 : cd 151 301 = some (.if_icmp .ge 231, 3, 0, 0, 0, []) := rfl
theorem cd_151_304 : cd 151 304 = some (.iload 6, 2, 0, 0, 0, []) := rfl
theorem cd_151_306 : cd 151 306 = some (.ifCond .eq 226, 3, 0, 0, 0, []) := rfl
theorem cd_151_309 : cd 151 309 = some (.aload_n 0, 1, 0, 0, 0, []) := rfl
theorem cd_151_310 : cd 151 310 = some (.iload 7, 2, 0, 0, 0, []) := rfl
theorem cd_151_312 : cd 151 312 = some (.iload 16, 2, 0, 0, 0, []) := rfl
theorem cd_151_314 : cd 151 314 = some (.invokestatic 104, 3, 140, 3, 7, []) := rfl
theorem cd_151_317 : cd 151 317 = some (.istore 17, 2, 0, 0, 0, []) := rfl
theorem cd_151_319 : cd 151 319 = some (.aload_n 0, 1, 0, 0, 0, []) := rfl
theorem cd_151_320 : cd 151 320 = some (.iload 17, 2, 0, 0, 0, []) := rfl
theorem cd_151_322 : cd 151 322 = some (.iconst 0, 1, 0, 0, 0, []) := rfl
theorem cd_151_323 : cd 151 323 = some (.invokestatic 84, 3, 136, 3, 7, []) := rfl
theorem cd_151_326 : cd 151 326 = some (.istore 18, 2, 0, 0, 0, []) := rfl
theorem cd_151_328 : cd 151 328 = some (.iload 16, 2, 0, 0, 0, []) := rfl
theorem cd_151_330 : cd 151 330 = some (.ifCond .ne 7, 3, 0, 0, 0, []) := rfl
theorem cd_151_333 : cd 151 333 = some (.iconst 1, 1, 0, 0, 0, []) := rfl
theorem cd_151_334 : cd 151 334 = some (.goto 16, 3, 0, 0, 0, []) := rfl
theorem cd_151_337 : cd 151 337 = some (.iload 17, 2, 0, 0, 0, []) := rfl
theorem cd_151_339 : cd 151 339 = some (.aload_n 0, 1, 0, 0, 0, []) := rfl
theorem cd_151_340 : cd 151 340 = some (.iload 7, 2, 0, 0, 0, []) := rfl
theorem cd_151_342 : cd 151 342 = some (.iload 16, 2, 0, 0, 0, []) := rfl
theorem cd_151_344 : cd 151 344 = some (.iconst 1, 1, 0, 0, 0, []) := rfl
theorem cd_151_345 : cd 151 345 = some (.isub, 1, 0, 0, 0, []) := rfl
theorem cd_151_346 : cd 151 346 = some (.invokestatic 104, 3, 140, 3, 7, []) := rfl
theorem cd_151_349 : cd 151 349 = some (.isub, 1, 0, 0, 0, []) := rfl
theorem cd_151_350 : cd 151 350 = some (.istore 19, 2, 0, 0, 0, [6, 13, 19]) := rfl
theorem cd_151_352 : cd 151 352 = some (.iload 14, 2, 0, 0, 0, []) := rfl
theorem cd_151_354 : cd 151 354 = some (.ifCond .ne 15, 3, 0, 0, 0, []) := rfl
theorem cd_151_357 : cd 151 357 = some (.lload 12, 2, 0, 0, 0, []) := rfl
theorem cd_151_359 : cd 151 359 = some (.iload 17, 2, 0, 0, 0, []) := rfl
theorem cd_151_361 : cd 151 361 = some (.lshr, 1, 0, 0, 0, []) := rfl
theorem cd_151_362 : cd 151 362 = some (.lconst 1, 1, 0, 0, 0, []) := rfl
theorem cd_151_363 : cd 151 363 = some (.land, 1, 0, 0, 0, []) := rfl
theorem cd_151_364 : cd 151 364 = some (.lconst 1, 1, 0, 0, 0, []) := rfl
theorem cd_151_365 : cd 151 365 = some (.lcmp, 1, 0, 0, 0, []) := rfl
theorem cd_151_366 : cd 151 366 = some (.ifCond .ne 7, 3, 0, 0, 0, []) := rfl
theorem cd_151_369 : cd 151 369 = some (.iconst 1, 1, 0, 0, 0, [6, 13, 14]) := rfl
theorem cd_151_370 : cd 151 370 = some (.goto 4, 3, 0, 0, 0, []) := rfl
theorem cd_151_373 : cd 151 373 = some (.iconst 0, 1, 0, 0, 0, []) := rfl
theorem cd_151_374 : cd 151 374 = some (.istore 14, 2, 0, 0, 0, [6, 13, 14]) := rfl
theorem cd_151_376 : cd 151 376 = some (.lload 12, 2, 0, 0, 0, []) := rfl
theorem cd_151_378 : cd 151 378 = some (.lconst 1, 1, 0, 0, 0, []) := rfl
theorem cd_151_379 : cd 151 379 = some (.iload 17, 2, 0, 0, 0, []) := rfl
theorem cd_151_381 : cd 151 381 = some (.lshl, 1, 0, 0, 0, []) := rfl
theorem cd_151_382 : cd 151 382 = some (.lor, 1, 0, 0, 0, []) := rfl
theorem cd_151_383 : cd 151 383 = some (.lstore 12, 2, 0, 0, 0, []) := rfl
theorem cd_151_385 : cd 151 385 = some (.iload 10, 2, 0, 0, 0, []) := rfl
theorem cd_151_387 : cd 151 387 = some (.iload 18, 2, 0, 0, 0, []) := rfl
theorem cd_151_389 : cd 151 389 = some (.bipush 47, 2, 0, 0, 0, []) := rfl
theorem cd_151_391 : cd 151 391 = some (.if_icmp .eq 10, 3, 0, 0, 0, []) := rfl
theorem cd_151_394 : cd 151 394 = some (.iload 18, 2, 0, 0, 0, []) := rfl
theorem cd_151_396 : cd 151 396 = some (.bipush 92, 2, 0, 0, 0, []) := rfl
theorem cd_151_398 : cd 151 398 = some (.if_icmp .ne 7, 3, 0, 0, 0, []) := rfl
theorem cd_151_401 : cd 151 401 = some (.iconst 1, 1, 0, 0, 0, [6, 10, 13]) := rfl
theorem cd_151_402 : cd 151 402 = some (.goto 4, 3, 0, 0, 0, []) := rfl
theorem cd_151_405 : cd 151 405 = some (.iconst 0, 1, 0, 0, 0, []) := rfl
theorem cd_151_406 : cd 151 406 = some (.iadd, 1, 0, 0, 0, [6, 10, 13]) := rfl
theorem cd_151_407 : cd 151 407 = some (.istore 10, 2, 0, 0, 0, []) := rfl
theorem cd_151_409 : cd 151 409 = some (.iload 11, 2, 0, 0, 0, []) := rfl
theorem cd_151_411 : cd 151 411 = some (.aload_n 0, 1, 0, 0, 0, []) := rfl
theorem cd_151_412 : cd 151 412 = some (.iload 17, 2, 0, 0, 0, []) := rfl
theorem cd_151_414 : cd 151 414 = some (.iconst 4, 1, 0, 0, 0, []) := rfl
theorem cd_151_415 : cd 151 415 = some (.invokestatic 84, 3, 136, 3, 7, []) := rfl
theorem cd_151_418 : cd 151 418 = some (.iconst (-1), 1, 0, 0, 0, []) := rfl
theorem cd_151_419 : cd 151 419 = some (.if_icmp .ne 7, 3, 0, 0, 0, []) := rfl
theorem cd_151_422 : cd 151 422 = some (.iconst 0, 1, 0, 0, 0, []) := rfl
theorem cd_151_423 : cd 151 423 = some (.goto 4, 3, 0, 0, 0, []) := rfl
theorem cd_151_426 : cd 151 426 = some (.iconst 1, 1, 0, 0, 0, []) := rfl
theorem cd_151_427 : cd 151 427 = some (.iadd, 1, 0, 0, 0, [6, 11, 13]) := rfl
theorem cd_151_428 : cd 151 428 = some (.istore 11, 2, 0, 0, 0, []) := rfl
theorem cd_151_430 : cd 151 430 = some (.aload 5, 2, 0, 0, 0, []) := rfl
theorem cd_151_432 : cd 151 432 = some (.iload 17, 2, 0, 0, 0, []) := rfl
theorem cd_151_434 : cd 151 434 = some (.dup2, 1, 0, 0, 0, []) := rfl
theorem cd_151_435 : cd 151 435 = some (.iaload, 1, 0, 0, 0, []) := rfl
theorem cd_151_436 : cd 151 436 = some (.iload 15, 2, 0, 0, 0, []) := rfl
theorem cd_151_438 : cd 151 438 = some (.ifCond .eq 7, 3, 0, 0, 0, []) := rfl
theorem cd_151_441 : cd 151 441 = some (.iconst 1, 1, 0, 0, 0, []) := rfl
theorem cd_151_442 : cd 151 442 = some (.goto 4, 3, 0, 0, 0, []) := rfl
theorem cd_151_445 : cd 151 445 = some (.iconst 0, 1, 0, 0, 0, []) := rfl
theorem cd_151_446 : cd 151 446 = some (.iadd, 1, 0, 0, 0, [6, 13]) := rfl
theorem cd_151_447 : cd 151 447 = some (.iastore, 1, 0, 0, 0, []) := rfl
theorem cd_151_448 : cd 151 448 = some (.iload 19, 2, 0, 0, 0, []) := rfl
theorem cd_151_450 : cd 151 450 = some (.iconst 1, 1, 0, 0, 0, []) := rfl
theorem cd_151_451 : cd 151 451 = some (.if_icmp .eq 22, 3, 0, 0, 0, []) := rfl
theorem cd_151_454 : cd 151 454 = some (.iload 19, 2, 0, 0, 0, []) := rfl
theorem cd_151_456 : cd 151 456 = some (.iconst (-1), 1, 0, 0, 0, []) := rfl
theorem cd_151_457 : cd 151 457 = some (.if_icmp .eq 16, 3, 0, 0, 0, []) := rfl
theorem cd_151_460 : cd 151 460 = some (.iload 19, 2, 0, 0, 0, []) := rfl
theorem cd_151_462 : cd 151 462 = some (.iload_n 2, 1, 0, 0, 0, []) := rfl
theorem cd_151_463 : cd 151 463 = some (.if_icmp .eq 10, 3, 0, 0, 0, []) := rfl
theorem cd_151_466 : cd 151 466 = some (.iload 19, 2, 0, 0, 0, []) := rfl
theorem cd_151_468 : cd 151 468 = some (.iload_n 2, 1, 0, 0, 0, []) := rfl
theorem cd_151_469 : cd 151 469 = some (.ineg, 1, 0, 0, 0, []) := rfl
theorem cd_151_470 : cd 151 470 = some (.if_icmp .ne 53, 3, 0, 0, 0, []) := rfl
theorem cd_151_473 : cd 151 473 = some (.iload 18, 2, 0, 0, 0, [6, 13, 19]) := rfl
theorem cd_151_475 : cd 151 475 = some (.bipush 35, 2, 0, 0, 0, []) := rfl
theorem cd_151_477 : cd 151 477 = some (.if_icmp .ne 18, 3, 0, 0, 0, []) := rfl
theorem cd_151_480 : cd 151 480 = some (.iload 16, 2, 0, 0, 0, []) := rfl
theorem cd_151_482 : cd 151 482 = some (.iload 9, 2, 0, 0, 0, []) := rfl
theorem cd_151_484 : cd 151 484 = some (.iconst 1, 1, 0, 0, 0, []) := rfl
theorem cd_151_485 : cd 151 485 = some (.isub, 1, 0, 0, 0, []) := rfl
theorem cd_151_486 : cd 151 486 = some (.if_icmp .ne 37, 3, 0, 0, 0, []) := rfl
theorem cd_151_489 : cd 151 489 = some (.iload 8, 2, 0, 0, 0, []) := rfl
theorem cd_151_491 : cd 151 491 = some (.iconst (-1), 1, 0, 0, 0, []) := rfl
theorem cd_151_492 : cd 151 492 = some (.if_icmp .ne 31, 3, 0, 0, 0, []) := rfl
theorem cd_151_495 : cd 151 495 = some (.iload 8, 2, 0, 0, 0, [6, 13, 18, 19]) := rfl
theorem cd_151_497 : cd 151 497 = some (.iconst (-1), 1, 0, 0, 0, []) := rfl
theorem cd_151_498 : cd 151 498 = some (.if_icmp .eq 21, 3, 0, 0, 0, []) := rfl
theorem cd_151_501 : cd 151 501 = some (.aload_n 0, 1, 0, 0, 0, []) := rfl
theorem cd_151_502 : cd 151 502 = some (.iload 8, 2, 0, 0, 0, []) := rfl
theorem cd_151_504 : cd 151 504 = some (.iload 9, 2, 0, 0, 0, []) := rfl
theorem cd_151_506 : cd 151 506 = some (.iconst 1, 1, 0, 0, 0, []) := rfl
theorem cd_151_507 : cd 151 507 = some (.isub, 1, 0, 0, 0, []) := rfl
theorem cd_151_508 : cd 151 508 = some (.iload 16, 2, 0, 0, 0, []) := rfl
theorem cd_151_510 : cd 151 510 = some (.isub, 1, 0, 0, 0, []) := rfl
theorem cd_151_511 : cd 151 511 = some (.invokestatic 104, 3, 140, 3, 7, []) := rfl
theorem cd_151_514 : cd 151 514 = some (.iload 17, 2, 0, 0, 0, []) := rfl
theorem cd_151_516 : cd 151 516 = some (.if_icmp .ne 7, 3, 0, 0, 0, []) := rfl
theorem cd_151_519 : cd 151 519 = some (.iconst 1, 1, 0, 0, 0, [6, 13, 17, 18, 19]) := rfl
theorem cd_151_520 : cd 151 520 = some (.goto 4, 3, 0, 0, 0, []) := rfl
theorem cd_151_523 : cd 151 523 = some (.iconst 0, 1, 0, 0, 0, [6, 13, 17, 18, 19]) := rfl
theorem cd_151_524 : cd 151 524 = some (.istore 6, 2, 0, 0, 0, [6, 13, 17, 18, 19]) := rfl
theorem cd_151_526 : cd 151 526 = some (.iinc 16 1, 3, 0, 0, 0, []) := rfl
theorem cd_151_529 : cd 151 529 = some (.goto (-232), 3, 0, 0, 0, []) := rfl
theorem cd_151_532 : cd 151 532 = some (.iload 6, 2, 0, 0, 0, [8, 9, 12, 13, 15, 16, 17, 18, 19]) := rfl
theorem cd_151_534 : cd 151 534 = some (.ifCond .eq 61, 3, 0, 0, 0, []) := rfl
theorem cd_151_537 : cd 151 537 = some (.iload 10, 2, 0, 0, 0, []) := rfl
theorem cd_151_539 : cd 151 539 = some (.aload_n 0, 1, 0, 0, 0, []) := rfl
theorem cd_151_540 : cd 151 540 = some (.iload 7, 2, 0, 0, 0, []) := rfl
theorem cd_151_542 : cd 151 542 = some (.iconst 4, 1, 0, 0, 0, []) := rfl
theorem cd_151_543 : cd 151 543 = some (.invokestatic 88, 3, 139, 3, 7, []) := rfl
theorem cd_151_546 : cd 151 546 = some (.if_icmp .ne 49, 3, 0, 0, 0, []) := rfl
theorem cd_151_549 : cd 151 549 = some (.iload 11, 2, 0, 0, 0, []) := rfl
theorem cd_151_551 : cd 151 551 = some (.aload_n 0, 1, 0, 0, 0, []) := rfl
theorem cd_151_552 : cd 151 552 = some (.iload 7, 2, 0, 0, 0, []) := rfl
theorem cd_151_554 : cd 151 554 = some (.iconst 5, 1, 0, 0, 0, []) := rfl
theorem cd_151_555 : cd 151 555 = some (.invokestatic 88, 3, 139, 3, 7, []) := rfl
theorem cd_151_558 : cd 151 558 = some (.if_icmp .ne 37, 3, 0, 0, 0, []) := rfl
theorem cd_151_561 : cd 151 561 = some (.aload_n 0, 1, 0, 0, 0, []) := rfl
set_option maxRecDepth 20000 in
theorem cd_151_562 : cd 151 562 = some (.iload 7, 2, 0, 0, 0, []) := rfl
set_option maxRecDepth 20000 in
theorem cd_151_564 : cd 151 564 = some (.bipush 6, 2, 0, 0, 0, []) := rfl
set_option maxRecDepth 20000 in
theorem cd_151_566 : cd 151 566 = some (.invokestatic 88, 3, 139, 3, 7, []) := rfl
set_option maxRecDepth 20000 in
theorem cd_151_569 : cd 151 569 = some (.iload 14, 2, 0, 0, 0, []) := rfl
set_option maxRecDepth 20000 in
theorem cd_151_571 : cd 151 571 = some (.ifCond .eq 7, 3, 0, 0, 0, []) := rfl
set_option maxRecDepth 20000 in
theorem cd_151_574 : cd 151 574 = some (.iconst 1, 1, 0, 0, 0, []) := rfl
set_option maxRecDepth 20000 in
theorem cd_151_575 : cd 151 575 = some (.goto 4, 3, 0, 0, 0, []) := rfl
set_option maxRecDepth 20000 in
theorem cd_151_578 : cd 151 578 = some (.iconst 0, 1, 0, 0, 0, []) := rfl
set_option maxRecDepth 20000 in
theorem cd_151_579 : cd 151 579 = some (.if_icmp .ne 16, 3, 0, 0, 0, [6, 8, 9, 10, 11, 12, 13, 14, 15, 16, 17, 18, 19]) := rfl
set_option maxRecDepth 20000 in
theorem cd_151_582 : cd 151 582 = some (.aload_n 0, 1, 0, 0, 0, []) := rfl
set_option maxRecDepth 20000 in
theorem cd_151_583 : cd 151 583 = some (.iload 7, 2, 0, 0, 0, []) := rfl
set_option maxRecDepth 20000 in
theorem cd_151_585 : cd 151 585 = some (.invokestatic 124, 3, 152, 2, 2, []) := rfl
set_option maxRecDepth 20000 in
theorem cd_151_588 : cd 151 588 = some (.ifCond .eq 7, 3, 0, 0, 0, []) := rfl
set_option maxRecDepth 20000 in
theorem cd_151_591 : cd 151 591 = some (.iconst 1, 1, 0, 0, 0, []) := rfl
set_option maxRecDepth 20000 in
theorem cd_151_592 : cd 151 592 = some (.goto 4, 3, 0, 0, 0, []) := rfl
set_option maxRecDepth 20000 in
theorem cd_151_595 : cd 151 595 = some (.iconst 0, 1, 0, 0, 0, [6, 8, 9, 10, 11, 12, 13, 14, 15, 16, 17, 18, 19]) := rfl
set_option maxRecDepth 20000 in
theorem cd_151_596 : cd 151 596 = some (.istore 6, 2, 0, 0, 0, [6, 8, 9, 10, 11, 12, 13, 14, 15, 16, 17, 18, 19]) := rfl
set_option maxRecDepth 20000 in
theorem cd_151_598 : cd 151 598 = some (.iinc 7 1, 3, 0, 0, 0, []) := rfl
set_option maxRecDepth 20000 in
theorem cd_151_601 : cd 151 601 = some (.goto (-554), 3, 0, 0, 0, []) := rfl
set_option maxRecDepth 20000 in
theorem cd_151_604 : cd 151 604 = some (.iconst 0, 1, 0, 0, 0, [1, 7, 8, 9, 10, 11, 12, 13, 14, 15, 16, 17, 18, 19]) := rfl
set_option maxRecDepth 20000 in
theorem cd_151_605 : cd 151 605 = some (.istore 7, 2, 0, 0, 0, []) := rfl
set_option maxRecDepth 20000 in
theorem cd_151_607 : cd 151 607 = some (.iload 7, 2, 0, 0, 0, [1, 8, 9, 10, 11, 12, 13, 14, 15, 16, 17, 18, 19]) := rfl
set_option maxRecDepth 20000 in
theorem cd_151_609 : cd 151 609 = some (.iload_n 2, 1, 0, 0, 0, []) := rfl
set_option maxRecDepth 20000 in
theorem cd_151_610 : cd 151 610 = some (.aload_n 0, 1, 0, 0, 0, []) := rfl
set_option maxRecDepth 20000 in
theorem cd_151_611 : cd 151 611 = some (.iconst 1, 1, 0, 0, 0, []) := rfl
set_option maxRecDepth 20000 in
theorem cd_151_612 : cd 151 612 = some (.invokestatic 79, 3, 137, 2, 7, []) := rfl
set_option maxRecDepth 20000 in
theorem cd_151_615 : cd 151 615 = some (.imul, 1, 0, 0, 0, []) := rfl
set_option maxRecDepth 20000 in
theorem cd_151_616 : cd 151 616 = some (.if_icmp .ge 132, 3, 0, 0, 0, []) := rfl
set_option maxRecDepth 20000 in
theorem cd_151_619 : cd 151 619 = some (.iload 6, 2, 0, 0, 0, []) := rfl
set_option maxRecDepth 20000 in
theorem cd_151_621 : cd 151 621 = some (.ifCond .eq 127, 3, 0, 0, 0, []) := rfl
set_option maxRecDepth 20000 in
theorem cd_151_624 : cd 151 624 = some (.aload_n 0, 1, 0, 0, 0, []) := rfl
set_option maxRecDepth 20000 in
theorem cd_151_625 : cd 151 625 = some (.iload 7, 2, 0, 0, 0, []) := rfl
set_option maxRecDepth 20000 in
theorem cd_151_627 : cd 151 627 = some (.iconst 1, 1, 0, 0, 0, []) := rfl
set_option maxRecDepth 20000 in
theorem cd_151_628 : cd 151 628 = some (.invokestatic 84, 3, 136, 3, 7, []) := rfl
set_option maxRecDepth 20000 in
theorem cd_151_631 : cd 151 631 = some (.istore 8, 2, 0, 0, 0, []) := rfl
set_option maxRecDepth 20000 in
theorem cd_151_633 : cd 151 633 = some (.aload_n 0, 1, 0, 0, 0, []) := rfl
set_option maxRecDepth 20000 in
theorem cd_151_634 : cd 151 634 = some (.iload 7, 2, 0, 0, 0, []) := rfl
set_option maxRecDepth 20000 in
theorem cd_151_636 : cd 151 636 = some (.iconst 2, 1, 0, 0, 0, []) := rfl
set_option maxRecDepth 20000 in
theorem cd_151_637 : cd 151 637 = some (.invokestatic 84, 3, 136, 3, 7, []) := rfl
set_option maxRecDepth 20000 in
theorem cd_151_640 : cd 151 640 = some (.istore 9, 2, 0, 0, 0, []) := rfl
set_option maxRecDepth 20000 in
theorem cd_151_642 : cd 151 642 = some (.aload_n 0, 1, 0, 0, 0, []) := rfl
set_option maxRecDepth 20000 in
theorem cd_151_643 : cd 151 643 = some (.iload 7, 2, 0, 0, 0, []) := rfl
set_option maxRecDepth 20000 in
theorem cd_151_645 : cd 151 645 = some (.iconst 3, 1, 0, 0, 0, []) := rfl
set_option maxRecDepth 20000 in
theorem cd_151_646 : cd 151 646 = some (.invokestatic 84, 3, 136, 3, 7, []) := rfl
set_option maxRecDepth 20000 in
theorem cd_151_649 : cd 151 649 = some (.aload 5, 2, 0, 0, 0, []) := rfl
set_option maxRecDepth 20000 in
theorem cd_151_651 : cd 151 651 = some (.iload 7, 2, 0, 0, 0, []) := rfl
set_option maxRecDepth 20000 in
theorem cd_151_653 : cd 151 653 = some (.iaload, 1, 0, 0, 0, []) := rfl
set_option maxRecDepth 20000 in
theorem cd_151_654 : cd 151 654 = some (.if_icmp .ne 85, 3, 0, 0, 0, []) := rfl
set_option maxRecDepth 20000 in
theorem cd_151_657 : cd 151 657 = some (.aload 5, 2, 0, 0, 0, []) := rfl
set_option maxRecDepth 20000 in
theorem cd_151_659 : cd 151 659 = some (.iload 7, 2, 0, 0, 0, []) := rfl
set_option maxRecDepth 20000 in
theorem cd_151_661 : cd 151 661 = some (.iaload, 1, 0, 0, 0, []) := rfl
set_option maxRecDepth 20000 in
theorem cd_151_662 : cd 151 662 = some (.iconst 4, 1, 0, 0, 0, []) := rfl
set_option maxRecDepth 20000 in
theorem cd_151_663 : cd 151 663 = some (.if_icmp .gt 76, 3, 0, 0, 0, []) := rfl
set_option maxRecDepth 20000 in
theorem cd_151_666 : cd 151 666 = some (.iload 8, 2, 0, 0, 0, []) := rfl
set_option maxRecDepth 20000 in
theorem cd_151_668 : cd 151 668 = some (.iconst (-1), 1, 0, 0, 0, []) := rfl
set_option maxRecDepth 20000 in
theorem cd_151_669 : cd 151 669 = some (.if_icmp .eq 15, 3, 0, 0, 0, []) := rfl
set_option maxRecDepth 20000 in
theorem cd_151_672 : cd 151 672 = some (.aload_n 0, 1, 0, 0, 0, []) := rfl
set_option maxRecDepth 20000 in
theorem cd_151_673 : cd 151 673 = some (.iload 8, 2, 0, 0, 0, []) := rfl
set_option maxRecDepth 20000 in
theorem cd_151_675 : cd 151 675 = some (.iconst 0, 1, 0, 0, 0, []) := rfl
set_option maxRecDepth 20000 in
theorem cd_151_676 : cd 151 676 = some (.invokestatic 88, 3, 139, 3, 7, []) := rfl
set_option maxRecDepth 20000 in
theorem cd_151_679 : cd 151 679 = some (.iload 8, 2, 0, 0, 0, []) := rfl
set_option maxRecDepth 20000 in
theorem cd_151_681 : cd 151 681 = some (.if_icmp .ne 58, 3, 0, 0, 0, []) := rfl
set_option maxRecDepth 20000 in
theorem cd_151_684 : cd 151 684 = some (.iload 9, 2, 0, 0, 0, [1, 6, 10, 11, 12, 13, 14, 15, 16, 17, 18, 19]) := rfl
set_option maxRecDepth 20000 in
theorem cd_151_686 : cd 151 686 = some (.iconst (-1), 1, 0, 0, 0, []) := rfl
set_option maxRecDepth 20000 in
theorem cd_151_687 : cd 151 687 = some (.if_icmp .eq 15, 3, 0, 0, 0, []) := rfl
set_option maxRecDepth 20000 in
theorem cd_151_690 : cd 151 690 = some (.aload_n 0, 1, 0, 0, 0, []) := rfl
set_option maxRecDepth 20000 in
theorem cd_151_691 : cd 151 691 = some (.iload 9, 2, 0, 0, 0, []) := rfl
set_option maxRecDepth 20000 in
theorem cd_151_693 : cd 151 693 = some (.iconst 0, 1, 0, 0, 0, []) := rfl
set_option maxRecDepth 20000 in
theorem cd_151_694 : cd 151 694 = some (.invokestatic 88, 3, 139, 3, 7, []) := rfl
set_option maxRecDepth 20000 in
theorem cd_151_697 : cd 151 697 = some (.iload 9, 2, 0, 0, 0, []) := rfl
set_option maxRecDepth 20000 in
theorem cd_151_699 : cd 151 699 = some (.if_icmp .ne 40, 3, 0, 0, 0, []) := rfl
set_option maxRecDepth 20000 in
theorem cd_151_702 : cd 151 702 = some (.aload 5, 2, 0, 0, 0, [1, 6, 10, 11, 12, 13, 14, 15, 16, 17, 18, 19]) := rfl
set_option maxRecDepth 20000 in
theorem cd_151_704 : cd 151 704 = some (.iload 7, 2, 0, 0, 0, []) := rfl
set_option maxRecDepth 20000 in
theorem cd_151_706 : cd 151 706 = some (.iaload, 1, 0, 0, 0, []) := rfl
set_option maxRecDepth 20000 in
theorem cd_151_707 : cd 151 707 = some (.ifCond .le 7, 3, 0, 0, 0, []) := rfl
set_option maxRecDepth 20000 in
theorem cd_151_710 : cd 151 710 = some (.iconst 1, 1, 0, 0, 0, []) := rfl
set_option maxRecDepth 20000 in
theorem cd_151_711 : cd 151 711 = some (.goto 4, 3, 0, 0, 0, []) := rfl
set_option maxRecDepth 20000 in
theorem cd_151_714 : cd 151 714 = some (.iconst 0, 1, 0, 0, 0, []) := rfl
set_option maxRecDepth 20000 in
theorem cd_151_715 : cd 151 715 = some (.iload 8, 2, 0, 0, 0, [1, 6, 10, 11, 12, 13, 14, 15, 16, 17, 18, 19]) := rfl
set_option maxRecDepth 20000 in
theorem cd_151_717 : cd 151 717 = some (.iconst (-1), 1, 0, 0, 0, []) := rfl
set_option maxRecDepth 20000 in
theorem cd_151_718 : cd 151 718 = some (.if_icmp .ne 9, 3, 0, 0, 0, []) := rfl
set_option maxRecDepth 20000 in
theorem cd_151_721 : cd 151 721 = some (.iload 9, 2, 0, 0, 0, []) := rfl
set_option maxRecDepth 20000 in
theorem cd_151_723 : cd 151 723 = some (.iconst (-1), 1, 0, 0, 0, []) := rfl
set_option maxRecDepth 20000 in
theorem cd_151_724 : cd 151 724 = some (.if_icmp .eq 7, 3, 0, 0, 0, []) := rfl
set_option maxRecDepth 20000 in
theorem cd_151_727 : cd 151 727 = some (.iconst 1, 1, 0, 0, 0, [1, 6, 8, 9, 10, 11, 12, 13, 14, 15, 16, 17, 18, 19]) := rfl
set_option maxRecDepth 20000 in
theorem cd_151_728 : cd 151 728 = some (.goto 4, 3, 0, 0, 0, []) := rfl
set_option maxRecDepth 20000 in
theorem cd_151_731 : cd 151 731 = some (.iconst 0, 1, 0, 0, 0, []) := rfl
set_option maxRecDepth 20000 in
theorem cd_151_732 : cd 151 732 = some (.if_icmp .ne 7, 3, 0, 0, 0, [1, 6, 8, 9, 10, 11, 12, 13, 14, 15, 16, 17, 18, 19]) := rfl
set_option maxRecDepth 20000 in
theorem cd_151_735 : cd 151 735 = some (.iconst 1, 1, 0, 0, 0, []) := rfl
set_option maxRecDepth 20000 in
theorem cd_151_736 : cd 151 736 = some (.goto 4, 3, 0, 0, 0, []) := rfl
set_option maxRecDepth 20000 in
theorem cd_151_739 : cd 151 739 = some (.iconst 0, 1, 0, 0, 0, [1, 6, 8, 9, 10, 11, 12, 13, 14, 15, 16, 17, 18, 19]) := rfl
set_option maxRecDepth 20000 in
theorem cd_151_740 : cd 151 740 = some (.istore 6, 2, 0, 0, 0, [1, 6, 8, 9, 10, 11, 12, 13, 14, 15, 16, 17, 18, 19]) := rfl
set_option maxRecDepth 20000 in
theorem cd_151_742 : cd 151 742 = some (.iinc 7 1, 3, 0, 0, 0, []) := rfl
set_option maxRecDepth 20000 in
theorem cd_151_745 : cd 151 745 = some (.goto (-138), 3, 0, 0, 0, []) := rfl
set_option maxRecDepth 20000 in
theorem cd_151_748 : cd 151 748 = some (.iload 6, 2, 0, 0, 0, [1, 2, 5, 7, 8, 9, 10, 11, 12, 13, 14, 15, 16, 17, 18, 19]) := rfl
set_option maxRecDepth 20000 in
theorem cd_151_750 : cd 151 750 = some (.ifCond .eq 28, 3, 0, 0, 0, []) := rfl
set_option maxRecDepth 20000 in
theorem cd_151_753 : cd 151 753 = some (.iload_n 3, 1, 0, 0, 0, []) := rfl
set_option maxRecDepth 20000 in
theorem cd_151_754 : cd 151 754 = some (.aload_n 0, 1, 0, 0, 0, []) := rfl
set_option maxRecDepth 20000 in
theorem cd_151_755 : cd 151 755 = some (.bipush 7, 2, 0, 0, 0, []) := rfl
set_option maxRecDepth 20000 in
theorem cd_151_757 : cd 151 757 = some (.invokestatic 79, 3, 137, 2, 7, []) := rfl
set_option maxRecDepth 20000 in
theorem cd_151_760 : cd 151 760 = some (.if_icmp .ne 18, 3, 0, 0, 0, []) := rfl
set_option maxRecDepth 20000 in
theorem cd_151_763 : cd 151 763 = some (.iload 4, 2, 0, 0, 0, []) := rfl
set_option maxRecDepth 20000 in
theorem cd_151_765 : cd 151 765 = some (.aload_n 0, 1, 0, 0, 0, []) := rfl
set_option maxRecDepth 20000 in
theorem cd_151_766 : cd 151 766 = some (.bipush 8, 2, 0, 0, 0, []) := rfl
set_option maxRecDepth 20000 in
theorem cd_151_768 : cd 151 768 = some (.invokestatic 79, 3, 137, 2, 7, []) := rfl
set_option maxRecDepth 20000 in
theorem cd_151_771 : cd 151 771 = some (.if_icmp .ne 7, 3, 0, 0, 0, []) := rfl
set_option maxRecDepth 20000 in
theorem cd_151_774 : cd 151 774 = some (.iconst 1, 1, 0, 0, 0, []) := rfl
set_option maxRecDepth 20000 in
theorem cd_151_775 : cd 151 775 = some (.goto 4, 3, 0, 0, 0, []) := rfl
set_option maxRecDepth 20000 in
theorem cd_151_778 : cd 151 778 = some (.iconst 0, 1, 0, 0, 0, [0, 1, 2, 3, 4, 5, 6, 7, 8, 9, 10, 11, 12, 13, 14, 15, 16, 17, 18, 19]) := rfl
set_option maxRecDepth 20000 in
theorem cd_151_779 : cd 151 779 = some (.ireturn, 1, 0, 0, 0, [0, 1, 2, 3, 4, 5, 6, 7, 8, 9, 10, 11, 12, 13, 14, 15, 16, 17, 18, 19]) := rfl
theorem cd_152_0 : cd 152 0 = some (.iconst 0, 1, 0, 0, 0, []) := rfl
theorem cd_152_1 : cd 152 1 = some (.istore_n 2, 1, 0, 0, 0, []) := rfl
theorem cd_152_2 : cd 152 2 = some (.iconst 0, 1, 0, 0, 0, []) := rfl
theorem cd_152_3 : cd 152 3 = some (.istore_n 3, 1, 0, 0, 0, []) := rfl
theorem cd_152_4 : cd 152 4 = some (.iconst 1, 1, 0, 0, 0, []) := rfl
theorem cd_152_5 : cd 152 5 = some (.istore 4, 2, 0, 0, 0, []) := rfl
theorem cd_152_7 : cd 152 7 = some (.iconst 0, 1, 0, 0, 0, []) := rfl
theorem cd_152_8 : cd 152 8 = some (.istore 5, 2, 0, 0, 0, []) := rfl
theorem cd_152_10 : cd 152 10 = some (.iload 5, 2, 0, 0, 0, [6, 7, 8]) := rfl
theorem cd_152_12 : cd 152 12 = some (.aload_n 0, 1, 0, 0, 0, []) := rfl
theorem cd_152_13 : cd 152 13 = some (.iload_n 1, 1, 0, 0, 0, []) := rfl
theorem cd_152_14 : cd 152 14 = some (.iconst 3, 1, 0, 0, 0, []) := rfl
theorem cd_152_15 : cd 152 15 = some (.invokestatic 88, 3, 139, 3, 7, []) := rfl
theorem cd_152_18 : cd 152 18 = some (.if_icmp .ge 173, 3, 0, 0, 0, []) := rfl
theorem cd_152_21 : cd 152 21 = some (.iload 4, 2, 0, 0, 0, []) := rfl
theorem cd_152_23 : cd 152 23 = some (.ifCond .eq 168, 3, 0, 0, 0, []) := rfl
theorem cd_152_26 : cd 152 26 = some (.aload_n 0, 1, 0, 0, 0, []) := rfl
theorem cd_152_27 : cd 152 27 = some (.iload_n 1, 1, 0, 0, 0, []) := rfl
theorem cd_152_28 : cd 152 28 = some (.iload 5, 2, 0, 0, 0, []) := rfl
theorem cd_152_30 : cd 152 30 = some (.invokestatic 104, 3, 140, 3, 7, []) := rfl
theorem cd_152_33 : cd 152 33 = some (.istore 6, 2, 0, 0, 0, []) := rfl
theorem cd_152_35 : cd 152 35 = some (.aload_n 0, 1, 0, 0, 0, []) := rfl
theorem cd_152_36 : cd 152 36 = some (.iload 6, 2, 0, 0, 0, []) := rfl
theorem cd_152_38 : cd 152 38 = some (.iconst 0, 1, 0, 0, 0, []) := rfl
theorem cd_152_39 : cd 152 39 = some (.invokestatic 84, 3, 136, 3, 7, []) := rfl
theorem cd_152_42 : cd 152 42 = some (.istore 7, 2, 0, 0, 0, []) := rfl
theorem cd_152_44 : cd 152 44 = some (.aload_n 0, 1, 0, 0, 0, []) := rfl
theorem cd_152_45 : cd 152 45 = some (.iload 6, 2, 0, 0, 0, []) := rfl
theorem cd_152_47 : cd 152 47 = some (.iconst 4, 1, 0, 0, 0, []) := rfl
theorem cd_152_48 : cd 152 48 = some (.invokestatic 84, 3, 136, 3, 7, []) := rfl
theorem cd_152_51 : cd 152 51 = some (.istore 8, 2, 0, 0, 0, []) := rfl
theorem cd_152_53 : cd 152 53 = some (.iload_n 3, 1, 0, 0, 0, []) := rfl
theorem cd_152_54 : cd 152 54 = some (.ifCond .ne 10, 3, 0, 0, 0, []) := rfl
theorem cd_152_57 : cd 152 57 = some (.iload 7, 2, 0, 0, 0, []) := rfl
theorem cd_152_59 : cd 152 59 = some (.bipush 58, 2, 0, 0, 0, []) := rfl
theorem cd_152_61 : cd 152 61 = some (.if_icmp .ne 7, 3, 0, 0, 0, []) := rfl
theorem cd_152_64 : cd 152 64 = some (.iconst 1, 1, 0, 0, 0, [3, 6]) := rfl
theorem cd_152_65 : cd 152 65 = some (.goto 4, 3, 0, 0, 0, []) := rfl
theorem cd_152_68 : cd 152 68 = some (.iconst 0, 1, 0, 0, 0, []) := rfl
theorem cd_152_69 : cd 152 69 = some (.istore_n 3, 1, 0, 0, 0, [3, 6]) := rfl
theorem cd_152_70 : cd 152 70 = some (.iload 8, 2, 0, 0, 0, []) := rfl
theorem cd_152_72 : cd 152 72 = some (.iconst (-1), 1, 0, 0, 0, []) := rfl
theorem cd_152_73 : cd 152 73 = some (.if_icmp .eq 112, 3, 0, 0, 0, []) := rfl
theorem cd_152_76 : cd 152 76 = some (.iload_n 3, 1, 0, 0, 0, []) := rfl
theorem cd_152_77 : cd 152 77 = some (.ifCond .eq 28, 3, 0, 0, 0, []) := rfl
theorem cd_152_80 : cd 152 80 = some (.iload_n 2, 1, 0, 0, 0, []) := rfl
theorem cd_152_81 : cd 152 81 = some (.ifCond .le 24, 3, 0, 0, 0, []) := rfl
theorem cd_152_84 : cd 152 84 = some (.aload_n 0, 1, 0, 0, 0, []) := rfl
theorem cd_152_85 : cd 152 85 = some (.iload_n 1, 1, 0, 0, 0, []) := rfl
theorem cd_152_86 : cd 152 86 = some (.iload_n 2, 1, 0, 0, 0, []) := rfl
theorem cd_152_87 : cd 152 87 = some (.invokestatic 106, 3, 141, 3, 7, []) := rfl
theorem cd_152_90 : cd 152 90 = some (.bipush 32, 2, 0, 0, 0, []) := rfl
theorem cd_152_92 : cd 152 92 = some (.if_icmp .ne 7, 3, 0, 0, 0, []) := rfl
theorem cd_152_95 : cd 152 95 = some (.iconst 1, 1, 0, 0, 0, []) := rfl
theorem cd_152_96 : cd 152 96 = some (.goto 4, 3, 0, 0, 0, []) := rfl
theorem cd_152_99 : cd 152 99 = some (.iconst 0, 1, 0, 0, 0, []) := rfl
theorem cd_152_100 : cd 152 100 = some (.istore 4, 2, 0, 0, 0, [3, 4, 6]) := rfl
theorem cd_152_102 : cd 152 102 = some (.iinc 2 1, 3, 0, 0, 0, []) := rfl
theorem cd_152_105 : cd 152 105 = some (.iconst 0, 1, 0, 0, 0, [3, 6]) := rfl
theorem cd_152_106 : cd 152 106 = some (.istore_n 3, 1, 0, 0, 0, []) := rfl
theorem cd_152_107 : cd 152 107 = some (.iload 4, 2, 0, 0, 0, []) := rfl
theorem cd_152_109 : cd 152 109 = some (.ifCond .eq 21, 3, 0, 0, 0, []) := rfl
theorem cd_152_112 : cd 152 112 = some (.aload_n 0, 1, 0, 0, 0, []) := rfl
theorem cd_152_113 : cd 152 113 = some (.iload_n 1, 1, 0, 0, 0, []) := rfl
theorem cd_152_114 : cd 152 114 = some (.iload_n 2, 1, 0, 0, 0, []) := rfl
theorem cd_152_115 : cd 152 115 = some (.invokestatic 106, 3, 141, 3, 7, []) := rfl
theorem cd_152_118 : cd 152 118 = some (.bipush 97, 2, 0, 0, 0, []) := rfl
theorem cd_152_120 : cd 152 120 = some (.iload 8, 2, 0, 0, 0, []) := rfl
theorem cd_152_122 : cd 152 122 = some (.iadd, 1, 0, 0, 0, []) := rfl
theorem cd_152_123 : cd 152 123 = some (.if_icmp .ne 7, 3, 0, 0, 0, []) := rfl
theorem cd_152_126 : cd 152 126 = some (.iconst 1, 1, 0, 0, 0, []) := rfl
theorem cd_152_127 : cd 152 127 = some (.goto 4, 3, 0, 0, 0, []) := rfl
theorem cd_152_130 : cd 152 130 = some (.iconst 0, 1, 0, 0, 0, [4, 6]) := rfl
theorem cd_152_131 : cd 152 131 = some (.istore 4, 2, 0, 0, 0, [4, 6]) := rfl
theorem cd_152_133 : cd 152 133 = some (.iinc 2 1, 3, 0, 0, 0, []) := rfl
theorem cd_152_136 : cd 152 136 = some (.iload 7, 2, 0, 0, 0, []) := rfl
theorem cd_152_138 : cd 152 138 = some (.bipush 97, 2, 0, 0, 0, []) := rfl
theorem cd_152_140 : cd 152 140 = some (.if_icmp .ge 45, 3, 0, 0, 0, []) := rfl
theorem cd_152_143 : cd 152 143 = some (.iload 4, 2, 0, 0, 0, []) := rfl
theorem cd_152_145 : cd 152 145 = some (.ifCond .eq 34, 3, 0, 0, 0, []) := rfl
theorem cd_152_148 : cd 152 148 = some (.aload_n 0, 1, 0, 0, 0, []) := rfl
theorem cd_152_149 : cd 152 149 = some (.iload_n 1, 1, 0, 0, 0, []) := rfl
theorem cd_152_150 : cd 152 150 = some (.iload_n 2, 1, 0, 0, 0, []) := rfl
theorem cd_152_151 : cd 152 151 = some (.invokestatic 106, 3, 141, 3, 7, []) := rfl
theorem cd_152_154 : cd 152 154 = some (.bipush 32, 2, 0, 0, 0, []) := rfl
theorem cd_152_156 : cd 152 156 = some (.if_icmp .ne 23, 3, 0, 0, 0, []) := rfl
theorem cd_152_159 : cd 152 159 = some (.aload_n 0, 1, 0, 0, 0, []) := rfl
theorem cd_152_160 : cd 152 160 = some (.iload_n 1, 1, 0, 0, 0, []) := rfl
theorem cd_152_161 : cd 152 161 = some (.iload_n 2, 1, 0, 0, 0, []) := rfl
theorem cd_152_162 : cd 152 162 = some (.iconst 1, 1, 0, 0, 0, []) := rfl
theorem cd_152_163 : cd 152 163 = some (.iadd, 1, 0, 0, 0, []) := rfl
theorem cd_152_164 : cd 152 164 = some (.invokestatic 106, 3, 141, 3, 7, []) := rfl
theorem cd_152_167 : cd 152 167 = some (.bipush 97, 2, 0, 0, 0, []) := rfl
theorem cd_152_169 : cd 152 169 = some (.iload 8, 2, 0, 0, 0, []) := rfl
theorem cd_152_171 : cd 152 171 = some (.iadd, 1, 0, 0, 0, []) := rfl
theorem cd_152_172 : cd 152 172 = some (.if_icmp .ne 7, 3, 0, 0, 0, []) := rfl
theorem cd_152_175 : cd 152 175 = some (.iconst 1, 1, 0, 0, 0, []) := rfl
theorem cd_152_176 : cd 152 176 = some (.goto 4, 3, 0, 0, 0, []) := rfl
theorem cd_152_179 : cd 152 179 = some (.iconst 0, 1, 0, 0, 0, [4, 6, 7, 8]) := rfl
theorem cd_152_180 : cd 152 180 = some (.istore 4, 2, 0, 0, 0, [4, 6, 7, 8]) := rfl
theorem cd_152_182 : cd 152 182 = some (.iinc 2 2, 3, 0, 0, 0, []) := rfl
theorem cd_152_185 : cd 152 185 = some (.iinc 5 1, 3, 0, 0, 0, [6, 7, 8]) := rfl
theorem cd_152_188 : cd 152 188 = some (.goto (-178), 3, 0, 0, 0, []) := rfl
theorem cd_152_191 : cd 152 191 = some (.iload 4, 2, 0, 0, 0, [3, 5, 6, 7, 8]) := rfl
theorem cd_152_193 : cd 152 193 = some (.ifCond .eq 25, 3, 0, 0, 0, []) := rfl
theorem cd_152_196 : cd 152 196 = some (.aload_n 0, 1, 0, 0, 0, []) := rfl
theorem cd_152_197 : cd 152 197 = some (.iload_n 1, 1, 0, 0, 0, []) := rfl
theorem cd_152_198 : cd 152 198 = some (.iload_n 2, 1, 0, 0, 0, []) := rfl
theorem cd_152_199 : cd 152 199 = some (.invokestatic 106, 3, 141, 3, 7, []) := rfl
theorem cd_152_202 : cd 152 202 = some (.iconst (-1), 1, 0, 0, 0, []) := rfl
theorem cd_152_203 : cd 152 203 = some (.if_icmp .ne 15, 3, 0, 0, 0, []) := rfl
theorem cd_152_206 : cd 152 206 = some (.aload_n 0, 1, 0, 0, 0, []) := rfl
theorem cd_152_207 : cd 152 207 = some (.iload_n 1, 1, 0, 0, 0, []) := rfl
theorem cd_152_208 : cd 152 208 = some (.invokestatic 128, 3, 154, 2, 2, []) := rfl
theorem cd_152_211 : cd 152 211 = some (.ifCond .eq 7, 3, 0, 0, 0, []) := rfl
theorem cd_152_214 : cd 152 214 = some (.iconst 1, 1, 0, 0, 0, []) := rfl
theorem cd_152_215 : cd 152 215 = some (.goto 4, 3, 0, 0, 0, []) := rfl
theorem cd_152_218 : cd 152 218 = some (.iconst 0, 1, 0, 0, 0, [0, 1, 2, 3, 4, 5, 6, 7, 8]) := rfl
theorem cd_152_219 : cd 152 219 = some (.ireturn, 1, 0, 0, 0, [0, 1, 2, 3, 4, 5, 6, 7, 8]) := rfl
theorem cd_153_0 : cd 153 0 = some (.iconst 0, 1, 0, 0, 0, []) := rfl
theorem cd_153_1 : cd 153 1 = some (.istore 4, 2, 0, 0, 0, []) := rfl
theorem cd_153_3 : cd 153 3 = some (.iconst 0, 1, 0, 0, 0, []) := rfl
theorem cd_153_4 : cd 153 4 = some (.istore 5, 2, 0, 0, 0, []) := rfl
theorem cd_153_6 : cd 153 6 = some (.iload 5, 2, 0, 0, 0, [6, 7, 8]) := rfl
theorem cd_153_8 : cd 153 8 = some (.aload_n 0, 1, 0, 0, 0, []) := rfl
theorem cd_153_9 : cd 153 9 = some (.bipush 9, 2, 0, 0, 0, []) := rfl
theorem cd_153_11 : cd 153 11 = some (.invokestatic 79, 3, 137, 2, 7, []) := rfl
theorem cd_153_14 : cd 153 14 = some (.if_icmp .ge 108, 3, 0, 0, 0, []) := rfl
theorem cd_153_17 : cd 153 17 = some (.iload_n 3, 1, 0, 0, 0, []) := rfl
theorem cd_153_18 : cd 153 18 = some (.iload_n 2, 1, 0, 0, 0, []) := rfl
theorem cd_153_19 : cd 153 19 = some (.isub, 1, 0, 0, 0, []) := rfl
theorem cd_153_20 : cd 153 20 = some (.bipush 9, 2, 0, 0, 0, []) := rfl
theorem cd_153_22 : cd 153 22 = some (.if_icmp .ge 7, 3, 0, 0, 0, []) := rfl
theorem cd_153_25 : cd 153 25 = some (.iconst 1, 1, 0, 0, 0, []) := rfl
theorem cd_153_26 : cd 153 26 = some (.goto 4, 3, 0, 0, 0, []) := rfl
theorem cd_153_29 : cd 153 29 = some (.iconst 0, 1, 0, 0, 0, []) := rfl
theorem cd_153_30 : cd 153 30 = some (.istore 6, 2, 0, 0, 0, [6, 7, 8]) := rfl
theorem cd_153_32 : cd 153 32 = some (.iconst 0, 1, 0, 0, 0, []) := rfl
theorem cd_153_33 : cd 153 33 = some (.istore 7, 2, 0, 0, 0, []) := rfl
theorem cd_153_35 : cd 153 35 = some (.iload 7, 2, 0, 0, 0, [8]) := rfl
theorem cd_153_37 : cd 153 37 = some (.bipush 8, 2, 0, 0, 0, []) := rfl
theorem cd_153_39 : cd 153 39 = some (.if_icmp .ge 60, 3, 0, 0, 0, []) := rfl
theorem cd_153_42 : cd 153 42 = some (.iload 6, 2, 0, 0, 0, []) := rfl
theorem cd_153_44 : cd 153 44 = some (.ifCond .eq 55, 3, 0, 0, 0, []) := rfl
theorem cd_153_47 : cd 153 47 = some (.aload_n 0, 1, 0, 0, 0, []) := rfl
theorem cd_153_48 : cd 153 48 = some (.iload 5, 2, 0, 0, 0, []) := rfl
theorem cd_153_50 : cd 153 50 = some (.iload 7, 2, 0, 0, 0, []) := rfl
theorem cd_153_52 : cd 153 52 = some (.invokestatic 92, 3, 138, 3, 7, []) := rfl
theorem cd_153_55 : cd 153 55 = some (.istore 8, 2, 0, 0, 0, []) := rfl
theorem cd_153_57 : cd 153 57 = some (.iload 8, 2, 0, 0, 0, []) := rfl
theorem cd_153_59 : cd 153 59 = some (.iload 7, 2, 0, 0, 0, []) := rfl
theorem cd_153_61 : cd 153 61 = some (.iload_n 3, 1, 0, 0, 0, []) := rfl
theorem cd_153_62 : cd 153 62 = some (.iload_n 2, 1, 0, 0, 0, []) := rfl
theorem cd_153_63 : cd 153 63 = some (.isub, 1, 0, 0, 0, []) := rfl
theorem cd_153_64 : cd 153 64 = some (.if_icmp .ge 18, 3, 0, 0, 0, []) := rfl
theorem cd_153_67 : cd 153 67 = some (.aload_n 0, 1, 0, 0, 0, []) := rfl
theorem cd_153_68 : cd 153 68 = some (.iload_n 1, 1, 0, 0, 0, []) := rfl
theorem cd_153_69 : cd 153 69 = some (.iload_n 2, 1, 0, 0, 0, []) := rfl
theorem cd_153_70 : cd 153 70 = some (.iload 7, 2, 0, 0, 0, []) := rfl
theorem cd_153_72 : cd 153 72 = some (.iadd, 1, 0, 0, 0, []) := rfl
theorem cd_153_73 : cd 153 73 = some (.invokestatic 106, 3, 141, 3, 7, []) := rfl
theorem cd_153_76 : cd 153 76 = some (.bipush 97, 2, 0, 0, 0, []) := rfl
theorem cd_153_78 : cd 153 78 = some (.isub, 1, 0, 0, 0, []) := rfl
theorem cd_153_79 : cd 153 79 = some (.goto 4, 3, 0, 0, 0, []) := rfl
theorem cd_153_82 : cd 153 82 = some (.iconst (-1), 1, 0, 0, 0, []) := rfl
theorem cd_153_83 : cd 153 83 = some (.if_icmp .ne 7, 3, 0, 0, 0, [6, 8]) := rfl
theorem cd_153_86 : cd 153 86 = some (.iconst 1, 1, 0, 0, 0, []) := rfl
theorem cd_153_87 : cd 153 87 = some (.goto 4, 3, 0, 0, 0, []) := rfl
theorem cd_153_90 : cd 153 90 = some (.iconst 0, 1, 0, 0, 0, []) := rfl
theorem cd_153_91 : cd 153 91 = some (.istore 6, 2, 0, 0, 0, [6, 8]) := rfl
theorem cd_153_93 : cd 153 93 = some (.iinc 7 1, 3, 0, 0, 0, []) := rfl
theorem cd_153_96 : cd 153 96 = some (.goto (-61), 3, 0, 0, 0, []) := rfl
theorem cd_153_99 : cd 153 99 = some (.iload 4, 2, 0, 0, 0, [7, 8]) := rfl
theorem cd_153_101 : cd 153 101 = some (.ifCond .ne 8, 3, 0, 0, 0, []) := rfl
theorem cd_153_104 : cd 153 104 = some (.iload 6, 2, 0, 0, 0, []) := rfl
theorem cd_153_106 : cd 153 106 = some (.ifCond .eq 7, 3, 0, 0, 0, []) := rfl
theorem cd_153_109 : cd 153 109 = some (.iconst 1, 1, 0, 0, 0, [4, 6, 7, 8]) := rfl
theorem cd_153_110 : cd 153 110 = some (.goto 4, 3, 0, 0, 0, []) := rfl
theorem cd_153_113 : cd 153 113 = some (.iconst 0, 1, 0, 0, 0, []) := rfl
theorem cd_153_114 : cd 153 114 = some (.istore 4, 2, 0, 0, 0, [4, 6, 7, 8]) := rfl
theorem cd_153_116 : cd 153 116 = some (.iinc 5 1, 3, 0, 0, 0, []) := rfl
theorem cd_153_119 : cd 153 119 = some (.goto (-113), 3, 0, 0, 0, []) := rfl
theorem cd_153_122 : cd 153 122 = some (.iload 4, 2, 0, 0, 0, []) := rfl
theorem cd_153_124 : cd 153 124 = some (.ireturn, 1, 0, 0, 0, []) := rfl
theorem cd_154_0 : cd 154 0 = some (.iconst 0, 1, 0, 0, 0, []) := rfl
theorem cd_154_1 : cd 154 1 = some (.istore_n 2, 1, 0, 0, 0, []) := rfl
theorem cd_154_2 : cd 154 2 = some (.iconst 0, 1, 0, 0, 0, []) := rfl
theorem cd_154_3 : cd 154 3 = some (.istore_n 3, 1, 0, 0, 0, []) := rfl
theorem cd_154_4 : cd 154 4 = some (.iconst 0, 1, 0, 0, 0, []) := rfl
theorem cd_154_5 : cd 154 5 = some (.istore 4, 2, 0, 0, 0, []) := rfl
theorem cd_154_7 : cd 154 7 = some (.aload_n 0, 1, 0, 0, 0, [5]) := rfl
theorem cd_154_8 : cd 154 8 = some (.iload_n 1, 1, 0, 0, 0, []) := rfl
theorem cd_154_9 : cd 154 9 = some (.iload 4, 2, 0, 0, 0, []) := rfl
theorem cd_154_11 : cd 154 11 = some (.invokestatic 106, 3, 141, 3, 7, []) := rfl
theorem cd_154_14 : cd 154 14 = some (.iconst (-1), 1, 0, 0, 0, []) := rfl
theorem cd_154_15 : cd 154 15 = some (.if_icmp .eq 74, 3, 0, 0, 0, []) := rfl
theorem cd_154_18 : cd 154 18 = some (.iload 4, 2, 0, 0, 0, []) := rfl
theorem cd_154_20 : cd 154 20 = some (.istore 5, 2, 0, 0, 0, []) := rfl
theorem cd_154_22 : cd 154 22 = some (.aload_n 0, 1, 0, 0, 0, []) := rfl
theorem cd_154_23 : cd 154 23 = some (.iload_n 1, 1, 0, 0, 0, []) := rfl
theorem cd_154_24 : cd 154 24 = some (.iload 5, 2, 0, 0, 0, []) := rfl
theorem cd_154_26 : cd 154 26 = some (.invokestatic 106, 3, 141, 3, 7, []) := rfl
theorem cd_154_29 : cd 154 29 = some (.bipush 32, 2, 0, 0, 0, []) := rfl
theorem cd_154_31 : cd 154 31 = some (.if_icmp .le 9, 3, 0, 0, 0, []) := rfl
theorem cd_154_34 : cd 154 34 = some (.iinc 5 1, 3, 0, 0, 0, []) := rfl
theorem cd_154_37 : cd 154 37 = some (.goto (-15), 3, 0, 0, 0, []) := rfl
theorem cd_154_40 : cd 154 40 = some (.iinc 2 1, 3, 0, 0, 0, []) := rfl
theorem cd_154_43 : cd 154 43 = some (.iload_n 3, 1, 0, 0, 0, []) := rfl
theorem cd_154_44 : cd 154 44 = some (.aload_n 0, 1, 0, 0, 0, []) := rfl
theorem cd_154_45 : cd 154 45 = some (.iload_n 1, 1, 0, 0, 0, []) := rfl
theorem cd_154_46 : cd 154 46 = some (.iload 4, 2, 0, 0, 0, []) := rfl
theorem cd_154_48 : cd 154 48 = some (.iload 5, 2, 0, 0, 0, []) := rfl
theorem cd_154_50 : cd 154 50 = some (.invokestatic 131, 3, 153, 4, 2, []) := rfl
theorem cd_154_53 : cd 154 53 = some (.ifCond .eq 7, 3, 0, 0, 0, []) := rfl
theorem cd_154_56 : cd 154 56 = some (.iconst 1, 1, 0, 0, 0, []) := rfl
theorem cd_154_57 : cd 154 57 = some (.goto 4, 3, 0, 0, 0, []) := rfl
theorem cd_154_60 : cd 154 60 = some (.iconst 0, 1, 0, 0, 0, []) := rfl
theorem cd_154_61 : cd 154 61 = some (.iadd, 1, 0, 0, 0, [3, 4]) := rfl
theorem cd_154_62 : cd 154 62 = some (.istore_n 3, 1, 0, 0, 0, []) := rfl
theorem cd_154_63 : cd 154 63 = some (.aload_n 0, 1, 0, 0, 0, []) := rfl
theorem cd_154_64 : cd 154 64 = some (.iload_n 1, 1, 0, 0, 0, []) := rfl
theorem cd_154_65 : cd 154 65 = some (.iload 5, 2, 0, 0, 0, []) := rfl
theorem cd_154_67 : cd 154 67 = some (.invokestatic 106, 3, 141, 3, 7, []) := rfl
theorem cd_154_70 : cd 154 70 = some (.bipush 32, 2, 0, 0, 0, []) := rfl
theorem cd_154_72 : cd 154 72 = some (.if_icmp .ne 10, 3, 0, 0, 0, []) := rfl
theorem cd_154_75 : cd 154 75 = some (.iload 5, 2, 0, 0, 0, []) := rfl
theorem cd_154_77 : cd 154 77 = some (.iconst 1, 1, 0, 0, 0, []) := rfl
theorem cd_154_78 : cd 154 78 = some (.iadd, 1, 0, 0, 0, []) := rfl
theorem cd_154_79 : cd 154 79 = some (.goto 5, 3, 0, 0, 0, []) := rfl
theorem cd_154_82 : cd 154 82 = some (.iload 5, 2, 0, 0, 0, []) := rfl
theorem cd_154_84 : cd 154 84 = some (.istore 4, 2, 0, 0, 0, [4, 5]) := rfl
theorem cd_154_86 : cd 154 86 = some (.goto (-79), 3, 0, 0, 0, []) := rfl
theorem cd_154_89 : cd 154 89 = some (.aload_n 0, 1, 0, 0, 0, []) := rfl
theorem cd_154_90 : cd 154 90 = some (.iload_n 1, 1, 0, 0, 0, []) := rfl
theorem cd_154_91 : cd 154 91 = some (.invokestatic 90, 3, 142, 2, 7, []) := rfl
theorem cd_154_94 : cd 154 94 = some (.iload_n 2, 1, 0, 0, 0, []) := rfl
theorem cd_154_95 : cd 154 95 = some (.ifCond .le 12, 3, 0, 0, 0, []) := rfl
theorem cd_154_98 : cd 154 98 = some (.iload_n 3, 1, 0, 0, 0, []) := rfl
theorem cd_154_99 : cd 154 99 = some (.iload_n 2, 1, 0, 0, 0, []) := rfl
theorem cd_154_100 : cd 154 100 = some (.if_icmp .ne 7, 3, 0, 0, 0, []) := rfl
theorem cd_154_103 : cd 154 103 = some (.iload_n 3, 1, 0, 0, 0, []) := rfl
theorem cd_154_104 : cd 154 104 = some (.goto 6, 3, 0, 0, 0, []) := rfl
theorem cd_154_107 : cd 154 107 = some (.iconst (-1), 1, 0, 0, 0, [0, 1, 2, 4, 5]) := rfl
theorem cd_154_108 : cd 154 108 = some (.iload_n 3, 1, 0, 0, 0, []) := rfl
theorem cd_154_109 : cd 154 109 = some (.isub, 1, 0, 0, 0, []) := rfl
theorem cd_154_110 : cd 154 110 = some (.if_icmp .ne 7, 3, 0, 0, 0, [0, 1, 2, 3, 4, 5]) := rfl
theorem cd_154_113 : cd 154 113 = some (.iconst 1, 1, 0, 0, 0, []) := rfl
theorem cd_154_114 : cd 154 114 = some (.goto 4, 3, 0, 0, 0, []) := rfl
theorem cd_154_117 : cd 154 117 = some (.iconst 0, 1, 0, 0, 0, []) := rfl
theorem cd_154_118 : cd 154 118 = some (.ireturn, 1, 0, 0, 0, [0, 1, 2, 3, 4, 5]) := rfl
theorem cd_155_0 : cd 155 0 = some (.aload_n 0, 1, 0, 0, 0, []) := rfl
theorem cd_155_1 : cd 155 1 = some (.invokestatic 94, 3, 149, 1, 2, []) := rfl
theorem cd_155_4 : cd 155 4 = some (.lstore_n 1, 1, 0, 0, 0, []) := rfl
theorem cd_155_5 : cd 155 5 = some (.aload_n 0, 1, 0, 0, 0, []) := rfl
theorem cd_155_6 : cd 155 6 = some (.bipush 50, 2, 0, 0, 0, []) := rfl
theorem cd_155_8 : cd 155 8 = some (.invokestatic 110, 3, 144, 2, 7, []) := rfl
theorem cd_155_11 : cd 155 11 = some (.istore_n 3, 1, 0, 0, 0, []) := rfl
theorem cd_155_12 : cd 155 12 = some (.aload_n 0, 1, 0, 0, 0, []) := rfl
theorem cd_155_13 : cd 155 13 = some (.bipush 50, 2, 0, 0, 0, []) := rfl
theorem cd_155_15 : cd 155 15 = some (.invokestatic 112, 3, 145, 2, 7, []) := rfl
theorem cd_155_18 : cd 155 18 = some (.istore 4, 2, 0, 0, 0, []) := rfl
theorem cd_155_20 : cd 155 20 = some (.aload_n 0, 1, 0, 0, 0, []) := rfl
theorem cd_155_21 : cd 155 21 = some (.invokevirtual 135, 3, 98, 1, 0, []) := rfl
theorem cd_155_24 : cd 155 24 = some (.istore 5, 2, 0, 0, 0, []) := rfl
theorem cd_155_26 : cd 155 26 = some (.lconst 0, 1, 0, 0, 0, []) := rfl
theorem cd_155_27 : cd 155 27 = some (.lstore 6, 2, 0, 0, 0, []) := rfl
theorem cd_155_29 : cd 155 29 = some (.iconst 0, 1, 0, 0, 0, []) := rfl
theorem cd_155_30 : cd 155 30 = some (.istore 8, 2, 0, 0, 0, []) := rfl
theorem cd_155_32 : cd 155 32 = some (.iconst 0, 1, 0, 0, 0, []) := rfl
theorem cd_155_33 : cd 155 33 = some (.istore 9, 2, 0, 0, 0, []) := rfl
theorem cd_155_35 : cd 155 35 = some (.iload_n 3, 1, 0, 0, 0, []) := rfl
theorem cd_155_36 : cd 155 36 = some (.ifCond .lt 109, 3, 0, 0, 0, []) := rfl
theorem cd_155_39 : cd 155 39 = some (.iload_n 3, 1, 0, 0, 0, []) := rfl
theorem cd_155_40 : cd 155 40 = some (.bipush 50, 2, 0, 0, 0, []) := rfl
theorem cd_155_42 : cd 155 42 = some (.if_icmp .gt 103, 3, 0, 0, 0, []) := rfl
theorem cd_155_45 : cd 155 45 = some (.aload_n 0, 1, 0, 0, 0, []) := rfl
theorem cd_155_46 : cd 155 46 = some (.iconst 1, 1, 0, 0, 0, []) := rfl
theorem cd_155_47 : cd 155 47 = some (.invokestatic 110, 3, 144, 2, 7, []) := rfl
theorem cd_155_50 : cd 155 50 = some (.iload_n 3, 1, 0, 0, 0, []) := rfl
theorem cd_155_51 : cd 155 51 = some (.ifCond .le 7, 3, 0, 0, 0, []) := rfl
theorem cd_155_54 : cd 155 54 = some (.iconst 1, 1, 0, 0, 0, []) := rfl
theorem cd_155_55 : cd 155 55 = some (.goto 4, 3, 0, 0, 0, []) := rfl
theorem cd_155_58 : cd 155 58 = some (.iconst 0, 1, 0, 0, 0, []) := rfl
theorem cd_155_59 : cd 155 59 = some (.if_icmp .ne 86, 3, 0, 0, 0, [2, 7, 10, 11, 12, 13, 14, 15, 16]) := rfl
theorem cd_155_62 : cd 155 62 = some (.iload_n 3, 1, 0, 0, 0, []) := rfl
theorem cd_155_63 : cd 155 63 = some (.ifCond .ne 21, 3, 0, 0, 0, []) := rfl
theorem cd_155_66 : cd 155 66 = some (.iload 5, 2, 0, 0, 0, []) := rfl
theorem cd_155_68 : cd 155 68 = some (.iconst (-1), 1, 0, 0, 0, []) := rfl
theorem cd_155_69 : cd 155 69 = some (.if_icmp .ne 76, 3, 0, 0, 0, []) := rfl
theorem cd_155_72 : cd 155 72 = some (.aload_n 0, 1, 0, 0, 0, []) := rfl
theorem cd_155_73 : cd 155 73 = some (.iconst 0, 1, 0, 0, 0, []) := rfl
theorem cd_155_74 : cd 155 74 = some (.invokestatic 114, 3, 146, 2, 7, []) := rfl
theorem cd_155_77 : cd 155 77 = some (.iconst (-1), 1, 0, 0, 0, []) := rfl
theorem cd_155_78 : cd 155 78 = some (.if_icmp .ne 67, 3, 0, 0, 0, []) := rfl
theorem cd_155_81 : cd 155 81 = some (.goto 21, 3, 0, 0, 0, []) := rfl
theorem cd_155_84 : cd 155 84 = some (.iload 5, 2, 0, 0, 0, []) := rfl
theorem cd_155_86 : cd 155 86 = some (.ifCond .lt 59, 3, 0, 0, 0, []) := rfl
theorem cd_155_89 : cd 155 89 = some (.iload 5, 2, 0, 0, 0, []) := rfl
theorem cd_155_91 : cd 155 91 = some (.ifCond .gt 11, 3, 0, 0, 0, []) := rfl
theorem cd_155_94 : cd 155 94 = some (.aload_n 0, 1, 0, 0, 0, []) := rfl
theorem cd_155_95 : cd 155 95 = some (.iconst 2, 1, 0, 0, 0, []) := rfl
theorem cd_155_96 : cd 155 96 = some (.invokestatic 79, 3, 137, 2, 7, []) := rfl
theorem cd_155_99 : cd 155 99 = some (.ifCond .ne 46, 3, 0, 0, 0, []) := rfl
theorem cd_155_102 : cd 155 102 = some (.iload 4, 2, 0, 0, 0, [2, 7, 10, 11, 12, 13, 14, 15, 16]) := rfl
theorem cd_155_104 : cd 155 104 = some (.sipush (-2000), 3, 0, 0, 0, []) := rfl
theorem cd_155_107 : cd 155 107 = some (.if_icmp .eq 16, 3, 0, 0, 0, []) := rfl
theorem cd_155_110 : cd 155 110 = some (.iload 4, 2, 0, 0, 0, []) := rfl
theorem cd_155_112 : cd 155 112 = some (.ifCond .le 33, 3, 0, 0, 0, []) := rfl
theorem cd_155_115 : cd 155 115 = some (.iload 4, 2, 0, 0, 0, []) := rfl
theorem cd_155_117 : cd 155 117 = some (.sipush 2000, 3, 0, 0, 0, []) := rfl
theorem cd_155_120 : cd 155 120 = some (.if_icmp .gt 25, 3, 0, 0, 0, []) := rfl
theorem cd_155_123 : cd 155 123 = some (.aload_n 0, 1, 0, 0, 0, [2, 4, 7, 10, 11, 12, 13, 14, 15, 16]) := rfl
theorem cd_155_124 : cd 155 124 = some (.iconst 3, 1, 0, 0, 0, []) := rfl
theorem cd_155_125 : cd 155 125 = some (.invokestatic 110, 3, 144, 2, 7, []) := rfl
theorem cd_155_128 : cd 155 128 = some (.iload_n 3, 1, 0, 0, 0, []) := rfl
theorem cd_155_129 : cd 155 129 = some (.iconst 3, 1, 0, 0, 0, []) := rfl
theorem cd_155_130 : cd 155 130 = some (.if_icmp .ge 7, 3, 0, 0, 0, []) := rfl
theorem cd_155_133 : cd 155 133 = some (.iload_n 3, 1, 0, 0, 0, []) := rfl
theorem cd_155_134 : cd 155 134 = some (.goto 4, 3, 0, 0, 0, []) := rfl
theorem cd_155_137 : cd 155 137 = some (.iconst 3, 1, 0, 0, 0, []) := rfl
theorem cd_155_138 : cd 155 138 = some (.if_icmp .ne 7, 3, 0, 0, 0, [2, 4, 7, 10, 11, 12, 13, 14, 15, 16]) := rfl
theorem cd_155_141 : cd 155 141 = some (.iconst 1, 1, 0, 0, 0, []) := rfl
theorem cd_155_142 : cd 155 142 = some (.goto 4, 3, 0, 0, 0, []) := rfl
theorem cd_155_145 : cd 155 145 = some (.iconst 0, 1, 0, 0, 0, [2, 4, 7, 10, 11, 12, 13, 14, 15, 16]) := rfl
theorem cd_155_146 : cd 155 146 = some (.istore 10, 2, 0, 0, 0, [2, 4, 7, 10, 11, 12, 13, 14, 15, 16]) := rfl
theorem cd_155_148 : cd 155 148 = some (.iconst 0, 1, 0, 0, 0, []) := rfl
theorem cd_155_149 : cd 155 149 = some (.istore 11, 2, 0, 0, 0, []) := rfl
theorem cd_155_151 : cd 155 151 = some (.iload 11, 2, 0, 0, 0, [2, 4, 7, 12, 13, 14, 15, 16]) := rfl
theorem cd_155_153 : cd 155 153 = some (.bipush 28, 2, 0, 0, 0, []) := rfl
theorem cd_155_155 : cd 155 155 = some (.if_icmp .ge 196, 3, 0, 0, 0, []) := rfl
theorem cd_155_158 : cd 155 158 = some (.iload 10, 2, 0, 0, 0, []) := rfl
theorem cd_155_160 : cd 155 160 = some (.ifCond .eq 191, 3, 0, 0, 0, []) := rfl
theorem cd_155_163 : cd 155 163 = some (.aload_n 0, 1, 0, 0, 0, []) := rfl
theorem cd_155_164 : cd 155 164 = some (.iload 11, 2, 0, 0, 0, []) := rfl
theorem cd_155_166 : cd 155 166 = some (.invokestatic 114, 3, 146, 2, 7, []) := rfl
theorem cd_155_169 : cd 155 169 = some (.iconst (-1), 1, 0, 0, 0, []) := rfl
theorem cd_155_170 : cd 155 170 = some (.if_icmp .eq 181, 3, 0, 0, 0, []) := rfl
theorem cd_155_173 : cd 155 173 = some (.aload_n 0, 1, 0, 0, 0, []) := rfl
theorem cd_155_174 : cd 155 174 = some (.iload 11, 2, 0, 0, 0, []) := rfl
theorem cd_155_176 : cd 155 176 = some (.invokestatic 114, 3, 146, 2, 7, []) := rfl
theorem cd_155_179 : cd 155 179 = some (.istore 12, 2, 0, 0, 0, []) := rfl
theorem cd_155_181 : cd 155 181 = some (.iconst 0, 1, 0, 0, 0, []) := rfl
theorem cd_155_182 : cd 155 182 = some (.istore 13, 2, 0, 0, 0, []) := rfl
theorem cd_155_184 : cd 155 184 = some (.aload_n 0, 1, 0, 0, 0, []) := rfl
theorem cd_155_185 : cd 155 185 = some (.iload 12, 2, 0, 0, 0, []) := rfl
theorem cd_155_187 : cd 155 187 = some (.iconst 0, 1, 0, 0, 0, []) := rfl
theorem cd_155_188 : cd 155 188 = some (.invokestatic 88, 3, 139, 3, 7, []) := rfl
theorem cd_155_191 : cd 155 191 = some (.iload 12, 2, 0, 0, 0, []) := rfl
theorem cd_155_193 : cd 155 193 = some (.if_icmp .ne 18, 3, 0, 0, 0, []) := rfl
theorem cd_155_196 : cd 155 196 = some (.aload_n 0, 1, 0, 0, 0, []) := rfl
theorem cd_155_197 : cd 155 197 = some (.iload 12, 2, 0, 0, 0, []) := rfl
theorem cd_155_199 : cd 155 199 = some (.bipush 6, 2, 0, 0, 0, []) := rfl
theorem cd_155_201 : cd 155 201 = some (.invokestatic 88, 3, 139, 3, 7, []) := rfl
theorem cd_155_204 : cd 155 204 = some (.ifCond .ne 7, 3, 0, 0, 0, []) := rfl
theorem cd_155_207 : cd 155 207 = some (.iconst 1, 1, 0, 0, 0, []) := rfl
theorem cd_155_208 : cd 155 208 = some (.goto 4, 3, 0, 0, 0, []) := rfl
theorem cd_155_211 : cd 155 211 = some (.iconst 0, 1, 0, 0, 0, [2, 4, 7, 10, 14, 15, 16]) := rfl
theorem cd_155_212 : cd 155 212 = some (.istore 10, 2, 0, 0, 0, [2, 4, 7, 10, 14, 15, 16]) := rfl
theorem cd_155_214 : cd 155 214 = some (.iconst 0, 1, 0, 0, 0, []) := rfl
theorem cd_155_215 : cd 155 215 = some (.istore 14, 2, 0, 0, 0, []) := rfl
theorem cd_155_217 : cd 155 217 = some (.iload 14, 2, 0, 0, 0, [2, 4, 7, 15, 16]) := rfl
theorem cd_155_219 : cd 155 219 = some (.aload_n 0, 1, 0, 0, 0, []) := rfl
theorem cd_155_220 : cd 155 220 = some (.iload 12, 2, 0, 0, 0, []) := rfl
theorem cd_155_222 : cd 155 222 = some (.iconst 3, 1, 0, 0, 0, []) := rfl
theorem cd_155_223 : cd 155 223 = some (.invokestatic 88, 3, 139, 3, 7, []) := rfl
theorem cd_155_226 : cd 155 226 = some (.if_icmp .ge 99, 3, 0, 0, 0, []) := rfl
theorem cd_155_229 : cd 155 229 = some (.iload 10, 2, 0, 0, 0, []) := rfl
theorem cd_155_231 : cd 155 231 = some (.ifCond .eq 94, 3, 0, 0, 0, []) := rfl
theorem cd_155_234 : cd 155 234 = some (.aload_n 0, 1, 0, 0, 0, []) := rfl
theorem cd_155_235 : cd 155 235 = some (.iload 12, 2, 0, 0, 0, []) := rfl
theorem cd_155_237 : cd 155 237 = some (.iload 14, 2, 0, 0, 0, []) := rfl
theorem cd_155_239 : cd 155 239 = some (.invokestatic 104, 3, 140, 3, 7, []) := rfl
theorem cd_155_242 : cd 155 242 = some (.istore 15, 2, 0, 0, 0, []) := rfl
theorem cd_155_244 : cd 155 244 = some (.aload_n 0, 1, 0, 0, 0, []) := rfl
theorem cd_155_245 : cd 155 245 = some (.iload 15, 2, 0, 0, 0, []) := rfl
theorem cd_155_247 : cd 155 247 = some (.iconst 4, 1, 0, 0, 0, []) := rfl
theorem cd_155_248 : cd 155 248 = some (.invokestatic 84, 3, 136, 3, 7, []) := rfl
theorem cd_155_251 : cd 155 251 = some (.iconst (-1), 1, 0, 0, 0, []) := rfl
theorem cd_155_252 : cd 155 252 = some (.if_icmp .eq 7, 3, 0, 0, 0, []) := rfl
theorem cd_155_255 : cd 155 255 = some (.iconst 1, 1, 0, 0, 0, []) := rfl
theorem cd_155_256 : cd 155 256 = some (.goto 4, 3, 0, 0, 0, []) := rfl
theorem cd_155_259 : cd 155 259 = some (.iconst 0, 1, 0, 0, 0, []) := rfl
theorem cd_155_260 : cd 155 260 = some (.istore 16, 2, 0, 0, 0, [2, 4, 7, 10, 16]) := rfl
theorem cd_155_262 : cd 155 262 = some (.iload 16, 2, 0, 0, 0, []) := rfl
theorem cd_155_264 : cd 155 264 = some (.ifCond .eq 15, 3, 0, 0, 0, []) := rfl
theorem cd_155_267 : cd 155 267 = some (.lload 6, 2, 0, 0, 0, []) := rfl
theorem cd_155_269 : cd 155 269 = some (.iload 15, 2, 0, 0, 0, []) := rfl
theorem cd_155_271 : cd 155 271 = some (.lshr, 1, 0, 0, 0, []) := rfl
theorem cd_155_272 : cd 155 272 = some (.lconst 1, 1, 0, 0, 0, []) := rfl
theorem cd_155_273 : cd 155 273 = some (.land, 1, 0, 0, 0, []) := rfl
theorem cd_155_274 : cd 155 274 = some (.lconst 0, 1, 0, 0, 0, []) := rfl
theorem cd_155_275 : cd 155 275 = some (.lcmp, 1, 0, 0, 0, []) := rfl
theorem cd_155_276 : cd 155 276 = some (.ifCond .ne 7, 3, 0, 0, 0, []) := rfl
theorem cd_155_279 : cd 155 279 = some (.iconst 1, 1, 0, 0, 0, [2, 4, 7, 10]) := rfl
theorem cd_155_280 : cd 155 280 = some (.goto 4, 3, 0, 0, 0, []) := rfl
theorem cd_155_283 : cd 155 283 = some (.iconst 0, 1, 0, 0, 0, []) := rfl
theorem cd_155_284 : cd 155 284 = some (.istore 10, 2, 0, 0, 0, [2, 4, 7, 10]) := rfl
theorem cd_155_286 : cd 155 286 = some (.lload 6, 2, 0, 0, 0, []) := rfl
theorem cd_155_288 : cd 155 288 = some (.iload 16, 2, 0, 0, 0, []) := rfl
theorem cd_155_290 : cd 155 290 = some (.ifCond .eq 10, 3, 0, 0, 0, []) := rfl
theorem cd_155_293 : cd 155 293 = some (.lconst 1, 1, 0, 0, 0, []) := rfl
theorem cd_155_294 : cd 155 294 = some (.iload 15, 2, 0, 0, 0, []) := rfl
theorem cd_155_296 : cd 155 296 = some (.lshl, 1, 0, 0, 0, []) := rfl
theorem cd_155_297 : cd 155 297 = some (.goto 4, 3, 0, 0, 0, []) := rfl
theorem cd_155_300 : cd 155 300 = some (.lconst 0, 1, 0, 0, 0, []) := rfl
theorem cd_155_301 : cd 155 301 = some (.lor, 1, 0, 0, 0, [2, 4, 6, 7, 15]) := rfl
theorem cd_155_302 : cd 155 302 = some (.lstore 6, 2, 0, 0, 0, []) := rfl
theorem cd_155_304 : cd 155 304 = some (.iload 13, 2, 0, 0, 0, []) := rfl
theorem cd_155_306 : cd 155 306 = some (.iload 16, 2, 0, 0, 0, []) := rfl
theorem cd_155_308 : cd 155 308 = some (.ifCond .eq 7, 3, 0, 0, 0, []) := rfl
theorem cd_155_311 : cd 155 311 = some (.iconst 1, 1, 0, 0, 0, []) := rfl
theorem cd_155_312 : cd 155 312 = some (.goto 4, 3, 0, 0, 0, []) := rfl
theorem cd_155_315 : cd 155 315 = some (.iconst 0, 1, 0, 0, 0, []) := rfl
theorem cd_155_316 : cd 155 316 = some (.iadd, 1, 0, 0, 0, [2, 4, 7, 13, 15, 16]) := rfl
theorem cd_155_317 : cd 155 317 = some (.istore 13, 2, 0, 0, 0, []) := rfl
theorem cd_155_319 : cd 155 319 = some (.iinc 14 1, 3, 0, 0, 0, []) := rfl
theorem cd_155_322 : cd 155 322 = some (.goto (-105), 3, 0, 0, 0, []) := rfl
theorem cd_155_325 : cd 155 325 = some (.iload 10, 2, 0, 0, 0, [2, 4, 7, 12, 14, 15, 16]) := rfl
theorem cd_155_327 : cd 155 327 = some (.ifCond .eq 12, 3, 0, 0, 0, []) := rfl
theorem cd_155_330 : cd 155 330 = some (.iload 13, 2, 0, 0, 0, []) := rfl
theorem cd_155_332 : cd 155 332 = some (.ifCond .le 7, 3, 0, 0, 0, []) := rfl
theorem cd_155_335 : cd 155 335 = some (.iconst 1, 1, 0, 0, 0, []) := rfl
theorem cd_155_336 : cd 155 336 = some (.goto 4, 3, 0, 0, 0, []) := rfl
theorem cd_155_339 : cd 155 339 = some (.iconst 0, 1, 0, 0, 0, [2, 4, 7, 10, 12, 13, 14, 15, 16]) := rfl
theorem cd_155_340 : cd 155 340 = some (.istore 10, 2, 0, 0, 0, [2, 4, 7, 10, 12, 13, 14, 15, 16]) := rfl
theorem cd_155_342 : cd 155 342 = some (.iinc 8 1, 3, 0, 0, 0, []) := rfl
theorem cd_155_345 : cd 155 345 = some (.iinc 11 1, 3, 0, 0, 0, []) := rfl
theorem cd_155_348 : cd 155 348 = some (.goto (-197), 3, 0, 0, 0, []) := rfl
theorem cd_155_351 : cd 155 351 = some (.iconst 0, 1, 0, 0, 0, [2, 4, 7, 11, 12, 13, 14, 15, 16]) := rfl
theorem cd_155_352 : cd 155 352 = some (.istore 11, 2, 0, 0, 0, []) := rfl
theorem cd_155_354 : cd 155 354 = some (.iload 11, 2, 0, 0, 0, [2, 4, 7, 12, 13, 14, 15, 16]) := rfl
theorem cd_155_356 : cd 155 356 = some (.aload_n 0, 1, 0, 0, 0, []) := rfl
theorem cd_155_357 : cd 155 357 = some (.iconst 0, 1, 0, 0, 0, []) := rfl
theorem cd_155_358 : cd 155 358 = some (.invokestatic 79, 3, 137, 2, 7, []) := rfl
theorem cd_155_361 : cd 155 361 = some (.aload_n 0, 1, 0, 0, 0, []) := rfl
theorem cd_155_362 : cd 155 362 = some (.iconst 1, 1, 0, 0, 0, []) := rfl
theorem cd_155_363 : cd 155 363 = some (.invokestatic 79, 3, 137, 2, 7, []) := rfl
theorem cd_155_366 : cd 155 366 = some (.imul, 1, 0, 0, 0, []) := rfl
theorem cd_155_367 : cd 155 367 = some (.if_icmp .ge 75, 3, 0, 0, 0, []) := rfl
theorem cd_155_370 : cd 155 370 = some (.iload 10, 2, 0, 0, 0, []) := rfl
theorem cd_155_372 : cd 155 372 = some (.ifCond .eq 70, 3, 0, 0, 0, []) := rfl
theorem cd_155_375 : cd 155 375 = some (.aload_n 0, 1, 0, 0, 0, []) := rfl
theorem cd_155_376 : cd 155 376 = some (.iload 11, 2, 0, 0, 0, []) := rfl
theorem cd_155_378 : cd 155 378 = some (.iconst 4, 1, 0, 0, 0, []) := rfl
theorem cd_155_379 : cd 155 379 = some (.invokestatic 84, 3, 136, 3, 7, []) := rfl
theorem cd_155_382 : cd 155 382 = some (.iconst (-1), 1, 0, 0, 0, []) := rfl
theorem cd_155_383 : cd 155 383 = some (.if_icmp .eq 7, 3, 0, 0, 0, []) := rfl
theorem cd_155_386 : cd 155 386 = some (.iconst 1, 1, 0, 0, 0, []) := rfl
theorem cd_155_387 : cd 155 387 = some (.goto 4, 3, 0, 0, 0, []) := rfl
theorem cd_155_390 : cd 155 390 = some (.iconst 0, 1, 0, 0, 0, []) := rfl
theorem cd_155_391 : cd 155 391 = some (.istore 12, 2, 0, 0, 0, [2, 4, 7, 10, 12, 13, 14, 15, 16]) := rfl
theorem cd_155_393 : cd 155 393 = some (.iload 9, 2, 0, 0, 0, []) := rfl
theorem cd_155_395 : cd 155 395 = some (.iload 12, 2, 0, 0, 0, []) := rfl
theorem cd_155_397 : cd 155 397 = some (.ifCond .eq 7, 3, 0, 0, 0, []) := rfl
theorem cd_155_400 : cd 155 400 = some (.iconst 1, 1, 0, 0, 0, []) := rfl
theorem cd_155_401 : cd 155 401 = some (.goto 4, 3, 0, 0, 0, []) := rfl
theorem cd_155_404 : cd 155 404 = some (.iconst 0, 1, 0, 0, 0, []) := rfl
theorem cd_155_405 : cd 155 405 = some (.iadd, 1, 0, 0, 0, [2, 4, 7, 9, 10, 13, 14, 15, 16]) := rfl
theorem cd_155_406 : cd 155 406 = some (.istore 9, 2, 0, 0, 0, []) := rfl
theorem cd_155_408 : cd 155 408 = some (.iload 12, 2, 0, 0, 0, []) := rfl
theorem cd_155_410 : cd 155 410 = some (.ifCond .eq 19, 3, 0, 0, 0, []) := rfl
theorem cd_155_413 : cd 155 413 = some (.iload_n 3, 1, 0, 0, 0, []) := rfl
theorem cd_155_414 : cd 155 414 = some (.ifCond .eq 15, 3, 0, 0, 0, []) := rfl
theorem cd_155_417 : cd 155 417 = some (.lload 6, 2, 0, 0, 0, []) := rfl
theorem cd_155_419 : cd 155 419 = some (.iload 11, 2, 0, 0, 0, []) := rfl
theorem cd_155_421 : cd 155 421 = some (.lshr, 1, 0, 0, 0, []) := rfl
theorem cd_155_422 : cd 155 422 = some (.lconst 1, 1, 0, 0, 0, []) := rfl
theorem cd_155_423 : cd 155 423 = some (.land, 1, 0, 0, 0, []) := rfl
theorem cd_155_424 : cd 155 424 = some (.lconst 1, 1, 0, 0, 0, []) := rfl
theorem cd_155_425 : cd 155 425 = some (.lcmp, 1, 0, 0, 0, []) := rfl
theorem cd_155_426 : cd 155 426 = some (.ifCond .ne 7, 3, 0, 0, 0, []) := rfl
theorem cd_155_429 : cd 155 429 = some (.iconst 1, 1, 0, 0, 0, [2, 4, 7, 10, 12, 13, 14, 15, 16]) := rfl
theorem cd_155_430 : cd 155 430 = some (.goto 4, 3, 0, 0, 0, []) := rfl
theorem cd_155_433 : cd 155 433 = some (.iconst 0, 1, 0, 0, 0, []) := rfl
theorem cd_155_434 : cd 155 434 = some (.istore 10, 2, 0, 0, 0, [2, 4, 7, 10, 12, 13, 14, 15, 16]) := rfl
theorem cd_155_436 : cd 155 436 = some (.iinc 11 1, 3, 0, 0, 0, []) := rfl
theorem cd_155_439 : cd 155 439 = some (.goto (-85), 3, 0, 0, 0, []) := rfl
theorem cd_155_442 : cd 155 442 = some (.iload 10, 2, 0, 0, 0, [2, 4, 6, 7, 11, 12, 13, 14, 15, 16]) := rfl
theorem cd_155_444 : cd 155 444 = some (.ifCond .eq 39, 3, 0, 0, 0, []) := rfl
theorem cd_155_447 : cd 155 447 = some (.iload 9, 2, 0, 0, 0, []) := rfl
theorem cd_155_449 : cd 155 449 = some (.aload_n 0, 1, 0, 0, 0, []) := rfl
theorem cd_155_450 : cd 155 450 = some (.iconst 2, 1, 0, 0, 0, []) := rfl
theorem cd_155_451 : cd 155 451 = some (.invokestatic 79, 3, 137, 2, 7, []) := rfl
theorem cd_155_454 : cd 155 454 = some (.if_icmp .ne 29, 3, 0, 0, 0, []) := rfl
theorem cd_155_457 : cd 155 457 = some (.iload_n 3, 1, 0, 0, 0, []) := rfl
theorem cd_155_458 : cd 155 458 = some (.ifCond .eq 10, 3, 0, 0, 0, []) := rfl
theorem cd_155_461 : cd 155 461 = some (.iload 8, 2, 0, 0, 0, []) := rfl
theorem cd_155_463 : cd 155 463 = some (.iload 5, 2, 0, 0, 0, []) := rfl
theorem cd_155_465 : cd 155 465 = some (.if_icmp .lt 18, 3, 0, 0, 0, []) := rfl
theorem cd_155_468 : cd 155 468 = some (.aload_n 0, 1, 0, 0, 0, [2, 3, 4, 5, 6, 7, 8, 9, 10, 11, 12, 13, 14, 15, 16]) := rfl
theorem cd_155_469 : cd 155 469 = some (.iconst 1, 1, 0, 0, 0, []) := rfl
theorem cd_155_470 : cd 155 470 = some (.invokestatic 112, 3, 145, 2, 7, []) := rfl
theorem cd_155_473 : cd 155 473 = some (.sipush 2000, 3, 0, 0, 0, []) := rfl
theorem cd_155_476 : cd 155 476 = some (.if_icmp .gt 7, 3, 0, 0, 0, []) := rfl
theorem cd_155_479 : cd 155 479 = some (.iconst 1, 1, 0, 0, 0, []) := rfl
theorem cd_155_480 : cd 155 480 = some (.goto 4, 3, 0, 0, 0, []) := rfl
theorem cd_155_483 : cd 155 483 = some (.iconst 0, 1, 0, 0, 0, [2, 3, 4, 5, 6, 7, 8, 9, 10, 11, 12, 13, 14, 15, 16]) := rfl
theorem cd_155_484 : cd 155 484 = some (.istore 10, 2, 0, 0, 0, [2, 3, 4, 5, 6, 7, 8, 9, 10, 11, 12, 13, 14, 15, 16]) := rfl
theorem cd_155_486 : cd 155 486 = some (.aload_n 0, 1, 0, 0, 0, []) := rfl
theorem cd_155_487 : cd 155 487 = some (.invokevirtual 138, 3, 99, 1, 0, []) := rfl
theorem cd_155_490 : cd 155 490 = some (.istore 11, 2, 0, 0, 0, []) := rfl
theorem cd_155_492 : cd 155 492 = some (.iload 10, 2, 0, 0, 0, []) := rfl
theorem cd_155_494 : cd 155 494 = some (.ifCond .eq 50, 3, 0, 0, 0, []) := rfl
theorem cd_155_497 : cd 155 497 = some (.iload 11, 2, 0, 0, 0, []) := rfl
theorem cd_155_499 : cd 155 499 = some (.iconst (-1), 1, 0, 0, 0, []) := rfl
theorem cd_155_500 : cd 155 500 = some (.if_icmp .eq 17, 3, 0, 0, 0, []) := rfl
theorem cd_155_503 : cd 155 503 = some (.aload_n 0, 1, 0, 0, 0, []) := rfl
theorem cd_155_504 : cd 155 504 = some (.iload 11, 2, 0, 0, 0, []) := rfl
theorem cd_155_506 : cd 155 506 = some (.iconst 2, 1, 0, 0, 0, []) := rfl
theorem cd_155_507 : cd 155 507 = some (.idiv, 1, 0, 0, 0, []) := rfl
theorem cd_155_508 : cd 155 508 = some (.iconst 0, 1, 0, 0, 0, []) := rfl
theorem cd_155_509 : cd 155 509 = some (.invokestatic 84, 3, 136, 3, 7, []) := rfl
theorem cd_155_512 : cd 155 512 = some (.bipush 35, 2, 0, 0, 0, []) := rfl
theorem cd_155_514 : cd 155 514 = some (.if_icmp .ne 30, 3, 0, 0, 0, []) := rfl
theorem cd_155_517 : cd 155 517 = some (.aload_n 0, 1, 0, 0, 0, [2, 3, 4, 5, 6, 7, 8, 9, 10, 12, 13, 14, 15, 16]) := rfl
theorem cd_155_518 : cd 155 518 = some (.iconst 5, 1, 0, 0, 0, []) := rfl
theorem cd_155_519 : cd 155 519 = some (.invokestatic 79, 3, 137, 2, 7, []) := rfl
theorem cd_155_522 : cd 155 522 = some (.ifCond .gt 9, 3, 0, 0, 0, []) := rfl
theorem cd_155_525 : cd 155 525 = some (.iload 11, 2, 0, 0, 0, []) := rfl
theorem cd_155_527 : cd 155 527 = some (.iconst (-1), 1, 0, 0, 0, []) := rfl
theorem cd_155_528 : cd 155 528 = some (.if_icmp .ne 16, 3, 0, 0, 0, []) := rfl
theorem cd_155_531 : cd 155 531 = some (.aload_n 0, 1, 0, 0, 0, [2, 3, 4, 5, 6, 7, 8, 9, 10, 12, 13, 14, 15, 16]) := rfl
theorem cd_155_532 : cd 155 532 = some (.invokestatic 94, 3, 149, 1, 2, []) := rfl
theorem cd_155_535 : cd 155 535 = some (.lload_n 1, 1, 0, 0, 0, []) := rfl
theorem cd_155_536 : cd 155 536 = some (.lcmp, 1, 0, 0, 0, []) := rfl
theorem cd_155_537 : cd 155 537 = some (.ifCond .ne 7, 3, 0, 0, 0, []) := rfl
theorem cd_155_540 : cd 155 540 = some (.iconst 1, 1, 0, 0, 0, []) := rfl
theorem cd_155_541 : cd 155 541 = some (.goto 4, 3, 0, 0, 0, []) := rfl
theorem cd_155_544 : cd 155 544 = some (.iconst 0, 1, 0, 0, 0, [2, 3, 4, 5, 6, 7, 8, 9, 10, 12, 13, 14, 15, 16]) := rfl
theorem cd_155_545 : cd 155 545 = some (.istore 10, 2, 0, 0, 0, [2, 3, 4, 5, 6, 7, 8, 9, 10, 12, 13, 14, 15, 16]) := rfl
theorem cd_155_547 : cd 155 547 = some (.iload 10, 2, 0, 0, 0, []) := rfl
theorem cd_155_549 : cd 155 549 = some (.ifCond .eq 59, 3, 0, 0, 0, []) := rfl
theorem cd_155_552 : cd 155 552 = some (.iload 11, 2, 0, 0, 0, []) := rfl
theorem cd_155_554 : cd 155 554 = some (.iconst (-1), 1, 0, 0, 0, []) := rfl
theorem cd_155_555 : cd 155 555 = some (.if_icmp .eq 53, 3, 0, 0, 0, []) := rfl
theorem cd_155_558 : cd 155 558 = some (.aload_n 0, 1, 0, 0, 0, []) := rfl
theorem cd_155_559 : cd 155 559 = some (.iload 11, 2, 0, 0, 0, []) := rfl
theorem cd_155_561 : cd 155 561 = some (.iconst 2, 1, 0, 0, 0, []) := rfl
theorem cd_155_562 : cd 155 562 = some (.idiv, 1, 0, 0, 0, []) := rfl
theorem cd_155_563 : cd 155 563 = some (.iload 11, 2, 0, 0, 0, []) := rfl
theorem cd_155_565 : cd 155 565 = some (.iconst 2, 1, 0, 0, 0, []) := rfl
theorem cd_155_566 : cd 155 566 = some (.irem, 1, 0, 0, 0, []) := rfl
theorem cd_155_567 : cd 155 567 = some (.ifCond .ne 8, 3, 0, 0, 0, []) := rfl
theorem cd_155_570 : cd 155 570 = some (.bipush 47, 2, 0, 0, 0, []) := rfl
theorem cd_155_572 : cd 155 572 = some (.goto 5, 3, 0, 0, 0, []) := rfl
theorem cd_155_575 : cd 155 575 = some (.bipush 92, 2, 0, 0, 0, []) := rfl
theorem cd_155_577 : cd 155 577 = some (.invokestatic 100, 3, 133, 3, 7, [2, 3, 4, 5, 6, 7, 8, 9, 10, 11, 12, 13, 14, 15, 16]) := rfl
theorem cd_155_580 : cd 155 580 = some (.bipush 35, 2, 0, 0, 0, []) := rfl
theorem cd_155_582 : cd 155 582 = some (.if_icmp .ne 23, 3, 0, 0, 0, []) := rfl
theorem cd_155_585 : cd 155 585 = some (.aload_n 0, 1, 0, 0, 0, []) := rfl
theorem cd_155_586 : cd 155 586 = some (.iconst 1, 1, 0, 0, 0, []) := rfl
set_option maxRecDepth 20000 in
theorem cd_155_587 : cd 155 587 = some (.invokestatic 110, 3, 144, 2, 7, []) := rfl
set_option maxRecDepth 20000 in
theorem cd_155_590 : cd 155 590 = some (.iconst 1, 1, 0, 0, 0, []) := rfl
set_option maxRecDepth 20000 in
theorem cd_155_591 : cd 155 591 = some (.if_icmp .ne 14, 3, 0, 0, 0, []) := rfl
set_option maxRecDepth 20000 in
theorem cd_155_594 : cd 155 594 = some (.aload_n 0, 1, 0, 0, 0, []) := rfl
set_option maxRecDepth 20000 in
theorem cd_155_595 : cd 155 595 = some (.invokestatic 141, 3, 148, 1, 7, []) := rfl
set_option maxRecDepth 20000 in
theorem cd_155_598 : cd 155 598 = some (.ifCond .lt 7, 3, 0, 0, 0, []) := rfl
set_option maxRecDepth 20000 in
theorem cd_155_601 : cd 155 601 = some (.iconst 1, 1, 0, 0, 0, []) := rfl
set_option maxRecDepth 20000 in
theorem cd_155_602 : cd 155 602 = some (.goto 4, 3, 0, 0, 0, []) := rfl
set_option maxRecDepth 20000 in
theorem cd_155_605 : cd 155 605 = some (.iconst 0, 1, 0, 0, 0, [2, 3, 4, 5, 6, 7, 8, 9, 10, 11, 12, 13, 14, 15, 16]) := rfl
set_option maxRecDepth 20000 in
theorem cd_155_606 : cd 155 606 = some (.istore 10, 2, 0, 0, 0, [2, 3, 4, 5, 6, 7, 8, 9, 10, 11, 12, 13, 14, 15, 16]) := rfl
set_option maxRecDepth 20000 in
theorem cd_155_608 : cd 155 608 = some (.iload 10, 2, 0, 0, 0, [2, 3, 4, 5, 6, 7, 8, 9, 11, 12, 13, 14, 15, 16]) := rfl
set_option maxRecDepth 20000 in
theorem cd_155_610 : cd 155 610 = some (.ifCond .eq 34, 3, 0, 0, 0, []) := rfl
set_option maxRecDepth 20000 in
theorem cd_155_613 : cd 155 613 = some (.aload_n 0, 1, 0, 0, 0, []) := rfl
set_option maxRecDepth 20000 in
theorem cd_155_614 : cd 155 614 = some (.invokevirtual 143, 3, 100, 1, 0, []) := rfl
set_option maxRecDepth 20000 in
theorem cd_155_617 : cd 155 617 = some (.dconst 0, 1, 0, 0, 0, []) := rfl
set_option maxRecDepth 20000 in
theorem cd_155_618 : cd 155 618 = some (.dcmp .l, 1, 0, 0, 0, []) := rfl
set_option maxRecDepth 20000 in
theorem cd_155_619 : cd 155 619 = some (.ifCond .lt 25, 3, 0, 0, 0, []) := rfl
set_option maxRecDepth 20000 in
theorem cd_155_622 : cd 155 622 = some (.aload_n 0, 1, 0, 0, 0, []) := rfl
set_option maxRecDepth 20000 in
theorem cd_155_623 : cd 155 623 = some (.invokevirtual 143, 3, 100, 1, 0, []) := rfl
set_option maxRecDepth 20000 in
theorem cd_155_626 : cd 155 626 = some (.dconst 1, 1, 0, 0, 0, []) := rfl
set_option maxRecDepth 20000 in
theorem cd_155_627 : cd 155 627 = some (.dcmp .g, 1, 0, 0, 0, []) := rfl
set_option maxRecDepth 20000 in
theorem cd_155_628 : cd 155 628 = some (.ifCond .gt 16, 3, 0, 0, 0, []) := rfl
set_option maxRecDepth 20000 in
theorem cd_155_631 : cd 155 631 = some (.aload_n 0, 1, 0, 0, 0, []) := rfl
set_option maxRecDepth 20000 in
theorem cd_155_632 : cd 155 632 = some (.invokestatic 94, 3, 149, 1, 2, []) := rfl
set_option maxRecDepth 20000 in
theorem cd_155_635 : cd 155 635 = some (.lload_n 1, 1, 0, 0, 0, []) := rfl
set_option maxRecDepth 20000 in
theorem cd_155_636 : cd 155 636 = some (.lcmp, 1, 0, 0, 0, []) := rfl
set_option maxRecDepth 20000 in
theorem cd_155_637 : cd 155 637 = some (.ifCond .ne 7, 3, 0, 0, 0, []) := rfl
set_option maxRecDepth 20000 in
theorem cd_155_640 : cd 155 640 = some (.iconst 1, 1, 0, 0, 0, []) := rfl
set_option maxRecDepth 20000 in
theorem cd_155_641 : cd 155 641 = some (.goto 4, 3, 0, 0, 0, []) := rfl
set_option maxRecDepth 20000 in
theorem cd_155_644 : cd 155 644 = some (.iconst 0, 1, 0, 0, 0, [0, 1, 2, 3, 4, 5, 6, 7, 8, 9, 10, 11, 12, 13, 14, 15, 16]) := rfl
set_option maxRecDepth 20000 in
theorem cd_155_645 : cd 155 645 = some (.ireturn, 1, 0, 0, 0, [0, 1, 2, 3, 4, 5, 6, 7, 8, 9, 10, 11, 12, 13, 14, 15, 16]) := rfl
