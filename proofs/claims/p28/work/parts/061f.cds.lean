/-! ===== the code table, row by row: by program (wip/p28/gen4.py) ===== -/
theorem cd_156_0 : cd 156 0 = some (.aload_n 0, 1, 0, 0, 0, []) := rfl
theorem cd_156_1 : cd 156 1 = some (.invokestatic 94, 3, 149, 1, 2, []) := rfl
theorem cd_156_4 : cd 156 4 = some (.lstore_n 1, 1, 0, 0, 0, []) := rfl
theorem cd_156_5 : cd 156 5 = some (.aload_n 0, 1, 0, 0, 0, []) := rfl
theorem cd_156_6 : cd 156 6 = some (.iconst 0, 1, 0, 0, 0, []) := rfl
theorem cd_156_7 : cd 156 7 = some (.invokestatic 79, 3, 137, 2, 7, []) := rfl
theorem cd_156_10 : cd 156 10 = some (.istore_n 3, 1, 0, 0, 0, []) := rfl
theorem cd_156_11 : cd 156 11 = some (.aload_n 0, 1, 0, 0, 0, []) := rfl
theorem cd_156_12 : cd 156 12 = some (.iconst 1, 1, 0, 0, 0, []) := rfl
theorem cd_156_13 : cd 156 13 = some (.invokestatic 79, 3, 137, 2, 7, []) := rfl
theorem cd_156_16 : cd 156 16 = some (.istore 4, 2, 0, 0, 0, []) := rfl
theorem cd_156_18 : cd 156 18 = some (.aload_n 0, 1, 0, 0, 0, []) := rfl
theorem cd_156_19 : cd 156 19 = some (.iconst 2, 1, 0, 0, 0, []) := rfl
theorem cd_156_20 : cd 156 20 = some (.invokestatic 79, 3, 137, 2, 7, []) := rfl
theorem cd_156_23 : cd 156 23 = some (.istore 5, 2, 0, 0, 0, []) := rfl
theorem cd_156_25 : cd 156 25 = some (.aload_n 0, 1, 0, 0, 0, []) := rfl
theorem cd_156_26 : cd 156 26 = some (.bipush 7, 2, 0, 0, 0, []) := rfl
theorem cd_156_28 : cd 156 28 = some (.invokestatic 79, 3, 137, 2, 7, []) := rfl
theorem cd_156_31 : cd 156 31 = some (.istore 6, 2, 0, 0, 0, []) := rfl
theorem cd_156_33 : cd 156 33 = some (.aload_n 0, 1, 0, 0, 0, []) := rfl
theorem cd_156_34 : cd 156 34 = some (.bipush 8, 2, 0, 0, 0, []) := rfl
theorem cd_156_36 : cd 156 36 = some (.invokestatic 79, 3, 137, 2, 7, []) := rfl
theorem cd_156_39 : cd 156 39 = some (.istore 7, 2, 0, 0, 0, []) := rfl
theorem cd_156_41 : cd 156 41 = some (.aload_n 0, 1, 0, 0, 0, []) := rfl
theorem cd_156_42 : cd 156 42 = some (.iconst 0, 1, 0, 0, 0, []) := rfl
theorem cd_156_43 : cd 156 43 = some (.iconst 0, 1, 0, 0, 0, []) := rfl
theorem cd_156_44 : cd 156 44 = some (.invokestatic 84, 3, 136, 3, 7, []) := rfl
theorem cd_156_47 : cd 156 47 = some (.istore 8, 2, 0, 0, 0, []) := rfl
theorem cd_156_49 : cd 156 49 = some (.aload_n 0, 1, 0, 0, 0, []) := rfl
theorem cd_156_50 : cd 156 50 = some (.invokevirtual 143, 3, 100, 1, 0, []) := rfl
theorem cd_156_53 : cd 156 53 = some (.dstore 9, 2, 0, 0, 0, []) := rfl
theorem cd_156_55 : cd 156 55 = some (.aload_n 0, 1, 0, 0, 0, []) := rfl
theorem cd_156_56 : cd 156 56 = some (.invokevirtual 147, 3, 84, 1, 0, []) := rfl
theorem cd_156_59 : cd 156 59 = some (.iconst 2, 1, 0, 0, 0, []) := rfl
theorem cd_156_60 : cd 156 60 = some (.iload_n 3, 1, 0, 0, 0, []) := rfl
theorem cd_156_61 : cd 156 61 = some (.iload 4, 2, 0, 0, 0, []) := rfl
theorem cd_156_63 : cd 156 63 = some (.iadd, 1, 0, 0, 0, []) := rfl
theorem cd_156_64 : cd 156 64 = some (.imul, 1, 0, 0, 0, []) := rfl
theorem cd_156_65 : cd 156 65 = some (.if_icmp .ne 113, 3, 0, 0, 0, []) := rfl
theorem cd_156_68 : cd 156 68 = some (.aload_n 0, 1, 0, 0, 0, []) := rfl
theorem cd_156_69 : cd 156 69 = some (.iconst 0, 1, 0, 0, 0, []) := rfl
theorem cd_156_70 : cd 156 70 = some (.invokestatic 79, 3, 137, 2, 7, []) := rfl
theorem cd_156_73 : cd 156 73 = some (.iload 4, 2, 0, 0, 0, []) := rfl
theorem cd_156_75 : cd 156 75 = some (.if_icmp .ne 103, 3, 0, 0, 0, []) := rfl
theorem cd_156_78 : cd 156 78 = some (.aload_n 0, 1, 0, 0, 0, []) := rfl
theorem cd_156_79 : cd 156 79 = some (.iconst 1, 1, 0, 0, 0, []) := rfl
theorem cd_156_80 : cd 156 80 = some (.invokestatic 79, 3, 137, 2, 7, []) := rfl
theorem cd_156_83 : cd 156 83 = some (.iload_n 3, 1, 0, 0, 0, []) := rfl
theorem cd_156_84 : cd 156 84 = some (.if_icmp .ne 94, 3, 0, 0, 0, []) := rfl
theorem cd_156_87 : cd 156 87 = some (.aload_n 0, 1, 0, 0, 0, []) := rfl
theorem cd_156_88 : cd 156 88 = some (.iconst 2, 1, 0, 0, 0, []) := rfl
theorem cd_156_89 : cd 156 89 = some (.invokestatic 79, 3, 137, 2, 7, []) := rfl
theorem cd_156_92 : cd 156 92 = some (.iload 5, 2, 0, 0, 0, []) := rfl
theorem cd_156_94 : cd 156 94 = some (.if_icmp .ne 84, 3, 0, 0, 0, []) := rfl
theorem cd_156_97 : cd 156 97 = some (.aload_n 0, 1, 0, 0, 0, []) := rfl
theorem cd_156_98 : cd 156 98 = some (.bipush 7, 2, 0, 0, 0, []) := rfl
theorem cd_156_100 : cd 156 100 = some (.invokestatic 79, 3, 137, 2, 7, []) := rfl
theorem cd_156_103 : cd 156 103 = some (.iload 6, 2, 0, 0, 0, []) := rfl
theorem cd_156_105 : cd 156 105 = some (.if_icmp .ne 73, 3, 0, 0, 0, []) := rfl
theorem cd_156_108 : cd 156 108 = some (.aload_n 0, 1, 0, 0, 0, []) := rfl
theorem cd_156_109 : cd 156 109 = some (.bipush 8, 2, 0, 0, 0, []) := rfl
theorem cd_156_111 : cd 156 111 = some (.invokestatic 79, 3, 137, 2, 7, []) := rfl
theorem cd_156_114 : cd 156 114 = some (.iload 7, 2, 0, 0, 0, []) := rfl
theorem cd_156_116 : cd 156 116 = some (.if_icmp .ne 62, 3, 0, 0, 0, []) := rfl
theorem cd_156_119 : cd 156 119 = some (.aload_n 0, 1, 0, 0, 0, []) := rfl
theorem cd_156_120 : cd 156 120 = some (.iload 4, 2, 0, 0, 0, []) := rfl
theorem cd_156_122 : cd 156 122 = some (.iconst 1, 1, 0, 0, 0, []) := rfl
theorem cd_156_123 : cd 156 123 = some (.isub, 1, 0, 0, 0, []) := rfl
theorem cd_156_124 : cd 156 124 = some (.iconst 0, 1, 0, 0, 0, []) := rfl
theorem cd_156_125 : cd 156 125 = some (.invokestatic 84, 3, 136, 3, 7, []) := rfl
theorem cd_156_128 : cd 156 128 = some (.iload 8, 2, 0, 0, 0, []) := rfl
theorem cd_156_130 : cd 156 130 = some (.bipush 47, 2, 0, 0, 0, []) := rfl
theorem cd_156_132 : cd 156 132 = some (.if_icmp .ne 8, 3, 0, 0, 0, []) := rfl
theorem cd_156_135 : cd 156 135 = some (.bipush 92, 2, 0, 0, 0, []) := rfl
theorem cd_156_137 : cd 156 137 = some (.goto 17, 3, 0, 0, 0, []) := rfl
theorem cd_156_140 : cd 156 140 = some (.iload 8, 2, 0, 0, 0, []) := rfl
theorem cd_156_142 : cd 156 142 = some (.bipush 92, 2, 0, 0, 0, []) := rfl
theorem cd_156_144 : cd 156 144 = some (.if_icmp .ne 8, 3, 0, 0, 0, []) := rfl
theorem cd_156_147 : cd 156 147 = some (.bipush 47, 2, 0, 0, 0, []) := rfl
theorem cd_156_149 : cd 156 149 = some (.goto 5, 3, 0, 0, 0, []) := rfl
theorem cd_156_152 : cd 156 152 = some (.iload 8, 2, 0, 0, 0, []) := rfl
theorem cd_156_154 : cd 156 154 = some (.if_icmp .ne 24, 3, 0, 0, 0, [2, 5, 6, 7, 8, 10, 11, 12]) := rfl
theorem cd_156_157 : cd 156 157 = some (.aload_n 0, 1, 0, 0, 0, []) := rfl
theorem cd_156_158 : cd 156 158 = some (.invokevirtual 143, 3, 100, 1, 0, []) := rfl
theorem cd_156_161 : cd 156 161 = some (.dload 9, 2, 0, 0, 0, []) := rfl
theorem cd_156_163 : cd 156 163 = some (.dcmp .l, 1, 0, 0, 0, []) := rfl
theorem cd_156_164 : cd 156 164 = some (.ifCond .ne 14, 3, 0, 0, 0, []) := rfl
theorem cd_156_167 : cd 156 167 = some (.aload_n 0, 1, 0, 0, 0, []) := rfl
theorem cd_156_168 : cd 156 168 = some (.invokestatic 150, 3, 151, 1, 2, []) := rfl
theorem cd_156_171 : cd 156 171 = some (.ifCond .eq 7, 3, 0, 0, 0, []) := rfl
theorem cd_156_174 : cd 156 174 = some (.iconst 1, 1, 0, 0, 0, []) := rfl
theorem cd_156_175 : cd 156 175 = some (.goto 4, 3, 0, 0, 0, []) := rfl
theorem cd_156_178 : cd 156 178 = some (.iconst 0, 1, 0, 0, 0, [2, 5, 6, 7, 8, 9, 10, 11, 12]) := rfl
theorem cd_156_179 : cd 156 179 = some (.istore 11, 2, 0, 0, 0, [2, 5, 6, 7, 8, 9, 10, 11, 12]) := rfl
theorem cd_156_181 : cd 156 181 = some (.iconst 0, 1, 0, 0, 0, []) := rfl
theorem cd_156_182 : cd 156 182 = some (.istore 12, 2, 0, 0, 0, []) := rfl
theorem cd_156_184 : cd 156 184 = some (.iload 12, 2, 0, 0, 0, [2, 5, 6, 7, 8, 9, 10]) := rfl
theorem cd_156_186 : cd 156 186 = some (.iconst 3, 1, 0, 0, 0, []) := rfl
theorem cd_156_187 : cd 156 187 = some (.if_icmp .ge 34, 3, 0, 0, 0, []) := rfl
theorem cd_156_190 : cd 156 190 = some (.iload 11, 2, 0, 0, 0, []) := rfl
theorem cd_156_192 : cd 156 192 = some (.ifCond .eq 29, 3, 0, 0, 0, []) := rfl
theorem cd_156_195 : cd 156 195 = some (.aload_n 0, 1, 0, 0, 0, []) := rfl
theorem cd_156_196 : cd 156 196 = some (.invokevirtual 147, 3, 84, 1, 0, []) := rfl
theorem cd_156_199 : cd 156 199 = some (.iconst 2, 1, 0, 0, 0, []) := rfl
theorem cd_156_200 : cd 156 200 = some (.iload_n 3, 1, 0, 0, 0, []) := rfl
theorem cd_156_201 : cd 156 201 = some (.iload 4, 2, 0, 0, 0, []) := rfl
theorem cd_156_203 : cd 156 203 = some (.iadd, 1, 0, 0, 0, []) := rfl
theorem cd_156_204 : cd 156 204 = some (.imul, 1, 0, 0, 0, []) := rfl
theorem cd_156_205 : cd 156 205 = some (.if_icmp .ne 7, 3, 0, 0, 0, []) := rfl
theorem cd_156_208 : cd 156 208 = some (.iconst 1, 1, 0, 0, 0, []) := rfl
theorem cd_156_209 : cd 156 209 = some (.goto 4, 3, 0, 0, 0, []) := rfl
theorem cd_156_212 : cd 156 212 = some (.iconst 0, 1, 0, 0, 0, []) := rfl
theorem cd_156_213 : cd 156 213 = some (.istore 11, 2, 0, 0, 0, [2, 5, 6, 7, 8, 9, 10, 11]) := rfl
theorem cd_156_215 : cd 156 215 = some (.iinc 12 1, 3, 0, 0, 0, []) := rfl
theorem cd_156_218 : cd 156 218 = some (.goto (-34), 3, 0, 0, 0, []) := rfl
theorem cd_156_221 : cd 156 221 = some (.iload 11, 2, 0, 0, 0, [2, 3, 4, 5, 6, 7, 8, 9, 10, 12]) := rfl
theorem cd_156_223 : cd 156 223 = some (.ifCond .eq 16, 3, 0, 0, 0, []) := rfl
theorem cd_156_226 : cd 156 226 = some (.aload_n 0, 1, 0, 0, 0, []) := rfl
theorem cd_156_227 : cd 156 227 = some (.invokestatic 94, 3, 149, 1, 2, []) := rfl
theorem cd_156_230 : cd 156 230 = some (.lload_n 1, 1, 0, 0, 0, []) := rfl
theorem cd_156_231 : cd 156 231 = some (.lcmp, 1, 0, 0, 0, []) := rfl
theorem cd_156_232 : cd 156 232 = some (.ifCond .ne 7, 3, 0, 0, 0, []) := rfl
theorem cd_156_235 : cd 156 235 = some (.iconst 1, 1, 0, 0, 0, []) := rfl
theorem cd_156_236 : cd 156 236 = some (.goto 4, 3, 0, 0, 0, []) := rfl
theorem cd_156_239 : cd 156 239 = some (.iconst 0, 1, 0, 0, 0, [2, 3, 4, 5, 6, 7, 8, 9, 10, 11, 12]) := rfl
theorem cd_156_240 : cd 156 240 = some (.istore 11, 2, 0, 0, 0, [2, 3, 4, 5, 6, 7, 8, 9, 10, 11, 12]) := rfl
theorem cd_156_242 : cd 156 242 = some (.iconst 0, 1, 0, 0, 0, []) := rfl
theorem cd_156_243 : cd 156 243 = some (.istore 12, 2, 0, 0, 0, []) := rfl
theorem cd_156_245 : cd 156 245 = some (.iload 12, 2, 0, 0, 0, [2, 3, 4, 5, 6, 7, 8, 9, 10]) := rfl
theorem cd_156_247 : cd 156 247 = some (.iconst 4, 1, 0, 0, 0, []) := rfl
theorem cd_156_248 : cd 156 248 = some (.if_icmp .ge 28, 3, 0, 0, 0, []) := rfl
theorem cd_156_251 : cd 156 251 = some (.iload 11, 2, 0, 0, 0, []) := rfl
theorem cd_156_253 : cd 156 253 = some (.ifCond .eq 23, 3, 0, 0, 0, []) := rfl
theorem cd_156_256 : cd 156 256 = some (.aload_n 0, 1, 0, 0, 0, []) := rfl
theorem cd_156_257 : cd 156 257 = some (.invokestatic 141, 3, 148, 1, 7, []) := rfl
theorem cd_156_260 : cd 156 260 = some (.ifCond .lt 7, 3, 0, 0, 0, []) := rfl
theorem cd_156_263 : cd 156 263 = some (.iconst 1, 1, 0, 0, 0, []) := rfl
theorem cd_156_264 : cd 156 264 = some (.goto 4, 3, 0, 0, 0, []) := rfl
theorem cd_156_267 : cd 156 267 = some (.iconst 0, 1, 0, 0, 0, []) := rfl
theorem cd_156_268 : cd 156 268 = some (.istore 11, 2, 0, 0, 0, [2, 3, 4, 5, 6, 7, 8, 9, 10, 11]) := rfl
theorem cd_156_270 : cd 156 270 = some (.iinc 12 1, 3, 0, 0, 0, []) := rfl
theorem cd_156_273 : cd 156 273 = some (.goto (-28), 3, 0, 0, 0, []) := rfl
theorem cd_156_276 : cd 156 276 = some (.iload 11, 2, 0, 0, 0, [2, 3, 4, 5, 6, 7, 8, 9, 10, 12]) := rfl
theorem cd_156_278 : cd 156 278 = some (.ifCond .eq 35, 3, 0, 0, 0, []) := rfl
theorem cd_156_281 : cd 156 281 = some (.aload_n 0, 1, 0, 0, 0, []) := rfl
theorem cd_156_282 : cd 156 282 = some (.invokestatic 94, 3, 149, 1, 2, []) := rfl
theorem cd_156_285 : cd 156 285 = some (.lload_n 1, 1, 0, 0, 0, []) := rfl
theorem cd_156_286 : cd 156 286 = some (.lcmp, 1, 0, 0, 0, []) := rfl
theorem cd_156_287 : cd 156 287 = some (.ifCond .ne 26, 3, 0, 0, 0, []) := rfl
theorem cd_156_290 : cd 156 290 = some (.aload_n 0, 1, 0, 0, 0, []) := rfl
theorem cd_156_291 : cd 156 291 = some (.invokevirtual 154, 3, 83, 1, 0, []) := rfl
theorem cd_156_294 : cd 156 294 = some (.aload_n 0, 1, 0, 0, 0, []) := rfl
theorem cd_156_295 : cd 156 295 = some (.iconst 4, 1, 0, 0, 0, []) := rfl
theorem cd_156_296 : cd 156 296 = some (.invokestatic 79, 3, 137, 2, 7, []) := rfl
theorem cd_156_299 : cd 156 299 = some (.if_icmp .ne 14, 3, 0, 0, 0, []) := rfl
theorem cd_156_302 : cd 156 302 = some (.aload_n 0, 1, 0, 0, 0, []) := rfl
theorem cd_156_303 : cd 156 303 = some (.invokestatic 141, 3, 148, 1, 7, []) := rfl
theorem cd_156_306 : cd 156 306 = some (.ifCond .lt 7, 3, 0, 0, 0, []) := rfl
theorem cd_156_309 : cd 156 309 = some (.iconst 1, 1, 0, 0, 0, []) := rfl
theorem cd_156_310 : cd 156 310 = some (.goto 4, 3, 0, 0, 0, []) := rfl
theorem cd_156_313 : cd 156 313 = some (.iconst 0, 1, 0, 0, 0, [2, 3, 4, 5, 6, 7, 8, 9, 10, 11, 12]) := rfl
theorem cd_156_314 : cd 156 314 = some (.istore 11, 2, 0, 0, 0, [2, 3, 4, 5, 6, 7, 8, 9, 10, 11, 12]) := rfl
theorem cd_156_316 : cd 156 316 = some (.iload 11, 2, 0, 0, 0, []) := rfl
theorem cd_156_318 : cd 156 318 = some (.ifCond .eq 16, 3, 0, 0, 0, []) := rfl
theorem cd_156_321 : cd 156 321 = some (.aload_n 0, 1, 0, 0, 0, []) := rfl
theorem cd_156_322 : cd 156 322 = some (.invokestatic 94, 3, 149, 1, 2, []) := rfl
theorem cd_156_325 : cd 156 325 = some (.lload_n 1, 1, 0, 0, 0, []) := rfl
theorem cd_156_326 : cd 156 326 = some (.lcmp, 1, 0, 0, 0, []) := rfl
theorem cd_156_327 : cd 156 327 = some (.ifCond .ne 7, 3, 0, 0, 0, []) := rfl
theorem cd_156_330 : cd 156 330 = some (.iconst 1, 1, 0, 0, 0, []) := rfl
theorem cd_156_331 : cd 156 331 = some (.goto 4, 3, 0, 0, 0, []) := rfl
theorem cd_156_334 : cd 156 334 = some (.iconst 0, 1, 0, 0, 0, [0, 1, 2, 3, 4, 5, 6, 7, 8, 9, 10, 11, 12]) := rfl
theorem cd_156_335 : cd 156 335 = some (.ireturn, 1, 0, 0, 0, [0, 1, 2, 3, 4, 5, 6, 7, 8, 9, 10, 11, 12]) := rfl
theorem cd_157_0 : cd 157 0 = some (.iload_n 0, 1, 0, 0, 0, []) := rfl
theorem cd_157_1 : cd 157 1 = some (.bipush 14, 2, 0, 0, 0, []) := rfl
theorem cd_157_3 : cd 157 3 = some (.invokestatic 157, 3, 131, 2, 2, []) := rfl
theorem cd_157_6 : cd 157 6 = some (.istore_n 1, 1, 0, 0, 0, []) := rfl
theorem cd_157_7 : cd 157 7 = some (.iload_n 1, 1, 0, 0, 0, []) := rfl
theorem cd_157_8 : cd 157 8 = some (.iconst 5, 1, 0, 0, 0, []) := rfl
theorem cd_157_9 : cd 157 9 = some (.if_icmp .ge 16, 3, 0, 0, 0, []) := rfl
theorem cd_157_12 : cd 157 12 = some (.bipush 97, 2, 0, 0, 0, []) := rfl
theorem cd_157_14 : cd 157 14 = some (.iload_n 0, 1, 0, 0, 0, []) := rfl
theorem cd_157_15 : cd 157 15 = some (.iconst 5, 1, 0, 0, 0, []) := rfl
theorem cd_157_16 : cd 157 16 = some (.ishr, 1, 0, 0, 0, []) := rfl
theorem cd_157_17 : cd 157 17 = some (.iconst 3, 1, 0, 0, 0, []) := rfl
theorem cd_157_18 : cd 157 18 = some (.invokestatic 157, 3, 131, 2, 2, []) := rfl
theorem cd_157_21 : cd 157 21 = some (.iadd, 1, 0, 0, 0, []) := rfl
theorem cd_157_22 : cd 157 22 = some (.goto 68, 3, 0, 0, 0, []) := rfl
theorem cd_157_25 : cd 157 25 = some (.iload_n 1, 1, 0, 0, 0, []) := rfl
theorem cd_157_26 : cd 157 26 = some (.bipush 6, 2, 0, 0, 0, []) := rfl
theorem cd_157_28 : cd 157 28 = some (.if_icmp .ge 16, 3, 0, 0, 0, []) := rfl
theorem cd_157_31 : cd 157 31 = some (.bipush 65, 2, 0, 0, 0, []) := rfl
theorem cd_157_33 : cd 157 33 = some (.iload_n 0, 1, 0, 0, 0, []) := rfl
theorem cd_157_34 : cd 157 34 = some (.iconst 5, 1, 0, 0, 0, []) := rfl
theorem cd_157_35 : cd 157 35 = some (.ishr, 1, 0, 0, 0, []) := rfl
theorem cd_157_36 : cd 157 36 = some (.iconst 3, 1, 0, 0, 0, []) := rfl
theorem cd_157_37 : cd 157 37 = some (.invokestatic 157, 3, 131, 2, 2, []) := rfl
theorem cd_157_40 : cd 157 40 = some (.iadd, 1, 0, 0, 0, []) := rfl
theorem cd_157_41 : cd 157 41 = some (.goto 49, 3, 0, 0, 0, []) := rfl
theorem cd_157_44 : cd 157 44 = some (.iload_n 1, 1, 0, 0, 0, []) := rfl
theorem cd_157_45 : cd 157 45 = some (.bipush 8, 2, 0, 0, 0, []) := rfl
theorem cd_157_47 : cd 157 47 = some (.if_icmp .ge 8, 3, 0, 0, 0, []) := rfl
theorem cd_157_50 : cd 157 50 = some (.bipush 47, 2, 0, 0, 0, []) := rfl
theorem cd_157_52 : cd 157 52 = some (.goto 38, 3, 0, 0, 0, []) := rfl
theorem cd_157_55 : cd 157 55 = some (.iload_n 1, 1, 0, 0, 0, []) := rfl
theorem cd_157_56 : cd 157 56 = some (.bipush 10, 2, 0, 0, 0, []) := rfl
theorem cd_157_58 : cd 157 58 = some (.if_icmp .ge 8, 3, 0, 0, 0, []) := rfl
theorem cd_157_61 : cd 157 61 = some (.bipush 92, 2, 0, 0, 0, []) := rfl
theorem cd_157_63 : cd 157 63 = some (.goto 27, 3, 0, 0, 0, []) := rfl
theorem cd_157_66 : cd 157 66 = some (.iload_n 1, 1, 0, 0, 0, []) := rfl
theorem cd_157_67 : cd 157 67 = some (.bipush 10, 2, 0, 0, 0, []) := rfl
theorem cd_157_69 : cd 157 69 = some (.if_icmp .ne 8, 3, 0, 0, 0, []) := rfl
theorem cd_157_72 : cd 157 72 = some (.bipush 35, 2, 0, 0, 0, []) := rfl
theorem cd_157_74 : cd 157 74 = some (.goto 16, 3, 0, 0, 0, []) := rfl
theorem cd_157_77 : cd 157 77 = some (.iload_n 1, 1, 0, 0, 0, []) := rfl
theorem cd_157_78 : cd 157 78 = some (.bipush 11, 2, 0, 0, 0, []) := rfl
theorem cd_157_80 : cd 157 80 = some (.if_icmp .ne 8, 3, 0, 0, 0, []) := rfl
theorem cd_157_83 : cd 157 83 = some (.bipush 58, 2, 0, 0, 0, []) := rfl
theorem cd_157_85 : cd 157 85 = some (.goto 5, 3, 0, 0, 0, []) := rfl
theorem cd_157_88 : cd 157 88 = some (.bipush 46, 2, 0, 0, 0, []) := rfl
theorem cd_157_90 : cd 157 90 = some (.ireturn, 1, 0, 0, 0, [0, 1]) := rfl
theorem cd_158_0 : cd 158 0 = some (.aload_n 0, 1, 0, 0, 0, []) := rfl
theorem cd_158_1 : cd 158 1 = some (.iconst 0, 1, 0, 0, 0, []) := rfl
theorem cd_158_2 : cd 158 2 = some (.invokestatic 79, 3, 137, 2, 7, []) := rfl
theorem cd_158_5 : cd 158 5 = some (.aload_n 0, 1, 0, 0, 0, []) := rfl
theorem cd_158_6 : cd 158 6 = some (.iconst 1, 1, 0, 0, 0, []) := rfl
theorem cd_158_7 : cd 158 7 = some (.invokestatic 79, 3, 137, 2, 7, []) := rfl
theorem cd_158_10 : cd 158 10 = some (.imul, 1, 0, 0, 0, []) := rfl
theorem cd_158_11 : cd 158 11 = some (.istore_n 3, 1, 0, 0, 0, []) := rfl
theorem cd_158_12 : cd 158 12 = some (.iload_n 1, 1, 0, 0, 0, []) := rfl
theorem cd_158_13 : cd 158 13 = some (.bipush 16, 2, 0, 0, 0, []) := rfl
theorem cd_158_15 : cd 158 15 = some (.invokestatic 157, 3, 131, 2, 2, []) := rfl
theorem cd_158_18 : cd 158 18 = some (.tableswitch 134 0 5 #[38, 57, 62, 67, 67, 125], 38, 0, 0, 0, []) := rfl
theorem cd_158_56 : cd 158 56 = some (.aload_n 0, 1, 0, 0, 0, []) := rfl
theorem cd_158_57 : cd 158 57 = some (.iconst 2, 1, 0, 0, 0, []) := rfl
theorem cd_158_58 : cd 158 58 = some (.iload_n 2, 1, 0, 0, 0, []) := rfl
theorem cd_158_59 : cd 158 59 = some (.bipush 6, 2, 0, 0, 0, []) := rfl
theorem cd_158_61 : cd 158 61 = some (.irem, 1, 0, 0, 0, []) := rfl
theorem cd_158_62 : cd 158 62 = some (.iadd, 1, 0, 0, 0, []) := rfl
theorem cd_158_63 : cd 158 63 = some (.iconst 2, 1, 0, 0, 0, []) := rfl
theorem cd_158_64 : cd 158 64 = some (.iload_n 2, 1, 0, 0, 0, []) := rfl
theorem cd_158_65 : cd 158 65 = some (.bipush 6, 2, 0, 0, 0, []) := rfl
theorem cd_158_67 : cd 158 67 = some (.idiv, 1, 0, 0, 0, []) := rfl
theorem cd_158_68 : cd 158 68 = some (.iconst 5, 1, 0, 0, 0, []) := rfl
theorem cd_158_69 : cd 158 69 = some (.irem, 1, 0, 0, 0, []) := rfl
theorem cd_158_70 : cd 158 70 = some (.iadd, 1, 0, 0, 0, []) := rfl
theorem cd_158_71 : cd 158 71 = some (.invokestatic 98, 3, 132, 3, 7, []) := rfl
theorem cd_158_74 : cd 158 74 = some (.ireturn, 1, 0, 0, 0, []) := rfl
theorem cd_158_75 : cd 158 75 = some (.aload_n 0, 1, 0, 0, 0, []) := rfl
theorem cd_158_76 : cd 158 76 = some (.invokevirtual 154, 3, 83, 1, 0, []) := rfl
theorem cd_158_79 : cd 158 79 = some (.ireturn, 1, 0, 0, 0, []) := rfl
theorem cd_158_80 : cd 158 80 = some (.aload_n 0, 1, 0, 0, 0, []) := rfl
theorem cd_158_81 : cd 158 81 = some (.invokevirtual 147, 3, 84, 1, 0, []) := rfl
theorem cd_158_84 : cd 158 84 = some (.ireturn, 1, 0, 0, 0, []) := rfl
theorem cd_158_85 : cd 158 85 = some (.aload_n 0, 1, 0, 0, 0, []) := rfl
theorem cd_158_86 : cd 158 86 = some (.invokevirtual 118, 3, 102, 1, 0, []) := rfl
theorem cd_158_89 : cd 158 89 = some (.istore 4, 2, 0, 0, 0, []) := rfl
theorem cd_158_91 : cd 158 91 = some (.iconst 1, 1, 0, 0, 0, []) := rfl
theorem cd_158_92 : cd 158 92 = some (.iload_n 2, 1, 0, 0, 0, []) := rfl
theorem cd_158_93 : cd 158 93 = some (.iconst 3, 1, 0, 0, 0, []) := rfl
theorem cd_158_94 : cd 158 94 = some (.irem, 1, 0, 0, 0, []) := rfl
theorem cd_158_95 : cd 158 95 = some (.iadd, 1, 0, 0, 0, []) := rfl
theorem cd_158_96 : cd 158 96 = some (.istore 5, 2, 0, 0, 0, []) := rfl
theorem cd_158_98 : cd 158 98 = some (.iconst 0, 1, 0, 0, 0, []) := rfl
theorem cd_158_99 : cd 158 99 = some (.istore 6, 2, 0, 0, 0, []) := rfl
theorem cd_158_101 : cd 158 101 = some (.iload 6, 2, 0, 0, 0, [1, 3]) := rfl
theorem cd_158_103 : cd 158 103 = some (.iload 5, 2, 0, 0, 0, []) := rfl
theorem cd_158_105 : cd 158 105 = some (.if_icmp .ge 33, 3, 0, 0, 0, []) := rfl
theorem cd_158_108 : cd 158 108 = some (.iload 4, 2, 0, 0, 0, []) := rfl
theorem cd_158_110 : cd 158 110 = some (.ifCond .lt 28, 3, 0, 0, 0, []) := rfl
theorem cd_158_113 : cd 158 113 = some (.aload_n 0, 1, 0, 0, 0, []) := rfl
theorem cd_158_114 : cd 158 114 = some (.bipush 97, 2, 0, 0, 0, []) := rfl
theorem cd_158_116 : cd 158 116 = some (.iload_n 2, 1, 0, 0, 0, []) := rfl
theorem cd_158_117 : cd 158 117 = some (.iconst 3, 1, 0, 0, 0, []) := rfl
theorem cd_158_118 : cd 158 118 = some (.idiv, 1, 0, 0, 0, []) := rfl
theorem cd_158_119 : cd 158 119 = some (.iconst 2, 1, 0, 0, 0, []) := rfl
theorem cd_158_120 : cd 158 120 = some (.iload 6, 2, 0, 0, 0, []) := rfl
theorem cd_158_122 : cd 158 122 = some (.imul, 1, 0, 0, 0, []) := rfl
theorem cd_158_123 : cd 158 123 = some (.ishr, 1, 0, 0, 0, []) := rfl
theorem cd_158_124 : cd 158 124 = some (.iconst 3, 1, 0, 0, 0, []) := rfl
theorem cd_158_125 : cd 158 125 = some (.irem, 1, 0, 0, 0, []) := rfl
theorem cd_158_126 : cd 158 126 = some (.iadd, 1, 0, 0, 0, []) := rfl
theorem cd_158_127 : cd 158 127 = some (.invokestatic 116, 3, 147, 2, 7, []) := rfl
theorem cd_158_130 : cd 158 130 = some (.istore 4, 2, 0, 0, 0, []) := rfl
theorem cd_158_132 : cd 158 132 = some (.iinc 6 1, 3, 0, 0, 0, []) := rfl
theorem cd_158_135 : cd 158 135 = some (.goto (-34), 3, 0, 0, 0, []) := rfl
theorem cd_158_138 : cd 158 138 = some (.aload_n 0, 1, 0, 0, 0, [1, 2, 3, 4, 5, 6]) := rfl
theorem cd_158_139 : cd 158 139 = some (.invokestatic 121, 3, 134, 1, 7, []) := rfl
theorem cd_158_142 : cd 158 142 = some (.ireturn, 1, 0, 0, 0, []) := rfl
theorem cd_158_143 : cd 158 143 = some (.aload_n 0, 1, 0, 0, 0, []) := rfl
theorem cd_158_144 : cd 158 144 = some (.iload_n 2, 1, 0, 0, 0, []) := rfl
theorem cd_158_145 : cd 158 145 = some (.bipush 9, 2, 0, 0, 0, []) := rfl
theorem cd_158_147 : cd 158 147 = some (.irem, 1, 0, 0, 0, []) := rfl
theorem cd_158_148 : cd 158 148 = some (.invokestatic 102, 3, 135, 2, 7, []) := rfl
theorem cd_158_151 : cd 158 151 = some (.ireturn, 1, 0, 0, 0, []) := rfl
theorem cd_158_152 : cd 158 152 = some (.aload_n 0, 1, 0, 0, 0, []) := rfl
theorem cd_158_153 : cd 158 153 = some (.iload_n 2, 1, 0, 0, 0, []) := rfl
theorem cd_158_154 : cd 158 154 = some (.iload_n 3, 1, 0, 0, 0, []) := rfl
theorem cd_158_155 : cd 158 155 = some (.irem, 1, 0, 0, 0, []) := rfl
theorem cd_158_156 : cd 158 156 = some (.iload_n 1, 1, 0, 0, 0, []) := rfl
theorem cd_158_157 : cd 158 157 = some (.iconst 4, 1, 0, 0, 0, []) := rfl
theorem cd_158_158 : cd 158 158 = some (.ishr, 1, 0, 0, 0, []) := rfl
theorem cd_158_159 : cd 158 159 = some (.iload_n 2, 1, 0, 0, 0, []) := rfl
theorem cd_158_160 : cd 158 160 = some (.iconst 3, 1, 0, 0, 0, []) := rfl
theorem cd_158_161 : cd 158 161 = some (.ishr, 1, 0, 0, 0, []) := rfl
theorem cd_158_162 : cd 158 162 = some (.ixor, 1, 0, 0, 0, []) := rfl
theorem cd_158_163 : cd 158 163 = some (.invokestatic 160, 3, 157, 1, 2, []) := rfl
theorem cd_158_166 : cd 158 166 = some (.invokestatic 100, 3, 133, 3, 7, []) := rfl
theorem cd_158_169 : cd 158 169 = some (.ireturn, 1, 0, 0, 0, []) := rfl
theorem cd_202_0 : cd 202 0 = some (.new 10, 3, 8, 0, 0, []) := rfl
theorem cd_202_3 : cd 202 3 = some (.dup, 1, 0, 0, 0, []) := rfl
theorem cd_202_4 : cd 202 4 = some (.invokespecial 163, 3, 80, 1, 4, []) := rfl
theorem cd_202_7 : cd 202 7 = some (.astore_n 1, 1, 0, 0, 0, []) := rfl
theorem cd_202_8 : cd 202 8 = some (.aload_n 1, 1, 0, 0, 0, [1000]) := rfl
theorem cd_202_9 : cd 202 9 = some (.invokestatic 141, 3, 148, 1, 7, []) := rfl
theorem cd_202_12 : cd 202 12 = some (.ldc 30, 2, 4, 0, 0, []) := rfl
theorem cd_202_14 : cd 202 14 = some (.if_icmp .ne 28, 3, 0, 0, 0, []) := rfl
theorem cd_202_17 : cd 202 17 = some (.aload_n 1, 1, 0, 0, 0, []) := rfl
theorem cd_202_18 : cd 202 18 = some (.invokestatic 164, 3, 150, 1, 2, []) := rfl
theorem cd_202_21 : cd 202 21 = some (.ifCond .eq 21, 3, 0, 0, 0, []) := rfl
theorem cd_202_24 : cd 202 24 = some (.aload_n 1, 1, 0, 0, 0, []) := rfl
theorem cd_202_25 : cd 202 25 = some (.invokestatic 150, 3, 151, 1, 2, []) := rfl
theorem cd_202_28 : cd 202 28 = some (.ifCond .eq 14, 3, 0, 0, 0, []) := rfl
theorem cd_202_31 : cd 202 31 = some (.aload_n 1, 1, 0, 0, 0, []) := rfl
theorem cd_202_32 : cd 202 32 = some (.invokestatic 167, 3, 155, 1, 2, []) := rfl
theorem cd_202_35 : cd 202 35 = some (.ifCond .eq 7, 3, 0, 0, 0, []) := rfl
theorem cd_202_38 : cd 202 38 = some (.iconst 1, 1, 0, 0, 0, []) := rfl
theorem cd_202_39 : cd 202 39 = some (.goto 4, 3, 0, 0, 0, []) := rfl
theorem cd_202_42 : cd 202 42 = some (.iconst 0, 1, 0, 0, 0, [2, 3, 4, 5, 6, 7, 8, 9]) := rfl
theorem cd_202_43 : cd 202 43 = some (.istore_n 2, 1, 0, 0, 0, [2, 3, 4, 5, 6, 7, 8, 9]) := rfl
theorem cd_202_44 : cd 202 44 = some (.iconst 0, 1, 0, 0, 0, []) := rfl
theorem cd_202_45 : cd 202 45 = some (.istore_n 3, 1, 0, 0, 0, []) := rfl
theorem cd_202_46 : cd 202 46 = some (.iload_n 3, 1, 0, 0, 0, [4, 5, 6, 7, 8, 9]) := rfl
theorem cd_202_47 : cd 202 47 = some (.bipush 64, 2, 0, 0, 0, []) := rfl
theorem cd_202_49 : cd 202 49 = some (.if_icmp .ge 281, 3, 0, 0, 0, []) := rfl
theorem cd_202_52 : cd 202 52 = some (.iload_n 2, 1, 0, 0, 0, []) := rfl
theorem cd_202_53 : cd 202 53 = some (.ifCond .eq 277, 3, 0, 0, 0, []) := rfl
theorem cd_202_56 : cd 202 56 = some (.aload_n 0, 1, 0, 0, 0, []) := rfl
theorem cd_202_57 : cd 202 57 = some (.iconst 2, 1, 0, 0, 0, []) := rfl
theorem cd_202_58 : cd 202 58 = some (.iload_n 3, 1, 0, 0, 0, []) := rfl
theorem cd_202_59 : cd 202 59 = some (.imul, 1, 0, 0, 0, []) := rfl
theorem cd_202_60 : cd 202 60 = some (.invokestatic 170, 3, 130, 2, 2, []) := rfl
theorem cd_202_63 : cd 202 63 = some (.istore 4, 2, 0, 0, 0, []) := rfl
theorem cd_202_65 : cd 202 65 = some (.aload_n 0, 1, 0, 0, 0, []) := rfl
theorem cd_202_66 : cd 202 66 = some (.iconst 2, 1, 0, 0, 0, []) := rfl
theorem cd_202_67 : cd 202 67 = some (.iload_n 3, 1, 0, 0, 0, []) := rfl
theorem cd_202_68 : cd 202 68 = some (.imul, 1, 0, 0, 0, []) := rfl
theorem cd_202_69 : cd 202 69 = some (.iconst 1, 1, 0, 0, 0, []) := rfl
theorem cd_202_70 : cd 202 70 = some (.iadd, 1, 0, 0, 0, []) := rfl
theorem cd_202_71 : cd 202 71 = some (.invokestatic 170, 3, 130, 2, 2, []) := rfl
theorem cd_202_74 : cd 202 74 = some (.ldc 173, 2, 5, 0, 0, []) := rfl
theorem cd_202_76 : cd 202 76 = some (.invokestatic 157, 3, 131, 2, 2, []) := rfl
theorem cd_202_79 : cd 202 79 = some (.istore 5, 2, 0, 0, 0, []) := rfl
theorem cd_202_81 : cd 202 81 = some (.aload_n 1, 1, 0, 0, 0, []) := rfl
theorem cd_202_82 : cd 202 82 = some (.invokestatic 94, 3, 149, 1, 2, []) := rfl
theorem cd_202_85 : cd 202 85 = some (.lstore 6, 2, 0, 0, 0, []) := rfl
theorem cd_202_87 : cd 202 87 = some (.iload_n 3, 1, 0, 0, 0, []) := rfl
theorem cd_202_88 : cd 202 88 = some (.ifCond .eq 9, 3, 0, 0, 0, []) := rfl
theorem cd_202_91 : cd 202 91 = some (.iload_n 3, 1, 0, 0, 0, []) := rfl
theorem cd_202_92 : cd 202 92 = some (.bipush 33, 2, 0, 0, 0, []) := rfl
theorem cd_202_94 : cd 202 94 = some (.if_icmp .ne 7, 3, 0, 0, 0, []) := rfl
theorem cd_202_97 : cd 202 97 = some (.iconst 0, 1, 0, 0, 0, [2, 7, 8, 9]) := rfl
theorem cd_202_98 : cd 202 98 = some (.goto 45, 3, 0, 0, 0, []) := rfl
theorem cd_202_101 : cd 202 101 = some (.iload_n 3, 1, 0, 0, 0, []) := rfl
theorem cd_202_102 : cd 202 102 = some (.iconst 4, 1, 0, 0, 0, []) := rfl
theorem cd_202_103 : cd 202 103 = some (.if_icmp .ge 7, 3, 0, 0, 0, []) := rfl
theorem cd_202_106 : cd 202 106 = some (.iconst 3, 1, 0, 0, 0, []) := rfl
theorem cd_202_107 : cd 202 107 = some (.goto 36, 3, 0, 0, 0, []) := rfl
theorem cd_202_110 : cd 202 110 = some (.iload_n 3, 1, 0, 0, 0, []) := rfl
theorem cd_202_111 : cd 202 111 = some (.bipush 22, 2, 0, 0, 0, []) := rfl
theorem cd_202_113 : cd 202 113 = some (.if_icmp .ge 8, 3, 0, 0, 0, []) := rfl
theorem cd_202_116 : cd 202 116 = some (.bipush 15, 2, 0, 0, 0, []) := rfl
theorem cd_202_118 : cd 202 118 = some (.goto 25, 3, 0, 0, 0, []) := rfl
theorem cd_202_121 : cd 202 121 = some (.iload 4, 2, 0, 0, 0, []) := rfl
theorem cd_202_123 : cd 202 123 = some (.bipush 16, 2, 0, 0, 0, []) := rfl
theorem cd_202_125 : cd 202 125 = some (.invokestatic 157, 3, 131, 2, 2, []) := rfl
theorem cd_202_128 : cd 202 128 = some (.ifCond .ne 8, 3, 0, 0, 0, []) := rfl
theorem cd_202_131 : cd 202 131 = some (.bipush 15, 2, 0, 0, 0, []) := rfl
theorem cd_202_133 : cd 202 133 = some (.goto 10, 3, 0, 0, 0, []) := rfl
theorem cd_202_136 : cd 202 136 = some (.iload 4, 2, 0, 0, 0, []) := rfl
theorem cd_202_138 : cd 202 138 = some (.bipush 16, 2, 0, 0, 0, []) := rfl
theorem cd_202_140 : cd 202 140 = some (.invokestatic 157, 3, 131, 2, 2, []) := rfl
theorem cd_202_143 : cd 202 143 = some (.istore 8, 2, 0, 0, 0, [2, 7, 8, 9]) := rfl
theorem cd_202_145 : cd 202 145 = some (.aload_n 1, 1, 0, 0, 0, []) := rfl
theorem cd_202_146 : cd 202 146 = some (.bipush 16, 2, 0, 0, 0, []) := rfl
theorem cd_202_148 : cd 202 148 = some (.iload 4, 2, 0, 0, 0, []) := rfl
theorem cd_202_150 : cd 202 150 = some (.iconst 4, 1, 0, 0, 0, []) := rfl
theorem cd_202_151 : cd 202 151 = some (.ishr, 1, 0, 0, 0, []) := rfl
theorem cd_202_152 : cd 202 152 = some (.ldc 174, 2, 6, 0, 0, []) := rfl
theorem cd_202_154 : cd 202 154 = some (.invokestatic 157, 3, 131, 2, 2, []) := rfl
theorem cd_202_157 : cd 202 157 = some (.imul, 1, 0, 0, 0, []) := rfl
theorem cd_202_158 : cd 202 158 = some (.iload 8, 2, 0, 0, 0, []) := rfl
theorem cd_202_160 : cd 202 160 = some (.iadd, 1, 0, 0, 0, []) := rfl
theorem cd_202_161 : cd 202 161 = some (.iload 5, 2, 0, 0, 0, []) := rfl
theorem cd_202_163 : cd 202 163 = some (.invokestatic 175, 3, 158, 3, 2, []) := rfl
theorem cd_202_166 : cd 202 166 = some (.istore 9, 2, 0, 0, 0, []) := rfl
theorem cd_202_168 : cd 202 168 = some (.iload 9, 2, 0, 0, 0, []) := rfl
theorem cd_202_170 : cd 202 170 = some (.ifCond .ge 34, 3, 0, 0, 0, []) := rfl
theorem cd_202_173 : cd 202 173 = some (.iload 9, 2, 0, 0, 0, []) := rfl
theorem cd_202_175 : cd 202 175 = some (.ldc 30, 2, 4, 0, 0, []) := rfl
theorem cd_202_177 : cd 202 177 = some (.if_icmp .eq 17, 3, 0, 0, 0, []) := rfl
theorem cd_202_180 : cd 202 180 = some (.iload 9, 2, 0, 0, 0, []) := rfl
theorem cd_202_182 : cd 202 182 = some (.ldc 17, 2, 2, 0, 0, []) := rfl
theorem cd_202_184 : cd 202 184 = some (.if_icmp .eq 10, 3, 0, 0, 0, []) := rfl
theorem cd_202_187 : cd 202 187 = some (.iload 9, 2, 0, 0, 0, []) := rfl
theorem cd_202_189 : cd 202 189 = some (.ldc 23, 2, 3, 0, 0, []) := rfl
theorem cd_202_191 : cd 202 191 = some (.if_icmp .ne 17, 3, 0, 0, 0, []) := rfl
theorem cd_202_194 : cd 202 194 = some (.aload_n 1, 1, 0, 0, 0, [2, 5, 7, 8]) := rfl
theorem cd_202_195 : cd 202 195 = some (.invokestatic 94, 3, 149, 1, 2, []) := rfl
theorem cd_202_198 : cd 202 198 = some (.lload 6, 2, 0, 0, 0, []) := rfl
theorem cd_202_200 : cd 202 200 = some (.lcmp, 1, 0, 0, 0, []) := rfl
theorem cd_202_201 : cd 202 201 = some (.ifCond .ne 7, 3, 0, 0, 0, []) := rfl
theorem cd_202_204 : cd 202 204 = some (.iconst 1, 1, 0, 0, 0, [2, 5, 7, 8]) := rfl
theorem cd_202_205 : cd 202 205 = some (.goto 4, 3, 0, 0, 0, []) := rfl
theorem cd_202_208 : cd 202 208 = some (.iconst 0, 1, 0, 0, 0, [2, 5, 7, 8]) := rfl
theorem cd_202_209 : cd 202 209 = some (.istore_n 2, 1, 0, 0, 0, [2, 5, 7, 8]) := rfl
theorem cd_202_210 : cd 202 210 = some (.iload_n 2, 1, 0, 0, 0, []) := rfl
theorem cd_202_211 : cd 202 211 = some (.ifCond .eq 42, 3, 0, 0, 0, []) := rfl
theorem cd_202_214 : cd 202 214 = some (.iload 9, 2, 0, 0, 0, []) := rfl
theorem cd_202_216 : cd 202 216 = some (.ifCond .lt 37, 3, 0, 0, 0, []) := rfl
theorem cd_202_219 : cd 202 219 = some (.iload 4, 2, 0, 0, 0, []) := rfl
theorem cd_202_221 : cd 202 221 = some (.bipush 25, 2, 0, 0, 0, []) := rfl
theorem cd_202_223 : cd 202 223 = some (.ishr, 1, 0, 0, 0, []) := rfl
theorem cd_202_224 : cd 202 224 = some (.bipush 7, 2, 0, 0, 0, []) := rfl
theorem cd_202_226 : cd 202 226 = some (.iand, 1, 0, 0, 0, []) := rfl
theorem cd_202_227 : cd 202 227 = some (.ifCond .ne 26, 3, 0, 0, 0, []) := rfl
theorem cd_202_230 : cd 202 230 = some (.aload_n 1, 1, 0, 0, 0, []) := rfl
theorem cd_202_231 : cd 202 231 = some (.invokestatic 141, 3, 148, 1, 7, []) := rfl
theorem cd_202_234 : cd 202 234 = some (.ifCond .lt 17, 3, 0, 0, 0, []) := rfl
theorem cd_202_237 : cd 202 237 = some (.aload_n 1, 1, 0, 0, 0, []) := rfl
theorem cd_202_238 : cd 202 238 = some (.invokestatic 94, 3, 149, 1, 2, []) := rfl
theorem cd_202_241 : cd 202 241 = some (.lload 6, 2, 0, 0, 0, []) := rfl
theorem cd_202_243 : cd 202 243 = some (.lcmp, 1, 0, 0, 0, []) := rfl
theorem cd_202_244 : cd 202 244 = some (.ifCond .ne 7, 3, 0, 0, 0, []) := rfl
theorem cd_202_247 : cd 202 247 = some (.iconst 1, 1, 0, 0, 0, []) := rfl
theorem cd_202_248 : cd 202 248 = some (.goto 4, 3, 0, 0, 0, []) := rfl
theorem cd_202_251 : cd 202 251 = some (.iconst 0, 1, 0, 0, 0, [2, 4, 5, 6, 7, 8, 9]) := rfl
theorem cd_202_252 : cd 202 252 = some (.istore_n 2, 1, 0, 0, 0, [2, 4, 5, 6, 7, 8, 9]) := rfl
theorem cd_202_253 : cd 202 253 = some (.iload_n 2, 1, 0, 0, 0, [4, 5, 6, 7, 8, 9]) := rfl
theorem cd_202_254 : cd 202 254 = some (.ifCond .eq 68, 3, 0, 0, 0, []) := rfl
theorem cd_202_257 : cd 202 257 = some (.iload_n 3, 1, 0, 0, 0, []) := rfl
theorem cd_202_258 : cd 202 258 = some (.iconst 3, 1, 0, 0, 0, []) := rfl
theorem cd_202_259 : cd 202 259 = some (.irem, 1, 0, 0, 0, []) := rfl
theorem cd_202_260 : cd 202 260 = some (.iconst 1, 1, 0, 0, 0, []) := rfl
theorem cd_202_261 : cd 202 261 = some (.if_icmp .ne 10, 3, 0, 0, 0, []) := rfl
theorem cd_202_264 : cd 202 264 = some (.aload_n 1, 1, 0, 0, 0, []) := rfl
theorem cd_202_265 : cd 202 265 = some (.invokestatic 150, 3, 151, 1, 2, []) := rfl
theorem cd_202_268 : cd 202 268 = some (.ifCond .eq 54, 3, 0, 0, 0, []) := rfl
theorem cd_202_271 : cd 202 271 = some (.iload_n 3, 1, 0, 0, 0, [2, 4, 5, 6, 7, 8, 9]) := rfl
theorem cd_202_272 : cd 202 272 = some (.bipush 8, 2, 0, 0, 0, []) := rfl
theorem cd_202_274 : cd 202 274 = some (.irem, 1, 0, 0, 0, []) := rfl
theorem cd_202_275 : cd 202 275 = some (.iconst 5, 1, 0, 0, 0, []) := rfl
theorem cd_202_276 : cd 202 276 = some (.if_icmp .ne 10, 3, 0, 0, 0, []) := rfl
theorem cd_202_279 : cd 202 279 = some (.aload_n 1, 1, 0, 0, 0, []) := rfl
theorem cd_202_280 : cd 202 280 = some (.invokestatic 167, 3, 155, 1, 2, []) := rfl
theorem cd_202_283 : cd 202 283 = some (.ifCond .eq 39, 3, 0, 0, 0, []) := rfl
theorem cd_202_286 : cd 202 286 = some (.iload_n 3, 1, 0, 0, 0, [2, 4, 5, 6, 7, 8, 9]) := rfl
theorem cd_202_287 : cd 202 287 = some (.bipush 9, 2, 0, 0, 0, []) := rfl
theorem cd_202_289 : cd 202 289 = some (.irem, 1, 0, 0, 0, []) := rfl
theorem cd_202_290 : cd 202 290 = some (.bipush 7, 2, 0, 0, 0, []) := rfl
theorem cd_202_292 : cd 202 292 = some (.if_icmp .ne 10, 3, 0, 0, 0, []) := rfl
theorem cd_202_295 : cd 202 295 = some (.aload_n 1, 1, 0, 0, 0, []) := rfl
theorem cd_202_296 : cd 202 296 = some (.invokestatic 178, 3, 156, 1, 2, []) := rfl
theorem cd_202_299 : cd 202 299 = some (.ifCond .eq 23, 3, 0, 0, 0, []) := rfl
theorem cd_202_302 : cd 202 302 = some (.iload_n 3, 1, 0, 0, 0, [2, 4, 5, 6, 7, 8, 9]) := rfl
theorem cd_202_303 : cd 202 303 = some (.bipush 11, 2, 0, 0, 0, []) := rfl
theorem cd_202_305 : cd 202 305 = some (.irem, 1, 0, 0, 0, []) := rfl
theorem cd_202_306 : cd 202 306 = some (.bipush 8, 2, 0, 0, 0, []) := rfl
theorem cd_202_308 : cd 202 308 = some (.if_icmp .ne 10, 3, 0, 0, 0, []) := rfl
theorem cd_202_311 : cd 202 311 = some (.aload_n 1, 1, 0, 0, 0, []) := rfl
theorem cd_202_312 : cd 202 312 = some (.invokestatic 164, 3, 150, 1, 2, []) := rfl
theorem cd_202_315 : cd 202 315 = some (.ifCond .eq 7, 3, 0, 0, 0, []) := rfl
theorem cd_202_318 : cd 202 318 = some (.iconst 1, 1, 0, 0, 0, [2, 4, 5, 6, 7, 8, 9]) := rfl
theorem cd_202_319 : cd 202 319 = some (.goto 4, 3, 0, 0, 0, []) := rfl
theorem cd_202_322 : cd 202 322 = some (.iconst 0, 1, 0, 0, 0, [2, 4, 5, 6, 7, 8, 9]) := rfl
theorem cd_202_323 : cd 202 323 = some (.istore_n 2, 1, 0, 0, 0, [2, 4, 5, 6, 7, 8, 9]) := rfl
theorem cd_202_324 : cd 202 324 = some (.iinc 3 1, 3, 0, 0, 0, []) := rfl
theorem cd_202_327 : cd 202 327 = some (.goto (-281), 3, 0, 0, 0, []) := rfl
theorem cd_202_330 : cd 202 330 = some (.iload_n 2, 1, 0, 0, 0, [0, 3, 4, 5, 6, 7, 8, 9]) := rfl
theorem cd_202_331 : cd 202 331 = some (.ifCond .eq 21, 3, 0, 0, 0, []) := rfl
theorem cd_202_334 : cd 202 334 = some (.aload_n 1, 1, 0, 0, 0, []) := rfl
theorem cd_202_335 : cd 202 335 = some (.invokestatic 164, 3, 150, 1, 2, []) := rfl
theorem cd_202_338 : cd 202 338 = some (.ifCond .eq 14, 3, 0, 0, 0, []) := rfl
theorem cd_202_341 : cd 202 341 = some (.aload_n 1, 1, 0, 0, 0, []) := rfl
theorem cd_202_342 : cd 202 342 = some (.invokestatic 150, 3, 151, 1, 2, []) := rfl
theorem cd_202_345 : cd 202 345 = some (.ifCond .eq 7, 3, 0, 0, 0, []) := rfl
theorem cd_202_348 : cd 202 348 = some (.iconst 1, 1, 0, 0, 0, []) := rfl
theorem cd_202_349 : cd 202 349 = some (.goto 4, 3, 0, 0, 0, []) := rfl
theorem cd_202_352 : cd 202 352 = some (.iconst 0, 1, 0, 0, 0, [0, 1, 2, 3, 4, 5, 6, 7, 8, 9]) := rfl
theorem cd_202_353 : cd 202 353 = some (.ireturn, 1, 0, 0, 0, [0, 1, 2, 3, 4, 5, 6, 7, 8, 9]) := rfl
