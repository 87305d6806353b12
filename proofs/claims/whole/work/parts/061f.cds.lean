/-! ===== the code table, row by row: by program (wip/whole/gen4.py) ===== -/
theorem cd_202_0 : cd 202 0 = some (.aload_n 3, 1, 0, 0, 0, []) := rfl
theorem cd_202_1 : cd 202 1 = some (.iconst 0, 1, 0, 0, 0, []) := rfl
theorem cd_202_2 : cd 202 2 = some (.aload_n 0, 1, 0, 0, 0, []) := rfl
theorem cd_202_3 : cd 202 3 = some (.iload_n 1, 1, 0, 0, 0, []) := rfl
theorem cd_202_4 : cd 202 4 = some (.iload_n 2, 1, 0, 0, 0, []) := rfl
theorem cd_202_5 : cd 202 5 = some (.invokevirtual 7, 3, 81, 3, 0, []) := rfl
theorem cd_202_8 : cd 202 8 = some (.i2l, 1, 0, 0, 0, []) := rfl
theorem cd_202_9 : cd 202 9 = some (.lastore, 1, 0, 0, 0, []) := rfl
theorem cd_202_10 : cd 202 10 = some (.goto 7, 3, 0, 0, 0, []) := rfl
theorem cd_202_17 : cd 202 17 = some (.iconst 0, 1, 0, 0, 0, []) := rfl
theorem cd_202_18 : cd 202 18 = some (.ireturn, 1, 0, 0, 0, []) := rfl
theorem cd_203_0 : cd 203 0 = some (.aload_n 3, 1, 0, 0, 0, []) := rfl
theorem cd_203_1 : cd 203 1 = some (.iconst 0, 1, 0, 0, 0, []) := rfl
theorem cd_203_2 : cd 203 2 = some (.aload_n 0, 1, 0, 0, 0, []) := rfl
theorem cd_203_3 : cd 203 3 = some (.iload_n 1, 1, 0, 0, 0, []) := rfl
theorem cd_203_4 : cd 203 4 = some (.iload_n 2, 1, 0, 0, 0, []) := rfl
theorem cd_203_5 : cd 203 5 = some (.invokevirtual 15, 3, 82, 3, 0, []) := rfl
theorem cd_203_8 : cd 203 8 = some (.i2l, 1, 0, 0, 0, []) := rfl
theorem cd_203_9 : cd 203 9 = some (.lastore, 1, 0, 0, 0, []) := rfl
theorem cd_203_10 : cd 203 10 = some (.goto 11, 3, 0, 0, 0, []) := rfl
theorem cd_203_21 : cd 203 21 = some (.iconst 0, 1, 0, 0, 0, []) := rfl
theorem cd_203_22 : cd 203 22 = some (.ireturn, 1, 0, 0, 0, []) := rfl
theorem cd_204_0 : cd 204 0 = some (.aload_n 1, 1, 0, 0, 0, []) := rfl
theorem cd_204_1 : cd 204 1 = some (.iconst 0, 1, 0, 0, 0, []) := rfl
theorem cd_204_2 : cd 204 2 = some (.aload_n 0, 1, 0, 0, 0, []) := rfl
theorem cd_204_3 : cd 204 3 = some (.invokevirtual 20, 3, 85, 1, 0, []) := rfl
theorem cd_204_6 : cd 204 6 = some (.i2l, 1, 0, 0, 0, []) := rfl
theorem cd_204_7 : cd 204 7 = some (.lastore, 1, 0, 0, 0, []) := rfl
theorem cd_204_8 : cd 204 8 = some (.goto 6, 3, 0, 0, 0, []) := rfl
theorem cd_204_14 : cd 204 14 = some (.iconst 0, 1, 0, 0, 0, []) := rfl
theorem cd_204_15 : cd 204 15 = some (.ireturn, 1, 0, 0, 0, []) := rfl
theorem cd_205_0 : cd 205 0 = some (.aload_n 2, 1, 0, 0, 0, []) := rfl
theorem cd_205_1 : cd 205 1 = some (.iconst 0, 1, 0, 0, 0, []) := rfl
theorem cd_205_2 : cd 205 2 = some (.aload_n 0, 1, 0, 0, 0, []) := rfl
theorem cd_205_3 : cd 205 3 = some (.iload_n 1, 1, 0, 0, 0, []) := rfl
theorem cd_205_4 : cd 205 4 = some (.invokevirtual 26, 3, 86, 2, 0, []) := rfl
theorem cd_205_7 : cd 205 7 = some (.i2l, 1, 0, 0, 0, []) := rfl
theorem cd_205_8 : cd 205 8 = some (.lastore, 1, 0, 0, 0, []) := rfl
theorem cd_205_9 : cd 205 9 = some (.goto 6, 3, 0, 0, 0, []) := rfl
theorem cd_205_15 : cd 205 15 = some (.iconst 0, 1, 0, 0, 0, []) := rfl
theorem cd_205_16 : cd 205 16 = some (.ireturn, 1, 0, 0, 0, []) := rfl
theorem cd_206_0 : cd 206 0 = some (.aload_n 3, 1, 0, 0, 0, []) := rfl
theorem cd_206_1 : cd 206 1 = some (.iconst 0, 1, 0, 0, 0, []) := rfl
theorem cd_206_2 : cd 206 2 = some (.aload_n 0, 1, 0, 0, 0, []) := rfl
theorem cd_206_3 : cd 206 3 = some (.iload_n 1, 1, 0, 0, 0, []) := rfl
theorem cd_206_4 : cd 206 4 = some (.iload_n 2, 1, 0, 0, 0, []) := rfl
theorem cd_206_5 : cd 206 5 = some (.invokevirtual 30, 3, 87, 3, 0, []) := rfl
theorem cd_206_8 : cd 206 8 = some (.i2l, 1, 0, 0, 0, []) := rfl
theorem cd_206_9 : cd 206 9 = some (.lastore, 1, 0, 0, 0, []) := rfl
theorem cd_206_10 : cd 206 10 = some (.goto 11, 3, 0, 0, 0, []) := rfl
theorem cd_206_21 : cd 206 21 = some (.iconst 0, 1, 0, 0, 0, []) := rfl
theorem cd_206_22 : cd 206 22 = some (.ireturn, 1, 0, 0, 0, []) := rfl
theorem cd_207_0 : cd 207 0 = some (.aload_n 2, 1, 0, 0, 0, []) := rfl
theorem cd_207_1 : cd 207 1 = some (.iconst 0, 1, 0, 0, 0, []) := rfl
theorem cd_207_2 : cd 207 2 = some (.aload_n 0, 1, 0, 0, 0, []) := rfl
theorem cd_207_3 : cd 207 3 = some (.iload_n 1, 1, 0, 0, 0, []) := rfl
theorem cd_207_4 : cd 207 4 = some (.invokevirtual 33, 3, 88, 2, 0, []) := rfl
theorem cd_207_7 : cd 207 7 = some (.i2l, 1, 0, 0, 0, []) := rfl
theorem cd_207_8 : cd 207 8 = some (.lastore, 1, 0, 0, 0, []) := rfl
theorem cd_207_9 : cd 207 9 = some (.goto 6, 3, 0, 0, 0, []) := rfl
theorem cd_207_15 : cd 207 15 = some (.iconst 0, 1, 0, 0, 0, []) := rfl
theorem cd_207_16 : cd 207 16 = some (.ireturn, 1, 0, 0, 0, []) := rfl
theorem cd_208_0 : cd 208 0 = some (.aload_n 3, 1, 0, 0, 0, []) := rfl
theorem cd_208_1 : cd 208 1 = some (.iconst 0, 1, 0, 0, 0, []) := rfl
theorem cd_208_2 : cd 208 2 = some (.aload_n 0, 1, 0, 0, 0, []) := rfl
theorem cd_208_3 : cd 208 3 = some (.iload_n 1, 1, 0, 0, 0, []) := rfl
theorem cd_208_4 : cd 208 4 = some (.iload_n 2, 1, 0, 0, 0, []) := rfl
theorem cd_208_5 : cd 208 5 = some (.invokevirtual 36, 3, 89, 3, 0, []) := rfl
theorem cd_208_8 : cd 208 8 = some (.i2l, 1, 0, 0, 0, []) := rfl
theorem cd_208_9 : cd 208 9 = some (.lastore, 1, 0, 0, 0, []) := rfl
theorem cd_208_10 : cd 208 10 = some (.goto 7, 3, 0, 0, 0, []) := rfl
theorem cd_208_17 : cd 208 17 = some (.iconst 0, 1, 0, 0, 0, []) := rfl
theorem cd_208_18 : cd 208 18 = some (.ireturn, 1, 0, 0, 0, []) := rfl
theorem cd_209_0 : cd 209 0 = some (.aload_n 3, 1, 0, 0, 0, []) := rfl
theorem cd_209_1 : cd 209 1 = some (.iconst 0, 1, 0, 0, 0, []) := rfl
theorem cd_209_2 : cd 209 2 = some (.aload_n 0, 1, 0, 0, 0, []) := rfl
theorem cd_209_3 : cd 209 3 = some (.iload_n 1, 1, 0, 0, 0, []) := rfl
theorem cd_209_4 : cd 209 4 = some (.iload_n 2, 1, 0, 0, 0, []) := rfl
theorem cd_209_5 : cd 209 5 = some (.invokevirtual 39, 3, 90, 3, 0, []) := rfl
theorem cd_209_8 : cd 209 8 = some (.i2l, 1, 0, 0, 0, []) := rfl
theorem cd_209_9 : cd 209 9 = some (.lastore, 1, 0, 0, 0, []) := rfl
theorem cd_209_10 : cd 209 10 = some (.goto 11, 3, 0, 0, 0, []) := rfl
theorem cd_209_21 : cd 209 21 = some (.iconst 0, 1, 0, 0, 0, []) := rfl
theorem cd_209_22 : cd 209 22 = some (.ireturn, 1, 0, 0, 0, []) := rfl
theorem cd_210_0 : cd 210 0 = some (.aload_n 3, 1, 0, 0, 0, []) := rfl
theorem cd_210_1 : cd 210 1 = some (.iconst 0, 1, 0, 0, 0, []) := rfl
theorem cd_210_2 : cd 210 2 = some (.aload_n 0, 1, 0, 0, 0, []) := rfl
theorem cd_210_3 : cd 210 3 = some (.iload_n 1, 1, 0, 0, 0, []) := rfl
theorem cd_210_4 : cd 210 4 = some (.iload_n 2, 1, 0, 0, 0, []) := rfl
theorem cd_210_5 : cd 210 5 = some (.invokevirtual 42, 3, 91, 3, 0, []) := rfl
theorem cd_210_8 : cd 210 8 = some (.i2l, 1, 0, 0, 0, []) := rfl
theorem cd_210_9 : cd 210 9 = some (.lastore, 1, 0, 0, 0, []) := rfl
theorem cd_210_10 : cd 210 10 = some (.goto 7, 3, 0, 0, 0, []) := rfl
theorem cd_210_17 : cd 210 17 = some (.iconst 0, 1, 0, 0, 0, []) := rfl
theorem cd_210_18 : cd 210 18 = some (.ireturn, 1, 0, 0, 0, []) := rfl
theorem cd_211_0 : cd 211 0 = some (.aload_n 3, 1, 0, 0, 0, []) := rfl
theorem cd_211_1 : cd 211 1 = some (.iconst 0, 1, 0, 0, 0, []) := rfl
theorem cd_211_2 : cd 211 2 = some (.aload_n 0, 1, 0, 0, 0, []) := rfl
theorem cd_211_3 : cd 211 3 = some (.iload_n 1, 1, 0, 0, 0, []) := rfl
theorem cd_211_4 : cd 211 4 = some (.iload_n 2, 1, 0, 0, 0, []) := rfl
theorem cd_211_5 : cd 211 5 = some (.invokevirtual 45, 3, 92, 3, 0, []) := rfl
theorem cd_211_8 : cd 211 8 = some (.i2l, 1, 0, 0, 0, []) := rfl
theorem cd_211_9 : cd 211 9 = some (.lastore, 1, 0, 0, 0, []) := rfl
theorem cd_211_10 : cd 211 10 = some (.goto 7, 3, 0, 0, 0, []) := rfl
theorem cd_211_17 : cd 211 17 = some (.iconst 0, 1, 0, 0, 0, []) := rfl
theorem cd_211_18 : cd 211 18 = some (.ireturn, 1, 0, 0, 0, []) := rfl
theorem cd_212_0 : cd 212 0 = some (.aload_n 2, 1, 0, 0, 0, []) := rfl
theorem cd_212_1 : cd 212 1 = some (.iconst 0, 1, 0, 0, 0, []) := rfl
theorem cd_212_2 : cd 212 2 = some (.aload_n 0, 1, 0, 0, 0, []) := rfl
theorem cd_212_3 : cd 212 3 = some (.iload_n 1, 1, 0, 0, 0, []) := rfl
theorem cd_212_4 : cd 212 4 = some (.invokevirtual 48, 3, 93, 2, 0, []) := rfl
theorem cd_212_7 : cd 212 7 = some (.i2l, 1, 0, 0, 0, []) := rfl
theorem cd_212_8 : cd 212 8 = some (.lastore, 1, 0, 0, 0, []) := rfl
theorem cd_212_9 : cd 212 9 = some (.goto 6, 3, 0, 0, 0, []) := rfl
theorem cd_212_15 : cd 212 15 = some (.iconst 0, 1, 0, 0, 0, []) := rfl
theorem cd_212_16 : cd 212 16 = some (.ireturn, 1, 0, 0, 0, []) := rfl
theorem cd_213_0 : cd 213 0 = some (.aload_n 2, 1, 0, 0, 0, []) := rfl
theorem cd_213_1 : cd 213 1 = some (.iconst 0, 1, 0, 0, 0, []) := rfl
theorem cd_213_2 : cd 213 2 = some (.aload_n 0, 1, 0, 0, 0, []) := rfl
theorem cd_213_3 : cd 213 3 = some (.iload_n 1, 1, 0, 0, 0, []) := rfl
theorem cd_213_4 : cd 213 4 = some (.invokevirtual 51, 3, 94, 2, 0, []) := rfl
theorem cd_213_7 : cd 213 7 = some (.ifCond .eq 7, 3, 0, 0, 0, []) := rfl
theorem cd_213_10 : cd 213 10 = some (.lconst 1, 1, 0, 0, 0, []) := rfl
theorem cd_213_11 : cd 213 11 = some (.goto 4, 3, 0, 0, 0, []) := rfl
theorem cd_213_14 : cd 213 14 = some (.lconst 0, 1, 0, 0, 0, []) := rfl
theorem cd_213_15 : cd 213 15 = some (.lastore, 1, 0, 0, 0, []) := rfl
theorem cd_213_16 : cd 213 16 = some (.goto 6, 3, 0, 0, 0, []) := rfl
theorem cd_213_22 : cd 213 22 = some (.iconst 0, 1, 0, 0, 0, []) := rfl
theorem cd_213_23 : cd 213 23 = some (.ireturn, 1, 0, 0, 0, []) := rfl
theorem cd_214_0 : cd 214 0 = some (.aload_n 2, 1, 0, 0, 0, []) := rfl
theorem cd_214_1 : cd 214 1 = some (.iconst 0, 1, 0, 0, 0, []) := rfl
theorem cd_214_2 : cd 214 2 = some (.aload_n 0, 1, 0, 0, 0, []) := rfl
theorem cd_214_3 : cd 214 3 = some (.iload_n 1, 1, 0, 0, 0, []) := rfl
theorem cd_214_4 : cd 214 4 = some (.invokevirtual 55, 3, 95, 2, 0, []) := rfl
theorem cd_214_7 : cd 214 7 = some (.i2l, 1, 0, 0, 0, []) := rfl
theorem cd_214_8 : cd 214 8 = some (.lastore, 1, 0, 0, 0, []) := rfl
theorem cd_214_9 : cd 214 9 = some (.goto 6, 3, 0, 0, 0, []) := rfl
theorem cd_214_15 : cd 214 15 = some (.iconst 0, 1, 0, 0, 0, []) := rfl
theorem cd_214_16 : cd 214 16 = some (.ireturn, 1, 0, 0, 0, []) := rfl
theorem cd_215_0 : cd 215 0 = some (.aload_n 2, 1, 0, 0, 0, []) := rfl
theorem cd_215_1 : cd 215 1 = some (.iconst 0, 1, 0, 0, 0, []) := rfl
theorem cd_215_2 : cd 215 2 = some (.aload_n 0, 1, 0, 0, 0, []) := rfl
theorem cd_215_3 : cd 215 3 = some (.iload_n 1, 1, 0, 0, 0, []) := rfl
theorem cd_215_4 : cd 215 4 = some (.invokevirtual 58, 3, 96, 2, 0, []) := rfl
theorem cd_215_7 : cd 215 7 = some (.i2l, 1, 0, 0, 0, []) := rfl
theorem cd_215_8 : cd 215 8 = some (.lastore, 1, 0, 0, 0, []) := rfl
theorem cd_215_9 : cd 215 9 = some (.goto 6, 3, 0, 0, 0, []) := rfl
theorem cd_215_15 : cd 215 15 = some (.iconst 0, 1, 0, 0, 0, []) := rfl
theorem cd_215_16 : cd 215 16 = some (.ireturn, 1, 0, 0, 0, []) := rfl
theorem cd_216_0 : cd 216 0 = some (.aload_n 2, 1, 0, 0, 0, []) := rfl
theorem cd_216_1 : cd 216 1 = some (.iconst 0, 1, 0, 0, 0, []) := rfl
theorem cd_216_2 : cd 216 2 = some (.aload_n 0, 1, 0, 0, 0, []) := rfl
theorem cd_216_3 : cd 216 3 = some (.iload_n 1, 1, 0, 0, 0, []) := rfl
theorem cd_216_4 : cd 216 4 = some (.invokevirtual 61, 3, 97, 2, 0, []) := rfl
theorem cd_216_7 : cd 216 7 = some (.i2l, 1, 0, 0, 0, []) := rfl
theorem cd_216_8 : cd 216 8 = some (.lastore, 1, 0, 0, 0, []) := rfl
theorem cd_216_9 : cd 216 9 = some (.goto 6, 3, 0, 0, 0, []) := rfl
theorem cd_216_15 : cd 216 15 = some (.iconst 0, 1, 0, 0, 0, []) := rfl
theorem cd_216_16 : cd 216 16 = some (.ireturn, 1, 0, 0, 0, []) := rfl
theorem cd_217_0 : cd 217 0 = some (.aload_n 2, 1, 0, 0, 0, []) := rfl
theorem cd_217_1 : cd 217 1 = some (.iconst 0, 1, 0, 0, 0, []) := rfl
theorem cd_217_2 : cd 217 2 = some (.aload_n 0, 1, 0, 0, 0, []) := rfl
theorem cd_217_3 : cd 217 3 = some (.iload_n 1, 1, 0, 0, 0, []) := rfl
theorem cd_217_4 : cd 217 4 = some (.invokevirtual 64, 3, 101, 2, 0, []) := rfl
theorem cd_217_7 : cd 217 7 = some (.i2l, 1, 0, 0, 0, []) := rfl
theorem cd_217_8 : cd 217 8 = some (.lastore, 1, 0, 0, 0, []) := rfl
theorem cd_217_9 : cd 217 9 = some (.goto 9, 3, 0, 0, 0, []) := rfl
theorem cd_217_18 : cd 217 18 = some (.iconst 0, 1, 0, 0, 0, []) := rfl
theorem cd_217_19 : cd 217 19 = some (.ireturn, 1, 0, 0, 0, []) := rfl
theorem cd_218_0 : cd 218 0 = some (.aload_n 1, 1, 0, 0, 0, []) := rfl
theorem cd_218_1 : cd 218 1 = some (.iconst 0, 1, 0, 0, 0, []) := rfl
theorem cd_218_2 : cd 218 2 = some (.aload_n 0, 1, 0, 0, 0, []) := rfl
theorem cd_218_3 : cd 218 3 = some (.invokevirtual 67, 3, 104, 1, 0, []) := rfl
theorem cd_218_6 : cd 218 6 = some (.i2l, 1, 0, 0, 0, []) := rfl
theorem cd_218_7 : cd 218 7 = some (.lastore, 1, 0, 0, 0, []) := rfl
theorem cd_218_8 : cd 218 8 = some (.goto 6, 3, 0, 0, 0, []) := rfl
theorem cd_218_14 : cd 218 14 = some (.iconst 0, 1, 0, 0, 0, []) := rfl
theorem cd_218_15 : cd 218 15 = some (.ireturn, 1, 0, 0, 0, []) := rfl
theorem cd_219_0 : cd 219 0 = some (.new 8, 3, 8, 0, 0, []) := rfl
theorem cd_219_3 : cd 219 3 = some (.dup, 1, 0, 0, 0, []) := rfl
theorem cd_219_4 : cd 219 4 = some (.invokespecial 70, 3, 80, 1, 4, []) := rfl
theorem cd_219_7 : cd 219 7 = some (.astore_n 1, 1, 0, 0, 0, []) := rfl
theorem cd_219_8 : cd 219 8 = some (.new 71, 3, 9, 0, 0, []) := rfl
theorem cd_219_11 : cd 219 11 = some (.dup, 1, 0, 0, 0, []) := rfl
theorem cd_219_12 : cd 219 12 = some (.invokespecial 73, 3, 130, 1, 4, []) := rfl
theorem cd_219_15 : cd 219 15 = some (.astore_n 2, 1, 0, 0, 0, []) := rfl
theorem cd_219_16 : cd 219 16 = some (.iconst 1, 1, 0, 0, 0, []) := rfl
theorem cd_219_17 : cd 219 17 = some (.newarray .long, 2, 0, 0, 0, []) := rfl
theorem cd_219_19 : cd 219 19 = some (.astore_n 3, 1, 0, 0, 0, []) := rfl
theorem cd_219_20 : cd 219 20 = some (.iconst 0, 1, 0, 0, 0, []) := rfl
theorem cd_219_21 : cd 219 21 = some (.istore 4, 2, 0, 0, 0, []) := rfl
theorem cd_219_23 : cd 219 23 = some (.iload 4, 2, 0, 0, 0, [5, 6, 7, 8, 1000]) := rfl
theorem cd_219_25 : cd 219 25 = some (.aload_n 0, 1, 0, 0, 0, []) := rfl
theorem cd_219_26 : cd 219 26 = some (.arraylength, 1, 0, 0, 0, []) := rfl
theorem cd_219_27 : cd 219 27 = some (.iconst 3, 1, 0, 0, 0, []) := rfl
theorem cd_219_28 : cd 219 28 = some (.isub, 1, 0, 0, 0, []) := rfl
theorem cd_219_29 : cd 219 29 = some (.if_icmp .gt 1281, 3, 0, 0, 0, []) := rfl
theorem cd_219_32 : cd 219 32 = some (.aload_n 0, 1, 0, 0, 0, []) := rfl
theorem cd_219_33 : cd 219 33 = some (.iload 4, 2, 0, 0, 0, []) := rfl
theorem cd_219_35 : cd 219 35 = some (.iaload, 1, 0, 0, 0, []) := rfl
theorem cd_219_36 : cd 219 36 = some (.bipush 31, 2, 0, 0, 0, []) := rfl
theorem cd_219_38 : cd 219 38 = some (.iand, 1, 0, 0, 0, []) := rfl
theorem cd_219_39 : cd 219 39 = some (.tableswitch 1265 0 24 #[113, 181, 249, 262, 275, 319, 375, 443, 499, 567, 635, 703, 771, 827, 890, 946, 1002, 1058, 1071, 1084, 1125, 1181, 1194, 1207, 1251], 113, 0, 0, 0, []) := rfl
theorem cd_219_152 : cd 219 152 = some (.aload_n 1, 1, 0, 0, 0, []) := rfl
theorem cd_219_153 : cd 219 153 = some (.aload_n 0, 1, 0, 0, 0, []) := rfl
theorem cd_219_154 : cd 219 154 = some (.iload 4, 2, 0, 0, 0, []) := rfl
theorem cd_219_156 : cd 219 156 = some (.iconst 1, 1, 0, 0, 0, []) := rfl
theorem cd_219_157 : cd 219 157 = some (.iadd, 1, 0, 0, 0, []) := rfl
theorem cd_219_158 : cd 219 158 = some (.iaload, 1, 0, 0, 0, []) := rfl
theorem cd_219_159 : cd 219 159 = some (.aload_n 0, 1, 0, 0, 0, []) := rfl
theorem cd_219_160 : cd 219 160 = some (.iload 4, 2, 0, 0, 0, []) := rfl
theorem cd_219_162 : cd 219 162 = some (.iconst 2, 1, 0, 0, 0, []) := rfl
theorem cd_219_163 : cd 219 163 = some (.iadd, 1, 0, 0, 0, []) := rfl
theorem cd_219_164 : cd 219 164 = some (.iaload, 1, 0, 0, 0, []) := rfl
theorem cd_219_165 : cd 219 165 = some (.aload_n 3, 1, 0, 0, 0, []) := rfl
theorem cd_219_166 : cd 219 166 = some (.invokestatic 74, 3, 202, 4, 7, []) := rfl
theorem cd_219_169 : cd 219 169 = some (.istore 5, 2, 0, 0, 0, []) := rfl
theorem cd_219_171 : cd 219 171 = some (.aload_n 2, 1, 0, 0, 0, []) := rfl
theorem cd_219_172 : cd 219 172 = some (.aload_n 0, 1, 0, 0, 0, []) := rfl
theorem cd_219_173 : cd 219 173 = some (.iload 4, 2, 0, 0, 0, []) := rfl
theorem cd_219_175 : cd 219 175 = some (.iconst 1, 1, 0, 0, 0, []) := rfl
theorem cd_219_176 : cd 219 176 = some (.iadd, 1, 0, 0, 0, []) := rfl
theorem cd_219_177 : cd 219 177 = some (.iaload, 1, 0, 0, 0, []) := rfl
theorem cd_219_178 : cd 219 178 = some (.aload_n 0, 1, 0, 0, 0, []) := rfl
theorem cd_219_179 : cd 219 179 = some (.iload 4, 2, 0, 0, 0, []) := rfl
theorem cd_219_181 : cd 219 181 = some (.iconst 2, 1, 0, 0, 0, []) := rfl
theorem cd_219_182 : cd 219 182 = some (.iadd, 1, 0, 0, 0, []) := rfl
theorem cd_219_183 : cd 219 183 = some (.iaload, 1, 0, 0, 0, []) := rfl
theorem cd_219_184 : cd 219 184 = some (.invokevirtual 79, 3, 146, 3, 0, []) := rfl
theorem cd_219_187 : cd 219 187 = some (.istore 6, 2, 0, 0, 0, []) := rfl
theorem cd_219_189 : cd 219 189 = some (.aload_n 2, 1, 0, 0, 0, []) := rfl
theorem cd_219_190 : cd 219 190 = some (.invokevirtual 80, 3, 131, 1, 0, []) := rfl
theorem cd_219_193 : cd 219 193 = some (.iload 5, 2, 0, 0, 0, []) := rfl
theorem cd_219_195 : cd 219 195 = some (.if_icmp .eq 5, 3, 0, 0, 0, []) := rfl
theorem cd_219_198 : cd 219 198 = some (.iconst 0, 1, 0, 0, 0, []) := rfl
theorem cd_219_199 : cd 219 199 = some (.ireturn, 1, 0, 0, 0, []) := rfl
theorem cd_219_200 : cd 219 200 = some (.iload 5, 2, 0, 0, 0, []) := rfl
theorem cd_219_202 : cd 219 202 = some (.ifCond .ne 15, 3, 0, 0, 0, []) := rfl
theorem cd_219_205 : cd 219 205 = some (.aload_n 3, 1, 0, 0, 0, []) := rfl
theorem cd_219_206 : cd 219 206 = some (.iconst 0, 1, 0, 0, 0, []) := rfl
theorem cd_219_207 : cd 219 207 = some (.laload, 1, 0, 0, 0, []) := rfl
theorem cd_219_208 : cd 219 208 = some (.iload 6, 2, 0, 0, 0, []) := rfl
theorem cd_219_210 : cd 219 210 = some (.i2l, 1, 0, 0, 0, []) := rfl
theorem cd_219_211 : cd 219 211 = some (.lcmp, 1, 0, 0, 0, []) := rfl
theorem cd_219_212 : cd 219 212 = some (.ifCond .eq 5, 3, 0, 0, 0, []) := rfl
theorem cd_219_215 : cd 219 215 = some (.iconst 0, 1, 0, 0, 0, []) := rfl
theorem cd_219_216 : cd 219 216 = some (.ireturn, 1, 0, 0, 0, []) := rfl
theorem cd_219_217 : cd 219 217 = some (.goto 1087, 3, 0, 0, 0, []) := rfl
theorem cd_219_220 : cd 219 220 = some (.aload_n 1, 1, 0, 0, 0, []) := rfl
theorem cd_219_221 : cd 219 221 = some (.aload_n 0, 1, 0, 0, 0, []) := rfl
theorem cd_219_222 : cd 219 222 = some (.iload 4, 2, 0, 0, 0, []) := rfl
theorem cd_219_224 : cd 219 224 = some (.iconst 1, 1, 0, 0, 0, []) := rfl
theorem cd_219_225 : cd 219 225 = some (.iadd, 1, 0, 0, 0, []) := rfl
theorem cd_219_226 : cd 219 226 = some (.iaload, 1, 0, 0, 0, []) := rfl
theorem cd_219_227 : cd 219 227 = some (.aload_n 0, 1, 0, 0, 0, []) := rfl
theorem cd_219_228 : cd 219 228 = some (.iload 4, 2, 0, 0, 0, []) := rfl
theorem cd_219_230 : cd 219 230 = some (.iconst 2, 1, 0, 0, 0, []) := rfl
theorem cd_219_231 : cd 219 231 = some (.iadd, 1, 0, 0, 0, []) := rfl
theorem cd_219_232 : cd 219 232 = some (.iaload, 1, 0, 0, 0, []) := rfl
theorem cd_219_233 : cd 219 233 = some (.aload_n 3, 1, 0, 0, 0, []) := rfl
theorem cd_219_234 : cd 219 234 = some (.invokestatic 83, 3, 203, 4, 7, []) := rfl
theorem cd_219_237 : cd 219 237 = some (.istore 5, 2, 0, 0, 0, []) := rfl
theorem cd_219_239 : cd 219 239 = some (.aload_n 2, 1, 0, 0, 0, []) := rfl
theorem cd_219_240 : cd 219 240 = some (.aload_n 0, 1, 0, 0, 0, []) := rfl
theorem cd_219_241 : cd 219 241 = some (.iload 4, 2, 0, 0, 0, []) := rfl
theorem cd_219_243 : cd 219 243 = some (.iconst 1, 1, 0, 0, 0, []) := rfl
theorem cd_219_244 : cd 219 244 = some (.iadd, 1, 0, 0, 0, []) := rfl
theorem cd_219_245 : cd 219 245 = some (.iaload, 1, 0, 0, 0, []) := rfl
theorem cd_219_246 : cd 219 246 = some (.aload_n 0, 1, 0, 0, 0, []) := rfl
theorem cd_219_247 : cd 219 247 = some (.iload 4, 2, 0, 0, 0, []) := rfl
theorem cd_219_249 : cd 219 249 = some (.iconst 2, 1, 0, 0, 0, []) := rfl
theorem cd_219_250 : cd 219 250 = some (.iadd, 1, 0, 0, 0, []) := rfl
theorem cd_219_251 : cd 219 251 = some (.iaload, 1, 0, 0, 0, []) := rfl
theorem cd_219_252 : cd 219 252 = some (.invokevirtual 85, 3, 147, 3, 0, []) := rfl
theorem cd_219_255 : cd 219 255 = some (.istore 6, 2, 0, 0, 0, []) := rfl
theorem cd_219_257 : cd 219 257 = some (.aload_n 2, 1, 0, 0, 0, []) := rfl
theorem cd_219_258 : cd 219 258 = some (.invokevirtual 80, 3, 131, 1, 0, []) := rfl
theorem cd_219_261 : cd 219 261 = some (.iload 5, 2, 0, 0, 0, []) := rfl
theorem cd_219_263 : cd 219 263 = some (.if_icmp .eq 5, 3, 0, 0, 0, []) := rfl
theorem cd_219_266 : cd 219 266 = some (.iconst 0, 1, 0, 0, 0, []) := rfl
theorem cd_219_267 : cd 219 267 = some (.ireturn, 1, 0, 0, 0, []) := rfl
theorem cd_219_268 : cd 219 268 = some (.iload 5, 2, 0, 0, 0, []) := rfl
theorem cd_219_270 : cd 219 270 = some (.ifCond .ne 15, 3, 0, 0, 0, []) := rfl
theorem cd_219_273 : cd 219 273 = some (.aload_n 3, 1, 0, 0, 0, []) := rfl
theorem cd_219_274 : cd 219 274 = some (.iconst 0, 1, 0, 0, 0, []) := rfl
theorem cd_219_275 : cd 219 275 = some (.laload, 1, 0, 0, 0, []) := rfl
theorem cd_219_276 : cd 219 276 = some (.iload 6, 2, 0, 0, 0, []) := rfl
theorem cd_219_278 : cd 219 278 = some (.i2l, 1, 0, 0, 0, []) := rfl
theorem cd_219_279 : cd 219 279 = some (.lcmp, 1, 0, 0, 0, []) := rfl
theorem cd_219_280 : cd 219 280 = some (.ifCond .eq 5, 3, 0, 0, 0, []) := rfl
theorem cd_219_283 : cd 219 283 = some (.iconst 0, 1, 0, 0, 0, []) := rfl
theorem cd_219_284 : cd 219 284 = some (.ireturn, 1, 0, 0, 0, []) := rfl
theorem cd_219_285 : cd 219 285 = some (.goto 1019, 3, 0, 0, 0, []) := rfl
theorem cd_219_288 : cd 219 288 = some (.aload_n 1, 1, 0, 0, 0, []) := rfl
theorem cd_219_289 : cd 219 289 = some (.invokevirtual 86, 3, 83, 1, 0, []) := rfl
theorem cd_219_292 : cd 219 292 = some (.aload_n 2, 1, 0, 0, 0, []) := rfl
theorem cd_219_293 : cd 219 293 = some (.invokevirtual 89, 3, 150, 1, 0, []) := rfl
theorem cd_219_296 : cd 219 296 = some (.if_icmp .eq 1008, 3, 0, 0, 0, []) := rfl
theorem cd_219_299 : cd 219 299 = some (.iconst 0, 1, 0, 0, 0, []) := rfl
theorem cd_219_300 : cd 219 300 = some (.ireturn, 1, 0, 0, 0, []) := rfl
theorem cd_219_301 : cd 219 301 = some (.aload_n 1, 1, 0, 0, 0, []) := rfl
theorem cd_219_302 : cd 219 302 = some (.invokevirtual 90, 3, 84, 1, 0, []) := rfl
theorem cd_219_305 : cd 219 305 = some (.aload_n 2, 1, 0, 0, 0, []) := rfl
theorem cd_219_306 : cd 219 306 = some (.invokevirtual 93, 3, 151, 1, 0, []) := rfl
theorem cd_219_309 : cd 219 309 = some (.if_icmp .eq 995, 3, 0, 0, 0, []) := rfl
theorem cd_219_312 : cd 219 312 = some (.iconst 0, 1, 0, 0, 0, []) := rfl
theorem cd_219_313 : cd 219 313 = some (.ireturn, 1, 0, 0, 0, []) := rfl
theorem cd_219_314 : cd 219 314 = some (.aload_n 1, 1, 0, 0, 0, []) := rfl
theorem cd_219_315 : cd 219 315 = some (.aload_n 3, 1, 0, 0, 0, []) := rfl
theorem cd_219_316 : cd 219 316 = some (.invokestatic 94, 3, 204, 2, 7, []) := rfl
theorem cd_219_319 : cd 219 319 = some (.istore 5, 2, 0, 0, 0, []) := rfl
theorem cd_219_321 : cd 219 321 = some (.aload_n 2, 1, 0, 0, 0, []) := rfl
theorem cd_219_322 : cd 219 322 = some (.invokevirtual 97, 3, 154, 1, 0, []) := rfl
theorem cd_219_325 : cd 219 325 = some (.istore 6, 2, 0, 0, 0, []) := rfl
theorem cd_219_327 : cd 219 327 = some (.aload_n 2, 1, 0, 0, 0, []) := rfl
theorem cd_219_328 : cd 219 328 = some (.invokevirtual 80, 3, 131, 1, 0, []) := rfl
theorem cd_219_331 : cd 219 331 = some (.iload 5, 2, 0, 0, 0, []) := rfl
theorem cd_219_333 : cd 219 333 = some (.if_icmp .eq 5, 3, 0, 0, 0, []) := rfl
theorem cd_219_336 : cd 219 336 = some (.iconst 0, 1, 0, 0, 0, []) := rfl
theorem cd_219_337 : cd 219 337 = some (.ireturn, 1, 0, 0, 0, []) := rfl
theorem cd_219_338 : cd 219 338 = some (.iload 5, 2, 0, 0, 0, []) := rfl
theorem cd_219_340 : cd 219 340 = some (.ifCond .ne 15, 3, 0, 0, 0, []) := rfl
theorem cd_219_343 : cd 219 343 = some (.aload_n 3, 1, 0, 0, 0, []) := rfl
theorem cd_219_344 : cd 219 344 = some (.iconst 0, 1, 0, 0, 0, []) := rfl
theorem cd_219_345 : cd 219 345 = some (.laload, 1, 0, 0, 0, []) := rfl
theorem cd_219_346 : cd 219 346 = some (.iload 6, 2, 0, 0, 0, []) := rfl
theorem cd_219_348 : cd 219 348 = some (.i2l, 1, 0, 0, 0, []) := rfl
theorem cd_219_349 : cd 219 349 = some (.lcmp, 1, 0, 0, 0, []) := rfl
theorem cd_219_350 : cd 219 350 = some (.ifCond .eq 5, 3, 0, 0, 0, []) := rfl
theorem cd_219_353 : cd 219 353 = some (.iconst 0, 1, 0, 0, 0, []) := rfl
theorem cd_219_354 : cd 219 354 = some (.ireturn, 1, 0, 0, 0, []) := rfl
theorem cd_219_355 : cd 219 355 = some (.goto 949, 3, 0, 0, 0, []) := rfl
theorem cd_219_358 : cd 219 358 = some (.aload_n 1, 1, 0, 0, 0, []) := rfl
theorem cd_219_359 : cd 219 359 = some (.aload_n 0, 1, 0, 0, 0, []) := rfl
theorem cd_219_360 : cd 219 360 = some (.iload 4, 2, 0, 0, 0, []) := rfl
theorem cd_219_362 : cd 219 362 = some (.iconst 1, 1, 0, 0, 0, []) := rfl
theorem cd_219_363 : cd 219 363 = some (.iadd, 1, 0, 0, 0, []) := rfl
theorem cd_219_364 : cd 219 364 = some (.iaload, 1, 0, 0, 0, []) := rfl
theorem cd_219_365 : cd 219 365 = some (.aload_n 3, 1, 0, 0, 0, []) := rfl
theorem cd_219_366 : cd 219 366 = some (.invokestatic 98, 3, 205, 3, 7, []) := rfl
theorem cd_219_369 : cd 219 369 = some (.istore 5, 2, 0, 0, 0, []) := rfl
theorem cd_219_371 : cd 219 371 = some (.aload_n 2, 1, 0, 0, 0, []) := rfl
theorem cd_219_372 : cd 219 372 = some (.aload_n 0, 1, 0, 0, 0, []) := rfl
theorem cd_219_373 : cd 219 373 = some (.iload 4, 2, 0, 0, 0, []) := rfl
theorem cd_219_375 : cd 219 375 = some (.iconst 1, 1, 0, 0, 0, []) := rfl
theorem cd_219_376 : cd 219 376 = some (.iadd, 1, 0, 0, 0, []) := rfl
theorem cd_219_377 : cd 219 377 = some (.iaload, 1, 0, 0, 0, []) := rfl
theorem cd_219_378 : cd 219 378 = some (.invokevirtual 101, 3, 156, 2, 0, []) := rfl
theorem cd_219_381 : cd 219 381 = some (.istore 6, 2, 0, 0, 0, []) := rfl
theorem cd_219_383 : cd 219 383 = some (.aload_n 2, 1, 0, 0, 0, []) := rfl
theorem cd_219_384 : cd 219 384 = some (.invokevirtual 80, 3, 131, 1, 0, []) := rfl
theorem cd_219_387 : cd 219 387 = some (.iload 5, 2, 0, 0, 0, []) := rfl
theorem cd_219_389 : cd 219 389 = some (.if_icmp .eq 5, 3, 0, 0, 0, []) := rfl
theorem cd_219_392 : cd 219 392 = some (.iconst 0, 1, 0, 0, 0, []) := rfl
theorem cd_219_393 : cd 219 393 = some (.ireturn, 1, 0, 0, 0, []) := rfl
theorem cd_219_394 : cd 219 394 = some (.iload 5, 2, 0, 0, 0, []) := rfl
theorem cd_219_396 : cd 219 396 = some (.ifCond .ne 15, 3, 0, 0, 0, []) := rfl
theorem cd_219_399 : cd 219 399 = some (.aload_n 3, 1, 0, 0, 0, []) := rfl
theorem cd_219_400 : cd 219 400 = some (.iconst 0, 1, 0, 0, 0, []) := rfl
theorem cd_219_401 : cd 219 401 = some (.laload, 1, 0, 0, 0, []) := rfl
theorem cd_219_402 : cd 219 402 = some (.iload 6, 2, 0, 0, 0, []) := rfl
theorem cd_219_404 : cd 219 404 = some (.i2l, 1, 0, 0, 0, []) := rfl
theorem cd_219_405 : cd 219 405 = some (.lcmp, 1, 0, 0, 0, []) := rfl
theorem cd_219_406 : cd 219 406 = some (.ifCond .eq 5, 3, 0, 0, 0, []) := rfl
theorem cd_219_409 : cd 219 409 = some (.iconst 0, 1, 0, 0, 0, []) := rfl
theorem cd_219_410 : cd 219 410 = some (.ireturn, 1, 0, 0, 0, []) := rfl
theorem cd_219_411 : cd 219 411 = some (.goto 893, 3, 0, 0, 0, []) := rfl
theorem cd_219_414 : cd 219 414 = some (.aload_n 1, 1, 0, 0, 0, []) := rfl
theorem cd_219_415 : cd 219 415 = some (.aload_n 0, 1, 0, 0, 0, []) := rfl
theorem cd_219_416 : cd 219 416 = some (.iload 4, 2, 0, 0, 0, []) := rfl
theorem cd_219_418 : cd 219 418 = some (.iconst 1, 1, 0, 0, 0, []) := rfl
theorem cd_219_419 : cd 219 419 = some (.iadd, 1, 0, 0, 0, []) := rfl
theorem cd_219_420 : cd 219 420 = some (.iaload, 1, 0, 0, 0, []) := rfl
theorem cd_219_421 : cd 219 421 = some (.aload_n 0, 1, 0, 0, 0, []) := rfl
theorem cd_219_422 : cd 219 422 = some (.iload 4, 2, 0, 0, 0, []) := rfl
theorem cd_219_424 : cd 219 424 = some (.iconst 2, 1, 0, 0, 0, []) := rfl
theorem cd_219_425 : cd 219 425 = some (.iadd, 1, 0, 0, 0, []) := rfl
theorem cd_219_426 : cd 219 426 = some (.iaload, 1, 0, 0, 0, []) := rfl
theorem cd_219_427 : cd 219 427 = some (.aload_n 3, 1, 0, 0, 0, []) := rfl
theorem cd_219_428 : cd 219 428 = some (.invokestatic 102, 3, 206, 4, 7, []) := rfl
theorem cd_219_431 : cd 219 431 = some (.istore 5, 2, 0, 0, 0, []) := rfl
theorem cd_219_433 : cd 219 433 = some (.aload_n 2, 1, 0, 0, 0, []) := rfl
theorem cd_219_434 : cd 219 434 = some (.aload_n 0, 1, 0, 0, 0, []) := rfl
theorem cd_219_435 : cd 219 435 = some (.iload 4, 2, 0, 0, 0, []) := rfl
theorem cd_219_437 : cd 219 437 = some (.iconst 1, 1, 0, 0, 0, []) := rfl
theorem cd_219_438 : cd 219 438 = some (.iadd, 1, 0, 0, 0, []) := rfl
theorem cd_219_439 : cd 219 439 = some (.iaload, 1, 0, 0, 0, []) := rfl
theorem cd_219_440 : cd 219 440 = some (.aload_n 0, 1, 0, 0, 0, []) := rfl
theorem cd_219_441 : cd 219 441 = some (.iload 4, 2, 0, 0, 0, []) := rfl
theorem cd_219_443 : cd 219 443 = some (.iconst 2, 1, 0, 0, 0, []) := rfl
theorem cd_219_444 : cd 219 444 = some (.iadd, 1, 0, 0, 0, []) := rfl
theorem cd_219_445 : cd 219 445 = some (.iaload, 1, 0, 0, 0, []) := rfl
theorem cd_219_446 : cd 219 446 = some (.invokevirtual 104, 3, 169, 3, 0, []) := rfl
theorem cd_219_449 : cd 219 449 = some (.istore 6, 2, 0, 0, 0, []) := rfl
theorem cd_219_451 : cd 219 451 = some (.aload_n 2, 1, 0, 0, 0, []) := rfl
theorem cd_219_452 : cd 219 452 = some (.invokevirtual 80, 3, 131, 1, 0, []) := rfl
theorem cd_219_455 : cd 219 455 = some (.iload 5, 2, 0, 0, 0, []) := rfl
theorem cd_219_457 : cd 219 457 = some (.if_icmp .eq 5, 3, 0, 0, 0, []) := rfl
theorem cd_219_460 : cd 219 460 = some (.iconst 0, 1, 0, 0, 0, []) := rfl
theorem cd_219_461 : cd 219 461 = some (.ireturn, 1, 0, 0, 0, []) := rfl
theorem cd_219_462 : cd 219 462 = some (.iload 5, 2, 0, 0, 0, []) := rfl
theorem cd_219_464 : cd 219 464 = some (.ifCond .ne 15, 3, 0, 0, 0, []) := rfl
theorem cd_219_467 : cd 219 467 = some (.aload_n 3, 1, 0, 0, 0, []) := rfl
theorem cd_219_468 : cd 219 468 = some (.iconst 0, 1, 0, 0, 0, []) := rfl
theorem cd_219_469 : cd 219 469 = some (.laload, 1, 0, 0, 0, []) := rfl
theorem cd_219_470 : cd 219 470 = some (.iload 6, 2, 0, 0, 0, []) := rfl
theorem cd_219_472 : cd 219 472 = some (.i2l, 1, 0, 0, 0, []) := rfl
theorem cd_219_473 : cd 219 473 = some (.lcmp, 1, 0, 0, 0, []) := rfl
theorem cd_219_474 : cd 219 474 = some (.ifCond .eq 5, 3, 0, 0, 0, []) := rfl
theorem cd_219_477 : cd 219 477 = some (.iconst 0, 1, 0, 0, 0, []) := rfl
theorem cd_219_478 : cd 219 478 = some (.ireturn, 1, 0, 0, 0, []) := rfl
theorem cd_219_479 : cd 219 479 = some (.goto 825, 3, 0, 0, 0, []) := rfl
theorem cd_219_482 : cd 219 482 = some (.aload_n 1, 1, 0, 0, 0, []) := rfl
theorem cd_219_483 : cd 219 483 = some (.aload_n 0, 1, 0, 0, 0, []) := rfl
theorem cd_219_484 : cd 219 484 = some (.iload 4, 2, 0, 0, 0, []) := rfl
theorem cd_219_486 : cd 219 486 = some (.iconst 1, 1, 0, 0, 0, []) := rfl
theorem cd_219_487 : cd 219 487 = some (.iadd, 1, 0, 0, 0, []) := rfl
theorem cd_219_488 : cd 219 488 = some (.iaload, 1, 0, 0, 0, []) := rfl
theorem cd_219_489 : cd 219 489 = some (.aload_n 3, 1, 0, 0, 0, []) := rfl
theorem cd_219_490 : cd 219 490 = some (.invokestatic 105, 3, 207, 3, 7, []) := rfl
theorem cd_219_493 : cd 219 493 = some (.istore 5, 2, 0, 0, 0, []) := rfl
theorem cd_219_495 : cd 219 495 = some (.aload_n 2, 1, 0, 0, 0, []) := rfl
theorem cd_219_496 : cd 219 496 = some (.aload_n 0, 1, 0, 0, 0, []) := rfl
theorem cd_219_497 : cd 219 497 = some (.iload 4, 2, 0, 0, 0, []) := rfl
theorem cd_219_499 : cd 219 499 = some (.iconst 1, 1, 0, 0, 0, []) := rfl
theorem cd_219_500 : cd 219 500 = some (.iadd, 1, 0, 0, 0, []) := rfl
theorem cd_219_501 : cd 219 501 = some (.iaload, 1, 0, 0, 0, []) := rfl
theorem cd_219_502 : cd 219 502 = some (.invokevirtual 107, 3, 173, 2, 0, []) := rfl
theorem cd_219_505 : cd 219 505 = some (.istore 6, 2, 0, 0, 0, []) := rfl
theorem cd_219_507 : cd 219 507 = some (.aload_n 2, 1, 0, 0, 0, []) := rfl
theorem cd_219_508 : cd 219 508 = some (.invokevirtual 80, 3, 131, 1, 0, []) := rfl
theorem cd_219_511 : cd 219 511 = some (.iload 5, 2, 0, 0, 0, []) := rfl
theorem cd_219_513 : cd 219 513 = some (.if_icmp .eq 5, 3, 0, 0, 0, []) := rfl
theorem cd_219_516 : cd 219 516 = some (.iconst 0, 1, 0, 0, 0, []) := rfl
theorem cd_219_517 : cd 219 517 = some (.ireturn, 1, 0, 0, 0, []) := rfl
theorem cd_219_518 : cd 219 518 = some (.iload 5, 2, 0, 0, 0, []) := rfl
theorem cd_219_520 : cd 219 520 = some (.ifCond .ne 15, 3, 0, 0, 0, []) := rfl
theorem cd_219_523 : cd 219 523 = some (.aload_n 3, 1, 0, 0, 0, []) := rfl
theorem cd_219_524 : cd 219 524 = some (.iconst 0, 1, 0, 0, 0, []) := rfl
theorem cd_219_525 : cd 219 525 = some (.laload, 1, 0, 0, 0, []) := rfl
theorem cd_219_526 : cd 219 526 = some (.iload 6, 2, 0, 0, 0, []) := rfl
theorem cd_219_528 : cd 219 528 = some (.i2l, 1, 0, 0, 0, []) := rfl
theorem cd_219_529 : cd 219 529 = some (.lcmp, 1, 0, 0, 0, []) := rfl
theorem cd_219_530 : cd 219 530 = some (.ifCond .eq 5, 3, 0, 0, 0, []) := rfl
theorem cd_219_533 : cd 219 533 = some (.iconst 0, 1, 0, 0, 0, []) := rfl
theorem cd_219_534 : cd 219 534 = some (.ireturn, 1, 0, 0, 0, []) := rfl
theorem cd_219_535 : cd 219 535 = some (.goto 769, 3, 0, 0, 0, []) := rfl
theorem cd_219_538 : cd 219 538 = some (.aload_n 1, 1, 0, 0, 0, []) := rfl
theorem cd_219_539 : cd 219 539 = some (.aload_n 0, 1, 0, 0, 0, []) := rfl
theorem cd_219_540 : cd 219 540 = some (.iload 4, 2, 0, 0, 0, []) := rfl
theorem cd_219_542 : cd 219 542 = some (.iconst 1, 1, 0, 0, 0, []) := rfl
theorem cd_219_543 : cd 219 543 = some (.iadd, 1, 0, 0, 0, []) := rfl
theorem cd_219_544 : cd 219 544 = some (.iaload, 1, 0, 0, 0, []) := rfl
theorem cd_219_545 : cd 219 545 = some (.aload_n 0, 1, 0, 0, 0, []) := rfl
theorem cd_219_546 : cd 219 546 = some (.iload 4, 2, 0, 0, 0, []) := rfl
theorem cd_219_548 : cd 219 548 = some (.iconst 2, 1, 0, 0, 0, []) := rfl
theorem cd_219_549 : cd 219 549 = some (.iadd, 1, 0, 0, 0, []) := rfl
theorem cd_219_550 : cd 219 550 = some (.iaload, 1, 0, 0, 0, []) := rfl
theorem cd_219_551 : cd 219 551 = some (.aload_n 3, 1, 0, 0, 0, []) := rfl
theorem cd_219_552 : cd 219 552 = some (.invokestatic 108, 3, 208, 4, 7, []) := rfl
theorem cd_219_555 : cd 219 555 = some (.istore 5, 2, 0, 0, 0, []) := rfl
theorem cd_219_557 : cd 219 557 = some (.aload_n 2, 1, 0, 0, 0, []) := rfl
theorem cd_219_558 : cd 219 558 = some (.aload_n 0, 1, 0, 0, 0, []) := rfl
theorem cd_219_559 : cd 219 559 = some (.iload 4, 2, 0, 0, 0, []) := rfl
theorem cd_219_561 : cd 219 561 = some (.iconst 1, 1, 0, 0, 0, []) := rfl
theorem cd_219_562 : cd 219 562 = some (.iadd, 1, 0, 0, 0, []) := rfl
theorem cd_219_563 : cd 219 563 = some (.iaload, 1, 0, 0, 0, []) := rfl
theorem cd_219_564 : cd 219 564 = some (.aload_n 0, 1, 0, 0, 0, []) := rfl
theorem cd_219_565 : cd 219 565 = some (.iload 4, 2, 0, 0, 0, []) := rfl
theorem cd_219_567 : cd 219 567 = some (.iconst 2, 1, 0, 0, 0, []) := rfl
theorem cd_219_568 : cd 219 568 = some (.iadd, 1, 0, 0, 0, []) := rfl
theorem cd_219_569 : cd 219 569 = some (.iaload, 1, 0, 0, 0, []) := rfl
theorem cd_219_570 : cd 219 570 = some (.invokevirtual 110, 3, 157, 3, 0, []) := rfl
theorem cd_219_573 : cd 219 573 = some (.istore 6, 2, 0, 0, 0, []) := rfl
theorem cd_219_575 : cd 219 575 = some (.aload_n 2, 1, 0, 0, 0, []) := rfl
theorem cd_219_576 : cd 219 576 = some (.invokevirtual 80, 3, 131, 1, 0, []) := rfl
theorem cd_219_579 : cd 219 579 = some (.iload 5, 2, 0, 0, 0, []) := rfl
theorem cd_219_581 : cd 219 581 = some (.if_icmp .eq 5, 3, 0, 0, 0, []) := rfl
theorem cd_219_584 : cd 219 584 = some (.iconst 0, 1, 0, 0, 0, []) := rfl
set_option maxRecDepth 20000 in
theorem cd_219_585 : cd 219 585 = some (.ireturn, 1, 0, 0, 0, []) := rfl
set_option maxRecDepth 20000 in
theorem cd_219_586 : cd 219 586 = some (.iload 5, 2, 0, 0, 0, []) := rfl
set_option maxRecDepth 20000 in
theorem cd_219_588 : cd 219 588 = some (.ifCond .ne 15, 3, 0, 0, 0, []) := rfl
set_option maxRecDepth 20000 in
theorem cd_219_591 : cd 219 591 = some (.aload_n 3, 1, 0, 0, 0, []) := rfl
set_option maxRecDepth 20000 in
theorem cd_219_592 : cd 219 592 = some (.iconst 0, 1, 0, 0, 0, []) := rfl
set_option maxRecDepth 20000 in
theorem cd_219_593 : cd 219 593 = some (.laload, 1, 0, 0, 0, []) := rfl
set_option maxRecDepth 20000 in
theorem cd_219_594 : cd 219 594 = some (.iload 6, 2, 0, 0, 0, []) := rfl
set_option maxRecDepth 20000 in
theorem cd_219_596 : cd 219 596 = some (.i2l, 1, 0, 0, 0, []) := rfl
set_option maxRecDepth 20000 in
theorem cd_219_597 : cd 219 597 = some (.lcmp, 1, 0, 0, 0, []) := rfl
set_option maxRecDepth 20000 in
theorem cd_219_598 : cd 219 598 = some (.ifCond .eq 5, 3, 0, 0, 0, []) := rfl
set_option maxRecDepth 20000 in
theorem cd_219_601 : cd 219 601 = some (.iconst 0, 1, 0, 0, 0, []) := rfl
set_option maxRecDepth 20000 in
theorem cd_219_602 : cd 219 602 = some (.ireturn, 1, 0, 0, 0, []) := rfl
set_option maxRecDepth 20000 in
theorem cd_219_603 : cd 219 603 = some (.goto 701, 3, 0, 0, 0, []) := rfl
set_option maxRecDepth 20000 in
theorem cd_219_606 : cd 219 606 = some (.aload_n 1, 1, 0, 0, 0, []) := rfl
set_option maxRecDepth 20000 in
theorem cd_219_607 : cd 219 607 = some (.aload_n 0, 1, 0, 0, 0, []) := rfl
set_option maxRecDepth 20000 in
theorem cd_219_608 : cd 219 608 = some (.iload 4, 2, 0, 0, 0, []) := rfl
set_option maxRecDepth 20000 in
theorem cd_219_610 : cd 219 610 = some (.iconst 1, 1, 0, 0, 0, []) := rfl
set_option maxRecDepth 20000 in
theorem cd_219_611 : cd 219 611 = some (.iadd, 1, 0, 0, 0, []) := rfl
set_option maxRecDepth 20000 in
theorem cd_219_612 : cd 219 612 = some (.iaload, 1, 0, 0, 0, []) := rfl
set_option maxRecDepth 20000 in
theorem cd_219_613 : cd 219 613 = some (.aload_n 0, 1, 0, 0, 0, []) := rfl
set_option maxRecDepth 20000 in
theorem cd_219_614 : cd 219 614 = some (.iload 4, 2, 0, 0, 0, []) := rfl
set_option maxRecDepth 20000 in
theorem cd_219_616 : cd 219 616 = some (.iconst 2, 1, 0, 0, 0, []) := rfl
set_option maxRecDepth 20000 in
theorem cd_219_617 : cd 219 617 = some (.iadd, 1, 0, 0, 0, []) := rfl
set_option maxRecDepth 20000 in
theorem cd_219_618 : cd 219 618 = some (.iaload, 1, 0, 0, 0, []) := rfl
set_option maxRecDepth 20000 in
theorem cd_219_619 : cd 219 619 = some (.aload_n 3, 1, 0, 0, 0, []) := rfl
set_option maxRecDepth 20000 in
theorem cd_219_620 : cd 219 620 = some (.invokestatic 111, 3, 209, 4, 7, []) := rfl
set_option maxRecDepth 20000 in
theorem cd_219_623 : cd 219 623 = some (.istore 5, 2, 0, 0, 0, []) := rfl
set_option maxRecDepth 20000 in
theorem cd_219_625 : cd 219 625 = some (.aload_n 2, 1, 0, 0, 0, []) := rfl
set_option maxRecDepth 20000 in
theorem cd_219_626 : cd 219 626 = some (.aload_n 0, 1, 0, 0, 0, []) := rfl
set_option maxRecDepth 20000 in
theorem cd_219_627 : cd 219 627 = some (.iload 4, 2, 0, 0, 0, []) := rfl
set_option maxRecDepth 20000 in
theorem cd_219_629 : cd 219 629 = some (.iconst 1, 1, 0, 0, 0, []) := rfl
set_option maxRecDepth 20000 in
theorem cd_219_630 : cd 219 630 = some (.iadd, 1, 0, 0, 0, []) := rfl
set_option maxRecDepth 20000 in
theorem cd_219_631 : cd 219 631 = some (.iaload, 1, 0, 0, 0, []) := rfl
set_option maxRecDepth 20000 in
theorem cd_219_632 : cd 219 632 = some (.aload_n 0, 1, 0, 0, 0, []) := rfl
set_option maxRecDepth 20000 in
theorem cd_219_633 : cd 219 633 = some (.iload 4, 2, 0, 0, 0, []) := rfl
set_option maxRecDepth 20000 in
theorem cd_219_635 : cd 219 635 = some (.iconst 2, 1, 0, 0, 0, []) := rfl
set_option maxRecDepth 20000 in
theorem cd_219_636 : cd 219 636 = some (.iadd, 1, 0, 0, 0, []) := rfl
set_option maxRecDepth 20000 in
theorem cd_219_637 : cd 219 637 = some (.iaload, 1, 0, 0, 0, []) := rfl
set_option maxRecDepth 20000 in
theorem cd_219_638 : cd 219 638 = some (.invokevirtual 113, 3, 165, 3, 0, []) := rfl
set_option maxRecDepth 20000 in
theorem cd_219_641 : cd 219 641 = some (.istore 6, 2, 0, 0, 0, []) := rfl
set_option maxRecDepth 20000 in
theorem cd_219_643 : cd 219 643 = some (.aload_n 2, 1, 0, 0, 0, []) := rfl
set_option maxRecDepth 20000 in
theorem cd_219_644 : cd 219 644 = some (.invokevirtual 80, 3, 131, 1, 0, []) := rfl
set_option maxRecDepth 20000 in
theorem cd_219_647 : cd 219 647 = some (.iload 5, 2, 0, 0, 0, []) := rfl
set_option maxRecDepth 20000 in
theorem cd_219_649 : cd 219 649 = some (.if_icmp .eq 5, 3, 0, 0, 0, []) := rfl
set_option maxRecDepth 20000 in
theorem cd_219_652 : cd 219 652 = some (.iconst 0, 1, 0, 0, 0, []) := rfl
set_option maxRecDepth 20000 in
theorem cd_219_653 : cd 219 653 = some (.ireturn, 1, 0, 0, 0, []) := rfl
set_option maxRecDepth 20000 in
theorem cd_219_654 : cd 219 654 = some (.iload 5, 2, 0, 0, 0, []) := rfl
set_option maxRecDepth 20000 in
theorem cd_219_656 : cd 219 656 = some (.ifCond .ne 15, 3, 0, 0, 0, []) := rfl
set_option maxRecDepth 20000 in
theorem cd_219_659 : cd 219 659 = some (.aload_n 3, 1, 0, 0, 0, []) := rfl
set_option maxRecDepth 20000 in
theorem cd_219_660 : cd 219 660 = some (.iconst 0, 1, 0, 0, 0, []) := rfl
set_option maxRecDepth 20000 in
theorem cd_219_661 : cd 219 661 = some (.laload, 1, 0, 0, 0, []) := rfl
set_option maxRecDepth 20000 in
theorem cd_219_662 : cd 219 662 = some (.iload 6, 2, 0, 0, 0, []) := rfl
set_option maxRecDepth 20000 in
theorem cd_219_664 : cd 219 664 = some (.i2l, 1, 0, 0, 0, []) := rfl
set_option maxRecDepth 20000 in
theorem cd_219_665 : cd 219 665 = some (.lcmp, 1, 0, 0, 0, []) := rfl
set_option maxRecDepth 20000 in
theorem cd_219_666 : cd 219 666 = some (.ifCond .eq 5, 3, 0, 0, 0, []) := rfl
set_option maxRecDepth 20000 in
theorem cd_219_669 : cd 219 669 = some (.iconst 0, 1, 0, 0, 0, []) := rfl
set_option maxRecDepth 20000 in
theorem cd_219_670 : cd 219 670 = some (.ireturn, 1, 0, 0, 0, []) := rfl
set_option maxRecDepth 20000 in
theorem cd_219_671 : cd 219 671 = some (.goto 633, 3, 0, 0, 0, []) := rfl
set_option maxRecDepth 20000 in
theorem cd_219_674 : cd 219 674 = some (.aload_n 1, 1, 0, 0, 0, []) := rfl
set_option maxRecDepth 20000 in
theorem cd_219_675 : cd 219 675 = some (.aload_n 0, 1, 0, 0, 0, []) := rfl
set_option maxRecDepth 20000 in
theorem cd_219_676 : cd 219 676 = some (.iload 4, 2, 0, 0, 0, []) := rfl
set_option maxRecDepth 20000 in
theorem cd_219_678 : cd 219 678 = some (.iconst 1, 1, 0, 0, 0, []) := rfl
set_option maxRecDepth 20000 in
theorem cd_219_679 : cd 219 679 = some (.iadd, 1, 0, 0, 0, []) := rfl
set_option maxRecDepth 20000 in
theorem cd_219_680 : cd 219 680 = some (.iaload, 1, 0, 0, 0, []) := rfl
set_option maxRecDepth 20000 in
theorem cd_219_681 : cd 219 681 = some (.aload_n 0, 1, 0, 0, 0, []) := rfl
set_option maxRecDepth 20000 in
theorem cd_219_682 : cd 219 682 = some (.iload 4, 2, 0, 0, 0, []) := rfl
set_option maxRecDepth 20000 in
theorem cd_219_684 : cd 219 684 = some (.iconst 2, 1, 0, 0, 0, []) := rfl
set_option maxRecDepth 20000 in
theorem cd_219_685 : cd 219 685 = some (.iadd, 1, 0, 0, 0, []) := rfl
set_option maxRecDepth 20000 in
theorem cd_219_686 : cd 219 686 = some (.iaload, 1, 0, 0, 0, []) := rfl
set_option maxRecDepth 20000 in
theorem cd_219_687 : cd 219 687 = some (.aload_n 3, 1, 0, 0, 0, []) := rfl
set_option maxRecDepth 20000 in
theorem cd_219_688 : cd 219 688 = some (.invokestatic 114, 3, 210, 4, 7, []) := rfl
set_option maxRecDepth 20000 in
theorem cd_219_691 : cd 219 691 = some (.istore 5, 2, 0, 0, 0, []) := rfl
set_option maxRecDepth 20000 in
theorem cd_219_693 : cd 219 693 = some (.aload_n 2, 1, 0, 0, 0, []) := rfl
set_option maxRecDepth 20000 in
theorem cd_219_694 : cd 219 694 = some (.aload_n 0, 1, 0, 0, 0, []) := rfl
set_option maxRecDepth 20000 in
theorem cd_219_695 : cd 219 695 = some (.iload 4, 2, 0, 0, 0, []) := rfl
set_option maxRecDepth 20000 in
theorem cd_219_697 : cd 219 697 = some (.iconst 1, 1, 0, 0, 0, []) := rfl
set_option maxRecDepth 20000 in
theorem cd_219_698 : cd 219 698 = some (.iadd, 1, 0, 0, 0, []) := rfl
set_option maxRecDepth 20000 in
theorem cd_219_699 : cd 219 699 = some (.iaload, 1, 0, 0, 0, []) := rfl
set_option maxRecDepth 20000 in
theorem cd_219_700 : cd 219 700 = some (.aload_n 0, 1, 0, 0, 0, []) := rfl
set_option maxRecDepth 20000 in
theorem cd_219_701 : cd 219 701 = some (.iload 4, 2, 0, 0, 0, []) := rfl
set_option maxRecDepth 20000 in
theorem cd_219_703 : cd 219 703 = some (.iconst 2, 1, 0, 0, 0, []) := rfl
set_option maxRecDepth 20000 in
theorem cd_219_704 : cd 219 704 = some (.iadd, 1, 0, 0, 0, []) := rfl
set_option maxRecDepth 20000 in
theorem cd_219_705 : cd 219 705 = some (.iaload, 1, 0, 0, 0, []) := rfl
set_option maxRecDepth 20000 in
theorem cd_219_706 : cd 219 706 = some (.invokevirtual 116, 3, 166, 3, 0, []) := rfl
set_option maxRecDepth 20000 in
theorem cd_219_709 : cd 219 709 = some (.istore 6, 2, 0, 0, 0, []) := rfl
set_option maxRecDepth 20000 in
theorem cd_219_711 : cd 219 711 = some (.aload_n 2, 1, 0, 0, 0, []) := rfl
set_option maxRecDepth 20000 in
theorem cd_219_712 : cd 219 712 = some (.invokevirtual 80, 3, 131, 1, 0, []) := rfl
set_option maxRecDepth 20000 in
theorem cd_219_715 : cd 219 715 = some (.iload 5, 2, 0, 0, 0, []) := rfl
set_option maxRecDepth 20000 in
theorem cd_219_717 : cd 219 717 = some (.if_icmp .eq 5, 3, 0, 0, 0, []) := rfl
set_option maxRecDepth 20000 in
theorem cd_219_720 : cd 219 720 = some (.iconst 0, 1, 0, 0, 0, []) := rfl
set_option maxRecDepth 20000 in
theorem cd_219_721 : cd 219 721 = some (.ireturn, 1, 0, 0, 0, []) := rfl
set_option maxRecDepth 20000 in
theorem cd_219_722 : cd 219 722 = some (.iload 5, 2, 0, 0, 0, []) := rfl
set_option maxRecDepth 20000 in
theorem cd_219_724 : cd 219 724 = some (.ifCond .ne 15, 3, 0, 0, 0, []) := rfl
set_option maxRecDepth 20000 in
theorem cd_219_727 : cd 219 727 = some (.aload_n 3, 1, 0, 0, 0, []) := rfl
set_option maxRecDepth 20000 in
theorem cd_219_728 : cd 219 728 = some (.iconst 0, 1, 0, 0, 0, []) := rfl
set_option maxRecDepth 20000 in
theorem cd_219_729 : cd 219 729 = some (.laload, 1, 0, 0, 0, []) := rfl
set_option maxRecDepth 20000 in
theorem cd_219_730 : cd 219 730 = some (.iload 6, 2, 0, 0, 0, []) := rfl
set_option maxRecDepth 20000 in
theorem cd_219_732 : cd 219 732 = some (.i2l, 1, 0, 0, 0, []) := rfl
set_option maxRecDepth 20000 in
theorem cd_219_733 : cd 219 733 = some (.lcmp, 1, 0, 0, 0, []) := rfl
set_option maxRecDepth 20000 in
theorem cd_219_734 : cd 219 734 = some (.ifCond .eq 5, 3, 0, 0, 0, []) := rfl
set_option maxRecDepth 20000 in
theorem cd_219_737 : cd 219 737 = some (.iconst 0, 1, 0, 0, 0, []) := rfl
set_option maxRecDepth 20000 in
theorem cd_219_738 : cd 219 738 = some (.ireturn, 1, 0, 0, 0, []) := rfl
set_option maxRecDepth 20000 in
theorem cd_219_739 : cd 219 739 = some (.goto 565, 3, 0, 0, 0, []) := rfl
set_option maxRecDepth 20000 in
theorem cd_219_742 : cd 219 742 = some (.aload_n 1, 1, 0, 0, 0, []) := rfl
set_option maxRecDepth 20000 in
theorem cd_219_743 : cd 219 743 = some (.aload_n 0, 1, 0, 0, 0, []) := rfl
set_option maxRecDepth 20000 in
theorem cd_219_744 : cd 219 744 = some (.iload 4, 2, 0, 0, 0, []) := rfl
set_option maxRecDepth 20000 in
theorem cd_219_746 : cd 219 746 = some (.iconst 1, 1, 0, 0, 0, []) := rfl
set_option maxRecDepth 20000 in
theorem cd_219_747 : cd 219 747 = some (.iadd, 1, 0, 0, 0, []) := rfl
set_option maxRecDepth 20000 in
theorem cd_219_748 : cd 219 748 = some (.iaload, 1, 0, 0, 0, []) := rfl
set_option maxRecDepth 20000 in
theorem cd_219_749 : cd 219 749 = some (.aload_n 0, 1, 0, 0, 0, []) := rfl
set_option maxRecDepth 20000 in
theorem cd_219_750 : cd 219 750 = some (.iload 4, 2, 0, 0, 0, []) := rfl
set_option maxRecDepth 20000 in
theorem cd_219_752 : cd 219 752 = some (.iconst 2, 1, 0, 0, 0, []) := rfl
set_option maxRecDepth 20000 in
theorem cd_219_753 : cd 219 753 = some (.iadd, 1, 0, 0, 0, []) := rfl
set_option maxRecDepth 20000 in
theorem cd_219_754 : cd 219 754 = some (.iaload, 1, 0, 0, 0, []) := rfl
set_option maxRecDepth 20000 in
theorem cd_219_755 : cd 219 755 = some (.aload_n 3, 1, 0, 0, 0, []) := rfl
set_option maxRecDepth 20000 in
theorem cd_219_756 : cd 219 756 = some (.invokestatic 117, 3, 211, 4, 7, []) := rfl
set_option maxRecDepth 20000 in
theorem cd_219_759 : cd 219 759 = some (.istore 5, 2, 0, 0, 0, []) := rfl
set_option maxRecDepth 20000 in
theorem cd_219_761 : cd 219 761 = some (.aload_n 2, 1, 0, 0, 0, []) := rfl
set_option maxRecDepth 20000 in
theorem cd_219_762 : cd 219 762 = some (.aload_n 0, 1, 0, 0, 0, []) := rfl
set_option maxRecDepth 20000 in
theorem cd_219_763 : cd 219 763 = some (.iload 4, 2, 0, 0, 0, []) := rfl
set_option maxRecDepth 20000 in
theorem cd_219_765 : cd 219 765 = some (.iconst 1, 1, 0, 0, 0, []) := rfl
set_option maxRecDepth 20000 in
theorem cd_219_766 : cd 219 766 = some (.iadd, 1, 0, 0, 0, []) := rfl
set_option maxRecDepth 20000 in
theorem cd_219_767 : cd 219 767 = some (.iaload, 1, 0, 0, 0, []) := rfl
set_option maxRecDepth 20000 in
theorem cd_219_768 : cd 219 768 = some (.aload_n 0, 1, 0, 0, 0, []) := rfl
set_option maxRecDepth 20000 in
theorem cd_219_769 : cd 219 769 = some (.iload 4, 2, 0, 0, 0, []) := rfl
set_option maxRecDepth 20000 in
theorem cd_219_771 : cd 219 771 = some (.iconst 2, 1, 0, 0, 0, []) := rfl
set_option maxRecDepth 20000 in
theorem cd_219_772 : cd 219 772 = some (.iadd, 1, 0, 0, 0, []) := rfl
set_option maxRecDepth 20000 in
theorem cd_219_773 : cd 219 773 = some (.iaload, 1, 0, 0, 0, []) := rfl
set_option maxRecDepth 20000 in
theorem cd_219_774 : cd 219 774 = some (.invokevirtual 119, 3, 176, 3, 0, []) := rfl
set_option maxRecDepth 20000 in
theorem cd_219_777 : cd 219 777 = some (.istore 6, 2, 0, 0, 0, []) := rfl
set_option maxRecDepth 20000 in
theorem cd_219_779 : cd 219 779 = some (.aload_n 2, 1, 0, 0, 0, []) := rfl
set_option maxRecDepth 20000 in
theorem cd_219_780 : cd 219 780 = some (.invokevirtual 80, 3, 131, 1, 0, []) := rfl
set_option maxRecDepth 20000 in
theorem cd_219_783 : cd 219 783 = some (.iload 5, 2, 0, 0, 0, []) := rfl
set_option maxRecDepth 20000 in
theorem cd_219_785 : cd 219 785 = some (.if_icmp .eq 5, 3, 0, 0, 0, []) := rfl
set_option maxRecDepth 20000 in
theorem cd_219_788 : cd 219 788 = some (.iconst 0, 1, 0, 0, 0, []) := rfl
set_option maxRecDepth 20000 in
theorem cd_219_789 : cd 219 789 = some (.ireturn, 1, 0, 0, 0, []) := rfl
set_option maxRecDepth 20000 in
theorem cd_219_790 : cd 219 790 = some (.iload 5, 2, 0, 0, 0, []) := rfl
set_option maxRecDepth 20000 in
theorem cd_219_792 : cd 219 792 = some (.ifCond .ne 15, 3, 0, 0, 0, []) := rfl
set_option maxRecDepth 20000 in
theorem cd_219_795 : cd 219 795 = some (.aload_n 3, 1, 0, 0, 0, []) := rfl
set_option maxRecDepth 20000 in
theorem cd_219_796 : cd 219 796 = some (.iconst 0, 1, 0, 0, 0, []) := rfl
set_option maxRecDepth 20000 in
theorem cd_219_797 : cd 219 797 = some (.laload, 1, 0, 0, 0, []) := rfl
set_option maxRecDepth 20000 in
theorem cd_219_798 : cd 219 798 = some (.iload 6, 2, 0, 0, 0, []) := rfl
set_option maxRecDepth 20000 in
theorem cd_219_800 : cd 219 800 = some (.i2l, 1, 0, 0, 0, []) := rfl
set_option maxRecDepth 20000 in
theorem cd_219_801 : cd 219 801 = some (.lcmp, 1, 0, 0, 0, []) := rfl
set_option maxRecDepth 20000 in
theorem cd_219_802 : cd 219 802 = some (.ifCond .eq 5, 3, 0, 0, 0, []) := rfl
set_option maxRecDepth 20000 in
theorem cd_219_805 : cd 219 805 = some (.iconst 0, 1, 0, 0, 0, []) := rfl
set_option maxRecDepth 20000 in
theorem cd_219_806 : cd 219 806 = some (.ireturn, 1, 0, 0, 0, []) := rfl
set_option maxRecDepth 20000 in
theorem cd_219_807 : cd 219 807 = some (.goto 497, 3, 0, 0, 0, []) := rfl
set_option maxRecDepth 20000 in
theorem cd_219_810 : cd 219 810 = some (.aload_n 1, 1, 0, 0, 0, []) := rfl
set_option maxRecDepth 20000 in
theorem cd_219_811 : cd 219 811 = some (.aload_n 0, 1, 0, 0, 0, []) := rfl
set_option maxRecDepth 20000 in
theorem cd_219_812 : cd 219 812 = some (.iload 4, 2, 0, 0, 0, []) := rfl
set_option maxRecDepth 20000 in
theorem cd_219_814 : cd 219 814 = some (.iconst 1, 1, 0, 0, 0, []) := rfl
set_option maxRecDepth 20000 in
theorem cd_219_815 : cd 219 815 = some (.iadd, 1, 0, 0, 0, []) := rfl
set_option maxRecDepth 20000 in
theorem cd_219_816 : cd 219 816 = some (.iaload, 1, 0, 0, 0, []) := rfl
set_option maxRecDepth 20000 in
theorem cd_219_817 : cd 219 817 = some (.aload_n 3, 1, 0, 0, 0, []) := rfl
set_option maxRecDepth 20000 in
theorem cd_219_818 : cd 219 818 = some (.invokestatic 120, 3, 212, 3, 7, []) := rfl
set_option maxRecDepth 20000 in
theorem cd_219_821 : cd 219 821 = some (.istore 5, 2, 0, 0, 0, []) := rfl
set_option maxRecDepth 20000 in
theorem cd_219_823 : cd 219 823 = some (.aload_n 2, 1, 0, 0, 0, []) := rfl
set_option maxRecDepth 20000 in
theorem cd_219_824 : cd 219 824 = some (.aload_n 0, 1, 0, 0, 0, []) := rfl
set_option maxRecDepth 20000 in
theorem cd_219_825 : cd 219 825 = some (.iload 4, 2, 0, 0, 0, []) := rfl
set_option maxRecDepth 20000 in
theorem cd_219_827 : cd 219 827 = some (.iconst 1, 1, 0, 0, 0, []) := rfl
set_option maxRecDepth 20000 in
theorem cd_219_828 : cd 219 828 = some (.iadd, 1, 0, 0, 0, []) := rfl
set_option maxRecDepth 20000 in
theorem cd_219_829 : cd 219 829 = some (.iaload, 1, 0, 0, 0, []) := rfl
set_option maxRecDepth 20000 in
theorem cd_219_830 : cd 219 830 = some (.invokevirtual 122, 3, 179, 2, 0, []) := rfl
set_option maxRecDepth 20000 in
theorem cd_219_833 : cd 219 833 = some (.istore 6, 2, 0, 0, 0, []) := rfl
set_option maxRecDepth 20000 in
theorem cd_219_835 : cd 219 835 = some (.aload_n 2, 1, 0, 0, 0, []) := rfl
set_option maxRecDepth 20000 in
theorem cd_219_836 : cd 219 836 = some (.invokevirtual 80, 3, 131, 1, 0, []) := rfl
set_option maxRecDepth 20000 in
theorem cd_219_839 : cd 219 839 = some (.iload 5, 2, 0, 0, 0, []) := rfl
set_option maxRecDepth 20000 in
theorem cd_219_841 : cd 219 841 = some (.if_icmp .eq 5, 3, 0, 0, 0, []) := rfl
set_option maxRecDepth 20000 in
theorem cd_219_844 : cd 219 844 = some (.iconst 0, 1, 0, 0, 0, []) := rfl
set_option maxRecDepth 20000 in
theorem cd_219_845 : cd 219 845 = some (.ireturn, 1, 0, 0, 0, []) := rfl
set_option maxRecDepth 20000 in
theorem cd_219_846 : cd 219 846 = some (.iload 5, 2, 0, 0, 0, []) := rfl
set_option maxRecDepth 20000 in
theorem cd_219_848 : cd 219 848 = some (.ifCond .ne 15, 3, 0, 0, 0, []) := rfl
set_option maxRecDepth 20000 in
theorem cd_219_851 : cd 219 851 = some (.aload_n 3, 1, 0, 0, 0, []) := rfl
set_option maxRecDepth 20000 in
theorem cd_219_852 : cd 219 852 = some (.iconst 0, 1, 0, 0, 0, []) := rfl
set_option maxRecDepth 20000 in
theorem cd_219_853 : cd 219 853 = some (.laload, 1, 0, 0, 0, []) := rfl
set_option maxRecDepth 20000 in
theorem cd_219_854 : cd 219 854 = some (.iload 6, 2, 0, 0, 0, []) := rfl
set_option maxRecDepth 20000 in
theorem cd_219_856 : cd 219 856 = some (.i2l, 1, 0, 0, 0, []) := rfl
set_option maxRecDepth 20000 in
theorem cd_219_857 : cd 219 857 = some (.lcmp, 1, 0, 0, 0, []) := rfl
set_option maxRecDepth 20000 in
theorem cd_219_858 : cd 219 858 = some (.ifCond .eq 5, 3, 0, 0, 0, []) := rfl
set_option maxRecDepth 20000 in
theorem cd_219_861 : cd 219 861 = some (.iconst 0, 1, 0, 0, 0, []) := rfl
set_option maxRecDepth 20000 in
theorem cd_219_862 : cd 219 862 = some (.ireturn, 1, 0, 0, 0, []) := rfl
set_option maxRecDepth 20000 in
theorem cd_219_863 : cd 219 863 = some (.goto 441, 3, 0, 0, 0, []) := rfl
set_option maxRecDepth 20000 in
theorem cd_219_866 : cd 219 866 = some (.aload_n 1, 1, 0, 0, 0, []) := rfl
set_option maxRecDepth 20000 in
theorem cd_219_867 : cd 219 867 = some (.aload_n 0, 1, 0, 0, 0, []) := rfl
set_option maxRecDepth 20000 in
theorem cd_219_868 : cd 219 868 = some (.iload 4, 2, 0, 0, 0, []) := rfl
set_option maxRecDepth 20000 in
theorem cd_219_870 : cd 219 870 = some (.iconst 1, 1, 0, 0, 0, []) := rfl
set_option maxRecDepth 20000 in
theorem cd_219_871 : cd 219 871 = some (.iadd, 1, 0, 0, 0, []) := rfl
set_option maxRecDepth 20000 in
theorem cd_219_872 : cd 219 872 = some (.iaload, 1, 0, 0, 0, []) := rfl
set_option maxRecDepth 20000 in
theorem cd_219_873 : cd 219 873 = some (.aload_n 3, 1, 0, 0, 0, []) := rfl
set_option maxRecDepth 20000 in
theorem cd_219_874 : cd 219 874 = some (.invokestatic 123, 3, 213, 3, 7, []) := rfl
set_option maxRecDepth 20000 in
theorem cd_219_877 : cd 219 877 = some (.istore 5, 2, 0, 0, 0, []) := rfl
set_option maxRecDepth 20000 in
theorem cd_219_879 : cd 219 879 = some (.aload_n 2, 1, 0, 0, 0, []) := rfl
set_option maxRecDepth 20000 in
theorem cd_219_880 : cd 219 880 = some (.aload_n 0, 1, 0, 0, 0, []) := rfl
set_option maxRecDepth 20000 in
theorem cd_219_881 : cd 219 881 = some (.iload 4, 2, 0, 0, 0, []) := rfl
set_option maxRecDepth 20000 in
theorem cd_219_883 : cd 219 883 = some (.iconst 1, 1, 0, 0, 0, []) := rfl
set_option maxRecDepth 20000 in
theorem cd_219_884 : cd 219 884 = some (.iadd, 1, 0, 0, 0, []) := rfl
set_option maxRecDepth 20000 in
theorem cd_219_885 : cd 219 885 = some (.iaload, 1, 0, 0, 0, []) := rfl
set_option maxRecDepth 20000 in
theorem cd_219_886 : cd 219 886 = some (.invokevirtual 125, 3, 181, 2, 0, []) := rfl
set_option maxRecDepth 20000 in
theorem cd_219_889 : cd 219 889 = some (.istore 6, 2, 0, 0, 0, []) := rfl
set_option maxRecDepth 20000 in
theorem cd_219_891 : cd 219 891 = some (.aload_n 2, 1, 0, 0, 0, []) := rfl
set_option maxRecDepth 20000 in
theorem cd_219_892 : cd 219 892 = some (.invokevirtual 80, 3, 131, 1, 0, []) := rfl
set_option maxRecDepth 20000 in
theorem cd_219_895 : cd 219 895 = some (.iload 5, 2, 0, 0, 0, []) := rfl
set_option maxRecDepth 20000 in
theorem cd_219_897 : cd 219 897 = some (.if_icmp .eq 5, 3, 0, 0, 0, []) := rfl
set_option maxRecDepth 20000 in
theorem cd_219_900 : cd 219 900 = some (.iconst 0, 1, 0, 0, 0, []) := rfl
set_option maxRecDepth 20000 in
theorem cd_219_901 : cd 219 901 = some (.ireturn, 1, 0, 0, 0, []) := rfl
set_option maxRecDepth 20000 in
theorem cd_219_902 : cd 219 902 = some (.iload 5, 2, 0, 0, 0, []) := rfl
set_option maxRecDepth 20000 in
theorem cd_219_904 : cd 219 904 = some (.ifCond .ne 22, 3, 0, 0, 0, []) := rfl
set_option maxRecDepth 20000 in
theorem cd_219_907 : cd 219 907 = some (.aload_n 3, 1, 0, 0, 0, []) := rfl
set_option maxRecDepth 20000 in
theorem cd_219_908 : cd 219 908 = some (.iconst 0, 1, 0, 0, 0, []) := rfl
set_option maxRecDepth 20000 in
theorem cd_219_909 : cd 219 909 = some (.laload, 1, 0, 0, 0, []) := rfl
set_option maxRecDepth 20000 in
theorem cd_219_910 : cd 219 910 = some (.iload 6, 2, 0, 0, 0, []) := rfl
set_option maxRecDepth 20000 in
theorem cd_219_912 : cd 219 912 = some (.ifCond .eq 7, 3, 0, 0, 0, []) := rfl
set_option maxRecDepth 20000 in
theorem cd_219_915 : cd 219 915 = some (.lconst 1, 1, 0, 0, 0, []) := rfl
set_option maxRecDepth 20000 in
theorem cd_219_916 : cd 219 916 = some (.goto 4, 3, 0, 0, 0, []) := rfl
set_option maxRecDepth 20000 in
theorem cd_219_919 : cd 219 919 = some (.lconst 0, 1, 0, 0, 0, []) := rfl
set_option maxRecDepth 20000 in
theorem cd_219_920 : cd 219 920 = some (.lcmp, 1, 0, 0, 0, []) := rfl
set_option maxRecDepth 20000 in
theorem cd_219_921 : cd 219 921 = some (.ifCond .eq 5, 3, 0, 0, 0, []) := rfl
set_option maxRecDepth 20000 in
theorem cd_219_924 : cd 219 924 = some (.iconst 0, 1, 0, 0, 0, []) := rfl
set_option maxRecDepth 20000 in
theorem cd_219_925 : cd 219 925 = some (.ireturn, 1, 0, 0, 0, []) := rfl
set_option maxRecDepth 20000 in
theorem cd_219_926 : cd 219 926 = some (.goto 378, 3, 0, 0, 0, []) := rfl
set_option maxRecDepth 20000 in
theorem cd_219_929 : cd 219 929 = some (.aload_n 1, 1, 0, 0, 0, []) := rfl
set_option maxRecDepth 20000 in
theorem cd_219_930 : cd 219 930 = some (.aload_n 0, 1, 0, 0, 0, []) := rfl
set_option maxRecDepth 20000 in
theorem cd_219_931 : cd 219 931 = some (.iload 4, 2, 0, 0, 0, []) := rfl
set_option maxRecDepth 20000 in
theorem cd_219_933 : cd 219 933 = some (.iconst 1, 1, 0, 0, 0, []) := rfl
set_option maxRecDepth 20000 in
theorem cd_219_934 : cd 219 934 = some (.iadd, 1, 0, 0, 0, []) := rfl
set_option maxRecDepth 20000 in
theorem cd_219_935 : cd 219 935 = some (.iaload, 1, 0, 0, 0, []) := rfl
set_option maxRecDepth 20000 in
theorem cd_219_936 : cd 219 936 = some (.aload_n 3, 1, 0, 0, 0, []) := rfl
set_option maxRecDepth 20000 in
theorem cd_219_937 : cd 219 937 = some (.invokestatic 126, 3, 214, 3, 7, []) := rfl
set_option maxRecDepth 20000 in
theorem cd_219_940 : cd 219 940 = some (.istore 5, 2, 0, 0, 0, []) := rfl
set_option maxRecDepth 20000 in
theorem cd_219_942 : cd 219 942 = some (.aload_n 2, 1, 0, 0, 0, []) := rfl
set_option maxRecDepth 20000 in
theorem cd_219_943 : cd 219 943 = some (.aload_n 0, 1, 0, 0, 0, []) := rfl
set_option maxRecDepth 20000 in
theorem cd_219_944 : cd 219 944 = some (.iload 4, 2, 0, 0, 0, []) := rfl
set_option maxRecDepth 20000 in
theorem cd_219_946 : cd 219 946 = some (.iconst 1, 1, 0, 0, 0, []) := rfl
set_option maxRecDepth 20000 in
theorem cd_219_947 : cd 219 947 = some (.iadd, 1, 0, 0, 0, []) := rfl
set_option maxRecDepth 20000 in
theorem cd_219_948 : cd 219 948 = some (.iaload, 1, 0, 0, 0, []) := rfl
set_option maxRecDepth 20000 in
theorem cd_219_949 : cd 219 949 = some (.invokevirtual 128, 3, 187, 2, 0, []) := rfl
set_option maxRecDepth 20000 in
theorem cd_219_952 : cd 219 952 = some (.istore 6, 2, 0, 0, 0, []) := rfl
set_option maxRecDepth 20000 in
theorem cd_219_954 : cd 219 954 = some (.aload_n 2, 1, 0, 0, 0, []) := rfl
set_option maxRecDepth 20000 in
theorem cd_219_955 : cd 219 955 = some (.invokevirtual 80, 3, 131, 1, 0, []) := rfl
set_option maxRecDepth 20000 in
theorem cd_219_958 : cd 219 958 = some (.iload 5, 2, 0, 0, 0, []) := rfl
set_option maxRecDepth 20000 in
theorem cd_219_960 : cd 219 960 = some (.if_icmp .eq 5, 3, 0, 0, 0, []) := rfl
set_option maxRecDepth 20000 in
theorem cd_219_963 : cd 219 963 = some (.iconst 0, 1, 0, 0, 0, []) := rfl
set_option maxRecDepth 20000 in
theorem cd_219_964 : cd 219 964 = some (.ireturn, 1, 0, 0, 0, []) := rfl
set_option maxRecDepth 20000 in
theorem cd_219_965 : cd 219 965 = some (.iload 5, 2, 0, 0, 0, []) := rfl
set_option maxRecDepth 20000 in
theorem cd_219_967 : cd 219 967 = some (.ifCond .ne 15, 3, 0, 0, 0, []) := rfl
set_option maxRecDepth 20000 in
theorem cd_219_970 : cd 219 970 = some (.aload_n 3, 1, 0, 0, 0, []) := rfl
set_option maxRecDepth 20000 in
theorem cd_219_971 : cd 219 971 = some (.iconst 0, 1, 0, 0, 0, []) := rfl
set_option maxRecDepth 20000 in
theorem cd_219_972 : cd 219 972 = some (.laload, 1, 0, 0, 0, []) := rfl
set_option maxRecDepth 20000 in
theorem cd_219_973 : cd 219 973 = some (.iload 6, 2, 0, 0, 0, []) := rfl
set_option maxRecDepth 20000 in
theorem cd_219_975 : cd 219 975 = some (.i2l, 1, 0, 0, 0, []) := rfl
set_option maxRecDepth 20000 in
theorem cd_219_976 : cd 219 976 = some (.lcmp, 1, 0, 0, 0, []) := rfl
set_option maxRecDepth 20000 in
theorem cd_219_977 : cd 219 977 = some (.ifCond .eq 5, 3, 0, 0, 0, []) := rfl
set_option maxRecDepth 20000 in
theorem cd_219_980 : cd 219 980 = some (.iconst 0, 1, 0, 0, 0, []) := rfl
set_option maxRecDepth 20000 in
theorem cd_219_981 : cd 219 981 = some (.ireturn, 1, 0, 0, 0, []) := rfl
set_option maxRecDepth 20000 in
theorem cd_219_982 : cd 219 982 = some (.goto 322, 3, 0, 0, 0, []) := rfl
set_option maxRecDepth 20000 in
theorem cd_219_985 : cd 219 985 = some (.aload_n 1, 1, 0, 0, 0, []) := rfl
set_option maxRecDepth 20000 in
theorem cd_219_986 : cd 219 986 = some (.aload_n 0, 1, 0, 0, 0, []) := rfl
set_option maxRecDepth 20000 in
theorem cd_219_987 : cd 219 987 = some (.iload 4, 2, 0, 0, 0, []) := rfl
set_option maxRecDepth 20000 in
theorem cd_219_989 : cd 219 989 = some (.iconst 1, 1, 0, 0, 0, []) := rfl
set_option maxRecDepth 20000 in
theorem cd_219_990 : cd 219 990 = some (.iadd, 1, 0, 0, 0, []) := rfl
set_option maxRecDepth 20000 in
theorem cd_219_991 : cd 219 991 = some (.iaload, 1, 0, 0, 0, []) := rfl
set_option maxRecDepth 20000 in
theorem cd_219_992 : cd 219 992 = some (.aload_n 3, 1, 0, 0, 0, []) := rfl
set_option maxRecDepth 20000 in
theorem cd_219_993 : cd 219 993 = some (.invokestatic 129, 3, 215, 3, 7, []) := rfl
set_option maxRecDepth 20000 in
theorem cd_219_996 : cd 219 996 = some (.istore 5, 2, 0, 0, 0, []) := rfl
set_option maxRecDepth 20000 in
theorem cd_219_998 : cd 219 998 = some (.aload_n 2, 1, 0, 0, 0, []) := rfl
set_option maxRecDepth 20000 in
theorem cd_219_999 : cd 219 999 = some (.aload_n 0, 1, 0, 0, 0, []) := rfl
set_option maxRecDepth 20000 in
theorem cd_219_1000 : cd 219 1000 = some (.iload 4, 2, 0, 0, 0, []) := rfl
set_option maxRecDepth 20000 in
theorem cd_219_1002 : cd 219 1002 = some (.iconst 1, 1, 0, 0, 0, []) := rfl
set_option maxRecDepth 20000 in
theorem cd_219_1003 : cd 219 1003 = some (.iadd, 1, 0, 0, 0, []) := rfl
set_option maxRecDepth 20000 in
theorem cd_219_1004 : cd 219 1004 = some (.iaload, 1, 0, 0, 0, []) := rfl
set_option maxRecDepth 20000 in
theorem cd_219_1005 : cd 219 1005 = some (.invokevirtual 131, 3, 188, 2, 0, []) := rfl
set_option maxRecDepth 20000 in
theorem cd_219_1008 : cd 219 1008 = some (.istore 6, 2, 0, 0, 0, []) := rfl
set_option maxRecDepth 20000 in
theorem cd_219_1010 : cd 219 1010 = some (.aload_n 2, 1, 0, 0, 0, []) := rfl
set_option maxRecDepth 20000 in
theorem cd_219_1011 : cd 219 1011 = some (.invokevirtual 80, 3, 131, 1, 0, []) := rfl
set_option maxRecDepth 20000 in
theorem cd_219_1014 : cd 219 1014 = some (.iload 5, 2, 0, 0, 0, []) := rfl
set_option maxRecDepth 20000 in
theorem cd_219_1016 : cd 219 1016 = some (.if_icmp .eq 5, 3, 0, 0, 0, []) := rfl
set_option maxRecDepth 20000 in
theorem cd_219_1019 : cd 219 1019 = some (.iconst 0, 1, 0, 0, 0, []) := rfl
set_option maxRecDepth 20000 in
theorem cd_219_1020 : cd 219 1020 = some (.ireturn, 1, 0, 0, 0, []) := rfl
set_option maxRecDepth 20000 in
theorem cd_219_1021 : cd 219 1021 = some (.iload 5, 2, 0, 0, 0, []) := rfl
set_option maxRecDepth 20000 in
theorem cd_219_1023 : cd 219 1023 = some (.ifCond .ne 15, 3, 0, 0, 0, []) := rfl
set_option maxRecDepth 20000 in
theorem cd_219_1026 : cd 219 1026 = some (.aload_n 3, 1, 0, 0, 0, []) := rfl
set_option maxRecDepth 20000 in
theorem cd_219_1027 : cd 219 1027 = some (.iconst 0, 1, 0, 0, 0, []) := rfl
set_option maxRecDepth 20000 in
theorem cd_219_1028 : cd 219 1028 = some (.laload, 1, 0, 0, 0, []) := rfl
set_option maxRecDepth 20000 in
theorem cd_219_1029 : cd 219 1029 = some (.iload 6, 2, 0, 0, 0, []) := rfl
set_option maxRecDepth 20000 in
theorem cd_219_1031 : cd 219 1031 = some (.i2l, 1, 0, 0, 0, []) := rfl
set_option maxRecDepth 20000 in
theorem cd_219_1032 : cd 219 1032 = some (.lcmp, 1, 0, 0, 0, []) := rfl
set_option maxRecDepth 20000 in
theorem cd_219_1033 : cd 219 1033 = some (.ifCond .eq 5, 3, 0, 0, 0, []) := rfl
set_option maxRecDepth 20000 in
theorem cd_219_1036 : cd 219 1036 = some (.iconst 0, 1, 0, 0, 0, []) := rfl
set_option maxRecDepth 20000 in
theorem cd_219_1037 : cd 219 1037 = some (.ireturn, 1, 0, 0, 0, []) := rfl
set_option maxRecDepth 20000 in
theorem cd_219_1038 : cd 219 1038 = some (.goto 266, 3, 0, 0, 0, []) := rfl
set_option maxRecDepth 20000 in
theorem cd_219_1041 : cd 219 1041 = some (.aload_n 1, 1, 0, 0, 0, []) := rfl
set_option maxRecDepth 20000 in
theorem cd_219_1042 : cd 219 1042 = some (.aload_n 0, 1, 0, 0, 0, []) := rfl
set_option maxRecDepth 20000 in
theorem cd_219_1043 : cd 219 1043 = some (.iload 4, 2, 0, 0, 0, []) := rfl
set_option maxRecDepth 20000 in
theorem cd_219_1045 : cd 219 1045 = some (.iconst 1, 1, 0, 0, 0, []) := rfl
set_option maxRecDepth 20000 in
theorem cd_219_1046 : cd 219 1046 = some (.iadd, 1, 0, 0, 0, []) := rfl
set_option maxRecDepth 20000 in
theorem cd_219_1047 : cd 219 1047 = some (.iaload, 1, 0, 0, 0, []) := rfl
set_option maxRecDepth 20000 in
theorem cd_219_1048 : cd 219 1048 = some (.aload_n 3, 1, 0, 0, 0, []) := rfl
set_option maxRecDepth 20000 in
theorem cd_219_1049 : cd 219 1049 = some (.invokestatic 132, 3, 216, 3, 7, []) := rfl
set_option maxRecDepth 20000 in
theorem cd_219_1052 : cd 219 1052 = some (.istore 5, 2, 0, 0, 0, []) := rfl
set_option maxRecDepth 20000 in
theorem cd_219_1054 : cd 219 1054 = some (.aload_n 2, 1, 0, 0, 0, []) := rfl
set_option maxRecDepth 20000 in
theorem cd_219_1055 : cd 219 1055 = some (.aload_n 0, 1, 0, 0, 0, []) := rfl
set_option maxRecDepth 20000 in
theorem cd_219_1056 : cd 219 1056 = some (.iload 4, 2, 0, 0, 0, []) := rfl
set_option maxRecDepth 20000 in
theorem cd_219_1058 : cd 219 1058 = some (.iconst 1, 1, 0, 0, 0, []) := rfl
set_option maxRecDepth 20000 in
theorem cd_219_1059 : cd 219 1059 = some (.iadd, 1, 0, 0, 0, []) := rfl
set_option maxRecDepth 20000 in
theorem cd_219_1060 : cd 219 1060 = some (.iaload, 1, 0, 0, 0, []) := rfl
set_option maxRecDepth 20000 in
theorem cd_219_1061 : cd 219 1061 = some (.invokevirtual 134, 3, 189, 2, 0, []) := rfl
set_option maxRecDepth 20000 in
theorem cd_219_1064 : cd 219 1064 = some (.istore 6, 2, 0, 0, 0, []) := rfl
set_option maxRecDepth 20000 in
theorem cd_219_1066 : cd 219 1066 = some (.aload_n 2, 1, 0, 0, 0, []) := rfl
set_option maxRecDepth 20000 in
theorem cd_219_1067 : cd 219 1067 = some (.invokevirtual 80, 3, 131, 1, 0, []) := rfl
set_option maxRecDepth 20000 in
theorem cd_219_1070 : cd 219 1070 = some (.iload 5, 2, 0, 0, 0, []) := rfl
set_option maxRecDepth 20000 in
theorem cd_219_1072 : cd 219 1072 = some (.if_icmp .eq 5, 3, 0, 0, 0, []) := rfl
set_option maxRecDepth 20000 in
theorem cd_219_1075 : cd 219 1075 = some (.iconst 0, 1, 0, 0, 0, []) := rfl
set_option maxRecDepth 20000 in
theorem cd_219_1076 : cd 219 1076 = some (.ireturn, 1, 0, 0, 0, []) := rfl
set_option maxRecDepth 20000 in
theorem cd_219_1077 : cd 219 1077 = some (.iload 5, 2, 0, 0, 0, []) := rfl
set_option maxRecDepth 20000 in
theorem cd_219_1079 : cd 219 1079 = some (.ifCond .ne 15, 3, 0, 0, 0, []) := rfl
set_option maxRecDepth 20000 in
theorem cd_219_1082 : cd 219 1082 = some (.aload_n 3, 1, 0, 0, 0, []) := rfl
set_option maxRecDepth 20000 in
theorem cd_219_1083 : cd 219 1083 = some (.iconst 0, 1, 0, 0, 0, []) := rfl
set_option maxRecDepth 20000 in
theorem cd_219_1084 : cd 219 1084 = some (.laload, 1, 0, 0, 0, []) := rfl
set_option maxRecDepth 20000 in
theorem cd_219_1085 : cd 219 1085 = some (.iload 6, 2, 0, 0, 0, []) := rfl
set_option maxRecDepth 20000 in
theorem cd_219_1087 : cd 219 1087 = some (.i2l, 1, 0, 0, 0, []) := rfl
set_option maxRecDepth 20000 in
theorem cd_219_1088 : cd 219 1088 = some (.lcmp, 1, 0, 0, 0, []) := rfl
set_option maxRecDepth 20000 in
theorem cd_219_1089 : cd 219 1089 = some (.ifCond .eq 5, 3, 0, 0, 0, []) := rfl
set_option maxRecDepth 20000 in
theorem cd_219_1092 : cd 219 1092 = some (.iconst 0, 1, 0, 0, 0, []) := rfl
set_option maxRecDepth 20000 in
theorem cd_219_1093 : cd 219 1093 = some (.ireturn, 1, 0, 0, 0, []) := rfl
set_option maxRecDepth 20000 in
theorem cd_219_1094 : cd 219 1094 = some (.goto 210, 3, 0, 0, 0, []) := rfl
set_option maxRecDepth 20000 in
theorem cd_219_1097 : cd 219 1097 = some (.aload_n 1, 1, 0, 0, 0, []) := rfl
set_option maxRecDepth 20000 in
theorem cd_219_1098 : cd 219 1098 = some (.invokevirtual 135, 3, 98, 1, 0, []) := rfl
set_option maxRecDepth 20000 in
theorem cd_219_1101 : cd 219 1101 = some (.aload_n 2, 1, 0, 0, 0, []) := rfl
set_option maxRecDepth 20000 in
theorem cd_219_1102 : cd 219 1102 = some (.invokevirtual 138, 3, 190, 1, 0, []) := rfl
set_option maxRecDepth 20000 in
theorem cd_219_1105 : cd 219 1105 = some (.if_icmp .eq 199, 3, 0, 0, 0, []) := rfl
set_option maxRecDepth 20000 in
theorem cd_219_1108 : cd 219 1108 = some (.iconst 0, 1, 0, 0, 0, []) := rfl
set_option maxRecDepth 20000 in
theorem cd_219_1109 : cd 219 1109 = some (.ireturn, 1, 0, 0, 0, []) := rfl
set_option maxRecDepth 20000 in
theorem cd_219_1110 : cd 219 1110 = some (.aload_n 1, 1, 0, 0, 0, []) := rfl
set_option maxRecDepth 20000 in
theorem cd_219_1111 : cd 219 1111 = some (.invokevirtual 139, 3, 99, 1, 0, []) := rfl
set_option maxRecDepth 20000 in
theorem cd_219_1114 : cd 219 1114 = some (.aload_n 2, 1, 0, 0, 0, []) := rfl
set_option maxRecDepth 20000 in
theorem cd_219_1115 : cd 219 1115 = some (.invokevirtual 142, 3, 191, 1, 0, []) := rfl
set_option maxRecDepth 20000 in
theorem cd_219_1118 : cd 219 1118 = some (.if_icmp .eq 186, 3, 0, 0, 0, []) := rfl
set_option maxRecDepth 20000 in
theorem cd_219_1121 : cd 219 1121 = some (.iconst 0, 1, 0, 0, 0, []) := rfl
set_option maxRecDepth 20000 in
theorem cd_219_1122 : cd 219 1122 = some (.ireturn, 1, 0, 0, 0, []) := rfl
set_option maxRecDepth 20000 in
theorem cd_219_1123 : cd 219 1123 = some (.aload_n 1, 1, 0, 0, 0, []) := rfl
set_option maxRecDepth 20000 in
theorem cd_219_1124 : cd 219 1124 = some (.invokevirtual 143, 3, 100, 1, 0, []) := rfl
set_option maxRecDepth 20000 in
theorem cd_219_1127 : cd 219 1127 = some (.dstore 5, 2, 0, 0, 0, []) := rfl
set_option maxRecDepth 20000 in
theorem cd_219_1129 : cd 219 1129 = some (.aload_n 2, 1, 0, 0, 0, []) := rfl
set_option maxRecDepth 20000 in
theorem cd_219_1130 : cd 219 1130 = some (.invokevirtual 147, 3, 192, 1, 0, []) := rfl
set_option maxRecDepth 20000 in
theorem cd_219_1133 : cd 219 1133 = some (.dstore 7, 2, 0, 0, 0, []) := rfl
set_option maxRecDepth 20000 in
theorem cd_219_1135 : cd 219 1135 = some (.dload 5, 2, 0, 0, 0, []) := rfl
set_option maxRecDepth 20000 in
theorem cd_219_1137 : cd 219 1137 = some (.dload 7, 2, 0, 0, 0, []) := rfl
set_option maxRecDepth 20000 in
theorem cd_219_1139 : cd 219 1139 = some (.dcmp .l, 1, 0, 0, 0, []) := rfl
set_option maxRecDepth 20000 in
theorem cd_219_1140 : cd 219 1140 = some (.ifCond .eq 21, 3, 0, 0, 0, []) := rfl
set_option maxRecDepth 20000 in
theorem cd_219_1143 : cd 219 1143 = some (.dload 5, 2, 0, 0, 0, []) := rfl
set_option maxRecDepth 20000 in
theorem cd_219_1145 : cd 219 1145 = some (.dload 5, 2, 0, 0, 0, []) := rfl
set_option maxRecDepth 20000 in
theorem cd_219_1147 : cd 219 1147 = some (.dcmp .l, 1, 0, 0, 0, []) := rfl
set_option maxRecDepth 20000 in
theorem cd_219_1148 : cd 219 1148 = some (.ifCond .eq 11, 3, 0, 0, 0, []) := rfl
set_option maxRecDepth 20000 in
theorem cd_219_1151 : cd 219 1151 = some (.dload 7, 2, 0, 0, 0, []) := rfl
set_option maxRecDepth 20000 in
theorem cd_219_1153 : cd 219 1153 = some (.dload 7, 2, 0, 0, 0, []) := rfl
set_option maxRecDepth 20000 in
theorem cd_219_1155 : cd 219 1155 = some (.dcmp .l, 1, 0, 0, 0, []) := rfl
set_option maxRecDepth 20000 in
theorem cd_219_1156 : cd 219 1156 = some (.ifCond .ne 5, 3, 0, 0, 0, []) := rfl
set_option maxRecDepth 20000 in
theorem cd_219_1159 : cd 219 1159 = some (.iconst 0, 1, 0, 0, 0, []) := rfl
set_option maxRecDepth 20000 in
theorem cd_219_1160 : cd 219 1160 = some (.ireturn, 1, 0, 0, 0, []) := rfl
set_option maxRecDepth 20000 in
theorem cd_219_1161 : cd 219 1161 = some (.goto 143, 3, 0, 0, 0, []) := rfl
set_option maxRecDepth 20000 in
theorem cd_219_1164 : cd 219 1164 = some (.aload_n 1, 1, 0, 0, 0, []) := rfl
set_option maxRecDepth 20000 in
theorem cd_219_1165 : cd 219 1165 = some (.aload_n 0, 1, 0, 0, 0, []) := rfl
set_option maxRecDepth 20000 in
theorem cd_219_1166 : cd 219 1166 = some (.iload 4, 2, 0, 0, 0, []) := rfl
set_option maxRecDepth 20000 in
theorem cd_219_1168 : cd 219 1168 = some (.iconst 1, 1, 0, 0, 0, []) := rfl
set_option maxRecDepth 20000 in
theorem cd_219_1169 : cd 219 1169 = some (.iadd, 1, 0, 0, 0, []) := rfl
set_option maxRecDepth 20000 in
theorem cd_219_1170 : cd 219 1170 = some (.iaload, 1, 0, 0, 0, []) := rfl
set_option maxRecDepth 20000 in
theorem cd_219_1171 : cd 219 1171 = some (.aload_n 3, 1, 0, 0, 0, []) := rfl
set_option maxRecDepth 20000 in
theorem cd_219_1172 : cd 219 1172 = some (.invokestatic 148, 3, 217, 3, 7, []) := rfl
set_option maxRecDepth 20000 in
theorem cd_219_1175 : cd 219 1175 = some (.istore 5, 2, 0, 0, 0, []) := rfl
set_option maxRecDepth 20000 in
theorem cd_219_1177 : cd 219 1177 = some (.aload_n 2, 1, 0, 0, 0, []) := rfl
set_option maxRecDepth 20000 in
theorem cd_219_1178 : cd 219 1178 = some (.aload_n 0, 1, 0, 0, 0, []) := rfl
set_option maxRecDepth 20000 in
theorem cd_219_1179 : cd 219 1179 = some (.iload 4, 2, 0, 0, 0, []) := rfl
set_option maxRecDepth 20000 in
theorem cd_219_1181 : cd 219 1181 = some (.iconst 1, 1, 0, 0, 0, []) := rfl
set_option maxRecDepth 20000 in
theorem cd_219_1182 : cd 219 1182 = some (.iadd, 1, 0, 0, 0, []) := rfl
set_option maxRecDepth 20000 in
theorem cd_219_1183 : cd 219 1183 = some (.iaload, 1, 0, 0, 0, []) := rfl
set_option maxRecDepth 20000 in
theorem cd_219_1184 : cd 219 1184 = some (.invokevirtual 150, 3, 193, 2, 0, []) := rfl
set_option maxRecDepth 20000 in
theorem cd_219_1187 : cd 219 1187 = some (.istore 6, 2, 0, 0, 0, []) := rfl
set_option maxRecDepth 20000 in
theorem cd_219_1189 : cd 219 1189 = some (.aload_n 2, 1, 0, 0, 0, []) := rfl
set_option maxRecDepth 20000 in
theorem cd_219_1190 : cd 219 1190 = some (.invokevirtual 80, 3, 131, 1, 0, []) := rfl
set_option maxRecDepth 20000 in
theorem cd_219_1193 : cd 219 1193 = some (.iload 5, 2, 0, 0, 0, []) := rfl
set_option maxRecDepth 20000 in
theorem cd_219_1195 : cd 219 1195 = some (.if_icmp .eq 5, 3, 0, 0, 0, []) := rfl
set_option maxRecDepth 20000 in
theorem cd_219_1198 : cd 219 1198 = some (.iconst 0, 1, 0, 0, 0, []) := rfl
set_option maxRecDepth 20000 in
theorem cd_219_1199 : cd 219 1199 = some (.ireturn, 1, 0, 0, 0, []) := rfl
set_option maxRecDepth 20000 in
theorem cd_219_1200 : cd 219 1200 = some (.iload 5, 2, 0, 0, 0, []) := rfl
set_option maxRecDepth 20000 in
theorem cd_219_1202 : cd 219 1202 = some (.ifCond .ne 15, 3, 0, 0, 0, []) := rfl
set_option maxRecDepth 20000 in
theorem cd_219_1205 : cd 219 1205 = some (.aload_n 3, 1, 0, 0, 0, []) := rfl
set_option maxRecDepth 20000 in
theorem cd_219_1206 : cd 219 1206 = some (.iconst 0, 1, 0, 0, 0, []) := rfl
set_option maxRecDepth 20000 in
theorem cd_219_1207 : cd 219 1207 = some (.laload, 1, 0, 0, 0, []) := rfl
set_option maxRecDepth 20000 in
theorem cd_219_1208 : cd 219 1208 = some (.iload 6, 2, 0, 0, 0, []) := rfl
set_option maxRecDepth 20000 in
theorem cd_219_1210 : cd 219 1210 = some (.i2l, 1, 0, 0, 0, []) := rfl
set_option maxRecDepth 20000 in
theorem cd_219_1211 : cd 219 1211 = some (.lcmp, 1, 0, 0, 0, []) := rfl
set_option maxRecDepth 20000 in
theorem cd_219_1212 : cd 219 1212 = some (.ifCond .eq 5, 3, 0, 0, 0, []) := rfl
set_option maxRecDepth 20000 in
theorem cd_219_1215 : cd 219 1215 = some (.iconst 0, 1, 0, 0, 0, []) := rfl
set_option maxRecDepth 20000 in
theorem cd_219_1216 : cd 219 1216 = some (.ireturn, 1, 0, 0, 0, []) := rfl
set_option maxRecDepth 20000 in
theorem cd_219_1217 : cd 219 1217 = some (.goto 87, 3, 0, 0, 0, []) := rfl
set_option maxRecDepth 20000 in
theorem cd_219_1220 : cd 219 1220 = some (.aload_n 1, 1, 0, 0, 0, []) := rfl
set_option maxRecDepth 20000 in
theorem cd_219_1221 : cd 219 1221 = some (.invokevirtual 151, 3, 102, 1, 0, []) := rfl
set_option maxRecDepth 20000 in
theorem cd_219_1224 : cd 219 1224 = some (.aload_n 2, 1, 0, 0, 0, []) := rfl
set_option maxRecDepth 20000 in
theorem cd_219_1225 : cd 219 1225 = some (.invokevirtual 154, 3, 194, 1, 0, []) := rfl
set_option maxRecDepth 20000 in
theorem cd_219_1228 : cd 219 1228 = some (.if_icmp .eq 76, 3, 0, 0, 0, []) := rfl
set_option maxRecDepth 20000 in
theorem cd_219_1231 : cd 219 1231 = some (.iconst 0, 1, 0, 0, 0, []) := rfl
set_option maxRecDepth 20000 in
theorem cd_219_1232 : cd 219 1232 = some (.ireturn, 1, 0, 0, 0, []) := rfl
set_option maxRecDepth 20000 in
theorem cd_219_1233 : cd 219 1233 = some (.aload_n 1, 1, 0, 0, 0, []) := rfl
set_option maxRecDepth 20000 in
theorem cd_219_1234 : cd 219 1234 = some (.invokevirtual 155, 3, 103, 1, 0, []) := rfl
set_option maxRecDepth 20000 in
theorem cd_219_1237 : cd 219 1237 = some (.aload_n 2, 1, 0, 0, 0, []) := rfl
set_option maxRecDepth 20000 in
theorem cd_219_1238 : cd 219 1238 = some (.invokevirtual 158, 3, 195, 1, 0, []) := rfl
set_option maxRecDepth 20000 in
theorem cd_219_1241 : cd 219 1241 = some (.if_icmp .eq 63, 3, 0, 0, 0, []) := rfl
set_option maxRecDepth 20000 in
theorem cd_219_1244 : cd 219 1244 = some (.iconst 0, 1, 0, 0, 0, []) := rfl
set_option maxRecDepth 20000 in
theorem cd_219_1245 : cd 219 1245 = some (.ireturn, 1, 0, 0, 0, []) := rfl
set_option maxRecDepth 20000 in
theorem cd_219_1246 : cd 219 1246 = some (.aload_n 1, 1, 0, 0, 0, []) := rfl
set_option maxRecDepth 20000 in
theorem cd_219_1247 : cd 219 1247 = some (.aload_n 3, 1, 0, 0, 0, []) := rfl
set_option maxRecDepth 20000 in
theorem cd_219_1248 : cd 219 1248 = some (.invokestatic 159, 3, 218, 2, 7, []) := rfl
set_option maxRecDepth 20000 in
theorem cd_219_1251 : cd 219 1251 = some (.istore 5, 2, 0, 0, 0, []) := rfl
set_option maxRecDepth 20000 in
theorem cd_219_1253 : cd 219 1253 = some (.aload_n 2, 1, 0, 0, 0, []) := rfl
set_option maxRecDepth 20000 in
theorem cd_219_1254 : cd 219 1254 = some (.invokevirtual 161, 3, 135, 1, 0, []) := rfl
set_option maxRecDepth 20000 in
theorem cd_219_1257 : cd 219 1257 = some (.istore 6, 2, 0, 0, 0, []) := rfl
set_option maxRecDepth 20000 in
theorem cd_219_1259 : cd 219 1259 = some (.aload_n 2, 1, 0, 0, 0, []) := rfl
set_option maxRecDepth 20000 in
theorem cd_219_1260 : cd 219 1260 = some (.invokevirtual 80, 3, 131, 1, 0, []) := rfl
set_option maxRecDepth 20000 in
theorem cd_219_1263 : cd 219 1263 = some (.iload 5, 2, 0, 0, 0, []) := rfl
set_option maxRecDepth 20000 in
theorem cd_219_1265 : cd 219 1265 = some (.if_icmp .eq 5, 3, 0, 0, 0, []) := rfl
set_option maxRecDepth 20000 in
theorem cd_219_1268 : cd 219 1268 = some (.iconst 0, 1, 0, 0, 0, []) := rfl
set_option maxRecDepth 20000 in
theorem cd_219_1269 : cd 219 1269 = some (.ireturn, 1, 0, 0, 0, []) := rfl
set_option maxRecDepth 20000 in
theorem cd_219_1270 : cd 219 1270 = some (.iload 5, 2, 0, 0, 0, []) := rfl
set_option maxRecDepth 20000 in
theorem cd_219_1272 : cd 219 1272 = some (.ifCond .ne 15, 3, 0, 0, 0, []) := rfl
set_option maxRecDepth 20000 in
theorem cd_219_1275 : cd 219 1275 = some (.aload_n 3, 1, 0, 0, 0, []) := rfl
set_option maxRecDepth 20000 in
theorem cd_219_1276 : cd 219 1276 = some (.iconst 0, 1, 0, 0, 0, []) := rfl
set_option maxRecDepth 20000 in
theorem cd_219_1277 : cd 219 1277 = some (.laload, 1, 0, 0, 0, []) := rfl
set_option maxRecDepth 20000 in
theorem cd_219_1278 : cd 219 1278 = some (.iload 6, 2, 0, 0, 0, []) := rfl
set_option maxRecDepth 20000 in
theorem cd_219_1280 : cd 219 1280 = some (.i2l, 1, 0, 0, 0, []) := rfl
set_option maxRecDepth 20000 in
theorem cd_219_1281 : cd 219 1281 = some (.lcmp, 1, 0, 0, 0, []) := rfl
set_option maxRecDepth 20000 in
theorem cd_219_1282 : cd 219 1282 = some (.ifCond .eq 5, 3, 0, 0, 0, []) := rfl
set_option maxRecDepth 20000 in
theorem cd_219_1285 : cd 219 1285 = some (.iconst 0, 1, 0, 0, 0, []) := rfl
set_option maxRecDepth 20000 in
theorem cd_219_1286 : cd 219 1286 = some (.ireturn, 1, 0, 0, 0, []) := rfl
set_option maxRecDepth 20000 in
theorem cd_219_1287 : cd 219 1287 = some (.goto 17, 3, 0, 0, 0, []) := rfl
set_option maxRecDepth 20000 in
theorem cd_219_1290 : cd 219 1290 = some (.aload_n 1, 1, 0, 0, 0, []) := rfl
set_option maxRecDepth 20000 in
theorem cd_219_1291 : cd 219 1291 = some (.invokevirtual 162, 3, 105, 1, 0, []) := rfl
set_option maxRecDepth 20000 in
theorem cd_219_1294 : cd 219 1294 = some (.aload_n 2, 1, 0, 0, 0, []) := rfl
set_option maxRecDepth 20000 in
theorem cd_219_1295 : cd 219 1295 = some (.invokevirtual 166, 3, 198, 1, 0, []) := rfl
set_option maxRecDepth 20000 in
theorem cd_219_1298 : cd 219 1298 = some (.lcmp, 1, 0, 0, 0, []) := rfl
set_option maxRecDepth 20000 in
theorem cd_219_1299 : cd 219 1299 = some (.ifCond .eq 5, 3, 0, 0, 0, []) := rfl
set_option maxRecDepth 20000 in
theorem cd_219_1302 : cd 219 1302 = some (.iconst 0, 1, 0, 0, 0, []) := rfl
set_option maxRecDepth 20000 in
theorem cd_219_1303 : cd 219 1303 = some (.ireturn, 1, 0, 0, 0, []) := rfl
set_option maxRecDepth 20000 in
theorem cd_219_1304 : cd 219 1304 = some (.iinc 4 3, 3, 0, 0, 0, []) := rfl
set_option maxRecDepth 20000 in
theorem cd_219_1307 : cd 219 1307 = some (.goto (-1284), 3, 0, 0, 0, []) := rfl
set_option maxRecDepth 20000 in
theorem cd_219_1310 : cd 219 1310 = some (.iconst 1, 1, 0, 0, 0, []) := rfl
set_option maxRecDepth 20000 in
theorem cd_219_1311 : cd 219 1311 = some (.ireturn, 1, 0, 0, 0, []) := rfl
