/-! ===== the code table, row by row: by program (wip/p28/gen4.py) ===== -/
theorem cd_130_0 : cd 130 0 = some (.iload_n 1, 1, 0, 0, 0, []) := rfl
theorem cd_130_1 : cd 130 1 = some (.aload_n 0, 1, 0, 0, 0, []) := rfl
theorem cd_130_2 : cd 130 2 = some (.arraylength, 1, 0, 0, 0, []) := rfl
theorem cd_130_3 : cd 130 3 = some (.if_icmp .ge 9, 3, 0, 0, 0, []) := rfl
theorem cd_130_6 : cd 130 6 = some (.aload_n 0, 1, 0, 0, 0, []) := rfl
theorem cd_130_7 : cd 130 7 = some (.iload_n 1, 1, 0, 0, 0, []) := rfl
theorem cd_130_8 : cd 130 8 = some (.iaload, 1, 0, 0, 0, []) := rfl
theorem cd_130_9 : cd 130 9 = some (.goto 9, 3, 0, 0, 0, []) := rfl
theorem cd_130_12 : cd 130 12 = some (.ldc 7, 2, 0, 0, 0, []) := rfl
theorem cd_130_14 : cd 130 14 = some (.iload_n 1, 1, 0, 0, 0, []) := rfl
theorem cd_130_15 : cd 130 15 = some (.iconst 3, 1, 0, 0, 0, []) := rfl
theorem cd_130_16 : cd 130 16 = some (.iadd, 1, 0, 0, 0, []) := rfl
theorem cd_130_17 : cd 130 17 = some (.imul, 1, 0, 0, 0, []) := rfl
theorem cd_130_18 : cd 130 18 = some (.istore_n 2, 1, 0, 0, 0, [0, 1, 2]) := rfl
theorem cd_130_19 : cd 130 19 = some (.iload_n 2, 1, 0, 0, 0, []) := rfl
theorem cd_130_20 : cd 130 20 = some (.iload_n 2, 1, 0, 0, 0, []) := rfl
theorem cd_130_21 : cd 130 21 = some (.bipush 15, 2, 0, 0, 0, []) := rfl
theorem cd_130_23 : cd 130 23 = some (.iushr, 1, 0, 0, 0, []) := rfl
theorem cd_130_24 : cd 130 24 = some (.ixor, 1, 0, 0, 0, []) := rfl
theorem cd_130_25 : cd 130 25 = some (.ireturn, 1, 0, 0, 0, []) := rfl
theorem cd_131_0 : cd 131 0 = some (.iload_n 0, 1, 0, 0, 0, []) := rfl
theorem cd_131_1 : cd 131 1 = some (.ldc 8, 2, 1, 0, 0, []) := rfl
theorem cd_131_3 : cd 131 3 = some (.iand, 1, 0, 0, 0, []) := rfl
theorem cd_131_4 : cd 131 4 = some (.iload_n 1, 1, 0, 0, 0, []) := rfl
theorem cd_131_5 : cd 131 5 = some (.irem, 1, 0, 0, 0, []) := rfl
theorem cd_131_6 : cd 131 6 = some (.ireturn, 1, 0, 0, 0, []) := rfl
theorem cd_132_0 : cd 132 0 = some (.aload_n 0, 1, 0, 0, 0, []) := rfl
theorem cd_132_1 : cd 132 1 = some (.iload_n 1, 1, 0, 0, 0, []) := rfl
theorem cd_132_2 : cd 132 2 = some (.iload_n 2, 1, 0, 0, 0, []) := rfl
theorem cd_132_3 : cd 132 3 = some (.invokevirtual 9, 3, 81, 3, 0, []) := rfl
theorem cd_132_6 : cd 132 6 = some (.istore_n 3, 1, 0, 0, 0, []) := rfl
theorem cd_132_7 : cd 132 7 = some (.goto 8, 3, 0, 0, 0, []) := rfl
theorem cd_132_15 : cd 132 15 = some (.iload_n 3, 1, 0, 0, 0, []) := rfl
theorem cd_132_16 : cd 132 16 = some (.ireturn, 1, 0, 0, 0, []) := rfl
theorem cd_133_0 : cd 133 0 = some (.aload_n 0, 1, 0, 0, 0, []) := rfl
theorem cd_133_1 : cd 133 1 = some (.iload_n 1, 1, 0, 0, 0, []) := rfl
theorem cd_133_2 : cd 133 2 = some (.iload_n 2, 1, 0, 0, 0, []) := rfl
theorem cd_133_3 : cd 133 3 = some (.invokevirtual 18, 3, 82, 3, 0, []) := rfl
theorem cd_133_6 : cd 133 6 = some (.istore_n 3, 1, 0, 0, 0, []) := rfl
theorem cd_133_7 : cd 133 7 = some (.goto 13, 3, 0, 0, 0, []) := rfl
theorem cd_133_20 : cd 133 20 = some (.iload_n 3, 1, 0, 0, 0, []) := rfl
theorem cd_133_21 : cd 133 21 = some (.ireturn, 1, 0, 0, 0, []) := rfl
theorem cd_134_0 : cd 134 0 = some (.aload_n 0, 1, 0, 0, 0, []) := rfl
theorem cd_134_1 : cd 134 1 = some (.invokevirtual 24, 3, 85, 1, 0, []) := rfl
theorem cd_134_4 : cd 134 4 = some (.istore_n 1, 1, 0, 0, 0, []) := rfl
theorem cd_134_5 : cd 134 5 = some (.goto 7, 3, 0, 0, 0, []) := rfl
theorem cd_134_12 : cd 134 12 = some (.iload_n 1, 1, 0, 0, 0, []) := rfl
theorem cd_134_13 : cd 134 13 = some (.ireturn, 1, 0, 0, 0, []) := rfl
theorem cd_135_0 : cd 135 0 = some (.aload_n 0, 1, 0, 0, 0, []) := rfl
theorem cd_135_1 : cd 135 1 = some (.iload_n 1, 1, 0, 0, 0, []) := rfl
theorem cd_135_2 : cd 135 2 = some (.invokevirtual 31, 3, 86, 2, 0, []) := rfl
theorem cd_135_5 : cd 135 5 = some (.istore_n 2, 1, 0, 0, 0, []) := rfl
theorem cd_135_6 : cd 135 6 = some (.goto 7, 3, 0, 0, 0, []) := rfl
theorem cd_135_13 : cd 135 13 = some (.iload_n 2, 1, 0, 0, 0, []) := rfl
theorem cd_135_14 : cd 135 14 = some (.ireturn, 1, 0, 0, 0, []) := rfl
theorem cd_136_0 : cd 136 0 = some (.aload_n 0, 1, 0, 0, 0, []) := rfl
theorem cd_136_1 : cd 136 1 = some (.iload_n 1, 1, 0, 0, 0, []) := rfl
theorem cd_136_2 : cd 136 2 = some (.iload_n 2, 1, 0, 0, 0, []) := rfl
theorem cd_136_3 : cd 136 3 = some (.invokevirtual 35, 3, 87, 3, 0, []) := rfl
theorem cd_136_6 : cd 136 6 = some (.istore_n 3, 1, 0, 0, 0, []) := rfl
theorem cd_136_7 : cd 136 7 = some (.goto 13, 3, 0, 0, 0, []) := rfl
theorem cd_136_20 : cd 136 20 = some (.iload_n 3, 1, 0, 0, 0, []) := rfl
theorem cd_136_21 : cd 136 21 = some (.ireturn, 1, 0, 0, 0, []) := rfl
theorem cd_137_0 : cd 137 0 = some (.aload_n 0, 1, 0, 0, 0, []) := rfl
theorem cd_137_1 : cd 137 1 = some (.iload_n 1, 1, 0, 0, 0, []) := rfl
theorem cd_137_2 : cd 137 2 = some (.invokevirtual 38, 3, 88, 2, 0, []) := rfl
theorem cd_137_5 : cd 137 5 = some (.istore_n 2, 1, 0, 0, 0, []) := rfl
theorem cd_137_6 : cd 137 6 = some (.goto 7, 3, 0, 0, 0, []) := rfl
theorem cd_137_13 : cd 137 13 = some (.iload_n 2, 1, 0, 0, 0, []) := rfl
theorem cd_137_14 : cd 137 14 = some (.ireturn, 1, 0, 0, 0, []) := rfl
theorem cd_138_0 : cd 138 0 = some (.aload_n 0, 1, 0, 0, 0, []) := rfl
theorem cd_138_1 : cd 138 1 = some (.iload_n 1, 1, 0, 0, 0, []) := rfl
theorem cd_138_2 : cd 138 2 = some (.iload_n 2, 1, 0, 0, 0, []) := rfl
theorem cd_138_3 : cd 138 3 = some (.invokevirtual 41, 3, 89, 3, 0, []) := rfl
theorem cd_138_6 : cd 138 6 = some (.istore_n 3, 1, 0, 0, 0, []) := rfl
theorem cd_138_7 : cd 138 7 = some (.goto 8, 3, 0, 0, 0, []) := rfl
theorem cd_138_15 : cd 138 15 = some (.iload_n 3, 1, 0, 0, 0, []) := rfl
theorem cd_138_16 : cd 138 16 = some (.ireturn, 1, 0, 0, 0, []) := rfl
theorem cd_139_0 : cd 139 0 = some (.aload_n 0, 1, 0, 0, 0, []) := rfl
theorem cd_139_1 : cd 139 1 = some (.iload_n 1, 1, 0, 0, 0, []) := rfl
theorem cd_139_2 : cd 139 2 = some (.iload_n 2, 1, 0, 0, 0, []) := rfl
theorem cd_139_3 : cd 139 3 = some (.invokevirtual 44, 3, 90, 3, 0, []) := rfl
theorem cd_139_6 : cd 139 6 = some (.istore_n 3, 1, 0, 0, 0, []) := rfl
theorem cd_139_7 : cd 139 7 = some (.goto 13, 3, 0, 0, 0, []) := rfl
theorem cd_139_20 : cd 139 20 = some (.iload_n 3, 1, 0, 0, 0, []) := rfl
theorem cd_139_21 : cd 139 21 = some (.ireturn, 1, 0, 0, 0, []) := rfl
theorem cd_140_0 : cd 140 0 = some (.aload_n 0, 1, 0, 0, 0, []) := rfl
theorem cd_140_1 : cd 140 1 = some (.iload_n 1, 1, 0, 0, 0, []) := rfl
theorem cd_140_2 : cd 140 2 = some (.iload_n 2, 1, 0, 0, 0, []) := rfl
theorem cd_140_3 : cd 140 3 = some (.invokevirtual 47, 3, 91, 3, 0, []) := rfl
theorem cd_140_6 : cd 140 6 = some (.istore_n 3, 1, 0, 0, 0, []) := rfl
theorem cd_140_7 : cd 140 7 = some (.goto 8, 3, 0, 0, 0, []) := rfl
theorem cd_140_15 : cd 140 15 = some (.iload_n 3, 1, 0, 0, 0, []) := rfl
theorem cd_140_16 : cd 140 16 = some (.ireturn, 1, 0, 0, 0, []) := rfl
theorem cd_141_0 : cd 141 0 = some (.aload_n 0, 1, 0, 0, 0, []) := rfl
theorem cd_141_1 : cd 141 1 = some (.iload_n 1, 1, 0, 0, 0, []) := rfl
theorem cd_141_2 : cd 141 2 = some (.iload_n 2, 1, 0, 0, 0, []) := rfl
theorem cd_141_3 : cd 141 3 = some (.invokevirtual 50, 3, 92, 3, 0, []) := rfl
theorem cd_141_6 : cd 141 6 = some (.istore_n 3, 1, 0, 0, 0, []) := rfl
theorem cd_141_7 : cd 141 7 = some (.goto 8, 3, 0, 0, 0, []) := rfl
theorem cd_141_15 : cd 141 15 = some (.iload_n 3, 1, 0, 0, 0, []) := rfl
theorem cd_141_16 : cd 141 16 = some (.ireturn, 1, 0, 0, 0, []) := rfl
theorem cd_142_0 : cd 142 0 = some (.aload_n 0, 1, 0, 0, 0, []) := rfl
theorem cd_142_1 : cd 142 1 = some (.iload_n 1, 1, 0, 0, 0, []) := rfl
theorem cd_142_2 : cd 142 2 = some (.invokevirtual 53, 3, 93, 2, 0, []) := rfl
theorem cd_142_5 : cd 142 5 = some (.istore_n 2, 1, 0, 0, 0, []) := rfl
theorem cd_142_6 : cd 142 6 = some (.goto 7, 3, 0, 0, 0, []) := rfl
theorem cd_142_13 : cd 142 13 = some (.iload_n 2, 1, 0, 0, 0, []) := rfl
theorem cd_142_14 : cd 142 14 = some (.ireturn, 1, 0, 0, 0, []) := rfl
theorem cd_143_0 : cd 143 0 = some (.aload_n 0, 1, 0, 0, 0, []) := rfl
theorem cd_143_1 : cd 143 1 = some (.iload_n 1, 1, 0, 0, 0, []) := rfl
theorem cd_143_2 : cd 143 2 = some (.invokevirtual 56, 3, 94, 2, 0, []) := rfl
theorem cd_143_5 : cd 143 5 = some (.istore_n 2, 1, 0, 0, 0, []) := rfl
theorem cd_143_6 : cd 143 6 = some (.goto 7, 3, 0, 0, 0, []) := rfl
theorem cd_143_13 : cd 143 13 = some (.iload_n 2, 1, 0, 0, 0, []) := rfl
theorem cd_143_14 : cd 143 14 = some (.ifCond .eq 7, 3, 0, 0, 0, []) := rfl
theorem cd_143_17 : cd 143 17 = some (.iconst 1, 1, 0, 0, 0, []) := rfl
theorem cd_143_18 : cd 143 18 = some (.goto 4, 3, 0, 0, 0, []) := rfl
theorem cd_143_21 : cd 143 21 = some (.iconst 0, 1, 0, 0, 0, []) := rfl
theorem cd_143_22 : cd 143 22 = some (.ireturn, 1, 0, 0, 0, [0, 1, 2, 3]) := rfl
theorem cd_144_0 : cd 144 0 = some (.aload_n 0, 1, 0, 0, 0, []) := rfl
theorem cd_144_1 : cd 144 1 = some (.iload_n 1, 1, 0, 0, 0, []) := rfl
theorem cd_144_2 : cd 144 2 = some (.invokevirtual 60, 3, 95, 2, 0, []) := rfl
theorem cd_144_5 : cd 144 5 = some (.istore_n 2, 1, 0, 0, 0, []) := rfl
theorem cd_144_6 : cd 144 6 = some (.goto 7, 3, 0, 0, 0, []) := rfl
theorem cd_144_13 : cd 144 13 = some (.iload_n 2, 1, 0, 0, 0, []) := rfl
theorem cd_144_14 : cd 144 14 = some (.ireturn, 1, 0, 0, 0, []) := rfl
theorem cd_145_0 : cd 145 0 = some (.aload_n 0, 1, 0, 0, 0, []) := rfl
theorem cd_145_1 : cd 145 1 = some (.iload_n 1, 1, 0, 0, 0, []) := rfl
theorem cd_145_2 : cd 145 2 = some (.invokevirtual 63, 3, 96, 2, 0, []) := rfl
theorem cd_145_5 : cd 145 5 = some (.istore_n 2, 1, 0, 0, 0, []) := rfl
theorem cd_145_6 : cd 145 6 = some (.goto 7, 3, 0, 0, 0, []) := rfl
theorem cd_145_13 : cd 145 13 = some (.iload_n 2, 1, 0, 0, 0, []) := rfl
theorem cd_145_14 : cd 145 14 = some (.ireturn, 1, 0, 0, 0, []) := rfl
theorem cd_146_0 : cd 146 0 = some (.aload_n 0, 1, 0, 0, 0, []) := rfl
theorem cd_146_1 : cd 146 1 = some (.iload_n 1, 1, 0, 0, 0, []) := rfl
theorem cd_146_2 : cd 146 2 = some (.invokevirtual 66, 3, 97, 2, 0, []) := rfl
theorem cd_146_5 : cd 146 5 = some (.istore_n 2, 1, 0, 0, 0, []) := rfl
theorem cd_146_6 : cd 146 6 = some (.goto 7, 3, 0, 0, 0, []) := rfl
theorem cd_146_13 : cd 146 13 = some (.iload_n 2, 1, 0, 0, 0, []) := rfl
theorem cd_146_14 : cd 146 14 = some (.ireturn, 1, 0, 0, 0, []) := rfl
theorem cd_147_0 : cd 147 0 = some (.aload_n 0, 1, 0, 0, 0, []) := rfl
theorem cd_147_1 : cd 147 1 = some (.iload_n 1, 1, 0, 0, 0, []) := rfl
theorem cd_147_2 : cd 147 2 = some (.invokevirtual 69, 3, 101, 2, 0, []) := rfl
theorem cd_147_5 : cd 147 5 = some (.istore_n 2, 1, 0, 0, 0, []) := rfl
theorem cd_147_6 : cd 147 6 = some (.goto 11, 3, 0, 0, 0, []) := rfl
theorem cd_147_17 : cd 147 17 = some (.iload_n 2, 1, 0, 0, 0, []) := rfl
theorem cd_147_18 : cd 147 18 = some (.ireturn, 1, 0, 0, 0, []) := rfl
theorem cd_148_0 : cd 148 0 = some (.aload_n 0, 1, 0, 0, 0, []) := rfl
theorem cd_148_1 : cd 148 1 = some (.invokevirtual 72, 3, 104, 1, 0, []) := rfl
theorem cd_148_4 : cd 148 4 = some (.istore_n 1, 1, 0, 0, 0, []) := rfl
theorem cd_148_5 : cd 148 5 = some (.goto 7, 3, 0, 0, 0, []) := rfl
theorem cd_148_12 : cd 148 12 = some (.iload_n 1, 1, 0, 0, 0, []) := rfl
theorem cd_148_13 : cd 148 13 = some (.ireturn, 1, 0, 0, 0, []) := rfl
theorem cd_149_0 : cd 149 0 = some (.ldc2_w 75, 3, 1, 0, 0, []) := rfl
theorem cd_149_3 : cd 149 3 = some (.lstore_n 1, 1, 0, 0, 0, []) := rfl
theorem cd_149_4 : cd 149 4 = some (.iconst 0, 1, 0, 0, 0, []) := rfl
theorem cd_149_5 : cd 149 5 = some (.istore_n 3, 1, 0, 0, 0, []) := rfl
theorem cd_149_6 : cd 149 6 = some (.iload_n 3, 1, 0, 0, 0, [2]) := rfl
theorem cd_149_7 : cd 149 7 = some (.bipush 10, 2, 0, 0, 0, []) := rfl
theorem cd_149_9 : cd 149 9 = some (.if_icmp .ge 22, 3, 0, 0, 0, []) := rfl
theorem cd_149_12 : cd 149 12 = some (.ldc2_w 77, 3, 2, 0, 0, []) := rfl
theorem cd_149_15 : cd 149 15 = some (.lload_n 1, 1, 0, 0, 0, []) := rfl
theorem cd_149_16 : cd 149 16 = some (.lmul, 1, 0, 0, 0, []) := rfl
theorem cd_149_17 : cd 149 17 = some (.aload_n 0, 1, 0, 0, 0, []) := rfl
theorem cd_149_18 : cd 149 18 = some (.iload_n 3, 1, 0, 0, 0, []) := rfl
theorem cd_149_19 : cd 149 19 = some (.invokestatic 79, 3, 137, 2, 7, []) := rfl
theorem cd_149_22 : cd 149 22 = some (.i2l, 1, 0, 0, 0, []) := rfl
theorem cd_149_23 : cd 149 23 = some (.ladd, 1, 0, 0, 0, []) := rfl
theorem cd_149_24 : cd 149 24 = some (.lstore_n 1, 1, 0, 0, 0, []) := rfl
theorem cd_149_25 : cd 149 25 = some (.iinc 3 1, 3, 0, 0, 0, []) := rfl
theorem cd_149_28 : cd 149 28 = some (.goto (-22), 3, 0, 0, 0, []) := rfl
theorem cd_149_31 : cd 149 31 = some (.iconst 0, 1, 0, 0, 0, []) := rfl
theorem cd_149_32 : cd 149 32 = some (.istore_n 3, 1, 0, 0, 0, []) := rfl
theorem cd_149_33 : cd 149 33 = some (.iload_n 3, 1, 0, 0, 0, [2]) := rfl
theorem cd_149_34 : cd 149 34 = some (.bipush 49, 2, 0, 0, 0, []) := rfl
theorem cd_149_36 : cd 149 36 = some (.if_icmp .ge 23, 3, 0, 0, 0, []) := rfl
theorem cd_149_39 : cd 149 39 = some (.ldc2_w 77, 3, 2, 0, 0, []) := rfl
theorem cd_149_42 : cd 149 42 = some (.lload_n 1, 1, 0, 0, 0, []) := rfl
theorem cd_149_43 : cd 149 43 = some (.lmul, 1, 0, 0, 0, []) := rfl
theorem cd_149_44 : cd 149 44 = some (.aload_n 0, 1, 0, 0, 0, []) := rfl
theorem cd_149_45 : cd 149 45 = some (.iload_n 3, 1, 0, 0, 0, []) := rfl
theorem cd_149_46 : cd 149 46 = some (.iconst 0, 1, 0, 0, 0, []) := rfl
theorem cd_149_47 : cd 149 47 = some (.invokestatic 84, 3, 136, 3, 7, []) := rfl
theorem cd_149_50 : cd 149 50 = some (.i2l, 1, 0, 0, 0, []) := rfl
theorem cd_149_51 : cd 149 51 = some (.ladd, 1, 0, 0, 0, []) := rfl
theorem cd_149_52 : cd 149 52 = some (.lstore_n 1, 1, 0, 0, 0, []) := rfl
theorem cd_149_53 : cd 149 53 = some (.iinc 3 1, 3, 0, 0, 0, []) := rfl
theorem cd_149_56 : cd 149 56 = some (.goto (-23), 3, 0, 0, 0, []) := rfl
theorem cd_149_59 : cd 149 59 = some (.iconst 0, 1, 0, 0, 0, []) := rfl
theorem cd_149_60 : cd 149 60 = some (.istore_n 3, 1, 0, 0, 0, []) := rfl
theorem cd_149_61 : cd 149 61 = some (.iload_n 3, 1, 0, 0, 0, [2]) := rfl
theorem cd_149_62 : cd 149 62 = some (.bipush 28, 2, 0, 0, 0, []) := rfl
theorem cd_149_64 : cd 149 64 = some (.if_icmp .ge 34, 3, 0, 0, 0, []) := rfl
theorem cd_149_67 : cd 149 67 = some (.ldc2_w 77, 3, 2, 0, 0, []) := rfl
theorem cd_149_70 : cd 149 70 = some (.ldc2_w 77, 3, 2, 0, 0, []) := rfl
theorem cd_149_73 : cd 149 73 = some (.lload_n 1, 1, 0, 0, 0, []) := rfl
theorem cd_149_74 : cd 149 74 = some (.lmul, 1, 0, 0, 0, []) := rfl
theorem cd_149_75 : cd 149 75 = some (.aload_n 0, 1, 0, 0, 0, []) := rfl
theorem cd_149_76 : cd 149 76 = some (.iload_n 3, 1, 0, 0, 0, []) := rfl
theorem cd_149_77 : cd 149 77 = some (.iconst 1, 1, 0, 0, 0, []) := rfl
theorem cd_149_78 : cd 149 78 = some (.invokestatic 88, 3, 139, 3, 7, []) := rfl
theorem cd_149_81 : cd 149 81 = some (.i2l, 1, 0, 0, 0, []) := rfl
theorem cd_149_82 : cd 149 82 = some (.ladd, 1, 0, 0, 0, []) := rfl
theorem cd_149_83 : cd 149 83 = some (.lmul, 1, 0, 0, 0, []) := rfl
theorem cd_149_84 : cd 149 84 = some (.aload_n 0, 1, 0, 0, 0, []) := rfl
theorem cd_149_85 : cd 149 85 = some (.iload_n 3, 1, 0, 0, 0, []) := rfl
theorem cd_149_86 : cd 149 86 = some (.invokestatic 90, 3, 142, 2, 7, []) := rfl
theorem cd_149_89 : cd 149 89 = some (.i2l, 1, 0, 0, 0, []) := rfl
theorem cd_149_90 : cd 149 90 = some (.ladd, 1, 0, 0, 0, []) := rfl
theorem cd_149_91 : cd 149 91 = some (.lstore_n 1, 1, 0, 0, 0, []) := rfl
theorem cd_149_92 : cd 149 92 = some (.iinc 3 1, 3, 0, 0, 0, []) := rfl
theorem cd_149_95 : cd 149 95 = some (.goto (-34), 3, 0, 0, 0, []) := rfl
theorem cd_149_98 : cd 149 98 = some (.iconst 0, 1, 0, 0, 0, []) := rfl
theorem cd_149_99 : cd 149 99 = some (.istore_n 3, 1, 0, 0, 0, []) := rfl
theorem cd_149_100 : cd 149 100 = some (.iload_n 3, 1, 0, 0, 0, [2]) := rfl
theorem cd_149_101 : cd 149 101 = some (.bipush 64, 2, 0, 0, 0, []) := rfl
theorem cd_149_103 : cd 149 103 = some (.if_icmp .ge 29, 3, 0, 0, 0, []) := rfl
theorem cd_149_106 : cd 149 106 = some (.ldc2_w 77, 3, 2, 0, 0, []) := rfl
theorem cd_149_109 : cd 149 109 = some (.lload_n 1, 1, 0, 0, 0, []) := rfl
theorem cd_149_110 : cd 149 110 = some (.lmul, 1, 0, 0, 0, []) := rfl
theorem cd_149_111 : cd 149 111 = some (.aload_n 0, 1, 0, 0, 0, []) := rfl
theorem cd_149_112 : cd 149 112 = some (.iload_n 3, 1, 0, 0, 0, []) := rfl
theorem cd_149_113 : cd 149 113 = some (.bipush 8, 2, 0, 0, 0, []) := rfl
theorem cd_149_115 : cd 149 115 = some (.idiv, 1, 0, 0, 0, []) := rfl
theorem cd_149_116 : cd 149 116 = some (.iload_n 3, 1, 0, 0, 0, []) := rfl
theorem cd_149_117 : cd 149 117 = some (.bipush 8, 2, 0, 0, 0, []) := rfl
theorem cd_149_119 : cd 149 119 = some (.irem, 1, 0, 0, 0, []) := rfl
theorem cd_149_120 : cd 149 120 = some (.invokestatic 92, 3, 138, 3, 7, []) := rfl
theorem cd_149_123 : cd 149 123 = some (.i2l, 1, 0, 0, 0, []) := rfl
theorem cd_149_124 : cd 149 124 = some (.ladd, 1, 0, 0, 0, []) := rfl
theorem cd_149_125 : cd 149 125 = some (.lstore_n 1, 1, 0, 0, 0, []) := rfl
theorem cd_149_126 : cd 149 126 = some (.iinc 3 1, 3, 0, 0, 0, []) := rfl
theorem cd_149_129 : cd 149 129 = some (.goto (-29), 3, 0, 0, 0, []) := rfl
theorem cd_149_132 : cd 149 132 = some (.lload_n 1, 1, 0, 0, 0, []) := rfl
theorem cd_149_133 : cd 149 133 = some (.lreturn, 1, 0, 0, 0, []) := rfl
theorem cd_150_0 : cd 150 0 = some (.aload_n 0, 1, 0, 0, 0, []) := rfl
theorem cd_150_1 : cd 150 1 = some (.invokestatic 94, 3, 149, 1, 2, []) := rfl
theorem cd_150_4 : cd 150 4 = some (.lstore_n 1, 1, 0, 0, 0, []) := rfl
theorem cd_150_5 : cd 150 5 = some (.aload_n 0, 1, 0, 0, 0, []) := rfl
theorem cd_150_6 : cd 150 6 = some (.iconst 0, 1, 0, 0, 0, []) := rfl
theorem cd_150_7 : cd 150 7 = some (.invokestatic 79, 3, 137, 2, 7, []) := rfl
theorem cd_150_10 : cd 150 10 = some (.aload_n 0, 1, 0, 0, 0, []) := rfl
theorem cd_150_11 : cd 150 11 = some (.iconst 1, 1, 0, 0, 0, []) := rfl
theorem cd_150_12 : cd 150 12 = some (.invokestatic 79, 3, 137, 2, 7, []) := rfl
theorem cd_150_15 : cd 150 15 = some (.imul, 1, 0, 0, 0, []) := rfl
theorem cd_150_16 : cd 150 16 = some (.istore_n 3, 1, 0, 0, 0, []) := rfl
theorem cd_150_17 : cd 150 17 = some (.aload_n 0, 1, 0, 0, 0, []) := rfl
theorem cd_150_18 : cd 150 18 = some (.bipush 6, 2, 0, 0, 0, []) := rfl
theorem cd_150_20 : cd 150 20 = some (.invokestatic 79, 3, 137, 2, 7, []) := rfl
theorem cd_150_23 : cd 150 23 = some (.istore 4, 2, 0, 0, 0, []) := rfl
theorem cd_150_25 : cd 150 25 = some (.aload_n 0, 1, 0, 0, 0, []) := rfl
theorem cd_150_26 : cd 150 26 = some (.iconst 1, 1, 0, 0, 0, []) := rfl
theorem cd_150_27 : cd 150 27 = some (.bipush 7, 2, 0, 0, 0, []) := rfl
theorem cd_150_29 : cd 150 29 = some (.invokestatic 98, 3, 132, 3, 7, []) := rfl
theorem cd_150_32 : cd 150 32 = some (.ldc 17, 2, 2, 0, 0, []) := rfl
theorem cd_150_34 : cd 150 34 = some (.if_icmp .ne 189, 3, 0, 0, 0, []) := rfl
theorem cd_150_37 : cd 150 37 = some (.aload_n 0, 1, 0, 0, 0, []) := rfl
theorem cd_150_38 : cd 150 38 = some (.bipush 7, 2, 0, 0, 0, []) := rfl
theorem cd_150_40 : cd 150 40 = some (.bipush 8, 2, 0, 0, 0, []) := rfl
theorem cd_150_42 : cd 150 42 = some (.invokestatic 98, 3, 132, 3, 7, []) := rfl
theorem cd_150_45 : cd 150 45 = some (.ldc 17, 2, 2, 0, 0, []) := rfl
theorem cd_150_47 : cd 150 47 = some (.if_icmp .ne 176, 3, 0, 0, 0, []) := rfl
theorem cd_150_50 : cd 150 50 = some (.aload_n 0, 1, 0, 0, 0, []) := rfl
theorem cd_150_51 : cd 150 51 = some (.iload_n 3, 1, 0, 0, 0, []) := rfl
theorem cd_150_52 : cd 150 52 = some (.bipush 97, 2, 0, 0, 0, []) := rfl
theorem cd_150_54 : cd 150 54 = some (.invokestatic 100, 3, 133, 3, 7, []) := rfl
theorem cd_150_57 : cd 150 57 = some (.ldc 23, 2, 3, 0, 0, []) := rfl
theorem cd_150_59 : cd 150 59 = some (.if_icmp .ne 164, 3, 0, 0, 0, []) := rfl
theorem cd_150_62 : cd 150 62 = some (.aload_n 0, 1, 0, 0, 0, []) := rfl
theorem cd_150_63 : cd 150 63 = some (.iconst (-1), 1, 0, 0, 0, []) := rfl
theorem cd_150_64 : cd 150 64 = some (.bipush 46, 2, 0, 0, 0, []) := rfl
theorem cd_150_66 : cd 150 66 = some (.invokestatic 100, 3, 133, 3, 7, []) := rfl
theorem cd_150_69 : cd 150 69 = some (.ldc 23, 2, 3, 0, 0, []) := rfl
theorem cd_150_71 : cd 150 71 = some (.if_icmp .ne 152, 3, 0, 0, 0, []) := rfl
theorem cd_150_74 : cd 150 74 = some (.aload_n 0, 1, 0, 0, 0, []) := rfl
theorem cd_150_75 : cd 150 75 = some (.iconst 0, 1, 0, 0, 0, []) := rfl
theorem cd_150_76 : cd 150 76 = some (.bipush 124, 2, 0, 0, 0, []) := rfl
theorem cd_150_78 : cd 150 78 = some (.invokestatic 100, 3, 133, 3, 7, []) := rfl
theorem cd_150_81 : cd 150 81 = some (.ldc 17, 2, 2, 0, 0, []) := rfl
theorem cd_150_83 : cd 150 83 = some (.if_icmp .ne 140, 3, 0, 0, 0, []) := rfl
theorem cd_150_86 : cd 150 86 = some (.aload_n 0, 1, 0, 0, 0, []) := rfl
theorem cd_150_87 : cd 150 87 = some (.iconst 0, 1, 0, 0, 0, []) := rfl
theorem cd_150_88 : cd 150 88 = some (.bipush 32, 2, 0, 0, 0, []) := rfl
theorem cd_150_90 : cd 150 90 = some (.invokestatic 100, 3, 133, 3, 7, []) := rfl
theorem cd_150_93 : cd 150 93 = some (.ldc 17, 2, 2, 0, 0, []) := rfl
theorem cd_150_95 : cd 150 95 = some (.if_icmp .ne 128, 3, 0, 0, 0, []) := rfl
theorem cd_150_98 : cd 150 98 = some (.aload_n 0, 1, 0, 0, 0, []) := rfl
theorem cd_150_99 : cd 150 99 = some (.aload_n 0, 1, 0, 0, 0, []) := rfl
theorem cd_150_100 : cd 150 100 = some (.bipush 9, 2, 0, 0, 0, []) := rfl
theorem cd_150_102 : cd 150 102 = some (.invokestatic 79, 3, 137, 2, 7, []) := rfl
theorem cd_150_105 : cd 150 105 = some (.invokestatic 102, 3, 135, 2, 7, []) := rfl
theorem cd_150_108 : cd 150 108 = some (.ldc 23, 2, 3, 0, 0, []) := rfl
theorem cd_150_110 : cd 150 110 = some (.if_icmp .ne 113, 3, 0, 0, 0, []) := rfl
theorem cd_150_113 : cd 150 113 = some (.aload_n 0, 1, 0, 0, 0, []) := rfl
theorem cd_150_114 : cd 150 114 = some (.iload_n 3, 1, 0, 0, 0, []) := rfl
theorem cd_150_115 : cd 150 115 = some (.iconst 0, 1, 0, 0, 0, []) := rfl
theorem cd_150_116 : cd 150 116 = some (.invokestatic 84, 3, 136, 3, 7, []) := rfl
theorem cd_150_119 : cd 150 119 = some (.ldc 23, 2, 3, 0, 0, []) := rfl
theorem cd_150_121 : cd 150 121 = some (.if_icmp .ne 102, 3, 0, 0, 0, []) := rfl
theorem cd_150_124 : cd 150 124 = some (.aload_n 0, 1, 0, 0, 0, []) := rfl
theorem cd_150_125 : cd 150 125 = some (.iconst 0, 1, 0, 0, 0, []) := rfl
theorem cd_150_126 : cd 150 126 = some (.iconst (-1), 1, 0, 0, 0, []) := rfl
theorem cd_150_127 : cd 150 127 = some (.invokestatic 84, 3, 136, 3, 7, []) := rfl
theorem cd_150_130 : cd 150 130 = some (.ldc 17, 2, 2, 0, 0, []) := rfl
theorem cd_150_132 : cd 150 132 = some (.if_icmp .ne 91, 3, 0, 0, 0, []) := rfl
theorem cd_150_135 : cd 150 135 = some (.aload_n 0, 1, 0, 0, 0, []) := rfl
theorem cd_150_136 : cd 150 136 = some (.iconst (-1), 1, 0, 0, 0, []) := rfl
theorem cd_150_137 : cd 150 137 = some (.invokestatic 79, 3, 137, 2, 7, []) := rfl
theorem cd_150_140 : cd 150 140 = some (.ldc 17, 2, 2, 0, 0, []) := rfl
theorem cd_150_142 : cd 150 142 = some (.if_icmp .ne 81, 3, 0, 0, 0, []) := rfl
theorem cd_150_145 : cd 150 145 = some (.aload_n 0, 1, 0, 0, 0, []) := rfl
theorem cd_150_146 : cd 150 146 = some (.aload_n 0, 1, 0, 0, 0, []) := rfl
theorem cd_150_147 : cd 150 147 = some (.bipush 9, 2, 0, 0, 0, []) := rfl
theorem cd_150_149 : cd 150 149 = some (.invokestatic 79, 3, 137, 2, 7, []) := rfl
theorem cd_150_152 : cd 150 152 = some (.iconst 0, 1, 0, 0, 0, []) := rfl
theorem cd_150_153 : cd 150 153 = some (.invokestatic 92, 3, 138, 3, 7, []) := rfl
theorem cd_150_156 : cd 150 156 = some (.ldc 23, 2, 3, 0, 0, []) := rfl
theorem cd_150_158 : cd 150 158 = some (.if_icmp .ne 65, 3, 0, 0, 0, []) := rfl
theorem cd_150_161 : cd 150 161 = some (.aload_n 0, 1, 0, 0, 0, []) := rfl
theorem cd_150_162 : cd 150 162 = some (.iload 4, 2, 0, 0, 0, []) := rfl
theorem cd_150_164 : cd 150 164 = some (.iconst 0, 1, 0, 0, 0, []) := rfl
theorem cd_150_165 : cd 150 165 = some (.invokestatic 88, 3, 139, 3, 7, []) := rfl
theorem cd_150_168 : cd 150 168 = some (.ldc 23, 2, 3, 0, 0, []) := rfl
theorem cd_150_170 : cd 150 170 = some (.if_icmp .ne 53, 3, 0, 0, 0, []) := rfl
theorem cd_150_173 : cd 150 173 = some (.aload_n 0, 1, 0, 0, 0, []) := rfl
theorem cd_150_174 : cd 150 174 = some (.iconst 0, 1, 0, 0, 0, []) := rfl
theorem cd_150_175 : cd 150 175 = some (.bipush 7, 2, 0, 0, 0, []) := rfl
theorem cd_150_177 : cd 150 177 = some (.invokestatic 88, 3, 139, 3, 7, []) := rfl
theorem cd_150_180 : cd 150 180 = some (.ldc 17, 2, 2, 0, 0, []) := rfl
theorem cd_150_182 : cd 150 182 = some (.if_icmp .ne 41, 3, 0, 0, 0, []) := rfl
theorem cd_150_185 : cd 150 185 = some (.aload_n 0, 1, 0, 0, 0, []) := rfl
theorem cd_150_186 : cd 150 186 = some (.iconst 0, 1, 0, 0, 0, []) := rfl
theorem cd_150_187 : cd 150 187 = some (.iconst (-1), 1, 0, 0, 0, []) := rfl
theorem cd_150_188 : cd 150 188 = some (.invokestatic 104, 3, 140, 3, 7, []) := rfl
theorem cd_150_191 : cd 150 191 = some (.ldc 23, 2, 3, 0, 0, []) := rfl
theorem cd_150_193 : cd 150 193 = some (.if_icmp .ne 30, 3, 0, 0, 0, []) := rfl
theorem cd_150_196 : cd 150 196 = some (.aload_n 0, 1, 0, 0, 0, []) := rfl
theorem cd_150_197 : cd 150 197 = some (.iload 4, 2, 0, 0, 0, []) := rfl
theorem cd_150_199 : cd 150 199 = some (.iconst 0, 1, 0, 0, 0, []) := rfl
theorem cd_150_200 : cd 150 200 = some (.invokestatic 104, 3, 140, 3, 7, []) := rfl
theorem cd_150_203 : cd 150 203 = some (.ldc 23, 2, 3, 0, 0, []) := rfl
theorem cd_150_205 : cd 150 205 = some (.if_icmp .ne 18, 3, 0, 0, 0, []) := rfl
theorem cd_150_208 : cd 150 208 = some (.aload_n 0, 1, 0, 0, 0, []) := rfl
theorem cd_150_209 : cd 150 209 = some (.iconst 0, 1, 0, 0, 0, []) := rfl
theorem cd_150_210 : cd 150 210 = some (.iconst (-1), 1, 0, 0, 0, []) := rfl
theorem cd_150_211 : cd 150 211 = some (.invokestatic 106, 3, 141, 3, 7, []) := rfl
theorem cd_150_214 : cd 150 214 = some (.ldc 23, 2, 3, 0, 0, []) := rfl
theorem cd_150_216 : cd 150 216 = some (.if_icmp .ne 7, 3, 0, 0, 0, []) := rfl
theorem cd_150_219 : cd 150 219 = some (.iconst 1, 1, 0, 0, 0, []) := rfl
theorem cd_150_220 : cd 150 220 = some (.goto 4, 3, 0, 0, 0, []) := rfl
theorem cd_150_223 : cd 150 223 = some (.iconst 0, 1, 0, 0, 0, [2, 3, 5]) := rfl
theorem cd_150_224 : cd 150 224 = some (.istore 5, 2, 0, 0, 0, [2, 3, 5]) := rfl
theorem cd_150_226 : cd 150 226 = some (.iload 5, 2, 0, 0, 0, []) := rfl
theorem cd_150_228 : cd 150 228 = some (.ifCond .eq 114, 3, 0, 0, 0, []) := rfl
theorem cd_150_231 : cd 150 231 = some (.aload_n 0, 1, 0, 0, 0, []) := rfl
theorem cd_150_232 : cd 150 232 = some (.iload 4, 2, 0, 0, 0, []) := rfl
theorem cd_150_234 : cd 150 234 = some (.invokestatic 90, 3, 142, 2, 7, []) := rfl
theorem cd_150_237 : cd 150 237 = some (.ldc 23, 2, 3, 0, 0, []) := rfl
theorem cd_150_239 : cd 150 239 = some (.if_icmp .ne 103, 3, 0, 0, 0, []) := rfl
theorem cd_150_242 : cd 150 242 = some (.aload_n 0, 1, 0, 0, 0, []) := rfl
theorem cd_150_243 : cd 150 243 = some (.iconst (-1), 1, 0, 0, 0, []) := rfl
theorem cd_150_244 : cd 150 244 = some (.invokestatic 108, 3, 143, 2, 7, []) := rfl
theorem cd_150_247 : cd 150 247 = some (.ldc 23, 2, 3, 0, 0, []) := rfl
theorem cd_150_249 : cd 150 249 = some (.if_icmp .ne 93, 3, 0, 0, 0, []) := rfl
theorem cd_150_252 : cd 150 252 = some (.aload_n 0, 1, 0, 0, 0, []) := rfl
theorem cd_150_253 : cd 150 253 = some (.iconst 0, 1, 0, 0, 0, []) := rfl
theorem cd_150_254 : cd 150 254 = some (.invokestatic 110, 3, 144, 2, 7, []) := rfl
theorem cd_150_257 : cd 150 257 = some (.ldc 17, 2, 2, 0, 0, []) := rfl
theorem cd_150_259 : cd 150 259 = some (.if_icmp .ne 83, 3, 0, 0, 0, []) := rfl
theorem cd_150_262 : cd 150 262 = some (.aload_n 0, 1, 0, 0, 0, []) := rfl
theorem cd_150_263 : cd 150 263 = some (.bipush 51, 2, 0, 0, 0, []) := rfl
theorem cd_150_265 : cd 150 265 = some (.invokestatic 112, 3, 145, 2, 7, []) := rfl
theorem cd_150_268 : cd 150 268 = some (.ldc 17, 2, 2, 0, 0, []) := rfl
theorem cd_150_270 : cd 150 270 = some (.if_icmp .ne 72, 3, 0, 0, 0, []) := rfl
theorem cd_150_273 : cd 150 273 = some (.aload_n 0, 1, 0, 0, 0, []) := rfl
theorem cd_150_274 : cd 150 274 = some (.iconst (-1), 1, 0, 0, 0, []) := rfl
theorem cd_150_275 : cd 150 275 = some (.invokestatic 114, 3, 146, 2, 7, []) := rfl
theorem cd_150_278 : cd 150 278 = some (.ldc 23, 2, 3, 0, 0, []) := rfl
theorem cd_150_280 : cd 150 280 = some (.if_icmp .ne 62, 3, 0, 0, 0, []) := rfl
theorem cd_150_283 : cd 150 283 = some (.aload_n 0, 1, 0, 0, 0, []) := rfl
theorem cd_150_284 : cd 150 284 = some (.sipush 128, 3, 0, 0, 0, []) := rfl
theorem cd_150_287 : cd 150 287 = some (.invokestatic 116, 3, 147, 2, 7, []) := rfl
theorem cd_150_290 : cd 150 290 = some (.ldc 17, 2, 2, 0, 0, []) := rfl
theorem cd_150_292 : cd 150 292 = some (.if_icmp .ne 50, 3, 0, 0, 0, []) := rfl
theorem cd_150_295 : cd 150 295 = some (.aload_n 0, 1, 0, 0, 0, []) := rfl
theorem cd_150_296 : cd 150 296 = some (.invokevirtual 118, 3, 102, 1, 0, []) := rfl
theorem cd_150_299 : cd 150 299 = some (.ifCond .lt 43, 3, 0, 0, 0, []) := rfl
theorem cd_150_302 : cd 150 302 = some (.aload_n 0, 1, 0, 0, 0, []) := rfl
theorem cd_150_303 : cd 150 303 = some (.invokestatic 121, 3, 134, 1, 7, []) := rfl
theorem cd_150_306 : cd 150 306 = some (.ldc 30, 2, 4, 0, 0, []) := rfl
theorem cd_150_308 : cd 150 308 = some (.if_icmp .ne 34, 3, 0, 0, 0, []) := rfl
theorem cd_150_311 : cd 150 311 = some (.aload_n 0, 1, 0, 0, 0, []) := rfl
theorem cd_150_312 : cd 150 312 = some (.bipush 65, 2, 0, 0, 0, []) := rfl
theorem cd_150_314 : cd 150 314 = some (.invokestatic 116, 3, 147, 2, 7, []) := rfl
theorem cd_150_317 : cd 150 317 = some (.iconst 1, 1, 0, 0, 0, []) := rfl
theorem cd_150_318 : cd 150 318 = some (.if_icmp .ne 24, 3, 0, 0, 0, []) := rfl
theorem cd_150_321 : cd 150 321 = some (.aload_n 0, 1, 0, 0, 0, []) := rfl
theorem cd_150_322 : cd 150 322 = some (.invokestatic 121, 3, 134, 1, 7, []) := rfl
theorem cd_150_325 : cd 150 325 = some (.ldc 30, 2, 4, 0, 0, []) := rfl
theorem cd_150_327 : cd 150 327 = some (.if_icmp .ne 15, 3, 0, 0, 0, []) := rfl
theorem cd_150_330 : cd 150 330 = some (.aload_n 0, 1, 0, 0, 0, []) := rfl
theorem cd_150_331 : cd 150 331 = some (.invokevirtual 118, 3, 102, 1, 0, []) := rfl
theorem cd_150_334 : cd 150 334 = some (.iconst 1, 1, 0, 0, 0, []) := rfl
theorem cd_150_335 : cd 150 335 = some (.if_icmp .ne 7, 3, 0, 0, 0, []) := rfl
theorem cd_150_338 : cd 150 338 = some (.iconst 1, 1, 0, 0, 0, []) := rfl
theorem cd_150_339 : cd 150 339 = some (.goto 4, 3, 0, 0, 0, []) := rfl
theorem cd_150_342 : cd 150 342 = some (.iconst 0, 1, 0, 0, 0, [2, 3, 4, 5]) := rfl
theorem cd_150_343 : cd 150 343 = some (.istore 5, 2, 0, 0, 0, [2, 3, 4, 5]) := rfl
theorem cd_150_345 : cd 150 345 = some (.iload 5, 2, 0, 0, 0, []) := rfl
theorem cd_150_347 : cd 150 347 = some (.ifCond .eq 16, 3, 0, 0, 0, []) := rfl
theorem cd_150_350 : cd 150 350 = some (.aload_n 0, 1, 0, 0, 0, []) := rfl
theorem cd_150_351 : cd 150 351 = some (.invokestatic 94, 3, 149, 1, 2, []) := rfl
theorem cd_150_354 : cd 150 354 = some (.lload_n 1, 1, 0, 0, 0, []) := rfl
theorem cd_150_355 : cd 150 355 = some (.lcmp, 1, 0, 0, 0, []) := rfl
theorem cd_150_356 : cd 150 356 = some (.ifCond .ne 7, 3, 0, 0, 0, []) := rfl
theorem cd_150_359 : cd 150 359 = some (.iconst 1, 1, 0, 0, 0, []) := rfl
theorem cd_150_360 : cd 150 360 = some (.goto 4, 3, 0, 0, 0, []) := rfl
theorem cd_150_363 : cd 150 363 = some (.iconst 0, 1, 0, 0, 0, [0, 1, 2, 3, 4, 5]) := rfl
theorem cd_150_364 : cd 150 364 = some (.ireturn, 1, 0, 0, 0, [0, 1, 2, 3, 4, 5]) := rfl
