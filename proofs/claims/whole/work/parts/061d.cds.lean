/-! ===== the code table, row by row: by program (wip/whole/gen4.py) ===== -/
theorem cd_130_0 : cd 130 0 = some (.aload_n 0, 1, 0, 0, 0, []) := rfl
theorem cd_130_1 : cd 130 1 = some (.invokespecial 1, 3, 0, 1, 6, []) := rfl
theorem cd_130_4 : cd 130 4 = some (.aload_n 0, 1, 0, 0, 0, []) := rfl
theorem cd_130_5 : cd 130 5 = some (.bipush 124, 2, 0, 0, 0, []) := rfl
theorem cd_130_7 : cd 130 7 = some (.newarray .int, 2, 0, 0, 0, []) := rfl
theorem cd_130_9 : cd 130 9 = some (.putfield 7, 3, 9, 0, 0, []) := rfl
theorem cd_130_12 : cd 130 12 = some (.aload_n 0, 1, 0, 0, 0, []) := rfl
theorem cd_130_13 : cd 130 13 = some (.sipush 496, 3, 0, 0, 0, []) := rfl
theorem cd_130_16 : cd 130 16 = some (.newarray .int, 2, 0, 0, 0, []) := rfl
theorem cd_130_18 : cd 130 18 = some (.putfield 13, 3, 9, 1, 0, []) := rfl
theorem cd_130_21 : cd 130 21 = some (.aload_n 0, 1, 0, 0, 0, []) := rfl
theorem cd_130_22 : cd 130 22 = some (.bipush 124, 2, 0, 0, 0, []) := rfl
theorem cd_130_24 : cd 130 24 = some (.newarray .int, 2, 0, 0, 0, []) := rfl
theorem cd_130_26 : cd 130 26 = some (.putfield 16, 3, 9, 2, 0, []) := rfl
theorem cd_130_29 : cd 130 29 = some (.aload_n 0, 1, 0, 0, 0, []) := rfl
theorem cd_130_30 : cd 130 30 = some (.bipush 60, 2, 0, 0, 0, []) := rfl
theorem cd_130_32 : cd 130 32 = some (.newarray .int, 2, 0, 0, 0, []) := rfl
theorem cd_130_34 : cd 130 34 = some (.putfield 19, 3, 9, 5, 0, []) := rfl
theorem cd_130_37 : cd 130 37 = some (.aload_n 0, 1, 0, 0, 0, []) := rfl
theorem cd_130_38 : cd 130 38 = some (.sipush 128, 3, 0, 0, 0, []) := rfl
theorem cd_130_41 : cd 130 41 = some (.newarray .int, 2, 0, 0, 0, []) := rfl
theorem cd_130_43 : cd 130 43 = some (.putfield 22, 3, 9, 7, 0, []) := rfl
theorem cd_130_46 : cd 130 46 = some (.aload_n 0, 1, 0, 0, 0, []) := rfl
theorem cd_130_47 : cd 130 47 = some (.sipush 128, 3, 0, 0, 0, []) := rfl
theorem cd_130_50 : cd 130 50 = some (.newarray .boolean, 2, 0, 0, 0, []) := rfl
theorem cd_130_52 : cd 130 52 = some (.putfield 25, 3, 9, 8, 0, []) := rfl
theorem cd_130_55 : cd 130 55 = some (.aload_n 0, 1, 0, 0, 0, []) := rfl
theorem cd_130_56 : cd 130 56 = some (.sipush 400, 3, 0, 0, 0, []) := rfl
theorem cd_130_59 : cd 130 59 = some (.newarray .int, 2, 0, 0, 0, []) := rfl
theorem cd_130_61 : cd 130 61 = some (.putfield 29, 3, 9, 12, 0, []) := rfl
theorem cd_130_64 : cd 130 64 = some (.aload_n 0, 1, 0, 0, 0, []) := rfl
theorem cd_130_65 : cd 130 65 = some (.sipush 400, 3, 0, 0, 0, []) := rfl
theorem cd_130_68 : cd 130 68 = some (.newarray .int, 2, 0, 0, 0, []) := rfl
theorem cd_130_70 : cd 130 70 = some (.putfield 32, 3, 9, 15, 0, []) := rfl
theorem cd_130_73 : cd 130 73 = some (.aload_n 0, 1, 0, 0, 0, []) := rfl
theorem cd_130_74 : cd 130 74 = some (.bipush 28, 2, 0, 0, 0, []) := rfl
theorem cd_130_76 : cd 130 76 = some (.newarray .int, 2, 0, 0, 0, []) := rfl
theorem cd_130_78 : cd 130 78 = some (.putfield 35, 3, 9, 16, 0, []) := rfl
theorem cd_130_81 : cd 130 81 = some (.aload_n 0, 1, 0, 0, 0, []) := rfl
theorem cd_130_82 : cd 130 82 = some (.bipush 28, 2, 0, 0, 0, []) := rfl
theorem cd_130_84 : cd 130 84 = some (.newarray .long, 2, 0, 0, 0, []) := rfl
theorem cd_130_86 : cd 130 86 = some (.putfield 38, 3, 9, 17, 0, []) := rfl
theorem cd_130_89 : cd 130 89 = some (.aload_n 0, 1, 0, 0, 0, []) := rfl
theorem cd_130_90 : cd 130 90 = some (.bipush 50, 2, 0, 0, 0, []) := rfl
theorem cd_130_92 : cd 130 92 = some (.newarray .long, 2, 0, 0, 0, []) := rfl
theorem cd_130_94 : cd 130 94 = some (.putfield 42, 3, 9, 19, 0, []) := rfl
theorem cd_130_97 : cd 130 97 = some (.aload_n 0, 1, 0, 0, 0, []) := rfl
theorem cd_130_98 : cd 130 98 = some (.bipush 50, 2, 0, 0, 0, []) := rfl
theorem cd_130_100 : cd 130 100 = some (.newarray .int, 2, 0, 0, 0, []) := rfl
theorem cd_130_102 : cd 130 102 = some (.putfield 45, 3, 9, 20, 0, []) := rfl
theorem cd_130_105 : cd 130 105 = some (.aload_n 0, 1, 0, 0, 0, []) := rfl
theorem cd_130_106 : cd 130 106 = some (.bipush 50, 2, 0, 0, 0, []) := rfl
theorem cd_130_108 : cd 130 108 = some (.newarray .int, 2, 0, 0, 0, []) := rfl
theorem cd_130_110 : cd 130 110 = some (.putfield 48, 3, 9, 21, 0, []) := rfl
theorem cd_130_113 : cd 130 113 = some (.aload_n 0, 1, 0, 0, 0, []) := rfl
theorem cd_130_114 : cd 130 114 = some (.bipush 50, 2, 0, 0, 0, []) := rfl
theorem cd_130_116 : cd 130 116 = some (.newarray .int, 2, 0, 0, 0, []) := rfl
theorem cd_130_118 : cd 130 118 = some (.putfield 51, 3, 9, 26, 0, []) := rfl
theorem cd_130_121 : cd 130 121 = some (.aload_n 0, 1, 0, 0, 0, []) := rfl
theorem cd_130_122 : cd 130 122 = some (.iconst 4, 1, 0, 0, 0, []) := rfl
theorem cd_130_123 : cd 130 123 = some (.iconst 4, 1, 0, 0, 0, []) := rfl
theorem cd_130_124 : cd 130 124 = some (.invokevirtual 54, 3, 136, 3, 0, []) := rfl
theorem cd_130_127 : cd 130 127 = some (.return_, 1, 0, 0, 0, []) := rfl
theorem cd_131_0 : cd 131 0 = some (.aload_n 0, 1, 0, 0, 0, []) := rfl
theorem cd_131_1 : cd 131 1 = some (.getfield 58, 3, 9, 4, 0, []) := rfl
theorem cd_131_4 : cd 131 4 = some (.ireturn, 1, 0, 0, 0, []) := rfl
theorem cd_132_0 : cd 132 0 = some (.aload_n 0, 1, 0, 0, 0, []) := rfl
theorem cd_132_1 : cd 132 1 = some (.iload_n 1, 1, 0, 0, 0, []) := rfl
theorem cd_132_2 : cd 132 2 = some (.putfield 58, 3, 9, 4, 0, []) := rfl
theorem cd_132_5 : cd 132 5 = some (.iload_n 1, 1, 0, 0, 0, []) := rfl
theorem cd_132_6 : cd 132 6 = some (.ifCond .le 7, 3, 0, 0, 0, []) := rfl
theorem cd_132_9 : cd 132 9 = some (.iconst 1, 1, 0, 0, 0, []) := rfl
theorem cd_132_10 : cd 132 10 = some (.goto 4, 3, 0, 0, 0, []) := rfl
theorem cd_132_13 : cd 132 13 = some (.iconst 0, 1, 0, 0, 0, []) := rfl
theorem cd_132_14 : cd 132 14 = some (.ireturn, 1, 0, 0, 0, []) := rfl
theorem cd_133_0 : cd 133 0 = some (.iload_n 0, 1, 0, 0, 0, []) := rfl
theorem cd_133_1 : cd 133 1 = some (.iload_n 1, 1, 0, 0, 0, []) := rfl
theorem cd_133_2 : cd 133 2 = some (.if_icmp .lt 12, 3, 0, 0, 0, []) := rfl
theorem cd_133_5 : cd 133 5 = some (.iload_n 0, 1, 0, 0, 0, []) := rfl
theorem cd_133_6 : cd 133 6 = some (.iload_n 2, 1, 0, 0, 0, []) := rfl
theorem cd_133_7 : cd 133 7 = some (.if_icmp .gt 7, 3, 0, 0, 0, []) := rfl
theorem cd_133_10 : cd 133 10 = some (.iconst 1, 1, 0, 0, 0, []) := rfl
theorem cd_133_11 : cd 133 11 = some (.goto 4, 3, 0, 0, 0, []) := rfl
theorem cd_133_14 : cd 133 14 = some (.iconst 0, 1, 0, 0, 0, []) := rfl
theorem cd_133_15 : cd 133 15 = some (.ireturn, 1, 0, 0, 0, []) := rfl
theorem cd_134_0 : cd 134 0 = some (.aload_n 0, 1, 0, 0, 0, []) := rfl
theorem cd_134_1 : cd 134 1 = some (.getfield 62, 3, 9, 3, 0, []) := rfl
theorem cd_134_4 : cd 134 4 = some (.iconst 4, 1, 0, 0, 0, []) := rfl
theorem cd_134_5 : cd 134 5 = some (.if_icmp .ne 43, 3, 0, 0, 0, []) := rfl
theorem cd_134_8 : cd 134 8 = some (.iconst 0, 1, 0, 0, 0, []) := rfl
theorem cd_134_9 : cd 134 9 = some (.istore_n 1, 1, 0, 0, 0, []) := rfl
theorem cd_134_10 : cd 134 10 = some (.iload_n 1, 1, 0, 0, 0, []) := rfl
theorem cd_134_11 : cd 134 11 = some (.sipush 372, 3, 0, 0, 0, []) := rfl
theorem cd_134_14 : cd 134 14 = some (.if_icmp .ge 24, 3, 0, 0, 0, []) := rfl
theorem cd_134_17 : cd 134 17 = some (.aload_n 0, 1, 0, 0, 0, []) := rfl
theorem cd_134_18 : cd 134 18 = some (.getfield 13, 3, 9, 1, 0, []) := rfl
theorem cd_134_21 : cd 134 21 = some (.iload_n 1, 1, 0, 0, 0, []) := rfl
theorem cd_134_22 : cd 134 22 = some (.aload_n 0, 1, 0, 0, 0, []) := rfl
theorem cd_134_23 : cd 134 23 = some (.getfield 13, 3, 9, 1, 0, []) := rfl
theorem cd_134_26 : cd 134 26 = some (.iload_n 1, 1, 0, 0, 0, []) := rfl
theorem cd_134_27 : cd 134 27 = some (.bipush 124, 2, 0, 0, 0, []) := rfl
theorem cd_134_29 : cd 134 29 = some (.iadd, 1, 0, 0, 0, []) := rfl
theorem cd_134_30 : cd 134 30 = some (.iaload, 1, 0, 0, 0, []) := rfl
theorem cd_134_31 : cd 134 31 = some (.iastore, 1, 0, 0, 0, []) := rfl
theorem cd_134_32 : cd 134 32 = some (.iinc 1 1, 3, 0, 0, 0, []) := rfl
theorem cd_134_35 : cd 134 35 = some (.goto (-25), 3, 0, 0, 0, []) := rfl
theorem cd_134_38 : cd 134 38 = some (.aload_n 0, 1, 0, 0, 0, []) := rfl
theorem cd_134_39 : cd 134 39 = some (.dup, 1, 0, 0, 0, []) := rfl
theorem cd_134_40 : cd 134 40 = some (.getfield 62, 3, 9, 3, 0, []) := rfl
theorem cd_134_43 : cd 134 43 = some (.iconst 1, 1, 0, 0, 0, []) := rfl
theorem cd_134_44 : cd 134 44 = some (.isub, 1, 0, 0, 0, []) := rfl
theorem cd_134_45 : cd 134 45 = some (.putfield 62, 3, 9, 3, 0, []) := rfl
theorem cd_134_48 : cd 134 48 = some (.iconst 0, 1, 0, 0, 0, []) := rfl
theorem cd_134_49 : cd 134 49 = some (.istore_n 1, 1, 0, 0, 0, []) := rfl
theorem cd_134_50 : cd 134 50 = some (.iload_n 1, 1, 0, 0, 0, []) := rfl
theorem cd_134_51 : cd 134 51 = some (.bipush 124, 2, 0, 0, 0, []) := rfl
theorem cd_134_53 : cd 134 53 = some (.if_icmp .ge 29, 3, 0, 0, 0, []) := rfl
theorem cd_134_56 : cd 134 56 = some (.aload_n 0, 1, 0, 0, 0, []) := rfl
theorem cd_134_57 : cd 134 57 = some (.getfield 13, 3, 9, 1, 0, []) := rfl
theorem cd_134_60 : cd 134 60 = some (.bipush 124, 2, 0, 0, 0, []) := rfl
theorem cd_134_62 : cd 134 62 = some (.aload_n 0, 1, 0, 0, 0, []) := rfl
theorem cd_134_63 : cd 134 63 = some (.getfield 62, 3, 9, 3, 0, []) := rfl
theorem cd_134_66 : cd 134 66 = some (.imul, 1, 0, 0, 0, []) := rfl
theorem cd_134_67 : cd 134 67 = some (.iload_n 1, 1, 0, 0, 0, []) := rfl
theorem cd_134_68 : cd 134 68 = some (.iadd, 1, 0, 0, 0, []) := rfl
theorem cd_134_69 : cd 134 69 = some (.aload_n 0, 1, 0, 0, 0, []) := rfl
theorem cd_134_70 : cd 134 70 = some (.getfield 7, 3, 9, 0, 0, []) := rfl
theorem cd_134_73 : cd 134 73 = some (.iload_n 1, 1, 0, 0, 0, []) := rfl
theorem cd_134_74 : cd 134 74 = some (.iaload, 1, 0, 0, 0, []) := rfl
theorem cd_134_75 : cd 134 75 = some (.iastore, 1, 0, 0, 0, []) := rfl
theorem cd_134_76 : cd 134 76 = some (.iinc 1 1, 3, 0, 0, 0, []) := rfl
theorem cd_134_79 : cd 134 79 = some (.goto (-29), 3, 0, 0, 0, []) := rfl
theorem cd_134_82 : cd 134 82 = some (.aload_n 0, 1, 0, 0, 0, []) := rfl
theorem cd_134_83 : cd 134 83 = some (.dup, 1, 0, 0, 0, []) := rfl
theorem cd_134_84 : cd 134 84 = some (.getfield 62, 3, 9, 3, 0, []) := rfl
theorem cd_134_87 : cd 134 87 = some (.iconst 1, 1, 0, 0, 0, []) := rfl
theorem cd_134_88 : cd 134 88 = some (.iadd, 1, 0, 0, 0, []) := rfl
theorem cd_134_89 : cd 134 89 = some (.putfield 62, 3, 9, 3, 0, []) := rfl
theorem cd_134_92 : cd 134 92 = some (.return_, 1, 0, 0, 0, []) := rfl
theorem cd_135_0 : cd 135 0 = some (.aload_n 0, 1, 0, 0, 0, []) := rfl
theorem cd_135_1 : cd 135 1 = some (.aload_n 0, 1, 0, 0, 0, []) := rfl
theorem cd_135_2 : cd 135 2 = some (.getfield 62, 3, 9, 3, 0, []) := rfl
theorem cd_135_5 : cd 135 5 = some (.ifCond .ne 7, 3, 0, 0, 0, []) := rfl
theorem cd_135_8 : cd 135 8 = some (.iconst 1, 1, 0, 0, 0, []) := rfl
theorem cd_135_9 : cd 135 9 = some (.goto 4, 3, 0, 0, 0, []) := rfl
theorem cd_135_12 : cd 135 12 = some (.iconst 0, 1, 0, 0, 0, []) := rfl
theorem cd_135_13 : cd 135 13 = some (.invokevirtual 65, 3, 132, 2, 0, []) := rfl
theorem cd_135_16 : cd 135 16 = some (.ifCond .eq 5, 3, 0, 0, 0, []) := rfl
theorem cd_135_19 : cd 135 19 = some (.iconst 0, 1, 0, 0, 0, []) := rfl
theorem cd_135_20 : cd 135 20 = some (.ireturn, 1, 0, 0, 0, []) := rfl
theorem cd_135_21 : cd 135 21 = some (.aload_n 0, 1, 0, 0, 0, []) := rfl
theorem cd_135_22 : cd 135 22 = some (.dup, 1, 0, 0, 0, []) := rfl
theorem cd_135_23 : cd 135 23 = some (.getfield 62, 3, 9, 3, 0, []) := rfl
theorem cd_135_26 : cd 135 26 = some (.iconst 1, 1, 0, 0, 0, []) := rfl
theorem cd_135_27 : cd 135 27 = some (.isub, 1, 0, 0, 0, []) := rfl
theorem cd_135_28 : cd 135 28 = some (.putfield 62, 3, 9, 3, 0, []) := rfl
theorem cd_135_31 : cd 135 31 = some (.iconst 0, 1, 0, 0, 0, []) := rfl
theorem cd_135_32 : cd 135 32 = some (.istore_n 1, 1, 0, 0, 0, []) := rfl
theorem cd_135_33 : cd 135 33 = some (.iload_n 1, 1, 0, 0, 0, []) := rfl
theorem cd_135_34 : cd 135 34 = some (.bipush 124, 2, 0, 0, 0, []) := rfl
theorem cd_135_36 : cd 135 36 = some (.if_icmp .ge 29, 3, 0, 0, 0, []) := rfl
theorem cd_135_39 : cd 135 39 = some (.aload_n 0, 1, 0, 0, 0, []) := rfl
theorem cd_135_40 : cd 135 40 = some (.getfield 7, 3, 9, 0, 0, []) := rfl
theorem cd_135_43 : cd 135 43 = some (.iload_n 1, 1, 0, 0, 0, []) := rfl
theorem cd_135_44 : cd 135 44 = some (.aload_n 0, 1, 0, 0, 0, []) := rfl
theorem cd_135_45 : cd 135 45 = some (.getfield 13, 3, 9, 1, 0, []) := rfl
theorem cd_135_48 : cd 135 48 = some (.bipush 124, 2, 0, 0, 0, []) := rfl
theorem cd_135_50 : cd 135 50 = some (.aload_n 0, 1, 0, 0, 0, []) := rfl
theorem cd_135_51 : cd 135 51 = some (.getfield 62, 3, 9, 3, 0, []) := rfl
theorem cd_135_54 : cd 135 54 = some (.imul, 1, 0, 0, 0, []) := rfl
theorem cd_135_55 : cd 135 55 = some (.iload_n 1, 1, 0, 0, 0, []) := rfl
theorem cd_135_56 : cd 135 56 = some (.iadd, 1, 0, 0, 0, []) := rfl
theorem cd_135_57 : cd 135 57 = some (.iaload, 1, 0, 0, 0, []) := rfl
theorem cd_135_58 : cd 135 58 = some (.iastore, 1, 0, 0, 0, []) := rfl
theorem cd_135_59 : cd 135 59 = some (.iinc 1 1, 3, 0, 0, 0, []) := rfl
theorem cd_135_62 : cd 135 62 = some (.goto (-29), 3, 0, 0, 0, []) := rfl
theorem cd_135_65 : cd 135 65 = some (.aload_n 0, 1, 0, 0, 0, []) := rfl
theorem cd_135_66 : cd 135 66 = some (.getfield 62, 3, 9, 3, 0, []) := rfl
theorem cd_135_69 : cd 135 69 = some (.ireturn, 1, 0, 0, 0, []) := rfl
theorem cd_136_0 : cd 136 0 = some (.aload_n 0, 1, 0, 0, 0, []) := rfl
theorem cd_136_1 : cd 136 1 = some (.getfield 7, 3, 9, 0, 0, []) := rfl
theorem cd_136_4 : cd 136 4 = some (.iconst 0, 1, 0, 0, 0, []) := rfl
theorem cd_136_5 : cd 136 5 = some (.iload_n 1, 1, 0, 0, 0, []) := rfl
theorem cd_136_6 : cd 136 6 = some (.iastore, 1, 0, 0, 0, []) := rfl
theorem cd_136_7 : cd 136 7 = some (.aload_n 0, 1, 0, 0, 0, []) := rfl
theorem cd_136_8 : cd 136 8 = some (.getfield 7, 3, 9, 0, 0, []) := rfl
theorem cd_136_11 : cd 136 11 = some (.iconst 1, 1, 0, 0, 0, []) := rfl
theorem cd_136_12 : cd 136 12 = some (.iload_n 2, 1, 0, 0, 0, []) := rfl
theorem cd_136_13 : cd 136 13 = some (.iastore, 1, 0, 0, 0, []) := rfl
theorem cd_136_14 : cd 136 14 = some (.iconst 0, 1, 0, 0, 0, []) := rfl
theorem cd_136_15 : cd 136 15 = some (.istore_n 3, 1, 0, 0, 0, []) := rfl
theorem cd_136_16 : cd 136 16 = some (.iload_n 3, 1, 0, 0, 0, [1, 2]) := rfl
theorem cd_136_17 : cd 136 17 = some (.bipush 49, 2, 0, 0, 0, []) := rfl
theorem cd_136_19 : cd 136 19 = some (.if_icmp .ge 19, 3, 0, 0, 0, []) := rfl
theorem cd_136_22 : cd 136 22 = some (.aload_n 0, 1, 0, 0, 0, []) := rfl
theorem cd_136_23 : cd 136 23 = some (.getfield 7, 3, 9, 0, 0, []) := rfl
theorem cd_136_26 : cd 136 26 = some (.iconst 2, 1, 0, 0, 0, []) := rfl
theorem cd_136_27 : cd 136 27 = some (.iload_n 3, 1, 0, 0, 0, []) := rfl
theorem cd_136_28 : cd 136 28 = some (.iadd, 1, 0, 0, 0, []) := rfl
theorem cd_136_29 : cd 136 29 = some (.bipush 46, 2, 0, 0, 0, []) := rfl
theorem cd_136_31 : cd 136 31 = some (.iastore, 1, 0, 0, 0, []) := rfl
theorem cd_136_32 : cd 136 32 = some (.iinc 3 1, 3, 0, 0, 0, []) := rfl
theorem cd_136_35 : cd 136 35 = some (.goto (-19), 3, 0, 0, 0, []) := rfl
theorem cd_136_38 : cd 136 38 = some (.return_, 1, 0, 0, 0, []) := rfl
theorem cd_137_0 : cd 137 0 = some (.aload_n 0, 1, 0, 0, 0, []) := rfl
theorem cd_137_1 : cd 137 1 = some (.getfield 7, 3, 9, 0, 0, []) := rfl
theorem cd_137_4 : cd 137 4 = some (.iconst 0, 1, 0, 0, 0, []) := rfl
theorem cd_137_5 : cd 137 5 = some (.iaload, 1, 0, 0, 0, []) := rfl
theorem cd_137_6 : cd 137 6 = some (.aload_n 0, 1, 0, 0, 0, []) := rfl
theorem cd_137_7 : cd 137 7 = some (.getfield 7, 3, 9, 0, 0, []) := rfl
theorem cd_137_10 : cd 137 10 = some (.iconst 1, 1, 0, 0, 0, []) := rfl
theorem cd_137_11 : cd 137 11 = some (.iaload, 1, 0, 0, 0, []) := rfl
theorem cd_137_12 : cd 137 12 = some (.imul, 1, 0, 0, 0, []) := rfl
theorem cd_137_13 : cd 137 13 = some (.ireturn, 1, 0, 0, 0, []) := rfl
theorem cd_138_0 : cd 138 0 = some (.iconst 2, 1, 0, 0, 0, []) := rfl
theorem cd_138_1 : cd 138 1 = some (.aload_n 0, 1, 0, 0, 0, []) := rfl
theorem cd_138_2 : cd 138 2 = some (.getfield 7, 3, 9, 0, 0, []) := rfl
theorem cd_138_5 : cd 138 5 = some (.iconst 0, 1, 0, 0, 0, []) := rfl
theorem cd_138_6 : cd 138 6 = some (.iaload, 1, 0, 0, 0, []) := rfl
theorem cd_138_7 : cd 138 7 = some (.aload_n 0, 1, 0, 0, 0, []) := rfl
theorem cd_138_8 : cd 138 8 = some (.getfield 7, 3, 9, 0, 0, []) := rfl
theorem cd_138_11 : cd 138 11 = some (.iconst 1, 1, 0, 0, 0, []) := rfl
theorem cd_138_12 : cd 138 12 = some (.iaload, 1, 0, 0, 0, []) := rfl
theorem cd_138_13 : cd 138 13 = some (.iadd, 1, 0, 0, 0, []) := rfl
theorem cd_138_14 : cd 138 14 = some (.imul, 1, 0, 0, 0, []) := rfl
theorem cd_138_15 : cd 138 15 = some (.ireturn, 1, 0, 0, 0, []) := rfl
theorem cd_139_0 : cd 139 0 = some (.aload_n 0, 1, 0, 0, 0, []) := rfl
theorem cd_139_1 : cd 139 1 = some (.getfield 7, 3, 9, 0, 0, []) := rfl
theorem cd_139_4 : cd 139 4 = some (.iconst 2, 1, 0, 0, 0, []) := rfl
theorem cd_139_5 : cd 139 5 = some (.iload_n 1, 1, 0, 0, 0, []) := rfl
theorem cd_139_6 : cd 139 6 = some (.iadd, 1, 0, 0, 0, []) := rfl
theorem cd_139_7 : cd 139 7 = some (.iaload, 1, 0, 0, 0, []) := rfl
theorem cd_139_8 : cd 139 8 = some (.ireturn, 1, 0, 0, 0, []) := rfl
theorem cd_140_0 : cd 140 0 = some (.iload_n 1, 1, 0, 0, 0, []) := rfl
theorem cd_140_1 : cd 140 1 = some (.iconst 0, 1, 0, 0, 0, []) := rfl
theorem cd_140_2 : cd 140 2 = some (.aload_n 0, 1, 0, 0, 0, []) := rfl
theorem cd_140_3 : cd 140 3 = some (.invokevirtual 69, 3, 137, 1, 0, []) := rfl
theorem cd_140_6 : cd 140 6 = some (.iconst 1, 1, 0, 0, 0, []) := rfl
theorem cd_140_7 : cd 140 7 = some (.isub, 1, 0, 0, 0, []) := rfl
theorem cd_140_8 : cd 140 8 = some (.invokestatic 73, 3, 133, 3, 2, []) := rfl
theorem cd_140_11 : cd 140 11 = some (.ireturn, 1, 0, 0, 0, []) := rfl
theorem cd_141_0 : cd 141 0 = some (.iload_n 0, 1, 0, 0, 0, []) := rfl
theorem cd_141_1 : cd 141 1 = some (.bipush 46, 2, 0, 0, 0, []) := rfl
theorem cd_141_3 : cd 141 3 = some (.if_icmp .eq 49, 3, 0, 0, 0, []) := rfl
theorem cd_141_6 : cd 141 6 = some (.iload_n 0, 1, 0, 0, 0, []) := rfl
theorem cd_141_7 : cd 141 7 = some (.bipush 47, 2, 0, 0, 0, []) := rfl
theorem cd_141_9 : cd 141 9 = some (.if_icmp .eq 43, 3, 0, 0, 0, []) := rfl
theorem cd_141_12 : cd 141 12 = some (.iload_n 0, 1, 0, 0, 0, []) := rfl
theorem cd_141_13 : cd 141 13 = some (.bipush 92, 2, 0, 0, 0, []) := rfl
theorem cd_141_15 : cd 141 15 = some (.if_icmp .eq 37, 3, 0, 0, 0, []) := rfl
theorem cd_141_18 : cd 141 18 = some (.iload_n 0, 1, 0, 0, 0, []) := rfl
theorem cd_141_19 : cd 141 19 = some (.bipush 35, 2, 0, 0, 0, []) := rfl
theorem cd_141_21 : cd 141 21 = some (.if_icmp .eq 31, 3, 0, 0, 0, []) := rfl
theorem cd_141_24 : cd 141 24 = some (.iload_n 0, 1, 0, 0, 0, []) := rfl
theorem cd_141_25 : cd 141 25 = some (.bipush 58, 2, 0, 0, 0, []) := rfl
theorem cd_141_27 : cd 141 27 = some (.if_icmp .eq 25, 3, 0, 0, 0, []) := rfl
theorem cd_141_30 : cd 141 30 = some (.iload_n 0, 1, 0, 0, 0, []) := rfl
theorem cd_141_31 : cd 141 31 = some (.bipush 97, 2, 0, 0, 0, []) := rfl
theorem cd_141_33 : cd 141 33 = some (.bipush 122, 2, 0, 0, 0, []) := rfl
theorem cd_141_35 : cd 141 35 = some (.invokestatic 73, 3, 133, 3, 2, []) := rfl
theorem cd_141_38 : cd 141 38 = some (.ifCond .ne 14, 3, 0, 0, 0, []) := rfl
theorem cd_141_41 : cd 141 41 = some (.iload_n 0, 1, 0, 0, 0, []) := rfl
theorem cd_141_42 : cd 141 42 = some (.bipush 65, 2, 0, 0, 0, []) := rfl
theorem cd_141_44 : cd 141 44 = some (.bipush 90, 2, 0, 0, 0, []) := rfl
theorem cd_141_46 : cd 141 46 = some (.invokestatic 73, 3, 133, 3, 2, []) := rfl
theorem cd_141_49 : cd 141 49 = some (.ifCond .eq 7, 3, 0, 0, 0, []) := rfl
theorem cd_141_52 : cd 141 52 = some (.iconst 1, 1, 0, 0, 0, []) := rfl
theorem cd_141_53 : cd 141 53 = some (.goto 4, 3, 0, 0, 0, []) := rfl
theorem cd_141_56 : cd 141 56 = some (.iconst 0, 1, 0, 0, 0, []) := rfl
theorem cd_141_57 : cd 141 57 = some (.ireturn, 1, 0, 0, 0, []) := rfl
theorem cd_142_0 : cd 142 0 = some (.iload_n 0, 1, 0, 0, 0, []) := rfl
theorem cd_142_1 : cd 142 1 = some (.bipush 65, 2, 0, 0, 0, []) := rfl
theorem cd_142_3 : cd 142 3 = some (.bipush 90, 2, 0, 0, 0, []) := rfl
theorem cd_142_5 : cd 142 5 = some (.invokestatic 73, 3, 133, 3, 2, []) := rfl
theorem cd_142_8 : cd 142 8 = some (.ireturn, 1, 0, 0, 0, []) := rfl
theorem cd_143_0 : cd 143 0 = some (.iload_n 0, 1, 0, 0, 0, []) := rfl
theorem cd_143_1 : cd 143 1 = some (.bipush 97, 2, 0, 0, 0, []) := rfl
theorem cd_143_3 : cd 143 3 = some (.bipush 122, 2, 0, 0, 0, []) := rfl
theorem cd_143_5 : cd 143 5 = some (.invokestatic 73, 3, 133, 3, 2, []) := rfl
theorem cd_143_8 : cd 143 8 = some (.ifCond .ne 10, 3, 0, 0, 0, []) := rfl
theorem cd_143_11 : cd 143 11 = some (.iload_n 0, 1, 0, 0, 0, []) := rfl
theorem cd_143_12 : cd 143 12 = some (.invokestatic 77, 3, 142, 1, 2, []) := rfl
theorem cd_143_15 : cd 143 15 = some (.ifCond .eq 7, 3, 0, 0, 0, []) := rfl
theorem cd_143_18 : cd 143 18 = some (.iconst 1, 1, 0, 0, 0, []) := rfl
theorem cd_143_19 : cd 143 19 = some (.goto 4, 3, 0, 0, 0, []) := rfl
theorem cd_143_22 : cd 143 22 = some (.iconst 0, 1, 0, 0, 0, []) := rfl
theorem cd_143_23 : cd 143 23 = some (.ireturn, 1, 0, 0, 0, []) := rfl
theorem cd_144_0 : cd 144 0 = some (.iload_n 0, 1, 0, 0, 0, []) := rfl
theorem cd_144_1 : cd 144 1 = some (.bipush 47, 2, 0, 0, 0, []) := rfl
theorem cd_144_3 : cd 144 3 = some (.if_icmp .eq 9, 3, 0, 0, 0, []) := rfl
theorem cd_144_6 : cd 144 6 = some (.iload_n 0, 1, 0, 0, 0, []) := rfl
theorem cd_144_7 : cd 144 7 = some (.bipush 92, 2, 0, 0, 0, []) := rfl
theorem cd_144_9 : cd 144 9 = some (.if_icmp .ne 7, 3, 0, 0, 0, []) := rfl
theorem cd_144_12 : cd 144 12 = some (.iconst 1, 1, 0, 0, 0, []) := rfl
theorem cd_144_13 : cd 144 13 = some (.goto 4, 3, 0, 0, 0, []) := rfl
theorem cd_144_16 : cd 144 16 = some (.iconst 0, 1, 0, 0, 0, []) := rfl
theorem cd_144_17 : cd 144 17 = some (.ireturn, 1, 0, 0, 0, []) := rfl
theorem cd_145_0 : cd 145 0 = some (.iload_n 0, 1, 0, 0, 0, []) := rfl
theorem cd_145_1 : cd 145 1 = some (.iconst 2, 1, 0, 0, 0, []) := rfl
theorem cd_145_2 : cd 145 2 = some (.bipush 7, 2, 0, 0, 0, []) := rfl
theorem cd_145_4 : cd 145 4 = some (.invokestatic 73, 3, 133, 3, 2, []) := rfl
theorem cd_145_7 : cd 145 7 = some (.ireturn, 1, 0, 0, 0, []) := rfl
theorem cd_146_0 : cd 146 0 = some (.aload_n 0, 1, 0, 0, 0, []) := rfl
theorem cd_146_1 : cd 146 1 = some (.iload_n 1, 1, 0, 0, 0, []) := rfl
theorem cd_146_2 : cd 146 2 = some (.invokestatic 80, 3, 145, 1, 2, []) := rfl
theorem cd_146_5 : cd 146 5 = some (.ifCond .eq 14, 3, 0, 0, 0, []) := rfl
theorem cd_146_8 : cd 146 8 = some (.iload_n 2, 1, 0, 0, 0, []) := rfl
theorem cd_146_9 : cd 146 9 = some (.invokestatic 80, 3, 145, 1, 2, []) := rfl
theorem cd_146_12 : cd 146 12 = some (.ifCond .eq 7, 3, 0, 0, 0, []) := rfl
theorem cd_146_15 : cd 146 15 = some (.iconst 0, 1, 0, 0, 0, []) := rfl
theorem cd_146_16 : cd 146 16 = some (.goto 4, 3, 0, 0, 0, []) := rfl
theorem cd_146_19 : cd 146 19 = some (.iconst 1, 1, 0, 0, 0, []) := rfl
theorem cd_146_20 : cd 146 20 = some (.invokevirtual 65, 3, 132, 2, 0, []) := rfl
theorem cd_146_23 : cd 146 23 = some (.ifCond .eq 5, 3, 0, 0, 0, []) := rfl
theorem cd_146_26 : cd 146 26 = some (.iconst 0, 1, 0, 0, 0, []) := rfl
theorem cd_146_27 : cd 146 27 = some (.ireturn, 1, 0, 0, 0, []) := rfl
theorem cd_146_28 : cd 146 28 = some (.aload_n 0, 1, 0, 0, 0, []) := rfl
theorem cd_146_29 : cd 146 29 = some (.invokevirtual 83, 3, 134, 1, 0, []) := rfl
theorem cd_146_32 : cd 146 32 = some (.aload_n 0, 1, 0, 0, 0, []) := rfl
theorem cd_146_33 : cd 146 33 = some (.iload_n 1, 1, 0, 0, 0, []) := rfl
theorem cd_146_34 : cd 146 34 = some (.iload_n 2, 1, 0, 0, 0, []) := rfl
theorem cd_146_35 : cd 146 35 = some (.invokevirtual 54, 3, 136, 3, 0, []) := rfl
theorem cd_146_38 : cd 146 38 = some (.aload_n 0, 1, 0, 0, 0, []) := rfl
theorem cd_146_39 : cd 146 39 = some (.invokevirtual 86, 3, 138, 1, 0, []) := rfl
theorem cd_146_42 : cd 146 42 = some (.ireturn, 1, 0, 0, 0, []) := rfl
theorem cd_147_0 : cd 147 0 = some (.aload_n 0, 1, 0, 0, 0, []) := rfl
theorem cd_147_1 : cd 147 1 = some (.aload_n 0, 1, 0, 0, 0, []) := rfl
theorem cd_147_2 : cd 147 2 = some (.iload_n 1, 1, 0, 0, 0, []) := rfl
theorem cd_147_3 : cd 147 3 = some (.invokevirtual 89, 3, 140, 2, 0, []) := rfl
theorem cd_147_6 : cd 147 6 = some (.ifCond .ne 7, 3, 0, 0, 0, []) := rfl
theorem cd_147_9 : cd 147 9 = some (.iconst 1, 1, 0, 0, 0, []) := rfl
theorem cd_147_10 : cd 147 10 = some (.goto 15, 3, 0, 0, 0, []) := rfl
theorem cd_147_13 : cd 147 13 = some (.iload_n 2, 1, 0, 0, 0, []) := rfl
theorem cd_147_14 : cd 147 14 = some (.invokestatic 92, 3, 141, 1, 2, []) := rfl
theorem cd_147_17 : cd 147 17 = some (.ifCond .eq 7, 3, 0, 0, 0, []) := rfl
theorem cd_147_20 : cd 147 20 = some (.iconst 0, 1, 0, 0, 0, []) := rfl
theorem cd_147_21 : cd 147 21 = some (.goto 4, 3, 0, 0, 0, []) := rfl
theorem cd_147_24 : cd 147 24 = some (.iconst 2, 1, 0, 0, 0, []) := rfl
theorem cd_147_25 : cd 147 25 = some (.invokevirtual 65, 3, 132, 2, 0, []) := rfl
theorem cd_147_28 : cd 147 28 = some (.ifCond .eq 5, 3, 0, 0, 0, []) := rfl
theorem cd_147_31 : cd 147 31 = some (.iconst 0, 1, 0, 0, 0, []) := rfl
theorem cd_147_32 : cd 147 32 = some (.ireturn, 1, 0, 0, 0, []) := rfl
theorem cd_147_33 : cd 147 33 = some (.aload_n 0, 1, 0, 0, 0, []) := rfl
theorem cd_147_34 : cd 147 34 = some (.invokevirtual 83, 3, 134, 1, 0, []) := rfl
theorem cd_147_37 : cd 147 37 = some (.aload_n 0, 1, 0, 0, 0, []) := rfl
theorem cd_147_38 : cd 147 38 = some (.iload_n 1, 1, 0, 0, 0, []) := rfl
theorem cd_147_39 : cd 147 39 = some (.invokevirtual 95, 3, 139, 2, 0, []) := rfl
theorem cd_147_42 : cd 147 42 = some (.istore_n 3, 1, 0, 0, 0, []) := rfl
theorem cd_147_43 : cd 147 43 = some (.aload_n 0, 1, 0, 0, 0, []) := rfl
theorem cd_147_44 : cd 147 44 = some (.getfield 7, 3, 9, 0, 0, []) := rfl
theorem cd_147_47 : cd 147 47 = some (.iconst 2, 1, 0, 0, 0, []) := rfl
theorem cd_147_48 : cd 147 48 = some (.iload_n 1, 1, 0, 0, 0, []) := rfl
theorem cd_147_49 : cd 147 49 = some (.iadd, 1, 0, 0, 0, []) := rfl
theorem cd_147_50 : cd 147 50 = some (.iload_n 2, 1, 0, 0, 0, []) := rfl
theorem cd_147_51 : cd 147 51 = some (.iastore, 1, 0, 0, 0, []) := rfl
theorem cd_147_52 : cd 147 52 = some (.iload_n 3, 1, 0, 0, 0, []) := rfl
theorem cd_147_53 : cd 147 53 = some (.ireturn, 1, 0, 0, 0, []) := rfl
theorem cd_148_0 : cd 148 0 = some (.iload_n 0, 1, 0, 0, 0, []) := rfl
theorem cd_148_1 : cd 148 1 = some (.bipush 47, 2, 0, 0, 0, []) := rfl
theorem cd_148_3 : cd 148 3 = some (.if_icmp .ne 8, 3, 0, 0, 0, []) := rfl
theorem cd_148_6 : cd 148 6 = some (.bipush 92, 2, 0, 0, 0, []) := rfl
theorem cd_148_8 : cd 148 8 = some (.goto 15, 3, 0, 0, 0, []) := rfl
theorem cd_148_11 : cd 148 11 = some (.iload_n 0, 1, 0, 0, 0, []) := rfl
theorem cd_148_12 : cd 148 12 = some (.bipush 92, 2, 0, 0, 0, []) := rfl
theorem cd_148_14 : cd 148 14 = some (.if_icmp .ne 8, 3, 0, 0, 0, []) := rfl
theorem cd_148_17 : cd 148 17 = some (.bipush 47, 2, 0, 0, 0, []) := rfl
theorem cd_148_19 : cd 148 19 = some (.goto 4, 3, 0, 0, 0, []) := rfl
theorem cd_148_22 : cd 148 22 = some (.iload_n 0, 1, 0, 0, 0, []) := rfl
theorem cd_148_23 : cd 148 23 = some (.ireturn, 1, 0, 0, 0, []) := rfl
theorem cd_149_0 : cd 149 0 = some (.iconst 0, 1, 0, 0, 0, []) := rfl
theorem cd_149_1 : cd 149 1 = some (.istore_n 1, 1, 0, 0, 0, []) := rfl
theorem cd_149_2 : cd 149 2 = some (.iconst 0, 1, 0, 0, 0, []) := rfl
theorem cd_149_3 : cd 149 3 = some (.istore_n 2, 1, 0, 0, 0, []) := rfl
theorem cd_149_4 : cd 149 4 = some (.iload_n 2, 1, 0, 0, 0, []) := rfl
theorem cd_149_5 : cd 149 5 = some (.aload_n 0, 1, 0, 0, 0, []) := rfl
theorem cd_149_6 : cd 149 6 = some (.invokevirtual 69, 3, 137, 1, 0, []) := rfl
theorem cd_149_9 : cd 149 9 = some (.if_icmp .ge 28, 3, 0, 0, 0, []) := rfl
theorem cd_149_12 : cd 149 12 = some (.iload_n 1, 1, 0, 0, 0, []) := rfl
theorem cd_149_13 : cd 149 13 = some (.aload_n 0, 1, 0, 0, 0, []) := rfl
theorem cd_149_14 : cd 149 14 = some (.iload_n 2, 1, 0, 0, 0, []) := rfl
theorem cd_149_15 : cd 149 15 = some (.invokevirtual 95, 3, 139, 2, 0, []) := rfl
theorem cd_149_18 : cd 149 18 = some (.invokestatic 99, 3, 144, 1, 2, []) := rfl
theorem cd_149_21 : cd 149 21 = some (.ifCond .eq 7, 3, 0, 0, 0, []) := rfl
theorem cd_149_24 : cd 149 24 = some (.iconst 1, 1, 0, 0, 0, []) := rfl
theorem cd_149_25 : cd 149 25 = some (.goto 4, 3, 0, 0, 0, []) := rfl
theorem cd_149_28 : cd 149 28 = some (.iconst 0, 1, 0, 0, 0, []) := rfl
theorem cd_149_29 : cd 149 29 = some (.iadd, 1, 0, 0, 0, []) := rfl
theorem cd_149_30 : cd 149 30 = some (.istore_n 1, 1, 0, 0, 0, []) := rfl
theorem cd_149_31 : cd 149 31 = some (.iinc 2 1, 3, 0, 0, 0, []) := rfl
theorem cd_149_34 : cd 149 34 = some (.goto (-30), 3, 0, 0, 0, []) := rfl
theorem cd_149_37 : cd 149 37 = some (.iload_n 1, 1, 0, 0, 0, []) := rfl
theorem cd_149_38 : cd 149 38 = some (.ireturn, 1, 0, 0, 0, []) := rfl
theorem cd_150_0 : cd 150 0 = some (.aload_n 0, 1, 0, 0, 0, []) := rfl
theorem cd_150_1 : cd 150 1 = some (.iconst 0, 1, 0, 0, 0, []) := rfl
theorem cd_150_2 : cd 150 2 = some (.putfield 58, 3, 9, 4, 0, []) := rfl
theorem cd_150_5 : cd 150 5 = some (.aload_n 0, 1, 0, 0, 0, []) := rfl
theorem cd_150_6 : cd 150 6 = some (.invokevirtual 83, 3, 134, 1, 0, []) := rfl
theorem cd_150_9 : cd 150 9 = some (.iconst 0, 1, 0, 0, 0, []) := rfl
theorem cd_150_10 : cd 150 10 = some (.istore_n 1, 1, 0, 0, 0, []) := rfl
theorem cd_150_11 : cd 150 11 = some (.iload_n 1, 1, 0, 0, 0, []) := rfl
theorem cd_150_12 : cd 150 12 = some (.aload_n 0, 1, 0, 0, 0, []) := rfl
theorem cd_150_13 : cd 150 13 = some (.invokevirtual 69, 3, 137, 1, 0, []) := rfl
theorem cd_150_16 : cd 150 16 = some (.if_icmp .ge 25, 3, 0, 0, 0, []) := rfl
theorem cd_150_19 : cd 150 19 = some (.aload_n 0, 1, 0, 0, 0, []) := rfl
theorem cd_150_20 : cd 150 20 = some (.getfield 7, 3, 9, 0, 0, []) := rfl
theorem cd_150_23 : cd 150 23 = some (.iconst 2, 1, 0, 0, 0, []) := rfl
theorem cd_150_24 : cd 150 24 = some (.iload_n 1, 1, 0, 0, 0, []) := rfl
theorem cd_150_25 : cd 150 25 = some (.iadd, 1, 0, 0, 0, []) := rfl
theorem cd_150_26 : cd 150 26 = some (.aload_n 0, 1, 0, 0, 0, []) := rfl
theorem cd_150_27 : cd 150 27 = some (.iload_n 1, 1, 0, 0, 0, []) := rfl
theorem cd_150_28 : cd 150 28 = some (.invokevirtual 95, 3, 139, 2, 0, []) := rfl
theorem cd_150_31 : cd 150 31 = some (.invokestatic 102, 3, 148, 1, 2, []) := rfl
theorem cd_150_34 : cd 150 34 = some (.iastore, 1, 0, 0, 0, []) := rfl
theorem cd_150_35 : cd 150 35 = some (.iinc 1 1, 3, 0, 0, 0, []) := rfl
theorem cd_150_38 : cd 150 38 = some (.goto (-27), 3, 0, 0, 0, []) := rfl
theorem cd_150_41 : cd 150 41 = some (.aload_n 0, 1, 0, 0, 0, []) := rfl
theorem cd_150_42 : cd 150 42 = some (.invokevirtual 105, 3, 149, 1, 0, []) := rfl
theorem cd_150_45 : cd 150 45 = some (.ireturn, 1, 0, 0, 0, []) := rfl
theorem cd_151_0 : cd 151 0 = some (.aload_n 0, 1, 0, 0, 0, []) := rfl
theorem cd_151_1 : cd 151 1 = some (.iconst 0, 1, 0, 0, 0, []) := rfl
theorem cd_151_2 : cd 151 2 = some (.putfield 58, 3, 9, 4, 0, []) := rfl
theorem cd_151_5 : cd 151 5 = some (.aload_n 0, 1, 0, 0, 0, []) := rfl
theorem cd_151_6 : cd 151 6 = some (.invokevirtual 83, 3, 134, 1, 0, []) := rfl
theorem cd_151_9 : cd 151 9 = some (.aload_n 0, 1, 0, 0, 0, []) := rfl
theorem cd_151_10 : cd 151 10 = some (.getfield 7, 3, 9, 0, 0, []) := rfl
theorem cd_151_13 : cd 151 13 = some (.iconst 0, 1, 0, 0, 0, []) := rfl
theorem cd_151_14 : cd 151 14 = some (.iaload, 1, 0, 0, 0, []) := rfl
theorem cd_151_15 : cd 151 15 = some (.istore_n 1, 1, 0, 0, 0, []) := rfl
theorem cd_151_16 : cd 151 16 = some (.aload_n 0, 1, 0, 0, 0, []) := rfl
theorem cd_151_17 : cd 151 17 = some (.getfield 7, 3, 9, 0, 0, []) := rfl
theorem cd_151_20 : cd 151 20 = some (.iconst 1, 1, 0, 0, 0, []) := rfl
theorem cd_151_21 : cd 151 21 = some (.iaload, 1, 0, 0, 0, []) := rfl
theorem cd_151_22 : cd 151 22 = some (.istore_n 2, 1, 0, 0, 0, []) := rfl
theorem cd_151_23 : cd 151 23 = some (.iconst 0, 1, 0, 0, 0, []) := rfl
theorem cd_151_24 : cd 151 24 = some (.istore_n 3, 1, 0, 0, 0, []) := rfl
theorem cd_151_25 : cd 151 25 = some (.iload_n 3, 1, 0, 0, 0, []) := rfl
theorem cd_151_26 : cd 151 26 = some (.bipush 124, 2, 0, 0, 0, []) := rfl
theorem cd_151_28 : cd 151 28 = some (.if_icmp .ge 21, 3, 0, 0, 0, []) := rfl
theorem cd_151_31 : cd 151 31 = some (.aload_n 0, 1, 0, 0, 0, []) := rfl
theorem cd_151_32 : cd 151 32 = some (.getfield 16, 3, 9, 2, 0, []) := rfl
theorem cd_151_35 : cd 151 35 = some (.iload_n 3, 1, 0, 0, 0, []) := rfl
theorem cd_151_36 : cd 151 36 = some (.aload_n 0, 1, 0, 0, 0, []) := rfl
theorem cd_151_37 : cd 151 37 = some (.getfield 7, 3, 9, 0, 0, []) := rfl
theorem cd_151_40 : cd 151 40 = some (.iload_n 3, 1, 0, 0, 0, []) := rfl
theorem cd_151_41 : cd 151 41 = some (.iaload, 1, 0, 0, 0, []) := rfl
theorem cd_151_42 : cd 151 42 = some (.iastore, 1, 0, 0, 0, []) := rfl
theorem cd_151_43 : cd 151 43 = some (.iinc 3 1, 3, 0, 0, 0, []) := rfl
theorem cd_151_46 : cd 151 46 = some (.goto (-21), 3, 0, 0, 0, []) := rfl
theorem cd_151_49 : cd 151 49 = some (.aload_n 0, 1, 0, 0, 0, []) := rfl
theorem cd_151_50 : cd 151 50 = some (.iload_n 2, 1, 0, 0, 0, []) := rfl
theorem cd_151_51 : cd 151 51 = some (.iload_n 1, 1, 0, 0, 0, []) := rfl
theorem cd_151_52 : cd 151 52 = some (.invokevirtual 54, 3, 136, 3, 0, []) := rfl
theorem cd_151_55 : cd 151 55 = some (.iconst 0, 1, 0, 0, 0, []) := rfl
theorem cd_151_56 : cd 151 56 = some (.istore_n 3, 1, 0, 0, 0, []) := rfl
theorem cd_151_57 : cd 151 57 = some (.iload_n 3, 1, 0, 0, 0, []) := rfl
theorem cd_151_58 : cd 151 58 = some (.iload_n 1, 1, 0, 0, 0, []) := rfl
theorem cd_151_59 : cd 151 59 = some (.iload_n 2, 1, 0, 0, 0, []) := rfl
theorem cd_151_60 : cd 151 60 = some (.imul, 1, 0, 0, 0, []) := rfl
theorem cd_151_61 : cd 151 61 = some (.if_icmp .ge 40, 3, 0, 0, 0, []) := rfl
theorem cd_151_64 : cd 151 64 = some (.aload_n 0, 1, 0, 0, 0, []) := rfl
theorem cd_151_65 : cd 151 65 = some (.getfield 7, 3, 9, 0, 0, []) := rfl
theorem cd_151_68 : cd 151 68 = some (.iconst 2, 1, 0, 0, 0, []) := rfl
theorem cd_151_69 : cd 151 69 = some (.iload_n 3, 1, 0, 0, 0, []) := rfl
theorem cd_151_70 : cd 151 70 = some (.iload_n 1, 1, 0, 0, 0, []) := rfl
theorem cd_151_71 : cd 151 71 = some (.irem, 1, 0, 0, 0, []) := rfl
theorem cd_151_72 : cd 151 72 = some (.iload_n 2, 1, 0, 0, 0, []) := rfl
theorem cd_151_73 : cd 151 73 = some (.imul, 1, 0, 0, 0, []) := rfl
theorem cd_151_74 : cd 151 74 = some (.iadd, 1, 0, 0, 0, []) := rfl
theorem cd_151_75 : cd 151 75 = some (.iload_n 2, 1, 0, 0, 0, []) := rfl
theorem cd_151_76 : cd 151 76 = some (.iadd, 1, 0, 0, 0, []) := rfl
theorem cd_151_77 : cd 151 77 = some (.iconst 1, 1, 0, 0, 0, []) := rfl
theorem cd_151_78 : cd 151 78 = some (.isub, 1, 0, 0, 0, []) := rfl
theorem cd_151_79 : cd 151 79 = some (.iload_n 3, 1, 0, 0, 0, []) := rfl
theorem cd_151_80 : cd 151 80 = some (.iload_n 1, 1, 0, 0, 0, []) := rfl
theorem cd_151_81 : cd 151 81 = some (.idiv, 1, 0, 0, 0, []) := rfl
theorem cd_151_82 : cd 151 82 = some (.isub, 1, 0, 0, 0, []) := rfl
theorem cd_151_83 : cd 151 83 = some (.aload_n 0, 1, 0, 0, 0, []) := rfl
theorem cd_151_84 : cd 151 84 = some (.getfield 16, 3, 9, 2, 0, []) := rfl
theorem cd_151_87 : cd 151 87 = some (.iconst 2, 1, 0, 0, 0, []) := rfl
theorem cd_151_88 : cd 151 88 = some (.iload_n 3, 1, 0, 0, 0, []) := rfl
theorem cd_151_89 : cd 151 89 = some (.iadd, 1, 0, 0, 0, []) := rfl
theorem cd_151_90 : cd 151 90 = some (.iaload, 1, 0, 0, 0, []) := rfl
theorem cd_151_91 : cd 151 91 = some (.invokestatic 102, 3, 148, 1, 2, []) := rfl
theorem cd_151_94 : cd 151 94 = some (.iastore, 1, 0, 0, 0, []) := rfl
theorem cd_151_95 : cd 151 95 = some (.iinc 3 1, 3, 0, 0, 0, []) := rfl
theorem cd_151_98 : cd 151 98 = some (.goto (-41), 3, 0, 0, 0, []) := rfl
theorem cd_151_101 : cd 151 101 = some (.aload_n 0, 1, 0, 0, 0, []) := rfl
theorem cd_151_102 : cd 151 102 = some (.invokevirtual 86, 3, 138, 1, 0, []) := rfl
theorem cd_151_105 : cd 151 105 = some (.ireturn, 1, 0, 0, 0, []) := rfl
theorem cd_152_0 : cd 152 0 = some (.aload_n 0, 1, 0, 0, 0, []) := rfl
theorem cd_152_1 : cd 152 1 = some (.getfield 7, 3, 9, 0, 0, []) := rfl
theorem cd_152_4 : cd 152 4 = some (.bipush 52, 2, 0, 0, 0, []) := rfl
theorem cd_152_6 : cd 152 6 = some (.bipush 9, 2, 0, 0, 0, []) := rfl
theorem cd_152_8 : cd 152 8 = some (.iload_n 1, 1, 0, 0, 0, []) := rfl
theorem cd_152_9 : cd 152 9 = some (.imul, 1, 0, 0, 0, []) := rfl
theorem cd_152_10 : cd 152 10 = some (.iadd, 1, 0, 0, 0, []) := rfl
theorem cd_152_11 : cd 152 11 = some (.iaload, 1, 0, 0, 0, []) := rfl
theorem cd_152_12 : cd 152 12 = some (.aload_n 0, 1, 0, 0, 0, []) := rfl
theorem cd_152_13 : cd 152 13 = some (.getfield 108, 3, 9, 6, 0, []) := rfl
theorem cd_152_16 : cd 152 16 = some (.if_icmp .ne 7, 3, 0, 0, 0, []) := rfl
theorem cd_152_19 : cd 152 19 = some (.iconst 1, 1, 0, 0, 0, []) := rfl
theorem cd_152_20 : cd 152 20 = some (.goto 4, 3, 0, 0, 0, []) := rfl
theorem cd_152_23 : cd 152 23 = some (.iconst 0, 1, 0, 0, 0, []) := rfl
theorem cd_152_24 : cd 152 24 = some (.istore_n 2, 1, 0, 0, 0, []) := rfl
theorem cd_152_25 : cd 152 25 = some (.iconst 0, 1, 0, 0, 0, []) := rfl
theorem cd_152_26 : cd 152 26 = some (.istore_n 3, 1, 0, 0, 0, []) := rfl
theorem cd_152_27 : cd 152 27 = some (.iload_n 3, 1, 0, 0, 0, []) := rfl
theorem cd_152_28 : cd 152 28 = some (.aload_n 0, 1, 0, 0, 0, []) := rfl
theorem cd_152_29 : cd 152 29 = some (.getfield 108, 3, 9, 6, 0, []) := rfl
theorem cd_152_32 : cd 152 32 = some (.if_icmp .ge 47, 3, 0, 0, 0, []) := rfl
theorem cd_152_35 : cd 152 35 = some (.iload_n 2, 1, 0, 0, 0, []) := rfl
theorem cd_152_36 : cd 152 36 = some (.ifCond .eq 43, 3, 0, 0, 0, []) := rfl
theorem cd_152_39 : cd 152 39 = some (.aload_n 0, 1, 0, 0, 0, []) := rfl
theorem cd_152_40 : cd 152 40 = some (.getfield 7, 3, 9, 0, 0, []) := rfl
theorem cd_152_43 : cd 152 43 = some (.bipush 52, 2, 0, 0, 0, []) := rfl
theorem cd_152_45 : cd 152 45 = some (.bipush 9, 2, 0, 0, 0, []) := rfl
theorem cd_152_47 : cd 152 47 = some (.iload_n 1, 1, 0, 0, 0, []) := rfl
theorem cd_152_48 : cd 152 48 = some (.imul, 1, 0, 0, 0, []) := rfl
theorem cd_152_49 : cd 152 49 = some (.iadd, 1, 0, 0, 0, []) := rfl
theorem cd_152_50 : cd 152 50 = some (.iconst 1, 1, 0, 0, 0, []) := rfl
theorem cd_152_51 : cd 152 51 = some (.iadd, 1, 0, 0, 0, []) := rfl
theorem cd_152_52 : cd 152 52 = some (.iload_n 3, 1, 0, 0, 0, []) := rfl
theorem cd_152_53 : cd 152 53 = some (.iadd, 1, 0, 0, 0, []) := rfl
theorem cd_152_54 : cd 152 54 = some (.iaload, 1, 0, 0, 0, []) := rfl
theorem cd_152_55 : cd 152 55 = some (.aload_n 0, 1, 0, 0, 0, []) := rfl
theorem cd_152_56 : cd 152 56 = some (.getfield 19, 3, 9, 5, 0, []) := rfl
theorem cd_152_59 : cd 152 59 = some (.iload_n 3, 1, 0, 0, 0, []) := rfl
theorem cd_152_60 : cd 152 60 = some (.iaload, 1, 0, 0, 0, []) := rfl
theorem cd_152_61 : cd 152 61 = some (.bipush 97, 2, 0, 0, 0, []) := rfl
theorem cd_152_63 : cd 152 63 = some (.isub, 1, 0, 0, 0, []) := rfl
theorem cd_152_64 : cd 152 64 = some (.if_icmp .ne 7, 3, 0, 0, 0, []) := rfl
theorem cd_152_67 : cd 152 67 = some (.iconst 1, 1, 0, 0, 0, []) := rfl
theorem cd_152_68 : cd 152 68 = some (.goto 4, 3, 0, 0, 0, []) := rfl
theorem cd_152_71 : cd 152 71 = some (.iconst 0, 1, 0, 0, 0, []) := rfl
theorem cd_152_72 : cd 152 72 = some (.istore_n 2, 1, 0, 0, 0, []) := rfl
theorem cd_152_73 : cd 152 73 = some (.iinc 3 1, 3, 0, 0, 0, []) := rfl
theorem cd_152_76 : cd 152 76 = some (.goto (-49), 3, 0, 0, 0, []) := rfl
theorem cd_152_79 : cd 152 79 = some (.iload_n 2, 1, 0, 0, 0, []) := rfl
theorem cd_152_80 : cd 152 80 = some (.ireturn, 1, 0, 0, 0, []) := rfl
theorem cd_153_0 : cd 153 0 = some (.aload_n 0, 1, 0, 0, 0, []) := rfl
theorem cd_153_1 : cd 153 1 = some (.getfield 108, 3, 9, 6, 0, []) := rfl
theorem cd_153_4 : cd 153 4 = some (.iconst 1, 1, 0, 0, 0, []) := rfl
theorem cd_153_5 : cd 153 5 = some (.bipush 8, 2, 0, 0, 0, []) := rfl
theorem cd_153_7 : cd 153 7 = some (.invokestatic 73, 3, 133, 3, 2, []) := rfl
theorem cd_153_10 : cd 153 10 = some (.ifCond .eq 19, 3, 0, 0, 0, []) := rfl
theorem cd_153_13 : cd 153 13 = some (.aload_n 0, 1, 0, 0, 0, []) := rfl
theorem cd_153_14 : cd 153 14 = some (.getfield 7, 3, 9, 0, 0, []) := rfl
theorem cd_153_17 : cd 153 17 = some (.bipush 51, 2, 0, 0, 0, []) := rfl
theorem cd_153_19 : cd 153 19 = some (.iaload, 1, 0, 0, 0, []) := rfl
theorem cd_153_20 : cd 153 20 = some (.bipush 8, 2, 0, 0, 0, []) := rfl
theorem cd_153_22 : cd 153 22 = some (.if_icmp .ge 7, 3, 0, 0, 0, []) := rfl
theorem cd_153_25 : cd 153 25 = some (.iconst 1, 1, 0, 0, 0, []) := rfl
theorem cd_153_26 : cd 153 26 = some (.goto 4, 3, 0, 0, 0, []) := rfl
theorem cd_153_29 : cd 153 29 = some (.iconst 0, 1, 0, 0, 0, []) := rfl
theorem cd_153_30 : cd 153 30 = some (.istore_n 1, 1, 0, 0, 0, []) := rfl
theorem cd_153_31 : cd 153 31 = some (.iconst 0, 1, 0, 0, 0, []) := rfl
theorem cd_153_32 : cd 153 32 = some (.istore_n 2, 1, 0, 0, 0, []) := rfl
theorem cd_153_33 : cd 153 33 = some (.iload_n 2, 1, 0, 0, 0, []) := rfl
theorem cd_153_34 : cd 153 34 = some (.aload_n 0, 1, 0, 0, 0, []) := rfl
theorem cd_153_35 : cd 153 35 = some (.getfield 108, 3, 9, 6, 0, []) := rfl
theorem cd_153_38 : cd 153 38 = some (.if_icmp .ge 27, 3, 0, 0, 0, []) := rfl
theorem cd_153_41 : cd 153 41 = some (.iload_n 1, 1, 0, 0, 0, []) := rfl
theorem cd_153_42 : cd 153 42 = some (.ifCond .eq 23, 3, 0, 0, 0, []) := rfl
theorem cd_153_45 : cd 153 45 = some (.aload_n 0, 1, 0, 0, 0, []) := rfl
theorem cd_153_46 : cd 153 46 = some (.getfield 19, 3, 9, 5, 0, []) := rfl
theorem cd_153_49 : cd 153 49 = some (.iload_n 2, 1, 0, 0, 0, []) := rfl
theorem cd_153_50 : cd 153 50 = some (.iaload, 1, 0, 0, 0, []) := rfl
theorem cd_153_51 : cd 153 51 = some (.bipush 97, 2, 0, 0, 0, []) := rfl
theorem cd_153_53 : cd 153 53 = some (.bipush 122, 2, 0, 0, 0, []) := rfl
theorem cd_153_55 : cd 153 55 = some (.invokestatic 73, 3, 133, 3, 2, []) := rfl
theorem cd_153_58 : cd 153 58 = some (.istore_n 1, 1, 0, 0, 0, []) := rfl
theorem cd_153_59 : cd 153 59 = some (.iinc 2 1, 3, 0, 0, 0, []) := rfl
theorem cd_153_62 : cd 153 62 = some (.goto (-29), 3, 0, 0, 0, []) := rfl
theorem cd_153_65 : cd 153 65 = some (.iconst 0, 1, 0, 0, 0, []) := rfl
theorem cd_153_66 : cd 153 66 = some (.istore_n 2, 1, 0, 0, 0, []) := rfl
theorem cd_153_67 : cd 153 67 = some (.iload_n 2, 1, 0, 0, 0, []) := rfl
theorem cd_153_68 : cd 153 68 = some (.aload_n 0, 1, 0, 0, 0, []) := rfl
theorem cd_153_69 : cd 153 69 = some (.getfield 7, 3, 9, 0, 0, []) := rfl
theorem cd_153_72 : cd 153 72 = some (.bipush 51, 2, 0, 0, 0, []) := rfl
theorem cd_153_74 : cd 153 74 = some (.iaload, 1, 0, 0, 0, []) := rfl
theorem cd_153_75 : cd 153 75 = some (.if_icmp .ge 27, 3, 0, 0, 0, []) := rfl
theorem cd_153_78 : cd 153 78 = some (.iload_n 1, 1, 0, 0, 0, []) := rfl
theorem cd_153_79 : cd 153 79 = some (.ifCond .eq 23, 3, 0, 0, 0, []) := rfl
theorem cd_153_82 : cd 153 82 = some (.aload_n 0, 1, 0, 0, 0, []) := rfl
theorem cd_153_83 : cd 153 83 = some (.iload_n 2, 1, 0, 0, 0, []) := rfl
theorem cd_153_84 : cd 153 84 = some (.invokevirtual 111, 3, 152, 2, 0, []) := rfl
theorem cd_153_87 : cd 153 87 = some (.ifCond .ne 7, 3, 0, 0, 0, []) := rfl
theorem cd_153_90 : cd 153 90 = some (.iconst 1, 1, 0, 0, 0, []) := rfl
theorem cd_153_91 : cd 153 91 = some (.goto 4, 3, 0, 0, 0, []) := rfl
theorem cd_153_94 : cd 153 94 = some (.iconst 0, 1, 0, 0, 0, []) := rfl
theorem cd_153_95 : cd 153 95 = some (.istore_n 1, 1, 0, 0, 0, []) := rfl
theorem cd_153_96 : cd 153 96 = some (.iinc 2 1, 3, 0, 0, 0, []) := rfl
theorem cd_153_99 : cd 153 99 = some (.goto (-32), 3, 0, 0, 0, []) := rfl
theorem cd_153_102 : cd 153 102 = some (.iload_n 1, 1, 0, 0, 0, []) := rfl
theorem cd_153_103 : cd 153 103 = some (.ireturn, 1, 0, 0, 0, []) := rfl
theorem cd_154_0 : cd 154 0 = some (.aload_n 0, 1, 0, 0, 0, []) := rfl
theorem cd_154_1 : cd 154 1 = some (.aload_n 0, 1, 0, 0, 0, []) := rfl
theorem cd_154_2 : cd 154 2 = some (.invokevirtual 114, 3, 153, 1, 0, []) := rfl
theorem cd_154_5 : cd 154 5 = some (.ifCond .eq 7, 3, 0, 0, 0, []) := rfl
theorem cd_154_8 : cd 154 8 = some (.iconst 0, 1, 0, 0, 0, []) := rfl
theorem cd_154_9 : cd 154 9 = some (.goto 4, 3, 0, 0, 0, []) := rfl
theorem cd_154_12 : cd 154 12 = some (.iconst 1, 1, 0, 0, 0, []) := rfl
theorem cd_154_13 : cd 154 13 = some (.invokevirtual 65, 3, 132, 2, 0, []) := rfl
theorem cd_154_16 : cd 154 16 = some (.ifCond .eq 5, 3, 0, 0, 0, []) := rfl
theorem cd_154_19 : cd 154 19 = some (.iconst 0, 1, 0, 0, 0, []) := rfl
theorem cd_154_20 : cd 154 20 = some (.ireturn, 1, 0, 0, 0, []) := rfl
theorem cd_154_21 : cd 154 21 = some (.aload_n 0, 1, 0, 0, 0, []) := rfl
theorem cd_154_22 : cd 154 22 = some (.invokevirtual 83, 3, 134, 1, 0, []) := rfl
theorem cd_154_25 : cd 154 25 = some (.bipush 52, 2, 0, 0, 0, []) := rfl
theorem cd_154_27 : cd 154 27 = some (.bipush 9, 2, 0, 0, 0, []) := rfl
theorem cd_154_29 : cd 154 29 = some (.aload_n 0, 1, 0, 0, 0, []) := rfl
theorem cd_154_30 : cd 154 30 = some (.getfield 7, 3, 9, 0, 0, []) := rfl
theorem cd_154_33 : cd 154 33 = some (.bipush 51, 2, 0, 0, 0, []) := rfl
theorem cd_154_35 : cd 154 35 = some (.iaload, 1, 0, 0, 0, []) := rfl
theorem cd_154_36 : cd 154 36 = some (.imul, 1, 0, 0, 0, []) := rfl
theorem cd_154_37 : cd 154 37 = some (.iadd, 1, 0, 0, 0, []) := rfl
theorem cd_154_38 : cd 154 38 = some (.istore_n 1, 1, 0, 0, 0, []) := rfl
theorem cd_154_39 : cd 154 39 = some (.aload_n 0, 1, 0, 0, 0, []) := rfl
theorem cd_154_40 : cd 154 40 = some (.getfield 7, 3, 9, 0, 0, []) := rfl
theorem cd_154_43 : cd 154 43 = some (.iload_n 1, 1, 0, 0, 0, []) := rfl
theorem cd_154_44 : cd 154 44 = some (.aload_n 0, 1, 0, 0, 0, []) := rfl
theorem cd_154_45 : cd 154 45 = some (.getfield 108, 3, 9, 6, 0, []) := rfl
theorem cd_154_48 : cd 154 48 = some (.iastore, 1, 0, 0, 0, []) := rfl
theorem cd_154_49 : cd 154 49 = some (.iconst 0, 1, 0, 0, 0, []) := rfl
theorem cd_154_50 : cd 154 50 = some (.istore_n 2, 1, 0, 0, 0, []) := rfl
theorem cd_154_51 : cd 154 51 = some (.iload_n 2, 1, 0, 0, 0, []) := rfl
theorem cd_154_52 : cd 154 52 = some (.aload_n 0, 1, 0, 0, 0, []) := rfl
theorem cd_154_53 : cd 154 53 = some (.getfield 108, 3, 9, 6, 0, []) := rfl
theorem cd_154_56 : cd 154 56 = some (.if_icmp .ge 28, 3, 0, 0, 0, []) := rfl
theorem cd_154_59 : cd 154 59 = some (.aload_n 0, 1, 0, 0, 0, []) := rfl
theorem cd_154_60 : cd 154 60 = some (.getfield 7, 3, 9, 0, 0, []) := rfl
theorem cd_154_63 : cd 154 63 = some (.iload_n 1, 1, 0, 0, 0, []) := rfl
theorem cd_154_64 : cd 154 64 = some (.iconst 1, 1, 0, 0, 0, []) := rfl
theorem cd_154_65 : cd 154 65 = some (.iadd, 1, 0, 0, 0, []) := rfl
theorem cd_154_66 : cd 154 66 = some (.iload_n 2, 1, 0, 0, 0, []) := rfl
theorem cd_154_67 : cd 154 67 = some (.iadd, 1, 0, 0, 0, []) := rfl
theorem cd_154_68 : cd 154 68 = some (.aload_n 0, 1, 0, 0, 0, []) := rfl
theorem cd_154_69 : cd 154 69 = some (.getfield 19, 3, 9, 5, 0, []) := rfl
theorem cd_154_72 : cd 154 72 = some (.iload_n 2, 1, 0, 0, 0, []) := rfl
theorem cd_154_73 : cd 154 73 = some (.iaload, 1, 0, 0, 0, []) := rfl
theorem cd_154_74 : cd 154 74 = some (.bipush 97, 2, 0, 0, 0, []) := rfl
theorem cd_154_76 : cd 154 76 = some (.isub, 1, 0, 0, 0, []) := rfl
theorem cd_154_77 : cd 154 77 = some (.iastore, 1, 0, 0, 0, []) := rfl
theorem cd_154_78 : cd 154 78 = some (.iinc 2 1, 3, 0, 0, 0, []) := rfl
theorem cd_154_81 : cd 154 81 = some (.goto (-30), 3, 0, 0, 0, []) := rfl
theorem cd_154_84 : cd 154 84 = some (.aload_n 0, 1, 0, 0, 0, []) := rfl
theorem cd_154_85 : cd 154 85 = some (.getfield 7, 3, 9, 0, 0, []) := rfl
theorem cd_154_88 : cd 154 88 = some (.bipush 51, 2, 0, 0, 0, []) := rfl
theorem cd_154_90 : cd 154 90 = some (.dup2, 1, 0, 0, 0, []) := rfl
theorem cd_154_91 : cd 154 91 = some (.iaload, 1, 0, 0, 0, []) := rfl
theorem cd_154_92 : cd 154 92 = some (.iconst 1, 1, 0, 0, 0, []) := rfl
theorem cd_154_93 : cd 154 93 = some (.iadd, 1, 0, 0, 0, []) := rfl
theorem cd_154_94 : cd 154 94 = some (.iastore, 1, 0, 0, 0, []) := rfl
theorem cd_154_95 : cd 154 95 = some (.aload_n 0, 1, 0, 0, 0, []) := rfl
theorem cd_154_96 : cd 154 96 = some (.getfield 7, 3, 9, 0, 0, []) := rfl
theorem cd_154_99 : cd 154 99 = some (.bipush 51, 2, 0, 0, 0, []) := rfl
theorem cd_154_101 : cd 154 101 = some (.iaload, 1, 0, 0, 0, []) := rfl
theorem cd_154_102 : cd 154 102 = some (.iconst 1, 1, 0, 0, 0, []) := rfl
theorem cd_154_103 : cd 154 103 = some (.isub, 1, 0, 0, 0, []) := rfl
theorem cd_154_104 : cd 154 104 = some (.ireturn, 1, 0, 0, 0, []) := rfl
theorem cd_155_0 : cd 155 0 = some (.iload_n 1, 1, 0, 0, 0, []) := rfl
theorem cd_155_1 : cd 155 1 = some (.iconst 0, 1, 0, 0, 0, []) := rfl
theorem cd_155_2 : cd 155 2 = some (.aload_n 0, 1, 0, 0, 0, []) := rfl
theorem cd_155_3 : cd 155 3 = some (.getfield 7, 3, 9, 0, 0, []) := rfl
theorem cd_155_6 : cd 155 6 = some (.bipush 51, 2, 0, 0, 0, []) := rfl
theorem cd_155_8 : cd 155 8 = some (.iaload, 1, 0, 0, 0, []) := rfl
theorem cd_155_9 : cd 155 9 = some (.iconst 1, 1, 0, 0, 0, []) := rfl
theorem cd_155_10 : cd 155 10 = some (.isub, 1, 0, 0, 0, []) := rfl
theorem cd_155_11 : cd 155 11 = some (.invokestatic 73, 3, 133, 3, 2, []) := rfl
theorem cd_155_14 : cd 155 14 = some (.ireturn, 1, 0, 0, 0, []) := rfl
theorem cd_156_0 : cd 156 0 = some (.aload_n 0, 1, 0, 0, 0, []) := rfl
theorem cd_156_1 : cd 156 1 = some (.aload_n 0, 1, 0, 0, 0, []) := rfl
theorem cd_156_2 : cd 156 2 = some (.iload_n 1, 1, 0, 0, 0, []) := rfl
theorem cd_156_3 : cd 156 3 = some (.invokevirtual 118, 3, 155, 2, 0, []) := rfl
theorem cd_156_6 : cd 156 6 = some (.ifCond .eq 7, 3, 0, 0, 0, []) := rfl
theorem cd_156_9 : cd 156 9 = some (.iconst 0, 1, 0, 0, 0, []) := rfl
theorem cd_156_10 : cd 156 10 = some (.goto 4, 3, 0, 0, 0, []) := rfl
theorem cd_156_13 : cd 156 13 = some (.iconst 1, 1, 0, 0, 0, []) := rfl
theorem cd_156_14 : cd 156 14 = some (.invokevirtual 65, 3, 132, 2, 0, []) := rfl
theorem cd_156_17 : cd 156 17 = some (.ifCond .eq 5, 3, 0, 0, 0, []) := rfl
theorem cd_156_20 : cd 156 20 = some (.iconst 0, 1, 0, 0, 0, []) := rfl
theorem cd_156_21 : cd 156 21 = some (.ireturn, 1, 0, 0, 0, []) := rfl
theorem cd_156_22 : cd 156 22 = some (.aload_n 0, 1, 0, 0, 0, []) := rfl
theorem cd_156_23 : cd 156 23 = some (.invokevirtual 83, 3, 134, 1, 0, []) := rfl
theorem cd_156_26 : cd 156 26 = some (.aload_n 0, 1, 0, 0, 0, []) := rfl
theorem cd_156_27 : cd 156 27 = some (.getfield 7, 3, 9, 0, 0, []) := rfl
theorem cd_156_30 : cd 156 30 = some (.bipush 51, 2, 0, 0, 0, []) := rfl
theorem cd_156_32 : cd 156 32 = some (.dup2, 1, 0, 0, 0, []) := rfl
theorem cd_156_33 : cd 156 33 = some (.iaload, 1, 0, 0, 0, []) := rfl
theorem cd_156_34 : cd 156 34 = some (.iconst 1, 1, 0, 0, 0, []) := rfl
theorem cd_156_35 : cd 156 35 = some (.isub, 1, 0, 0, 0, []) := rfl
theorem cd_156_36 : cd 156 36 = some (.iastore, 1, 0, 0, 0, []) := rfl
theorem cd_156_37 : cd 156 37 = some (.bipush 52, 2, 0, 0, 0, []) := rfl
theorem cd_156_39 : cd 156 39 = some (.bipush 9, 2, 0, 0, 0, []) := rfl
theorem cd_156_41 : cd 156 41 = some (.iload_n 1, 1, 0, 0, 0, []) := rfl
theorem cd_156_42 : cd 156 42 = some (.imul, 1, 0, 0, 0, []) := rfl
theorem cd_156_43 : cd 156 43 = some (.iadd, 1, 0, 0, 0, []) := rfl
theorem cd_156_44 : cd 156 44 = some (.istore_n 2, 1, 0, 0, 0, []) := rfl
theorem cd_156_45 : cd 156 45 = some (.iload_n 2, 1, 0, 0, 0, [1]) := rfl
theorem cd_156_46 : cd 156 46 = some (.bipush 52, 2, 0, 0, 0, []) := rfl
theorem cd_156_48 : cd 156 48 = some (.bipush 9, 2, 0, 0, 0, []) := rfl
theorem cd_156_50 : cd 156 50 = some (.aload_n 0, 1, 0, 0, 0, []) := rfl
theorem cd_156_51 : cd 156 51 = some (.getfield 7, 3, 9, 0, 0, []) := rfl
theorem cd_156_54 : cd 156 54 = some (.bipush 51, 2, 0, 0, 0, []) := rfl
theorem cd_156_56 : cd 156 56 = some (.iaload, 1, 0, 0, 0, []) := rfl
theorem cd_156_57 : cd 156 57 = some (.imul, 1, 0, 0, 0, []) := rfl
theorem cd_156_58 : cd 156 58 = some (.iadd, 1, 0, 0, 0, []) := rfl
theorem cd_156_59 : cd 156 59 = some (.if_icmp .ge 24, 3, 0, 0, 0, []) := rfl
theorem cd_156_62 : cd 156 62 = some (.aload_n 0, 1, 0, 0, 0, []) := rfl
theorem cd_156_63 : cd 156 63 = some (.getfield 7, 3, 9, 0, 0, []) := rfl
theorem cd_156_66 : cd 156 66 = some (.iload_n 2, 1, 0, 0, 0, []) := rfl
theorem cd_156_67 : cd 156 67 = some (.aload_n 0, 1, 0, 0, 0, []) := rfl
theorem cd_156_68 : cd 156 68 = some (.getfield 7, 3, 9, 0, 0, []) := rfl
theorem cd_156_71 : cd 156 71 = some (.iload_n 2, 1, 0, 0, 0, []) := rfl
theorem cd_156_72 : cd 156 72 = some (.bipush 9, 2, 0, 0, 0, []) := rfl
theorem cd_156_74 : cd 156 74 = some (.iadd, 1, 0, 0, 0, []) := rfl
theorem cd_156_75 : cd 156 75 = some (.iaload, 1, 0, 0, 0, []) := rfl
theorem cd_156_76 : cd 156 76 = some (.iastore, 1, 0, 0, 0, []) := rfl
theorem cd_156_77 : cd 156 77 = some (.iinc 2 1, 3, 0, 0, 0, []) := rfl
theorem cd_156_80 : cd 156 80 = some (.goto (-35), 3, 0, 0, 0, []) := rfl
theorem cd_156_83 : cd 156 83 = some (.aload_n 0, 1, 0, 0, 0, []) := rfl
theorem cd_156_84 : cd 156 84 = some (.getfield 7, 3, 9, 0, 0, []) := rfl
theorem cd_156_87 : cd 156 87 = some (.bipush 51, 2, 0, 0, 0, []) := rfl
theorem cd_156_89 : cd 156 89 = some (.iaload, 1, 0, 0, 0, []) := rfl
theorem cd_156_90 : cd 156 90 = some (.ireturn, 1, 0, 0, 0, []) := rfl
theorem cd_157_0 : cd 157 0 = some (.aload_n 0, 1, 0, 0, 0, []) := rfl
theorem cd_157_1 : cd 157 1 = some (.aload_n 0, 1, 0, 0, 0, []) := rfl
theorem cd_157_2 : cd 157 2 = some (.iload_n 1, 1, 0, 0, 0, []) := rfl
theorem cd_157_3 : cd 157 3 = some (.invokevirtual 118, 3, 155, 2, 0, []) := rfl
theorem cd_157_6 : cd 157 6 = some (.ifCond .eq 7, 3, 0, 0, 0, []) := rfl
theorem cd_157_9 : cd 157 9 = some (.iload_n 2, 1, 0, 0, 0, []) := rfl
theorem cd_157_10 : cd 157 10 = some (.ifCond .ge 7, 3, 0, 0, 0, []) := rfl
theorem cd_157_13 : cd 157 13 = some (.iconst 1, 1, 0, 0, 0, []) := rfl
theorem cd_157_14 : cd 157 14 = some (.goto 4, 3, 0, 0, 0, []) := rfl
theorem cd_157_17 : cd 157 17 = some (.iconst 0, 1, 0, 0, 0, []) := rfl
theorem cd_157_18 : cd 157 18 = some (.invokevirtual 65, 3, 132, 2, 0, []) := rfl
theorem cd_157_21 : cd 157 21 = some (.ifCond .eq 5, 3, 0, 0, 0, []) := rfl
theorem cd_157_24 : cd 157 24 = some (.iconst 0, 1, 0, 0, 0, []) := rfl
theorem cd_157_25 : cd 157 25 = some (.ireturn, 1, 0, 0, 0, []) := rfl
theorem cd_157_26 : cd 157 26 = some (.iload_n 2, 1, 0, 0, 0, []) := rfl
theorem cd_157_27 : cd 157 27 = some (.aload_n 0, 1, 0, 0, 0, []) := rfl
theorem cd_157_28 : cd 157 28 = some (.getfield 7, 3, 9, 0, 0, []) := rfl
theorem cd_157_31 : cd 157 31 = some (.bipush 52, 2, 0, 0, 0, []) := rfl
theorem cd_157_33 : cd 157 33 = some (.bipush 9, 2, 0, 0, 0, []) := rfl
theorem cd_157_35 : cd 157 35 = some (.iload_n 1, 1, 0, 0, 0, []) := rfl
theorem cd_157_36 : cd 157 36 = some (.imul, 1, 0, 0, 0, []) := rfl
theorem cd_157_37 : cd 157 37 = some (.iadd, 1, 0, 0, 0, []) := rfl
theorem cd_157_38 : cd 157 38 = some (.iaload, 1, 0, 0, 0, []) := rfl
theorem cd_157_39 : cd 157 39 = some (.if_icmp .lt 7, 3, 0, 0, 0, []) := rfl
theorem cd_157_42 : cd 157 42 = some (.iconst (-1), 1, 0, 0, 0, []) := rfl
theorem cd_157_43 : cd 157 43 = some (.goto 19, 3, 0, 0, 0, []) := rfl
theorem cd_157_46 : cd 157 46 = some (.aload_n 0, 1, 0, 0, 0, []) := rfl
theorem cd_157_47 : cd 157 47 = some (.getfield 7, 3, 9, 0, 0, []) := rfl
theorem cd_157_50 : cd 157 50 = some (.bipush 52, 2, 0, 0, 0, []) := rfl
theorem cd_157_52 : cd 157 52 = some (.bipush 9, 2, 0, 0, 0, []) := rfl
theorem cd_157_54 : cd 157 54 = some (.iload_n 1, 1, 0, 0, 0, []) := rfl
theorem cd_157_55 : cd 157 55 = some (.imul, 1, 0, 0, 0, []) := rfl
theorem cd_157_56 : cd 157 56 = some (.iadd, 1, 0, 0, 0, []) := rfl
theorem cd_157_57 : cd 157 57 = some (.iconst 1, 1, 0, 0, 0, []) := rfl
theorem cd_157_58 : cd 157 58 = some (.iadd, 1, 0, 0, 0, []) := rfl
theorem cd_157_59 : cd 157 59 = some (.iload_n 2, 1, 0, 0, 0, []) := rfl
theorem cd_157_60 : cd 157 60 = some (.iadd, 1, 0, 0, 0, []) := rfl
theorem cd_157_61 : cd 157 61 = some (.iaload, 1, 0, 0, 0, []) := rfl
theorem cd_157_62 : cd 157 62 = some (.ireturn, 1, 0, 0, 0, []) := rfl
theorem cd_158_0 : cd 158 0 = some (.iload_n 1, 1, 0, 0, 0, []) := rfl
theorem cd_158_1 : cd 158 1 = some (.iconst 0, 1, 0, 0, 0, []) := rfl
theorem cd_158_2 : cd 158 2 = some (.aload_n 0, 1, 0, 0, 0, []) := rfl
theorem cd_158_3 : cd 158 3 = some (.invokevirtual 86, 3, 138, 1, 0, []) := rfl
theorem cd_158_6 : cd 158 6 = some (.iconst 1, 1, 0, 0, 0, []) := rfl
theorem cd_158_7 : cd 158 7 = some (.isub, 1, 0, 0, 0, []) := rfl
theorem cd_158_8 : cd 158 8 = some (.invokestatic 73, 3, 133, 3, 2, []) := rfl
theorem cd_158_11 : cd 158 11 = some (.ireturn, 1, 0, 0, 0, []) := rfl
theorem cd_159_0 : cd 159 0 = some (.iload_n 0, 1, 0, 0, 0, []) := rfl
theorem cd_159_1 : cd 159 1 = some (.bipush 47, 2, 0, 0, 0, []) := rfl
theorem cd_159_3 : cd 159 3 = some (.if_icmp .ne 32, 3, 0, 0, 0, []) := rfl
theorem cd_159_6 : cd 159 6 = some (.iload_n 1, 1, 0, 0, 0, []) := rfl
theorem cd_159_7 : cd 159 7 = some (.iconst 3, 1, 0, 0, 0, []) := rfl
theorem cd_159_8 : cd 159 8 = some (.if_icmp .ne 7, 3, 0, 0, 0, []) := rfl
theorem cd_159_11 : cd 159 11 = some (.iconst 2, 1, 0, 0, 0, []) := rfl
theorem cd_159_12 : cd 159 12 = some (.goto 22, 3, 0, 0, 0, []) := rfl
theorem cd_159_15 : cd 159 15 = some (.iload_n 1, 1, 0, 0, 0, []) := rfl
theorem cd_159_16 : cd 159 16 = some (.iconst 2, 1, 0, 0, 0, []) := rfl
theorem cd_159_17 : cd 159 17 = some (.if_icmp .ne 7, 3, 0, 0, 0, []) := rfl
theorem cd_159_20 : cd 159 20 = some (.iconst 3, 1, 0, 0, 0, []) := rfl
theorem cd_159_21 : cd 159 21 = some (.goto 13, 3, 0, 0, 0, []) := rfl
theorem cd_159_24 : cd 159 24 = some (.iload_n 1, 1, 0, 0, 0, []) := rfl
theorem cd_159_25 : cd 159 25 = some (.iconst 1, 1, 0, 0, 0, []) := rfl
theorem cd_159_26 : cd 159 26 = some (.if_icmp .ne 7, 3, 0, 0, 0, []) := rfl
theorem cd_159_29 : cd 159 29 = some (.iconst 0, 1, 0, 0, 0, []) := rfl
theorem cd_159_30 : cd 159 30 = some (.goto 4, 3, 0, 0, 0, []) := rfl
theorem cd_159_33 : cd 159 33 = some (.iconst 1, 1, 0, 0, 0, []) := rfl
theorem cd_159_34 : cd 159 34 = some (.ireturn, 1, 0, 0, 0, []) := rfl
theorem cd_159_35 : cd 159 35 = some (.iload_n 1, 1, 0, 0, 0, []) := rfl
theorem cd_159_36 : cd 159 36 = some (.iconst 3, 1, 0, 0, 0, []) := rfl
theorem cd_159_37 : cd 159 37 = some (.if_icmp .ne 7, 3, 0, 0, 0, []) := rfl
theorem cd_159_40 : cd 159 40 = some (.iconst 0, 1, 0, 0, 0, []) := rfl
theorem cd_159_41 : cd 159 41 = some (.goto 21, 3, 0, 0, 0, []) := rfl
theorem cd_159_44 : cd 159 44 = some (.iload_n 1, 1, 0, 0, 0, []) := rfl
theorem cd_159_45 : cd 159 45 = some (.ifCond .ne 7, 3, 0, 0, 0, []) := rfl
theorem cd_159_48 : cd 159 48 = some (.iconst 3, 1, 0, 0, 0, []) := rfl
theorem cd_159_49 : cd 159 49 = some (.goto 13, 3, 0, 0, 0, []) := rfl
theorem cd_159_52 : cd 159 52 = some (.iload_n 1, 1, 0, 0, 0, []) := rfl
theorem cd_159_53 : cd 159 53 = some (.iconst 1, 1, 0, 0, 0, []) := rfl
theorem cd_159_54 : cd 159 54 = some (.if_icmp .ne 7, 3, 0, 0, 0, []) := rfl
theorem cd_159_57 : cd 159 57 = some (.iconst 2, 1, 0, 0, 0, []) := rfl
theorem cd_159_58 : cd 159 58 = some (.goto 4, 3, 0, 0, 0, []) := rfl
theorem cd_159_61 : cd 159 61 = some (.iconst 1, 1, 0, 0, 0, []) := rfl
theorem cd_159_62 : cd 159 62 = some (.ireturn, 1, 0, 0, 0, []) := rfl
theorem cd_160_0 : cd 160 0 = some (.aload_n 0, 1, 0, 0, 0, []) := rfl
theorem cd_160_1 : cd 160 1 = some (.getfield 7, 3, 9, 0, 0, []) := rfl
theorem cd_160_4 : cd 160 4 = some (.iconst 0, 1, 0, 0, 0, []) := rfl
theorem cd_160_5 : cd 160 5 = some (.iaload, 1, 0, 0, 0, []) := rfl
theorem cd_160_6 : cd 160 6 = some (.istore_n 2, 1, 0, 0, 0, []) := rfl
theorem cd_160_7 : cd 160 7 = some (.aload_n 0, 1, 0, 0, 0, []) := rfl
theorem cd_160_8 : cd 160 8 = some (.getfield 7, 3, 9, 0, 0, []) := rfl
theorem cd_160_11 : cd 160 11 = some (.iconst 1, 1, 0, 0, 0, []) := rfl
theorem cd_160_12 : cd 160 12 = some (.iaload, 1, 0, 0, 0, []) := rfl
theorem cd_160_13 : cd 160 13 = some (.istore_n 3, 1, 0, 0, 0, []) := rfl
theorem cd_160_14 : cd 160 14 = some (.iload_n 1, 1, 0, 0, 0, []) := rfl
theorem cd_160_15 : cd 160 15 = some (.iload_n 2, 1, 0, 0, 0, []) := rfl
theorem cd_160_16 : cd 160 16 = some (.if_icmp .ge 7, 3, 0, 0, 0, []) := rfl
theorem cd_160_19 : cd 160 19 = some (.iconst 0, 1, 0, 0, 0, []) := rfl
theorem cd_160_20 : cd 160 20 = some (.goto 28, 3, 0, 0, 0, []) := rfl
theorem cd_160_23 : cd 160 23 = some (.iload_n 1, 1, 0, 0, 0, []) := rfl
theorem cd_160_24 : cd 160 24 = some (.iload_n 2, 1, 0, 0, 0, []) := rfl
theorem cd_160_25 : cd 160 25 = some (.iload_n 3, 1, 0, 0, 0, []) := rfl
theorem cd_160_26 : cd 160 26 = some (.iadd, 1, 0, 0, 0, []) := rfl
theorem cd_160_27 : cd 160 27 = some (.if_icmp .ge 7, 3, 0, 0, 0, []) := rfl
theorem cd_160_30 : cd 160 30 = some (.iconst 1, 1, 0, 0, 0, []) := rfl
theorem cd_160_31 : cd 160 31 = some (.goto 17, 3, 0, 0, 0, []) := rfl
theorem cd_160_34 : cd 160 34 = some (.iload_n 1, 1, 0, 0, 0, []) := rfl
theorem cd_160_35 : cd 160 35 = some (.iconst 2, 1, 0, 0, 0, []) := rfl
theorem cd_160_36 : cd 160 36 = some (.iload_n 2, 1, 0, 0, 0, []) := rfl
theorem cd_160_37 : cd 160 37 = some (.imul, 1, 0, 0, 0, []) := rfl
theorem cd_160_38 : cd 160 38 = some (.iload_n 3, 1, 0, 0, 0, []) := rfl
theorem cd_160_39 : cd 160 39 = some (.iadd, 1, 0, 0, 0, []) := rfl
theorem cd_160_40 : cd 160 40 = some (.if_icmp .ge 7, 3, 0, 0, 0, []) := rfl
theorem cd_160_43 : cd 160 43 = some (.iconst 2, 1, 0, 0, 0, []) := rfl
theorem cd_160_44 : cd 160 44 = some (.goto 4, 3, 0, 0, 0, []) := rfl
theorem cd_160_47 : cd 160 47 = some (.iconst 3, 1, 0, 0, 0, []) := rfl
theorem cd_160_48 : cd 160 48 = some (.istore 4, 2, 0, 0, 0, []) := rfl
theorem cd_160_50 : cd 160 50 = some (.iload 4, 2, 0, 0, 0, []) := rfl
theorem cd_160_52 : cd 160 52 = some (.ifCond .ne 7, 3, 0, 0, 0, []) := rfl
theorem cd_160_55 : cd 160 55 = some (.iconst 0, 1, 0, 0, 0, []) := rfl
theorem cd_160_56 : cd 160 56 = some (.goto 34, 3, 0, 0, 0, []) := rfl
theorem cd_160_59 : cd 160 59 = some (.iload 4, 2, 0, 0, 0, []) := rfl
theorem cd_160_61 : cd 160 61 = some (.iconst 1, 1, 0, 0, 0, []) := rfl
theorem cd_160_62 : cd 160 62 = some (.if_icmp .ne 9, 3, 0, 0, 0, []) := rfl
theorem cd_160_65 : cd 160 65 = some (.iload_n 1, 1, 0, 0, 0, []) := rfl
theorem cd_160_66 : cd 160 66 = some (.iload_n 2, 1, 0, 0, 0, []) := rfl
theorem cd_160_67 : cd 160 67 = some (.isub, 1, 0, 0, 0, []) := rfl
theorem cd_160_68 : cd 160 68 = some (.goto 22, 3, 0, 0, 0, []) := rfl
theorem cd_160_71 : cd 160 71 = some (.iload 4, 2, 0, 0, 0, []) := rfl
theorem cd_160_73 : cd 160 73 = some (.iconst 2, 1, 0, 0, 0, []) := rfl
theorem cd_160_74 : cd 160 74 = some (.if_icmp .ne 9, 3, 0, 0, 0, []) := rfl
theorem cd_160_77 : cd 160 77 = some (.iload_n 3, 1, 0, 0, 0, []) := rfl
theorem cd_160_78 : cd 160 78 = some (.iconst 1, 1, 0, 0, 0, []) := rfl
theorem cd_160_79 : cd 160 79 = some (.isub, 1, 0, 0, 0, []) := rfl
theorem cd_160_80 : cd 160 80 = some (.goto 10, 3, 0, 0, 0, []) := rfl
theorem cd_160_83 : cd 160 83 = some (.iload_n 1, 1, 0, 0, 0, []) := rfl
theorem cd_160_84 : cd 160 84 = some (.iconst 2, 1, 0, 0, 0, []) := rfl
theorem cd_160_85 : cd 160 85 = some (.iload_n 2, 1, 0, 0, 0, []) := rfl
theorem cd_160_86 : cd 160 86 = some (.imul, 1, 0, 0, 0, []) := rfl
theorem cd_160_87 : cd 160 87 = some (.isub, 1, 0, 0, 0, []) := rfl
theorem cd_160_88 : cd 160 88 = some (.iload_n 3, 1, 0, 0, 0, []) := rfl
theorem cd_160_89 : cd 160 89 = some (.isub, 1, 0, 0, 0, []) := rfl
theorem cd_160_90 : cd 160 90 = some (.istore 5, 2, 0, 0, 0, []) := rfl
theorem cd_160_92 : cd 160 92 = some (.iload 4, 2, 0, 0, 0, []) := rfl
theorem cd_160_94 : cd 160 94 = some (.ifCond .ne 7, 3, 0, 0, 0, []) := rfl
theorem cd_160_97 : cd 160 97 = some (.iload_n 1, 1, 0, 0, 0, []) := rfl
theorem cd_160_98 : cd 160 98 = some (.goto 30, 3, 0, 0, 0, []) := rfl
theorem cd_160_101 : cd 160 101 = some (.iload 4, 2, 0, 0, 0, []) := rfl
theorem cd_160_103 : cd 160 103 = some (.iconst 1, 1, 0, 0, 0, []) := rfl
theorem cd_160_104 : cd 160 104 = some (.if_icmp .ne 9, 3, 0, 0, 0, []) := rfl
theorem cd_160_107 : cd 160 107 = some (.iload_n 2, 1, 0, 0, 0, []) := rfl
theorem cd_160_108 : cd 160 108 = some (.iconst 1, 1, 0, 0, 0, []) := rfl
theorem cd_160_109 : cd 160 109 = some (.isub, 1, 0, 0, 0, []) := rfl
theorem cd_160_110 : cd 160 110 = some (.goto 18, 3, 0, 0, 0, []) := rfl
theorem cd_160_113 : cd 160 113 = some (.iload 4, 2, 0, 0, 0, []) := rfl
theorem cd_160_115 : cd 160 115 = some (.iconst 2, 1, 0, 0, 0, []) := rfl
theorem cd_160_116 : cd 160 116 = some (.if_icmp .ne 11, 3, 0, 0, 0, []) := rfl
theorem cd_160_119 : cd 160 119 = some (.iload_n 1, 1, 0, 0, 0, []) := rfl
theorem cd_160_120 : cd 160 120 = some (.iload_n 2, 1, 0, 0, 0, []) := rfl
theorem cd_160_121 : cd 160 121 = some (.isub, 1, 0, 0, 0, []) := rfl
theorem cd_160_122 : cd 160 122 = some (.iload_n 3, 1, 0, 0, 0, []) := rfl
theorem cd_160_123 : cd 160 123 = some (.isub, 1, 0, 0, 0, []) := rfl
theorem cd_160_124 : cd 160 124 = some (.goto 4, 3, 0, 0, 0, []) := rfl
theorem cd_160_127 : cd 160 127 = some (.iconst 0, 1, 0, 0, 0, []) := rfl
theorem cd_160_128 : cd 160 128 = some (.istore 6, 2, 0, 0, 0, []) := rfl
theorem cd_160_130 : cd 160 130 = some (.aload_n 0, 1, 0, 0, 0, []) := rfl
theorem cd_160_131 : cd 160 131 = some (.iconst 0, 1, 0, 0, 0, []) := rfl
theorem cd_160_132 : cd 160 132 = some (.putfield 121, 3, 9, 9, 0, []) := rfl
theorem cd_160_135 : cd 160 135 = some (.aload_n 0, 1, 0, 0, 0, []) := rfl
theorem cd_160_136 : cd 160 136 = some (.iconst 0, 1, 0, 0, 0, []) := rfl
theorem cd_160_137 : cd 160 137 = some (.putfield 124, 3, 9, 11, 0, []) := rfl
theorem cd_160_140 : cd 160 140 = some (.aload_n 0, 1, 0, 0, 0, []) := rfl
theorem cd_160_141 : cd 160 141 = some (.iconst (-1), 1, 0, 0, 0, []) := rfl
theorem cd_160_142 : cd 160 142 = some (.putfield 127, 3, 9, 10, 0, []) := rfl
theorem cd_160_145 : cd 160 145 = some (.iconst 1, 1, 0, 0, 0, []) := rfl
theorem cd_160_146 : cd 160 146 = some (.istore 7, 2, 0, 0, 0, []) := rfl
theorem cd_160_148 : cd 160 148 = some (.iload 7, 2, 0, 0, 0, [1, 8]) := rfl
theorem cd_160_150 : cd 160 150 = some (.ifCond .eq 183, 3, 0, 0, 0, []) := rfl
theorem cd_160_153 : cd 160 153 = some (.iload 5, 2, 0, 0, 0, []) := rfl
theorem cd_160_155 : cd 160 155 = some (.iconst 0, 1, 0, 0, 0, []) := rfl
theorem cd_160_156 : cd 160 156 = some (.iload_n 3, 1, 0, 0, 0, []) := rfl
theorem cd_160_157 : cd 160 157 = some (.iconst 1, 1, 0, 0, 0, []) := rfl
theorem cd_160_158 : cd 160 158 = some (.isub, 1, 0, 0, 0, []) := rfl
theorem cd_160_159 : cd 160 159 = some (.invokestatic 73, 3, 133, 3, 2, []) := rfl
theorem cd_160_162 : cd 160 162 = some (.ifCond .eq 171, 3, 0, 0, 0, []) := rfl
theorem cd_160_165 : cd 160 165 = some (.iload 6, 2, 0, 0, 0, []) := rfl
theorem cd_160_167 : cd 160 167 = some (.iconst 0, 1, 0, 0, 0, []) := rfl
theorem cd_160_168 : cd 160 168 = some (.iload_n 2, 1, 0, 0, 0, []) := rfl
theorem cd_160_169 : cd 160 169 = some (.iconst 1, 1, 0, 0, 0, []) := rfl
theorem cd_160_170 : cd 160 170 = some (.isub, 1, 0, 0, 0, []) := rfl
theorem cd_160_171 : cd 160 171 = some (.invokestatic 73, 3, 133, 3, 2, []) := rfl
theorem cd_160_174 : cd 160 174 = some (.ifCond .eq 159, 3, 0, 0, 0, []) := rfl
theorem cd_160_177 : cd 160 177 = some (.aload_n 0, 1, 0, 0, 0, []) := rfl
theorem cd_160_178 : cd 160 178 = some (.iload 5, 2, 0, 0, 0, []) := rfl
theorem cd_160_180 : cd 160 180 = some (.iload_n 2, 1, 0, 0, 0, []) := rfl
theorem cd_160_181 : cd 160 181 = some (.imul, 1, 0, 0, 0, []) := rfl
theorem cd_160_182 : cd 160 182 = some (.iload 6, 2, 0, 0, 0, []) := rfl
theorem cd_160_184 : cd 160 184 = some (.iadd, 1, 0, 0, 0, []) := rfl
theorem cd_160_185 : cd 160 185 = some (.invokevirtual 95, 3, 139, 2, 0, []) := rfl
theorem cd_160_188 : cd 160 188 = some (.istore 8, 2, 0, 0, 0, []) := rfl
theorem cd_160_190 : cd 160 190 = some (.aload_n 0, 1, 0, 0, 0, []) := rfl
theorem cd_160_191 : cd 160 191 = some (.getfield 22, 3, 9, 7, 0, []) := rfl
theorem cd_160_194 : cd 160 194 = some (.aload_n 0, 1, 0, 0, 0, []) := rfl
theorem cd_160_195 : cd 160 195 = some (.getfield 121, 3, 9, 9, 0, []) := rfl
theorem cd_160_198 : cd 160 198 = some (.iload 5, 2, 0, 0, 0, []) := rfl
theorem cd_160_200 : cd 160 200 = some (.iload_n 2, 1, 0, 0, 0, []) := rfl
theorem cd_160_201 : cd 160 201 = some (.imul, 1, 0, 0, 0, []) := rfl
theorem cd_160_202 : cd 160 202 = some (.iload 6, 2, 0, 0, 0, []) := rfl
theorem cd_160_204 : cd 160 204 = some (.iadd, 1, 0, 0, 0, []) := rfl
theorem cd_160_205 : cd 160 205 = some (.iastore, 1, 0, 0, 0, []) := rfl
theorem cd_160_206 : cd 160 206 = some (.aload_n 0, 1, 0, 0, 0, []) := rfl
theorem cd_160_207 : cd 160 207 = some (.getfield 25, 3, 9, 8, 0, []) := rfl
theorem cd_160_210 : cd 160 210 = some (.aload_n 0, 1, 0, 0, 0, []) := rfl
theorem cd_160_211 : cd 160 211 = some (.getfield 121, 3, 9, 9, 0, []) := rfl
theorem cd_160_214 : cd 160 214 = some (.iload 4, 2, 0, 0, 0, []) := rfl
theorem cd_160_216 : cd 160 216 = some (.iconst 2, 1, 0, 0, 0, []) := rfl
theorem cd_160_217 : cd 160 217 = some (.irem, 1, 0, 0, 0, []) := rfl
theorem cd_160_218 : cd 160 218 = some (.iconst 1, 1, 0, 0, 0, []) := rfl
theorem cd_160_219 : cd 160 219 = some (.if_icmp .ne 7, 3, 0, 0, 0, []) := rfl
theorem cd_160_222 : cd 160 222 = some (.iconst 1, 1, 0, 0, 0, []) := rfl
theorem cd_160_223 : cd 160 223 = some (.goto 4, 3, 0, 0, 0, []) := rfl
theorem cd_160_226 : cd 160 226 = some (.iconst 0, 1, 0, 0, 0, []) := rfl
theorem cd_160_227 : cd 160 227 = some (.bastore, 1, 0, 0, 0, []) := rfl
theorem cd_160_228 : cd 160 228 = some (.aload_n 0, 1, 0, 0, 0, []) := rfl
theorem cd_160_229 : cd 160 229 = some (.dup, 1, 0, 0, 0, []) := rfl
theorem cd_160_230 : cd 160 230 = some (.getfield 121, 3, 9, 9, 0, []) := rfl
theorem cd_160_233 : cd 160 233 = some (.iconst 1, 1, 0, 0, 0, []) := rfl
theorem cd_160_234 : cd 160 234 = some (.iadd, 1, 0, 0, 0, []) := rfl
theorem cd_160_235 : cd 160 235 = some (.putfield 121, 3, 9, 9, 0, []) := rfl
theorem cd_160_238 : cd 160 238 = some (.iload 8, 2, 0, 0, 0, []) := rfl
theorem cd_160_240 : cd 160 240 = some (.bipush 35, 2, 0, 0, 0, []) := rfl
theorem cd_160_242 : cd 160 242 = some (.if_icmp .eq 7, 3, 0, 0, 0, []) := rfl
theorem cd_160_245 : cd 160 245 = some (.iconst 1, 1, 0, 0, 0, []) := rfl
theorem cd_160_246 : cd 160 246 = some (.goto 4, 3, 0, 0, 0, []) := rfl
theorem cd_160_249 : cd 160 249 = some (.iconst 0, 1, 0, 0, 0, []) := rfl
theorem cd_160_250 : cd 160 250 = some (.istore 7, 2, 0, 0, 0, []) := rfl
theorem cd_160_252 : cd 160 252 = some (.iload 8, 2, 0, 0, 0, []) := rfl
theorem cd_160_254 : cd 160 254 = some (.invokestatic 99, 3, 144, 1, 2, []) := rfl
theorem cd_160_257 : cd 160 257 = some (.ifCond .eq 22, 3, 0, 0, 0, []) := rfl
theorem cd_160_260 : cd 160 260 = some (.iload 8, 2, 0, 0, 0, []) := rfl
theorem cd_160_262 : cd 160 262 = some (.iload 4, 2, 0, 0, 0, []) := rfl
theorem cd_160_264 : cd 160 264 = some (.invokestatic 130, 3, 159, 2, 2, []) := rfl
theorem cd_160_267 : cd 160 267 = some (.istore 4, 2, 0, 0, 0, []) := rfl
theorem cd_160_269 : cd 160 269 = some (.aload_n 0, 1, 0, 0, 0, []) := rfl
theorem cd_160_270 : cd 160 270 = some (.dup, 1, 0, 0, 0, []) := rfl
theorem cd_160_271 : cd 160 271 = some (.getfield 124, 3, 9, 11, 0, []) := rfl
theorem cd_160_274 : cd 160 274 = some (.iconst 1, 1, 0, 0, 0, []) := rfl
theorem cd_160_275 : cd 160 275 = some (.iadd, 1, 0, 0, 0, []) := rfl
theorem cd_160_276 : cd 160 276 = some (.putfield 124, 3, 9, 11, 0, []) := rfl
theorem cd_160_279 : cd 160 279 = some (.iload 5, 2, 0, 0, 0, []) := rfl
theorem cd_160_281 : cd 160 281 = some (.iload 4, 2, 0, 0, 0, []) := rfl
theorem cd_160_283 : cd 160 283 = some (.ifCond .ne 7, 3, 0, 0, 0, []) := rfl
theorem cd_160_286 : cd 160 286 = some (.iconst 1, 1, 0, 0, 0, []) := rfl
theorem cd_160_287 : cd 160 287 = some (.goto 14, 3, 0, 0, 0, []) := rfl
theorem cd_160_290 : cd 160 290 = some (.iload 4, 2, 0, 0, 0, []) := rfl
theorem cd_160_292 : cd 160 292 = some (.iconst 2, 1, 0, 0, 0, []) := rfl
theorem cd_160_293 : cd 160 293 = some (.if_icmp .ne 7, 3, 0, 0, 0, []) := rfl
theorem cd_160_296 : cd 160 296 = some (.iconst (-1), 1, 0, 0, 0, []) := rfl
theorem cd_160_297 : cd 160 297 = some (.goto 4, 3, 0, 0, 0, []) := rfl
theorem cd_160_300 : cd 160 300 = some (.iconst 0, 1, 0, 0, 0, []) := rfl
theorem cd_160_301 : cd 160 301 = some (.iadd, 1, 0, 0, 0, []) := rfl
theorem cd_160_302 : cd 160 302 = some (.istore 5, 2, 0, 0, 0, []) := rfl
theorem cd_160_304 : cd 160 304 = some (.iload 6, 2, 0, 0, 0, []) := rfl
theorem cd_160_306 : cd 160 306 = some (.iload 4, 2, 0, 0, 0, []) := rfl
theorem cd_160_308 : cd 160 308 = some (.iconst 3, 1, 0, 0, 0, []) := rfl
theorem cd_160_309 : cd 160 309 = some (.if_icmp .ne 7, 3, 0, 0, 0, []) := rfl
theorem cd_160_312 : cd 160 312 = some (.iconst 1, 1, 0, 0, 0, []) := rfl
theorem cd_160_313 : cd 160 313 = some (.goto 14, 3, 0, 0, 0, []) := rfl
theorem cd_160_316 : cd 160 316 = some (.iload 4, 2, 0, 0, 0, []) := rfl
theorem cd_160_318 : cd 160 318 = some (.iconst 1, 1, 0, 0, 0, []) := rfl
theorem cd_160_319 : cd 160 319 = some (.if_icmp .ne 7, 3, 0, 0, 0, []) := rfl
theorem cd_160_322 : cd 160 322 = some (.iconst (-1), 1, 0, 0, 0, []) := rfl
theorem cd_160_323 : cd 160 323 = some (.goto 4, 3, 0, 0, 0, []) := rfl
theorem cd_160_326 : cd 160 326 = some (.iconst 0, 1, 0, 0, 0, []) := rfl
theorem cd_160_327 : cd 160 327 = some (.iadd, 1, 0, 0, 0, []) := rfl
theorem cd_160_328 : cd 160 328 = some (.istore 6, 2, 0, 0, 0, []) := rfl
theorem cd_160_330 : cd 160 330 = some (.goto (-182), 3, 0, 0, 0, []) := rfl
theorem cd_160_333 : cd 160 333 = some (.iload 7, 2, 0, 0, 0, []) := rfl
theorem cd_160_335 : cd 160 335 = some (.ifCond .eq 53, 3, 0, 0, 0, []) := rfl
theorem cd_160_338 : cd 160 338 = some (.aload_n 0, 1, 0, 0, 0, []) := rfl
theorem cd_160_339 : cd 160 339 = some (.iload 5, 2, 0, 0, 0, []) := rfl
theorem cd_160_341 : cd 160 341 = some (.ifCond .ge 8, 3, 0, 0, 0, []) := rfl
theorem cd_160_344 : cd 160 344 = some (.iload 6, 2, 0, 0, 0, []) := rfl
theorem cd_160_346 : cd 160 346 = some (.goto 39, 3, 0, 0, 0, []) := rfl
theorem cd_160_349 : cd 160 349 = some (.iload 6, 2, 0, 0, 0, []) := rfl
theorem cd_160_351 : cd 160 351 = some (.iload_n 2, 1, 0, 0, 0, []) := rfl
theorem cd_160_352 : cd 160 352 = some (.if_icmp .ne 10, 3, 0, 0, 0, []) := rfl
theorem cd_160_355 : cd 160 355 = some (.iload_n 2, 1, 0, 0, 0, []) := rfl
theorem cd_160_356 : cd 160 356 = some (.iload 5, 2, 0, 0, 0, []) := rfl
theorem cd_160_358 : cd 160 358 = some (.iadd, 1, 0, 0, 0, []) := rfl
theorem cd_160_359 : cd 160 359 = some (.goto 26, 3, 0, 0, 0, []) := rfl
theorem cd_160_362 : cd 160 362 = some (.iload 5, 2, 0, 0, 0, []) := rfl
theorem cd_160_364 : cd 160 364 = some (.iload_n 3, 1, 0, 0, 0, []) := rfl
theorem cd_160_365 : cd 160 365 = some (.if_icmp .ne 12, 3, 0, 0, 0, []) := rfl
theorem cd_160_368 : cd 160 368 = some (.iload_n 2, 1, 0, 0, 0, []) := rfl
theorem cd_160_369 : cd 160 369 = some (.iload_n 3, 1, 0, 0, 0, []) := rfl
theorem cd_160_370 : cd 160 370 = some (.iadd, 1, 0, 0, 0, []) := rfl
theorem cd_160_371 : cd 160 371 = some (.iload 6, 2, 0, 0, 0, []) := rfl
theorem cd_160_373 : cd 160 373 = some (.iadd, 1, 0, 0, 0, []) := rfl
theorem cd_160_374 : cd 160 374 = some (.goto 11, 3, 0, 0, 0, []) := rfl
theorem cd_160_377 : cd 160 377 = some (.iconst 2, 1, 0, 0, 0, []) := rfl
theorem cd_160_378 : cd 160 378 = some (.iload_n 2, 1, 0, 0, 0, []) := rfl
theorem cd_160_379 : cd 160 379 = some (.imul, 1, 0, 0, 0, []) := rfl
theorem cd_160_380 : cd 160 380 = some (.iload_n 3, 1, 0, 0, 0, []) := rfl
theorem cd_160_381 : cd 160 381 = some (.iadd, 1, 0, 0, 0, []) := rfl
theorem cd_160_382 : cd 160 382 = some (.iload 5, 2, 0, 0, 0, []) := rfl
theorem cd_160_384 : cd 160 384 = some (.iadd, 1, 0, 0, 0, []) := rfl
theorem cd_160_385 : cd 160 385 = some (.putfield 127, 3, 9, 10, 0, []) := rfl
theorem cd_160_388 : cd 160 388 = some (.return_, 1, 0, 0, 0, []) := rfl
theorem cd_161_0 : cd 161 0 = some (.iconst 0, 1, 0, 0, 0, []) := rfl
theorem cd_161_1 : cd 161 1 = some (.istore_n 1, 1, 0, 0, 0, []) := rfl
theorem cd_161_2 : cd 161 2 = some (.iconst 0, 1, 0, 0, 0, []) := rfl
theorem cd_161_3 : cd 161 3 = some (.istore_n 2, 1, 0, 0, 0, []) := rfl
theorem cd_161_4 : cd 161 4 = some (.iload_n 2, 1, 0, 0, 0, [3]) := rfl
theorem cd_161_5 : cd 161 5 = some (.aload_n 0, 1, 0, 0, 0, []) := rfl
theorem cd_161_6 : cd 161 6 = some (.getfield 121, 3, 9, 9, 0, []) := rfl
theorem cd_161_9 : cd 161 9 = some (.if_icmp .ge 47, 3, 0, 0, 0, []) := rfl
theorem cd_161_12 : cd 161 12 = some (.iconst 0, 1, 0, 0, 0, []) := rfl
theorem cd_161_13 : cd 161 13 = some (.istore_n 3, 1, 0, 0, 0, []) := rfl
theorem cd_161_14 : cd 161 14 = some (.iload_n 3, 1, 0, 0, 0, []) := rfl
theorem cd_161_15 : cd 161 15 = some (.iload_n 2, 1, 0, 0, 0, []) := rfl
theorem cd_161_16 : cd 161 16 = some (.if_icmp .ge 34, 3, 0, 0, 0, []) := rfl
theorem cd_161_19 : cd 161 19 = some (.iload_n 1, 1, 0, 0, 0, []) := rfl
theorem cd_161_20 : cd 161 20 = some (.ifCond .ne 18, 3, 0, 0, 0, []) := rfl
theorem cd_161_23 : cd 161 23 = some (.aload_n 0, 1, 0, 0, 0, []) := rfl
theorem cd_161_24 : cd 161 24 = some (.getfield 22, 3, 9, 7, 0, []) := rfl
theorem cd_161_27 : cd 161 27 = some (.iload_n 2, 1, 0, 0, 0, []) := rfl
theorem cd_161_28 : cd 161 28 = some (.iaload, 1, 0, 0, 0, []) := rfl
theorem cd_161_29 : cd 161 29 = some (.aload_n 0, 1, 0, 0, 0, []) := rfl
theorem cd_161_30 : cd 161 30 = some (.getfield 22, 3, 9, 7, 0, []) := rfl
theorem cd_161_33 : cd 161 33 = some (.iload_n 3, 1, 0, 0, 0, []) := rfl
theorem cd_161_34 : cd 161 34 = some (.iaload, 1, 0, 0, 0, []) := rfl
theorem cd_161_35 : cd 161 35 = some (.if_icmp .ne 7, 3, 0, 0, 0, []) := rfl
theorem cd_161_38 : cd 161 38 = some (.iconst 1, 1, 0, 0, 0, []) := rfl
theorem cd_161_39 : cd 161 39 = some (.goto 4, 3, 0, 0, 0, []) := rfl
theorem cd_161_42 : cd 161 42 = some (.iconst 0, 1, 0, 0, 0, []) := rfl
theorem cd_161_43 : cd 161 43 = some (.istore_n 1, 1, 0, 0, 0, []) := rfl
theorem cd_161_44 : cd 161 44 = some (.iinc 3 1, 3, 0, 0, 0, []) := rfl
theorem cd_161_47 : cd 161 47 = some (.goto (-33), 3, 0, 0, 0, []) := rfl
theorem cd_161_50 : cd 161 50 = some (.iinc 2 1, 3, 0, 0, 0, []) := rfl
theorem cd_161_53 : cd 161 53 = some (.goto (-49), 3, 0, 0, 0, []) := rfl
theorem cd_161_56 : cd 161 56 = some (.iload_n 1, 1, 0, 0, 0, []) := rfl
theorem cd_161_57 : cd 161 57 = some (.ireturn, 1, 0, 0, 0, []) := rfl
theorem cd_162_0 : cd 162 0 = some (.iconst 0, 1, 0, 0, 0, []) := rfl
theorem cd_162_1 : cd 162 1 = some (.istore_n 1, 1, 0, 0, 0, []) := rfl
theorem cd_162_2 : cd 162 2 = some (.iconst 0, 1, 0, 0, 0, []) := rfl
theorem cd_162_3 : cd 162 3 = some (.istore_n 2, 1, 0, 0, 0, []) := rfl
theorem cd_162_4 : cd 162 4 = some (.iload_n 2, 1, 0, 0, 0, []) := rfl
theorem cd_162_5 : cd 162 5 = some (.aload_n 0, 1, 0, 0, 0, []) := rfl
theorem cd_162_6 : cd 162 6 = some (.getfield 121, 3, 9, 9, 0, []) := rfl
theorem cd_162_9 : cd 162 9 = some (.if_icmp .ge 33, 3, 0, 0, 0, []) := rfl
theorem cd_162_12 : cd 162 12 = some (.iload_n 1, 1, 0, 0, 0, []) := rfl
theorem cd_162_13 : cd 162 13 = some (.aload_n 0, 1, 0, 0, 0, []) := rfl
theorem cd_162_14 : cd 162 14 = some (.aload_n 0, 1, 0, 0, 0, []) := rfl
theorem cd_162_15 : cd 162 15 = some (.getfield 22, 3, 9, 7, 0, []) := rfl
theorem cd_162_18 : cd 162 18 = some (.iload_n 2, 1, 0, 0, 0, []) := rfl
theorem cd_162_19 : cd 162 19 = some (.iaload, 1, 0, 0, 0, []) := rfl
theorem cd_162_20 : cd 162 20 = some (.invokevirtual 95, 3, 139, 2, 0, []) := rfl
theorem cd_162_23 : cd 162 23 = some (.invokestatic 134, 3, 143, 1, 2, []) := rfl
theorem cd_162_26 : cd 162 26 = some (.ifCond .eq 7, 3, 0, 0, 0, []) := rfl
theorem cd_162_29 : cd 162 29 = some (.iconst 1, 1, 0, 0, 0, []) := rfl
theorem cd_162_30 : cd 162 30 = some (.goto 4, 3, 0, 0, 0, []) := rfl
theorem cd_162_33 : cd 162 33 = some (.iconst 0, 1, 0, 0, 0, []) := rfl
theorem cd_162_34 : cd 162 34 = some (.iadd, 1, 0, 0, 0, []) := rfl
theorem cd_162_35 : cd 162 35 = some (.istore_n 1, 1, 0, 0, 0, []) := rfl
theorem cd_162_36 : cd 162 36 = some (.iinc 2 1, 3, 0, 0, 0, []) := rfl
theorem cd_162_39 : cd 162 39 = some (.goto (-35), 3, 0, 0, 0, []) := rfl
theorem cd_162_42 : cd 162 42 = some (.iload_n 1, 1, 0, 0, 0, []) := rfl
theorem cd_162_43 : cd 162 43 = some (.ireturn, 1, 0, 0, 0, []) := rfl
theorem cd_163_0 : cd 163 0 = some (.aload_n 0, 1, 0, 0, 0, []) := rfl
theorem cd_163_1 : cd 163 1 = some (.getfield 127, 3, 9, 10, 0, []) := rfl
theorem cd_163_4 : cd 163 4 = some (.iconst (-1), 1, 0, 0, 0, []) := rfl
theorem cd_163_5 : cd 163 5 = some (.if_icmp .eq 11, 3, 0, 0, 0, []) := rfl
theorem cd_163_8 : cd 163 8 = some (.iload_n 1, 1, 0, 0, 0, []) := rfl
theorem cd_163_9 : cd 163 9 = some (.aload_n 0, 1, 0, 0, 0, []) := rfl
theorem cd_163_10 : cd 163 10 = some (.getfield 127, 3, 9, 10, 0, []) := rfl
theorem cd_163_13 : cd 163 13 = some (.if_icmp .gt 7, 3, 0, 0, 0, []) := rfl
theorem cd_163_16 : cd 163 16 = some (.iconst 1, 1, 0, 0, 0, []) := rfl
theorem cd_163_17 : cd 163 17 = some (.goto 4, 3, 0, 0, 0, []) := rfl
theorem cd_163_20 : cd 163 20 = some (.iconst 0, 1, 0, 0, 0, []) := rfl
theorem cd_163_21 : cd 163 21 = some (.ireturn, 1, 0, 0, 0, []) := rfl
