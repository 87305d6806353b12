/-! ===== the code table, row by row: by program (wip/p28/gen4.py) ===== -/
theorem cd_38_0 : cd 38 0 = some (.aload_n 0, 1, 0, 0, 0, []) := rfl
theorem cd_38_1 : cd 38 1 = some (.invokespecial 3, 3, 0, 1, 6, []) := rfl
theorem cd_38_4 : cd 38 4 = some (.aload_n 0, 1, 0, 0, 0, []) := rfl
theorem cd_38_5 : cd 38 5 = some (.bipush 28, 2, 0, 0, 0, []) := rfl
theorem cd_38_7 : cd 38 7 = some (.newarray .long, 2, 0, 0, 0, []) := rfl
theorem cd_38_9 : cd 38 9 = some (.putfield 9, 3, 4, 0, 0, []) := rfl
theorem cd_38_12 : cd 38 12 = some (.aload_n 0, 1, 0, 0, 0, []) := rfl
theorem cd_38_13 : cd 38 13 = some (.bipush 49, 2, 0, 0, 0, []) := rfl
theorem cd_38_15 : cd 38 15 = some (.newarray .int, 2, 0, 0, 0, []) := rfl
theorem cd_38_17 : cd 38 17 = some (.putfield 15, 3, 4, 1, 0, []) := rfl
theorem cd_38_20 : cd 38 20 = some (.aload_n 0, 1, 0, 0, 0, []) := rfl
theorem cd_38_21 : cd 38 21 = some (.bipush 49, 2, 0, 0, 0, []) := rfl
theorem cd_38_23 : cd 38 23 = some (.newarray .int, 2, 0, 0, 0, []) := rfl
theorem cd_38_25 : cd 38 25 = some (.putfield 19, 3, 4, 2, 0, []) := rfl
theorem cd_38_28 : cd 38 28 = some (.aload_n 0, 1, 0, 0, 0, []) := rfl
theorem cd_38_29 : cd 38 29 = some (.bipush 28, 2, 0, 0, 0, []) := rfl
theorem cd_38_31 : cd 38 31 = some (.newarray .int, 2, 0, 0, 0, []) := rfl
theorem cd_38_33 : cd 38 33 = some (.putfield 22, 3, 4, 3, 0, []) := rfl
theorem cd_38_36 : cd 38 36 = some (.aload_n 0, 1, 0, 0, 0, []) := rfl
theorem cd_38_37 : cd 38 37 = some (.bipush 28, 2, 0, 0, 0, []) := rfl
theorem cd_38_39 : cd 38 39 = some (.newarray .int, 2, 0, 0, 0, []) := rfl
theorem cd_38_41 : cd 38 41 = some (.putfield 25, 3, 4, 4, 0, []) := rfl
theorem cd_38_44 : cd 38 44 = some (.return_, 1, 0, 0, 0, []) := rfl
theorem cd_39_0 : cd 39 0 = some (.aload_n 0, 1, 0, 0, 0, []) := rfl
theorem cd_39_1 : cd 39 1 = some (.aload_n 1, 1, 0, 0, 0, []) := rfl
theorem cd_39_2 : cd 39 2 = some (.invokevirtual 28, 3, 57, 1, 0, []) := rfl
theorem cd_39_5 : cd 39 5 = some (.putfield 34, 3, 4, 5, 0, []) := rfl
theorem cd_39_8 : cd 39 8 = some (.aload_n 0, 1, 0, 0, 0, []) := rfl
theorem cd_39_9 : cd 39 9 = some (.iload_n 3, 1, 0, 0, 0, []) := rfl
theorem cd_39_10 : cd 39 10 = some (.putfield 38, 3, 4, 6, 0, []) := rfl
theorem cd_39_13 : cd 39 13 = some (.aload_n 0, 1, 0, 0, 0, []) := rfl
theorem cd_39_14 : cd 39 14 = some (.iconst 0, 1, 0, 0, 0, []) := rfl
theorem cd_39_15 : cd 39 15 = some (.putfield 42, 3, 4, 7, 0, []) := rfl
theorem cd_39_18 : cd 39 18 = some (.aload_n 0, 1, 0, 0, 0, []) := rfl
theorem cd_39_19 : cd 39 19 = some (.iconst 0, 1, 0, 0, 0, []) := rfl
theorem cd_39_20 : cd 39 20 = some (.putfield 45, 3, 4, 8, 0, []) := rfl
theorem cd_39_23 : cd 39 23 = some (.aload_n 0, 1, 0, 0, 0, []) := rfl
theorem cd_39_24 : cd 39 24 = some (.iconst 0, 1, 0, 0, 0, []) := rfl
theorem cd_39_25 : cd 39 25 = some (.putfield 48, 3, 4, 9, 0, []) := rfl
theorem cd_39_28 : cd 39 28 = some (.aload_n 0, 1, 0, 0, 0, []) := rfl
theorem cd_39_29 : cd 39 29 = some (.iconst (-1), 1, 0, 0, 0, []) := rfl
theorem cd_39_30 : cd 39 30 = some (.putfield 51, 3, 4, 10, 0, []) := rfl
theorem cd_39_33 : cd 39 33 = some (.aload_n 0, 1, 0, 0, 0, []) := rfl
theorem cd_39_34 : cd 39 34 = some (.iconst 0, 1, 0, 0, 0, []) := rfl
theorem cd_39_35 : cd 39 35 = some (.putfield 54, 3, 4, 11, 0, []) := rfl
theorem cd_39_38 : cd 39 38 = some (.aload_n 0, 1, 0, 0, 0, []) := rfl
theorem cd_39_39 : cd 39 39 = some (.aload_n 2, 1, 0, 0, 0, []) := rfl
theorem cd_39_40 : cd 39 40 = some (.invokevirtual 58, 3, 40, 2, 0, []) := rfl
theorem cd_39_43 : cd 39 43 = some (.aload_n 0, 1, 0, 0, 0, []) := rfl
theorem cd_39_44 : cd 39 44 = some (.aload_n 2, 1, 0, 0, 0, []) := rfl
theorem cd_39_45 : cd 39 45 = some (.invokevirtual 62, 3, 41, 2, 0, []) := rfl
theorem cd_39_48 : cd 39 48 = some (.aload_n 0, 1, 0, 0, 0, []) := rfl
theorem cd_39_49 : cd 39 49 = some (.iconst 0, 1, 0, 0, 0, []) := rfl
theorem cd_39_50 : cd 39 50 = some (.lconst 0, 1, 0, 0, 0, []) := rfl
theorem cd_39_51 : cd 39 51 = some (.invokestatic 65, 3, 42, 3, 2, []) := rfl
theorem cd_39_54 : cd 39 54 = some (.return_, 1, 0, 0, 0, []) := rfl
theorem cd_40_0 : cd 40 0 = some (.iconst 0, 1, 0, 0, 0, []) := rfl
theorem cd_40_1 : cd 40 1 = some (.istore_n 2, 1, 0, 0, 0, []) := rfl
theorem cd_40_2 : cd 40 2 = some (.iload_n 2, 1, 0, 0, 0, [3]) := rfl
theorem cd_40_3 : cd 40 3 = some (.bipush 28, 2, 0, 0, 0, []) := rfl
theorem cd_40_5 : cd 40 5 = some (.if_icmp .ge 58, 3, 0, 0, 0, []) := rfl
theorem cd_40_8 : cd 40 8 = some (.aload_n 1, 1, 0, 0, 0, []) := rfl
theorem cd_40_9 : cd 40 9 = some (.iload_n 2, 1, 0, 0, 0, []) := rfl
theorem cd_40_10 : cd 40 10 = some (.invokevirtual 69, 3, 7, 2, 0, []) := rfl
theorem cd_40_13 : cd 40 13 = some (.iload_n 2, 1, 0, 0, 0, []) := rfl
theorem cd_40_14 : cd 40 14 = some (.if_icmp .ne 15, 3, 0, 0, 0, []) := rfl
theorem cd_40_17 : cd 40 17 = some (.aload_n 1, 1, 0, 0, 0, []) := rfl
theorem cd_40_18 : cd 40 18 = some (.iload_n 2, 1, 0, 0, 0, []) := rfl
theorem cd_40_19 : cd 40 19 = some (.invokevirtual 75, 3, 12, 2, 0, []) := rfl
theorem cd_40_22 : cd 40 22 = some (.ifCond .ne 7, 3, 0, 0, 0, []) := rfl
theorem cd_40_25 : cd 40 25 = some (.iconst 1, 1, 0, 0, 0, []) := rfl
theorem cd_40_26 : cd 40 26 = some (.goto 4, 3, 0, 0, 0, []) := rfl
theorem cd_40_29 : cd 40 29 = some (.iconst 0, 1, 0, 0, 0, []) := rfl
theorem cd_40_30 : cd 40 30 = some (.istore_n 3, 1, 0, 0, 0, []) := rfl
theorem cd_40_31 : cd 40 31 = some (.aload_n 0, 1, 0, 0, 0, []) := rfl
theorem cd_40_32 : cd 40 32 = some (.getfield 9, 3, 4, 0, 0, []) := rfl
theorem cd_40_35 : cd 40 35 = some (.iload_n 2, 1, 0, 0, 0, []) := rfl
theorem cd_40_36 : cd 40 36 = some (.iload_n 3, 1, 0, 0, 0, []) := rfl
theorem cd_40_37 : cd 40 37 = some (.ifCond .eq 16, 3, 0, 0, 0, []) := rfl
theorem cd_40_40 : cd 40 40 = some (.aload_n 1, 1, 0, 0, 0, []) := rfl
theorem cd_40_41 : cd 40 41 = some (.iload_n 2, 1, 0, 0, 0, []) := rfl
theorem cd_40_42 : cd 40 42 = some (.invokevirtual 79, 3, 13, 2, 0, []) := rfl
theorem cd_40_45 : cd 40 45 = some (.aload_n 0, 1, 0, 0, 0, []) := rfl
theorem cd_40_46 : cd 40 46 = some (.getfield 34, 3, 4, 5, 0, []) := rfl
theorem cd_40_49 : cd 40 49 = some (.land, 1, 0, 0, 0, []) := rfl
theorem cd_40_50 : cd 40 50 = some (.goto 4, 3, 0, 0, 0, []) := rfl
theorem cd_40_53 : cd 40 53 = some (.lconst 0, 1, 0, 0, 0, []) := rfl
theorem cd_40_54 : cd 40 54 = some (.invokestatic 83, 3, 128, 3, 3, []) := rfl
theorem cd_40_57 : cd 40 57 = some (.iinc 2 1, 3, 0, 0, 0, []) := rfl
theorem cd_40_60 : cd 40 60 = some (.goto (-58), 3, 0, 0, 0, []) := rfl
theorem cd_40_63 : cd 40 63 = some (.return_, 1, 0, 0, 0, []) := rfl
theorem cd_41_0 : cd 41 0 = some (.iconst 0, 1, 0, 0, 0, []) := rfl
theorem cd_41_1 : cd 41 1 = some (.istore_n 2, 1, 0, 0, 0, []) := rfl
theorem cd_41_2 : cd 41 2 = some (.iload_n 2, 1, 0, 0, 0, [3, 4]) := rfl
theorem cd_41_3 : cd 41 3 = some (.bipush 49, 2, 0, 0, 0, []) := rfl
theorem cd_41_5 : cd 41 5 = some (.if_icmp .ge 50, 3, 0, 0, 0, []) := rfl
theorem cd_41_8 : cd 41 8 = some (.aload_n 1, 1, 0, 0, 0, []) := rfl
theorem cd_41_9 : cd 41 9 = some (.iload_n 2, 1, 0, 0, 0, []) := rfl
theorem cd_41_10 : cd 41 10 = some (.invokevirtual 87, 3, 15, 2, 0, []) := rfl
theorem cd_41_13 : cd 41 13 = some (.istore_n 3, 1, 0, 0, 0, []) := rfl
theorem cd_41_14 : cd 41 14 = some (.aload_n 1, 1, 0, 0, 0, []) := rfl
theorem cd_41_15 : cd 41 15 = some (.iload_n 2, 1, 0, 0, 0, []) := rfl
theorem cd_41_16 : cd 41 16 = some (.invokevirtual 90, 3, 16, 2, 0, []) := rfl
theorem cd_41_19 : cd 41 19 = some (.istore 4, 2, 0, 0, 0, []) := rfl
theorem cd_41_21 : cd 41 21 = some (.aload_n 0, 1, 0, 0, 0, []) := rfl
theorem cd_41_22 : cd 41 22 = some (.getfield 15, 3, 4, 1, 0, []) := rfl
theorem cd_41_25 : cd 41 25 = some (.iload_n 2, 1, 0, 0, 0, []) := rfl
theorem cd_41_26 : cd 41 26 = some (.iload_n 3, 1, 0, 0, 0, []) := rfl
theorem cd_41_27 : cd 41 27 = some (.iload 4, 2, 0, 0, 0, []) := rfl
theorem cd_41_29 : cd 41 29 = some (.invokestatic 93, 3, 0, 2, 9, []) := rfl
theorem cd_41_32 : cd 41 32 = some (.invokestatic 99, 3, 127, 3, 3, []) := rfl
theorem cd_41_35 : cd 41 35 = some (.aload_n 0, 1, 0, 0, 0, []) := rfl
theorem cd_41_36 : cd 41 36 = some (.getfield 19, 3, 4, 2, 0, []) := rfl
theorem cd_41_39 : cd 41 39 = some (.iload_n 2, 1, 0, 0, 0, []) := rfl
theorem cd_41_40 : cd 41 40 = some (.iload_n 3, 1, 0, 0, 0, []) := rfl
theorem cd_41_41 : cd 41 41 = some (.iload 4, 2, 0, 0, 0, []) := rfl
theorem cd_41_43 : cd 41 43 = some (.invokestatic 102, 3, 0, 2, 8, []) := rfl
theorem cd_41_46 : cd 41 46 = some (.invokestatic 99, 3, 127, 3, 3, []) := rfl
theorem cd_41_49 : cd 41 49 = some (.iinc 2 1, 3, 0, 0, 0, []) := rfl
theorem cd_41_52 : cd 41 52 = some (.goto (-50), 3, 0, 0, 0, []) := rfl
theorem cd_41_55 : cd 41 55 = some (.return_, 1, 0, 0, 0, []) := rfl
theorem cd_42_0 : cd 42 0 = some (.aload_n 0, 1, 0, 0, 0, []) := rfl
theorem cd_42_1 : cd 42 1 = some (.getfield 42, 3, 4, 7, 0, []) := rfl
theorem cd_42_4 : cd 42 4 = some (.sipush 2000, 3, 0, 0, 0, []) := rfl
theorem cd_42_7 : cd 42 7 = some (.if_icmp .eq 9, 3, 0, 0, 0, []) := rfl
theorem cd_42_10 : cd 42 10 = some (.iload_n 1, 1, 0, 0, 0, []) := rfl
theorem cd_42_11 : cd 42 11 = some (.bipush 28, 2, 0, 0, 0, []) := rfl
theorem cd_42_13 : cd 42 13 = some (.if_icmp .le 9, 3, 0, 0, 0, []) := rfl
theorem cd_42_16 : cd 42 16 = some (.aload_n 0, 1, 0, 0, 0, []) := rfl
theorem cd_42_17 : cd 42 17 = some (.iconst 1, 1, 0, 0, 0, []) := rfl
theorem cd_42_18 : cd 42 18 = some (.putfield 54, 3, 4, 11, 0, []) := rfl
theorem cd_42_21 : cd 42 21 = some (.return_, 1, 0, 0, 0, []) := rfl
theorem cd_42_22 : cd 42 22 = some (.aload_n 0, 1, 0, 0, 0, []) := rfl
theorem cd_42_23 : cd 42 23 = some (.dup, 1, 0, 0, 0, []) := rfl
theorem cd_42_24 : cd 42 24 = some (.getfield 42, 3, 4, 7, 0, []) := rfl
theorem cd_42_27 : cd 42 27 = some (.iconst 1, 1, 0, 0, 0, []) := rfl
theorem cd_42_28 : cd 42 28 = some (.iadd, 1, 0, 0, 0, []) := rfl
theorem cd_42_29 : cd 42 29 = some (.putfield 42, 3, 4, 7, 0, []) := rfl
theorem cd_42_32 : cd 42 32 = some (.aload_n 0, 1, 0, 0, 0, []) := rfl
theorem cd_42_33 : cd 42 33 = some (.getfield 34, 3, 4, 5, 0, []) := rfl
theorem cd_42_36 : cd 42 36 = some (.lload_n 2, 1, 0, 0, 0, []) := rfl
theorem cd_42_37 : cd 42 37 = some (.ldc2_w 105, 3, 0, 0, 0, []) := rfl
theorem cd_42_40 : cd 42 40 = some (.lxor, 1, 0, 0, 0, []) := rfl
theorem cd_42_41 : cd 42 41 = some (.land, 1, 0, 0, 0, []) := rfl
theorem cd_42_42 : cd 42 42 = some (.lstore 4, 2, 0, 0, 0, []) := rfl
theorem cd_42_44 : cd 42 44 = some (.lload 4, 2, 0, 0, 0, []) := rfl
theorem cd_42_46 : cd 42 46 = some (.lconst 0, 1, 0, 0, 0, []) := rfl
theorem cd_42_47 : cd 42 47 = some (.lcmp, 1, 0, 0, 0, []) := rfl
theorem cd_42_48 : cd 42 48 = some (.ifCond .ne 9, 3, 0, 0, 0, []) := rfl
theorem cd_42_51 : cd 42 51 = some (.aload_n 0, 1, 0, 0, 0, []) := rfl
theorem cd_42_52 : cd 42 52 = some (.iload_n 1, 1, 0, 0, 0, []) := rfl
theorem cd_42_53 : cd 42 53 = some (.invokevirtual 107, 3, 44, 2, 0, []) := rfl
theorem cd_42_56 : cd 42 56 = some (.return_, 1, 0, 0, 0, []) := rfl
theorem cd_42_57 : cd 42 57 = some (.lload 4, 2, 0, 0, 0, []) := rfl
theorem cd_42_59 : cd 42 59 = some (.lload 4, 2, 0, 0, 0, []) := rfl
theorem cd_42_61 : cd 42 61 = some (.lneg, 1, 0, 0, 0, []) := rfl
theorem cd_42_62 : cd 42 62 = some (.land, 1, 0, 0, 0, []) := rfl
theorem cd_42_63 : cd 42 63 = some (.lstore 6, 2, 0, 0, 0, []) := rfl
theorem cd_42_65 : cd 42 65 = some (.lload 6, 2, 0, 0, 0, []) := rfl
theorem cd_42_67 : cd 42 67 = some (.lconst 1, 1, 0, 0, 0, []) := rfl
theorem cd_42_68 : cd 42 68 = some (.lsub, 1, 0, 0, 0, []) := rfl
theorem cd_42_69 : cd 42 69 = some (.invokestatic 111, 3, 199, 1, 2, []) := rfl
theorem cd_42_72 : cd 42 72 = some (.istore 8, 2, 0, 0, 0, []) := rfl
theorem cd_42_74 : cd 42 74 = some (.iconst 0, 1, 0, 0, 0, []) := rfl
theorem cd_42_75 : cd 42 75 = some (.istore 9, 2, 0, 0, 0, []) := rfl
theorem cd_42_77 : cd 42 77 = some (.iload 9, 2, 0, 0, 0, [3, 4, 5, 7, 10, 11, 12]) := rfl
theorem cd_42_79 : cd 42 79 = some (.iconst 2, 1, 0, 0, 0, []) := rfl
theorem cd_42_80 : cd 42 80 = some (.if_icmp .ge 90, 3, 0, 0, 0, []) := rfl
theorem cd_42_83 : cd 42 83 = some (.aload_n 0, 1, 0, 0, 0, []) := rfl
theorem cd_42_84 : cd 42 84 = some (.invokevirtual 117, 3, 43, 1, 0, []) := rfl
theorem cd_42_87 : cd 42 87 = some (.ifCond .ne 83, 3, 0, 0, 0, []) := rfl
theorem cd_42_90 : cd 42 90 = some (.iload 9, 2, 0, 0, 0, []) := rfl
theorem cd_42_92 : cd 42 92 = some (.ifCond .ne 10, 3, 0, 0, 0, []) := rfl
theorem cd_42_95 : cd 42 95 = some (.aload_n 0, 1, 0, 0, 0, []) := rfl
theorem cd_42_96 : cd 42 96 = some (.getfield 15, 3, 4, 1, 0, []) := rfl
theorem cd_42_99 : cd 42 99 = some (.goto 7, 3, 0, 0, 0, []) := rfl
theorem cd_42_102 : cd 42 102 = some (.aload_n 0, 1, 0, 0, 0, []) := rfl
theorem cd_42_103 : cd 42 103 = some (.getfield 19, 3, 4, 2, 0, []) := rfl
theorem cd_42_106 : cd 42 106 = some (.iload 8, 2, 0, 0, 0, []) := rfl
theorem cd_42_108 : cd 42 108 = some (.invokestatic 121, 3, 125, 2, 3, []) := rfl
theorem cd_42_111 : cd 42 111 = some (.istore 10, 2, 0, 0, 0, []) := rfl
theorem cd_42_113 : cd 42 113 = some (.aload_n 0, 1, 0, 0, 0, []) := rfl
theorem cd_42_114 : cd 42 114 = some (.getfield 9, 3, 4, 0, 0, []) := rfl
theorem cd_42_117 : cd 42 117 = some (.iload 10, 2, 0, 0, 0, []) := rfl
theorem cd_42_119 : cd 42 119 = some (.invokestatic 125, 3, 126, 2, 3, []) := rfl
theorem cd_42_122 : cd 42 122 = some (.lstore 11, 2, 0, 0, 0, []) := rfl
theorem cd_42_124 : cd 42 124 = some (.lload 11, 2, 0, 0, 0, []) := rfl
theorem cd_42_126 : cd 42 126 = some (.lload 6, 2, 0, 0, 0, []) := rfl
theorem cd_42_128 : cd 42 128 = some (.land, 1, 0, 0, 0, []) := rfl
theorem cd_42_129 : cd 42 129 = some (.lconst 0, 1, 0, 0, 0, []) := rfl
theorem cd_42_130 : cd 42 130 = some (.lcmp, 1, 0, 0, 0, []) := rfl
theorem cd_42_131 : cd 42 131 = some (.ifCond .eq 33, 3, 0, 0, 0, []) := rfl
theorem cd_42_134 : cd 42 134 = some (.lload 11, 2, 0, 0, 0, []) := rfl
theorem cd_42_136 : cd 42 136 = some (.lload_n 2, 1, 0, 0, 0, []) := rfl
theorem cd_42_137 : cd 42 137 = some (.land, 1, 0, 0, 0, []) := rfl
theorem cd_42_138 : cd 42 138 = some (.lconst 0, 1, 0, 0, 0, []) := rfl
theorem cd_42_139 : cd 42 139 = some (.lcmp, 1, 0, 0, 0, []) := rfl
theorem cd_42_140 : cd 42 140 = some (.ifCond .ne 24, 3, 0, 0, 0, []) := rfl
theorem cd_42_143 : cd 42 143 = some (.aload_n 0, 1, 0, 0, 0, []) := rfl
theorem cd_42_144 : cd 42 144 = some (.getfield 22, 3, 4, 3, 0, []) := rfl
theorem cd_42_147 : cd 42 147 = some (.iload_n 1, 1, 0, 0, 0, []) := rfl
theorem cd_42_148 : cd 42 148 = some (.iload 10, 2, 0, 0, 0, []) := rfl
theorem cd_42_150 : cd 42 150 = some (.invokestatic 99, 3, 127, 3, 3, []) := rfl
theorem cd_42_153 : cd 42 153 = some (.aload_n 0, 1, 0, 0, 0, []) := rfl
theorem cd_42_154 : cd 42 154 = some (.iload_n 1, 1, 0, 0, 0, []) := rfl
theorem cd_42_155 : cd 42 155 = some (.iconst 1, 1, 0, 0, 0, []) := rfl
theorem cd_42_156 : cd 42 156 = some (.iadd, 1, 0, 0, 0, []) := rfl
theorem cd_42_157 : cd 42 157 = some (.lload_n 2, 1, 0, 0, 0, []) := rfl
theorem cd_42_158 : cd 42 158 = some (.lload 11, 2, 0, 0, 0, []) := rfl
theorem cd_42_160 : cd 42 160 = some (.lor, 1, 0, 0, 0, []) := rfl
theorem cd_42_161 : cd 42 161 = some (.invokestatic 65, 3, 42, 3, 2, []) := rfl
theorem cd_42_164 : cd 42 164 = some (.iinc 9 1, 3, 0, 0, 0, []) := rfl
theorem cd_42_167 : cd 42 167 = some (.goto (-90), 3, 0, 0, 0, []) := rfl
theorem cd_42_170 : cd 42 170 = some (.return_, 1, 0, 0, 0, []) := rfl
theorem cd_43_0 : cd 43 0 = some (.aload_n 0, 1, 0, 0, 0, []) := rfl
theorem cd_43_1 : cd 43 1 = some (.getfield 54, 3, 4, 11, 0, []) := rfl
theorem cd_43_4 : cd 43 4 = some (.ifCond .ne 14, 3, 0, 0, 0, []) := rfl
theorem cd_43_7 : cd 43 7 = some (.aload_n 0, 1, 0, 0, 0, []) := rfl
theorem cd_43_8 : cd 43 8 = some (.getfield 45, 3, 4, 8, 0, []) := rfl
theorem cd_43_11 : cd 43 11 = some (.aload_n 0, 1, 0, 0, 0, []) := rfl
theorem cd_43_12 : cd 43 12 = some (.getfield 38, 3, 4, 6, 0, []) := rfl
theorem cd_43_15 : cd 43 15 = some (.if_icmp .ne 7, 3, 0, 0, 0, []) := rfl
theorem cd_43_18 : cd 43 18 = some (.iconst 1, 1, 0, 0, 0, []) := rfl
theorem cd_43_19 : cd 43 19 = some (.goto 4, 3, 0, 0, 0, []) := rfl
theorem cd_43_22 : cd 43 22 = some (.iconst 0, 1, 0, 0, 0, []) := rfl
theorem cd_43_23 : cd 43 23 = some (.ireturn, 1, 0, 0, 0, []) := rfl
theorem cd_44_0 : cd 44 0 = some (.aload_n 0, 1, 0, 0, 0, []) := rfl
theorem cd_44_1 : cd 44 1 = some (.getfield 45, 3, 4, 8, 0, []) := rfl
theorem cd_44_4 : cd 44 4 = some (.ifCond .ne 19, 3, 0, 0, 0, []) := rfl
theorem cd_44_7 : cd 44 7 = some (.aload_n 0, 1, 0, 0, 0, []) := rfl
theorem cd_44_8 : cd 44 8 = some (.getfield 22, 3, 4, 3, 0, []) := rfl
theorem cd_44_11 : cd 44 11 = some (.aload_n 0, 1, 0, 0, 0, []) := rfl
theorem cd_44_12 : cd 44 12 = some (.getfield 25, 3, 4, 4, 0, []) := rfl
theorem cd_44_15 : cd 44 15 = some (.invokestatic 128, 3, 129, 2, 3, []) := rfl
theorem cd_44_18 : cd 44 18 = some (.aload_n 0, 1, 0, 0, 0, []) := rfl
theorem cd_44_19 : cd 44 19 = some (.iload_n 1, 1, 0, 0, 0, []) := rfl
theorem cd_44_20 : cd 44 20 = some (.putfield 48, 3, 4, 9, 0, []) := rfl
theorem cd_44_23 : cd 44 23 = some (.aload_n 0, 1, 0, 0, 0, []) := rfl
theorem cd_44_24 : cd 44 24 = some (.aload_n 0, 1, 0, 0, 0, []) := rfl
theorem cd_44_25 : cd 44 25 = some (.getfield 45, 3, 4, 8, 0, []) := rfl
theorem cd_44_28 : cd 44 28 = some (.ifCond .ne 7, 3, 0, 0, 0, []) := rfl
theorem cd_44_31 : cd 44 31 = some (.iload_n 1, 1, 0, 0, 0, []) := rfl
theorem cd_44_32 : cd 44 32 = some (.goto 11, 3, 0, 0, 0, []) := rfl
theorem cd_44_35 : cd 44 35 = some (.aload_n 0, 1, 0, 0, 0, []) := rfl
theorem cd_44_36 : cd 44 36 = some (.getfield 51, 3, 4, 10, 0, []) := rfl
theorem cd_44_39 : cd 44 39 = some (.iload_n 1, 1, 0, 0, 0, []) := rfl
theorem cd_44_40 : cd 44 40 = some (.invokestatic 93, 3, 0, 2, 9, []) := rfl
theorem cd_44_43 : cd 44 43 = some (.putfield 51, 3, 4, 10, 0, []) := rfl
theorem cd_44_46 : cd 44 46 = some (.aload_n 0, 1, 0, 0, 0, []) := rfl
theorem cd_44_47 : cd 44 47 = some (.dup, 1, 0, 0, 0, []) := rfl
theorem cd_44_48 : cd 44 48 = some (.getfield 45, 3, 4, 8, 0, []) := rfl
theorem cd_44_51 : cd 44 51 = some (.iconst 1, 1, 0, 0, 0, []) := rfl
theorem cd_44_52 : cd 44 52 = some (.iadd, 1, 0, 0, 0, []) := rfl
theorem cd_44_53 : cd 44 53 = some (.putfield 45, 3, 4, 8, 0, []) := rfl
theorem cd_44_56 : cd 44 56 = some (.return_, 1, 0, 0, 0, []) := rfl
theorem cd_45_0 : cd 45 0 = some (.aload_n 0, 1, 0, 0, 0, []) := rfl
theorem cd_45_1 : cd 45 1 = some (.getfield 45, 3, 4, 8, 0, []) := rfl
theorem cd_45_4 : cd 45 4 = some (.ifCond .le 22, 3, 0, 0, 0, []) := rfl
theorem cd_45_7 : cd 45 7 = some (.iload_n 1, 1, 0, 0, 0, []) := rfl
theorem cd_45_8 : cd 45 8 = some (.aload_n 0, 1, 0, 0, 0, []) := rfl
theorem cd_45_9 : cd 45 9 = some (.getfield 48, 3, 4, 9, 0, []) := rfl
theorem cd_45_12 : cd 45 12 = some (.if_icmp .ge 14, 3, 0, 0, 0, []) := rfl
theorem cd_45_15 : cd 45 15 = some (.aload_n 0, 1, 0, 0, 0, []) := rfl
theorem cd_45_16 : cd 45 16 = some (.getfield 25, 3, 4, 4, 0, []) := rfl
theorem cd_45_19 : cd 45 19 = some (.iload_n 1, 1, 0, 0, 0, []) := rfl
theorem cd_45_20 : cd 45 20 = some (.invokestatic 121, 3, 125, 2, 3, []) := rfl
theorem cd_45_23 : cd 45 23 = some (.goto 4, 3, 0, 0, 0, []) := rfl
theorem cd_45_26 : cd 45 26 = some (.iconst (-1), 1, 0, 0, 0, []) := rfl
theorem cd_45_27 : cd 45 27 = some (.ireturn, 1, 0, 0, 0, []) := rfl
theorem cd_46_0 : cd 46 0 = some (.aload_n 0, 1, 0, 0, 0, []) := rfl
theorem cd_46_1 : cd 46 1 = some (.invokespecial 3, 3, 0, 1, 6, []) := rfl
theorem cd_46_4 : cd 46 4 = some (.aload_n 0, 1, 0, 0, 0, []) := rfl
theorem cd_46_5 : cd 46 5 = some (.bipush 49, 2, 0, 0, 0, []) := rfl
theorem cd_46_7 : cd 46 7 = some (.newarray .int, 2, 0, 0, 0, []) := rfl
theorem cd_46_9 : cd 46 9 = some (.putfield 9, 3, 5, 2, 0, []) := rfl
theorem cd_46_12 : cd 46 12 = some (.aload_n 0, 1, 0, 0, 0, []) := rfl
theorem cd_46_13 : cd 46 13 = some (.bipush 49, 2, 0, 0, 0, []) := rfl
theorem cd_46_15 : cd 46 15 = some (.newarray .int, 2, 0, 0, 0, []) := rfl
theorem cd_46_17 : cd 46 17 = some (.putfield 15, 3, 5, 3, 0, []) := rfl
theorem cd_46_20 : cd 46 20 = some (.aload_n 0, 1, 0, 0, 0, []) := rfl
theorem cd_46_21 : cd 46 21 = some (.iconst 4, 1, 0, 0, 0, []) := rfl
theorem cd_46_22 : cd 46 22 = some (.iconst 4, 1, 0, 0, 0, []) := rfl
theorem cd_46_23 : cd 46 23 = some (.invokevirtual 18, 3, 47, 3, 0, []) := rfl
theorem cd_46_26 : cd 46 26 = some (.return_, 1, 0, 0, 0, []) := rfl
theorem cd_47_0 : cd 47 0 = some (.aload_n 0, 1, 0, 0, 0, []) := rfl
theorem cd_47_1 : cd 47 1 = some (.iload_n 1, 1, 0, 0, 0, []) := rfl
theorem cd_47_2 : cd 47 2 = some (.putfield 22, 3, 5, 0, 0, []) := rfl
theorem cd_47_5 : cd 47 5 = some (.aload_n 0, 1, 0, 0, 0, []) := rfl
theorem cd_47_6 : cd 47 6 = some (.iload_n 2, 1, 0, 0, 0, []) := rfl
theorem cd_47_7 : cd 47 7 = some (.putfield 26, 3, 5, 1, 0, []) := rfl
theorem cd_47_10 : cd 47 10 = some (.aload_n 0, 1, 0, 0, 0, []) := rfl
theorem cd_47_11 : cd 47 11 = some (.getfield 9, 3, 5, 2, 0, []) := rfl
theorem cd_47_14 : cd 47 14 = some (.bipush 46, 2, 0, 0, 0, []) := rfl
theorem cd_47_16 : cd 47 16 = some (.invokestatic 29, 3, 201, 2, 2, []) := rfl
theorem cd_47_19 : cd 47 19 = some (.return_, 1, 0, 0, 0, []) := rfl
theorem cd_48_0 : cd 48 0 = some (.aload_n 0, 1, 0, 0, 0, []) := rfl
theorem cd_48_1 : cd 48 1 = some (.aload_n 1, 1, 0, 0, 0, []) := rfl
theorem cd_48_2 : cd 48 2 = some (.getfield 22, 3, 5, 0, 0, []) := rfl
theorem cd_48_5 : cd 48 5 = some (.putfield 22, 3, 5, 0, 0, []) := rfl
theorem cd_48_8 : cd 48 8 = some (.aload_n 0, 1, 0, 0, 0, []) := rfl
theorem cd_48_9 : cd 48 9 = some (.aload_n 1, 1, 0, 0, 0, []) := rfl
theorem cd_48_10 : cd 48 10 = some (.getfield 26, 3, 5, 1, 0, []) := rfl
theorem cd_48_13 : cd 48 13 = some (.putfield 26, 3, 5, 1, 0, []) := rfl
theorem cd_48_16 : cd 48 16 = some (.aload_n 1, 1, 0, 0, 0, []) := rfl
theorem cd_48_17 : cd 48 17 = some (.getfield 9, 3, 5, 2, 0, []) := rfl
theorem cd_48_20 : cd 48 20 = some (.aload_n 0, 1, 0, 0, 0, []) := rfl
theorem cd_48_21 : cd 48 21 = some (.getfield 9, 3, 5, 2, 0, []) := rfl
theorem cd_48_24 : cd 48 24 = some (.invokestatic 35, 3, 129, 2, 3, []) := rfl
theorem cd_48_27 : cd 48 27 = some (.return_, 1, 0, 0, 0, []) := rfl
theorem cd_49_0 : cd 49 0 = some (.aload_n 0, 1, 0, 0, 0, []) := rfl
theorem cd_49_1 : cd 49 1 = some (.getfield 22, 3, 5, 0, 0, []) := rfl
theorem cd_49_4 : cd 49 4 = some (.aload_n 0, 1, 0, 0, 0, []) := rfl
theorem cd_49_5 : cd 49 5 = some (.getfield 26, 3, 5, 1, 0, []) := rfl
theorem cd_49_8 : cd 49 8 = some (.imul, 1, 0, 0, 0, []) := rfl
theorem cd_49_9 : cd 49 9 = some (.ireturn, 1, 0, 0, 0, []) := rfl
theorem cd_50_0 : cd 50 0 = some (.iconst 2, 1, 0, 0, 0, []) := rfl
theorem cd_50_1 : cd 50 1 = some (.aload_n 0, 1, 0, 0, 0, []) := rfl
theorem cd_50_2 : cd 50 2 = some (.getfield 22, 3, 5, 0, 0, []) := rfl
theorem cd_50_5 : cd 50 5 = some (.aload_n 0, 1, 0, 0, 0, []) := rfl
theorem cd_50_6 : cd 50 6 = some (.getfield 26, 3, 5, 1, 0, []) := rfl
theorem cd_50_9 : cd 50 9 = some (.iadd, 1, 0, 0, 0, []) := rfl
theorem cd_50_10 : cd 50 10 = some (.imul, 1, 0, 0, 0, []) := rfl
theorem cd_50_11 : cd 50 11 = some (.ireturn, 1, 0, 0, 0, []) := rfl
theorem cd_51_0 : cd 51 0 = some (.iload_n 1, 1, 0, 0, 0, []) := rfl
theorem cd_51_1 : cd 51 1 = some (.ifCond .lt 15, 3, 0, 0, 0, []) := rfl
theorem cd_51_4 : cd 51 4 = some (.iload_n 1, 1, 0, 0, 0, []) := rfl
theorem cd_51_5 : cd 51 5 = some (.aload_n 0, 1, 0, 0, 0, []) := rfl
theorem cd_51_6 : cd 51 6 = some (.invokevirtual 39, 3, 49, 1, 0, []) := rfl
theorem cd_51_9 : cd 51 9 = some (.if_icmp .ge 7, 3, 0, 0, 0, []) := rfl
theorem cd_51_12 : cd 51 12 = some (.iconst 1, 1, 0, 0, 0, []) := rfl
theorem cd_51_13 : cd 51 13 = some (.goto 4, 3, 0, 0, 0, []) := rfl
theorem cd_51_16 : cd 51 16 = some (.iconst 0, 1, 0, 0, 0, []) := rfl
theorem cd_51_17 : cd 51 17 = some (.ireturn, 1, 0, 0, 0, []) := rfl
theorem cd_52_0 : cd 52 0 = some (.iload_n 1, 1, 0, 0, 0, []) := rfl
theorem cd_52_1 : cd 52 1 = some (.ifCond .lt 15, 3, 0, 0, 0, []) := rfl
theorem cd_52_4 : cd 52 4 = some (.iload_n 1, 1, 0, 0, 0, []) := rfl
theorem cd_52_5 : cd 52 5 = some (.aload_n 0, 1, 0, 0, 0, []) := rfl
theorem cd_52_6 : cd 52 6 = some (.invokevirtual 43, 3, 50, 1, 0, []) := rfl
theorem cd_52_9 : cd 52 9 = some (.if_icmp .ge 7, 3, 0, 0, 0, []) := rfl
theorem cd_52_12 : cd 52 12 = some (.iconst 1, 1, 0, 0, 0, []) := rfl
theorem cd_52_13 : cd 52 13 = some (.goto 4, 3, 0, 0, 0, []) := rfl
theorem cd_52_16 : cd 52 16 = some (.iconst 0, 1, 0, 0, 0, []) := rfl
theorem cd_52_17 : cd 52 17 = some (.ireturn, 1, 0, 0, 0, []) := rfl
theorem cd_53_0 : cd 53 0 = some (.aload_n 0, 1, 0, 0, 0, []) := rfl
theorem cd_53_1 : cd 53 1 = some (.getfield 9, 3, 5, 2, 0, []) := rfl
theorem cd_53_4 : cd 53 4 = some (.iload_n 1, 1, 0, 0, 0, []) := rfl
theorem cd_53_5 : cd 53 5 = some (.invokestatic 46, 3, 125, 2, 3, []) := rfl
theorem cd_53_8 : cd 53 8 = some (.ireturn, 1, 0, 0, 0, []) := rfl
theorem cd_54_0 : cd 54 0 = some (.aload_n 0, 1, 0, 0, 0, []) := rfl
theorem cd_54_1 : cd 54 1 = some (.getfield 9, 3, 5, 2, 0, []) := rfl
theorem cd_54_4 : cd 54 4 = some (.iload_n 1, 1, 0, 0, 0, []) := rfl
theorem cd_54_5 : cd 54 5 = some (.iload_n 2, 1, 0, 0, 0, []) := rfl
theorem cd_54_6 : cd 54 6 = some (.invokestatic 50, 3, 127, 3, 3, []) := rfl
theorem cd_54_9 : cd 54 9 = some (.return_, 1, 0, 0, 0, []) := rfl
theorem cd_55_0 : cd 55 0 = some (.iconst 0, 1, 0, 0, 0, []) := rfl
theorem cd_55_1 : cd 55 1 = some (.istore_n 1, 1, 0, 0, 0, []) := rfl
theorem cd_55_2 : cd 55 2 = some (.iload_n 1, 1, 0, 0, 0, []) := rfl
theorem cd_55_3 : cd 55 3 = some (.aload_n 0, 1, 0, 0, 0, []) := rfl
theorem cd_55_4 : cd 55 4 = some (.invokevirtual 39, 3, 49, 1, 0, []) := rfl
theorem cd_55_7 : cd 55 7 = some (.if_icmp .ge 22, 3, 0, 0, 0, []) := rfl
theorem cd_55_10 : cd 55 10 = some (.aload_n 0, 1, 0, 0, 0, []) := rfl
theorem cd_55_11 : cd 55 11 = some (.iload_n 1, 1, 0, 0, 0, []) := rfl
theorem cd_55_12 : cd 55 12 = some (.aload_n 0, 1, 0, 0, 0, []) := rfl
theorem cd_55_13 : cd 55 13 = some (.iload_n 1, 1, 0, 0, 0, []) := rfl
theorem cd_55_14 : cd 55 14 = some (.invokevirtual 54, 3, 53, 2, 0, []) := rfl
theorem cd_55_17 : cd 55 17 = some (.invokestatic 58, 3, 124, 1, 3, []) := rfl
theorem cd_55_20 : cd 55 20 = some (.invokevirtual 61, 3, 54, 3, 0, []) := rfl
theorem cd_55_23 : cd 55 23 = some (.iinc 1 1, 3, 0, 0, 0, []) := rfl
theorem cd_55_26 : cd 55 26 = some (.goto (-24), 3, 0, 0, 0, []) := rfl
theorem cd_55_29 : cd 55 29 = some (.return_, 1, 0, 0, 0, []) := rfl
theorem cd_56_0 : cd 56 0 = some (.iconst 0, 1, 0, 0, 0, []) := rfl
theorem cd_56_1 : cd 56 1 = some (.istore_n 1, 1, 0, 0, 0, []) := rfl
theorem cd_56_2 : cd 56 2 = some (.iload_n 1, 1, 0, 0, 0, [2, 3]) := rfl
theorem cd_56_3 : cd 56 3 = some (.aload_n 0, 1, 0, 0, 0, []) := rfl
theorem cd_56_4 : cd 56 4 = some (.getfield 26, 3, 5, 1, 0, []) := rfl
theorem cd_56_7 : cd 56 7 = some (.if_icmp .ge 64, 3, 0, 0, 0, []) := rfl
theorem cd_56_10 : cd 56 10 = some (.iconst 0, 1, 0, 0, 0, []) := rfl
theorem cd_56_11 : cd 56 11 = some (.istore_n 2, 1, 0, 0, 0, []) := rfl
theorem cd_56_12 : cd 56 12 = some (.iload_n 2, 1, 0, 0, 0, [3]) := rfl
theorem cd_56_13 : cd 56 13 = some (.aload_n 0, 1, 0, 0, 0, []) := rfl
theorem cd_56_14 : cd 56 14 = some (.getfield 22, 3, 5, 0, 0, []) := rfl
theorem cd_56_17 : cd 56 17 = some (.if_icmp .ge 48, 3, 0, 0, 0, []) := rfl
theorem cd_56_20 : cd 56 20 = some (.aload_n 0, 1, 0, 0, 0, []) := rfl
theorem cd_56_21 : cd 56 21 = some (.iload_n 1, 1, 0, 0, 0, []) := rfl
theorem cd_56_22 : cd 56 22 = some (.aload_n 0, 1, 0, 0, 0, []) := rfl
theorem cd_56_23 : cd 56 23 = some (.getfield 22, 3, 5, 0, 0, []) := rfl
theorem cd_56_26 : cd 56 26 = some (.imul, 1, 0, 0, 0, []) := rfl
theorem cd_56_27 : cd 56 27 = some (.iload_n 2, 1, 0, 0, 0, []) := rfl
theorem cd_56_28 : cd 56 28 = some (.iadd, 1, 0, 0, 0, []) := rfl
theorem cd_56_29 : cd 56 29 = some (.invokevirtual 54, 3, 53, 2, 0, []) := rfl
theorem cd_56_32 : cd 56 32 = some (.istore_n 3, 1, 0, 0, 0, []) := rfl
theorem cd_56_33 : cd 56 33 = some (.aload_n 0, 1, 0, 0, 0, []) := rfl
theorem cd_56_34 : cd 56 34 = some (.getfield 15, 3, 5, 3, 0, []) := rfl
theorem cd_56_37 : cd 56 37 = some (.iload_n 2, 1, 0, 0, 0, []) := rfl
theorem cd_56_38 : cd 56 38 = some (.aload_n 0, 1, 0, 0, 0, []) := rfl
theorem cd_56_39 : cd 56 39 = some (.getfield 26, 3, 5, 1, 0, []) := rfl
theorem cd_56_42 : cd 56 42 = some (.imul, 1, 0, 0, 0, []) := rfl
theorem cd_56_43 : cd 56 43 = some (.aload_n 0, 1, 0, 0, 0, []) := rfl
theorem cd_56_44 : cd 56 44 = some (.getfield 26, 3, 5, 1, 0, []) := rfl
theorem cd_56_47 : cd 56 47 = some (.iadd, 1, 0, 0, 0, []) := rfl
theorem cd_56_48 : cd 56 48 = some (.iconst 1, 1, 0, 0, 0, []) := rfl
theorem cd_56_49 : cd 56 49 = some (.isub, 1, 0, 0, 0, []) := rfl
theorem cd_56_50 : cd 56 50 = some (.iload_n 1, 1, 0, 0, 0, []) := rfl
theorem cd_56_51 : cd 56 51 = some (.isub, 1, 0, 0, 0, []) := rfl
theorem cd_56_52 : cd 56 52 = some (.iload_n 3, 1, 0, 0, 0, []) := rfl
theorem cd_56_53 : cd 56 53 = some (.invokestatic 58, 3, 124, 1, 3, []) := rfl
theorem cd_56_56 : cd 56 56 = some (.invokestatic 50, 3, 127, 3, 3, []) := rfl
theorem cd_56_59 : cd 56 59 = some (.iinc 2 1, 3, 0, 0, 0, []) := rfl
theorem cd_56_62 : cd 56 62 = some (.goto (-50), 3, 0, 0, 0, []) := rfl
theorem cd_56_65 : cd 56 65 = some (.iinc 1 1, 3, 0, 0, 0, []) := rfl
theorem cd_56_68 : cd 56 68 = some (.goto (-66), 3, 0, 0, 0, []) := rfl
theorem cd_56_71 : cd 56 71 = some (.aload_n 0, 1, 0, 0, 0, []) := rfl
theorem cd_56_72 : cd 56 72 = some (.getfield 22, 3, 5, 0, 0, []) := rfl
theorem cd_56_75 : cd 56 75 = some (.istore_n 1, 1, 0, 0, 0, []) := rfl
theorem cd_56_76 : cd 56 76 = some (.aload_n 0, 1, 0, 0, 0, []) := rfl
theorem cd_56_77 : cd 56 77 = some (.aload_n 0, 1, 0, 0, 0, []) := rfl
theorem cd_56_78 : cd 56 78 = some (.getfield 26, 3, 5, 1, 0, []) := rfl
theorem cd_56_81 : cd 56 81 = some (.putfield 22, 3, 5, 0, 0, []) := rfl
theorem cd_56_84 : cd 56 84 = some (.aload_n 0, 1, 0, 0, 0, []) := rfl
theorem cd_56_85 : cd 56 85 = some (.iload_n 1, 1, 0, 0, 0, []) := rfl
theorem cd_56_86 : cd 56 86 = some (.putfield 26, 3, 5, 1, 0, []) := rfl
theorem cd_56_89 : cd 56 89 = some (.aload_n 0, 1, 0, 0, 0, []) := rfl
theorem cd_56_90 : cd 56 90 = some (.getfield 15, 3, 5, 3, 0, []) := rfl
theorem cd_56_93 : cd 56 93 = some (.aload_n 0, 1, 0, 0, 0, []) := rfl
theorem cd_56_94 : cd 56 94 = some (.getfield 9, 3, 5, 2, 0, []) := rfl
theorem cd_56_97 : cd 56 97 = some (.invokestatic 35, 3, 129, 2, 3, []) := rfl
theorem cd_56_100 : cd 56 100 = some (.return_, 1, 0, 0, 0, []) := rfl
theorem cd_57_0 : cd 57 0 = some (.lconst 0, 1, 0, 0, 0, []) := rfl
theorem cd_57_1 : cd 57 1 = some (.lstore_n 1, 1, 0, 0, 0, []) := rfl
theorem cd_57_2 : cd 57 2 = some (.iconst 0, 1, 0, 0, 0, []) := rfl
theorem cd_57_3 : cd 57 3 = some (.istore_n 3, 1, 0, 0, 0, []) := rfl
theorem cd_57_4 : cd 57 4 = some (.iload_n 3, 1, 0, 0, 0, [2]) := rfl
theorem cd_57_5 : cd 57 5 = some (.aload_n 0, 1, 0, 0, 0, []) := rfl
theorem cd_57_6 : cd 57 6 = some (.invokevirtual 39, 3, 49, 1, 0, []) := rfl
theorem cd_57_9 : cd 57 9 = some (.if_icmp .ge 26, 3, 0, 0, 0, []) := rfl
theorem cd_57_12 : cd 57 12 = some (.aload_n 0, 1, 0, 0, 0, []) := rfl
theorem cd_57_13 : cd 57 13 = some (.iload_n 3, 1, 0, 0, 0, []) := rfl
theorem cd_57_14 : cd 57 14 = some (.invokevirtual 54, 3, 53, 2, 0, []) := rfl
theorem cd_57_17 : cd 57 17 = some (.invokestatic 64, 3, 120, 1, 3, []) := rfl
theorem cd_57_20 : cd 57 20 = some (.ifCond .eq 9, 3, 0, 0, 0, []) := rfl
theorem cd_57_23 : cd 57 23 = some (.lload_n 1, 1, 0, 0, 0, []) := rfl
theorem cd_57_24 : cd 57 24 = some (.lconst 1, 1, 0, 0, 0, []) := rfl
theorem cd_57_25 : cd 57 25 = some (.iload_n 3, 1, 0, 0, 0, []) := rfl
theorem cd_57_26 : cd 57 26 = some (.lshl, 1, 0, 0, 0, []) := rfl
theorem cd_57_27 : cd 57 27 = some (.lor, 1, 0, 0, 0, []) := rfl
theorem cd_57_28 : cd 57 28 = some (.lstore_n 1, 1, 0, 0, 0, []) := rfl
theorem cd_57_29 : cd 57 29 = some (.iinc 3 1, 3, 0, 0, 0, []) := rfl
theorem cd_57_32 : cd 57 32 = some (.goto (-28), 3, 0, 0, 0, []) := rfl
theorem cd_57_35 : cd 57 35 = some (.lload_n 1, 1, 0, 0, 0, []) := rfl
theorem cd_57_36 : cd 57 36 = some (.lreturn, 1, 0, 0, 0, []) := rfl
theorem cd_58_0 : cd 58 0 = some (.aload_n 0, 1, 0, 0, 0, []) := rfl
theorem cd_58_1 : cd 58 1 = some (.invokevirtual 68, 3, 57, 1, 0, []) := rfl
theorem cd_58_4 : cd 58 4 = some (.invokestatic 72, 3, 199, 1, 2, []) := rfl
theorem cd_58_7 : cd 58 7 = some (.ireturn, 1, 0, 0, 0, []) := rfl
theorem cd_59_0 : cd 59 0 = some (.iconst 0, 1, 0, 0, 0, []) := rfl
theorem cd_59_1 : cd 59 1 = some (.istore_n 1, 1, 0, 0, 0, []) := rfl
theorem cd_59_2 : cd 59 2 = some (.iconst 0, 1, 0, 0, 0, []) := rfl
theorem cd_59_3 : cd 59 3 = some (.istore_n 2, 1, 0, 0, 0, []) := rfl
theorem cd_59_4 : cd 59 4 = some (.iload_n 2, 1, 0, 0, 0, []) := rfl
theorem cd_59_5 : cd 59 5 = some (.aload_n 0, 1, 0, 0, 0, []) := rfl
theorem cd_59_6 : cd 59 6 = some (.invokevirtual 39, 3, 49, 1, 0, []) := rfl
theorem cd_59_9 : cd 59 9 = some (.if_icmp .ge 28, 3, 0, 0, 0, []) := rfl
theorem cd_59_12 : cd 59 12 = some (.iload_n 1, 1, 0, 0, 0, []) := rfl
theorem cd_59_13 : cd 59 13 = some (.aload_n 0, 1, 0, 0, 0, []) := rfl
theorem cd_59_14 : cd 59 14 = some (.iload_n 2, 1, 0, 0, 0, []) := rfl
theorem cd_59_15 : cd 59 15 = some (.invokevirtual 54, 3, 53, 2, 0, []) := rfl
theorem cd_59_18 : cd 59 18 = some (.invokestatic 78, 3, 119, 1, 3, []) := rfl
theorem cd_59_21 : cd 59 21 = some (.ifCond .eq 7, 3, 0, 0, 0, []) := rfl
theorem cd_59_24 : cd 59 24 = some (.iconst 1, 1, 0, 0, 0, []) := rfl
theorem cd_59_25 : cd 59 25 = some (.goto 4, 3, 0, 0, 0, []) := rfl
theorem cd_59_28 : cd 59 28 = some (.iconst 0, 1, 0, 0, 0, []) := rfl
theorem cd_59_29 : cd 59 29 = some (.iadd, 1, 0, 0, 0, []) := rfl
theorem cd_59_30 : cd 59 30 = some (.istore_n 1, 1, 0, 0, 0, []) := rfl
theorem cd_59_31 : cd 59 31 = some (.iinc 2 1, 3, 0, 0, 0, []) := rfl
theorem cd_59_34 : cd 59 34 = some (.goto (-30), 3, 0, 0, 0, []) := rfl
theorem cd_59_37 : cd 59 37 = some (.iload_n 1, 1, 0, 0, 0, []) := rfl
theorem cd_59_38 : cd 59 38 = some (.ireturn, 1, 0, 0, 0, []) := rfl
theorem cd_60_0 : cd 60 0 = some (.iconst 0, 1, 0, 0, 0, []) := rfl
theorem cd_60_1 : cd 60 1 = some (.istore_n 1, 1, 0, 0, 0, []) := rfl
theorem cd_60_2 : cd 60 2 = some (.iconst 0, 1, 0, 0, 0, []) := rfl
theorem cd_60_3 : cd 60 3 = some (.istore_n 2, 1, 0, 0, 0, []) := rfl
theorem cd_60_4 : cd 60 4 = some (.iload_n 2, 1, 0, 0, 0, []) := rfl
theorem cd_60_5 : cd 60 5 = some (.aload_n 0, 1, 0, 0, 0, []) := rfl
theorem cd_60_6 : cd 60 6 = some (.invokevirtual 39, 3, 49, 1, 0, []) := rfl
theorem cd_60_9 : cd 60 9 = some (.if_icmp .ge 28, 3, 0, 0, 0, []) := rfl
theorem cd_60_12 : cd 60 12 = some (.iload_n 1, 1, 0, 0, 0, []) := rfl
theorem cd_60_13 : cd 60 13 = some (.aload_n 0, 1, 0, 0, 0, []) := rfl
theorem cd_60_14 : cd 60 14 = some (.iload_n 2, 1, 0, 0, 0, []) := rfl
theorem cd_60_15 : cd 60 15 = some (.invokevirtual 54, 3, 53, 2, 0, []) := rfl
theorem cd_60_18 : cd 60 18 = some (.invokestatic 81, 3, 121, 1, 3, []) := rfl
theorem cd_60_21 : cd 60 21 = some (.ifCond .eq 7, 3, 0, 0, 0, []) := rfl
theorem cd_60_24 : cd 60 24 = some (.iconst 1, 1, 0, 0, 0, []) := rfl
theorem cd_60_25 : cd 60 25 = some (.goto 4, 3, 0, 0, 0, []) := rfl
theorem cd_60_28 : cd 60 28 = some (.iconst 0, 1, 0, 0, 0, []) := rfl
theorem cd_60_29 : cd 60 29 = some (.iadd, 1, 0, 0, 0, []) := rfl
theorem cd_60_30 : cd 60 30 = some (.istore_n 1, 1, 0, 0, 0, []) := rfl
theorem cd_60_31 : cd 60 31 = some (.iinc 2 1, 3, 0, 0, 0, []) := rfl
theorem cd_60_34 : cd 60 34 = some (.goto (-30), 3, 0, 0, 0, []) := rfl
theorem cd_60_37 : cd 60 37 = some (.iload_n 1, 1, 0, 0, 0, []) := rfl
theorem cd_60_38 : cd 60 38 = some (.ireturn, 1, 0, 0, 0, []) := rfl
theorem cd_61_0 : cd 61 0 = some (.iconst 0, 1, 0, 0, 0, []) := rfl
theorem cd_61_1 : cd 61 1 = some (.istore_n 1, 1, 0, 0, 0, []) := rfl
theorem cd_61_2 : cd 61 2 = some (.iconst 0, 1, 0, 0, 0, []) := rfl
theorem cd_61_3 : cd 61 3 = some (.istore_n 2, 1, 0, 0, 0, []) := rfl
theorem cd_61_4 : cd 61 4 = some (.iload_n 2, 1, 0, 0, 0, []) := rfl
theorem cd_61_5 : cd 61 5 = some (.aload_n 0, 1, 0, 0, 0, []) := rfl
theorem cd_61_6 : cd 61 6 = some (.invokevirtual 39, 3, 49, 1, 0, []) := rfl
theorem cd_61_9 : cd 61 9 = some (.if_icmp .ge 27, 3, 0, 0, 0, []) := rfl
theorem cd_61_12 : cd 61 12 = some (.iload_n 1, 1, 0, 0, 0, []) := rfl
theorem cd_61_13 : cd 61 13 = some (.aload_n 0, 1, 0, 0, 0, []) := rfl
theorem cd_61_14 : cd 61 14 = some (.iload_n 2, 1, 0, 0, 0, []) := rfl
theorem cd_61_15 : cd 61 15 = some (.invokevirtual 54, 3, 53, 2, 0, []) := rfl
theorem cd_61_18 : cd 61 18 = some (.bipush 35, 2, 0, 0, 0, []) := rfl
theorem cd_61_20 : cd 61 20 = some (.if_icmp .ne 7, 3, 0, 0, 0, []) := rfl
theorem cd_61_23 : cd 61 23 = some (.iconst 1, 1, 0, 0, 0, []) := rfl
theorem cd_61_24 : cd 61 24 = some (.goto 4, 3, 0, 0, 0, []) := rfl
theorem cd_61_27 : cd 61 27 = some (.iconst 0, 1, 0, 0, 0, []) := rfl
theorem cd_61_28 : cd 61 28 = some (.iadd, 1, 0, 0, 0, []) := rfl
theorem cd_61_29 : cd 61 29 = some (.istore_n 1, 1, 0, 0, 0, []) := rfl
theorem cd_61_30 : cd 61 30 = some (.iinc 2 1, 3, 0, 0, 0, []) := rfl
theorem cd_61_33 : cd 61 33 = some (.goto (-29), 3, 0, 0, 0, []) := rfl
theorem cd_61_36 : cd 61 36 = some (.iload_n 1, 1, 0, 0, 0, []) := rfl
theorem cd_61_37 : cd 61 37 = some (.ireturn, 1, 0, 0, 0, []) := rfl
theorem cd_62_0 : cd 62 0 = some (.aload_n 0, 1, 0, 0, 0, []) := rfl
theorem cd_62_1 : cd 62 1 = some (.invokespecial 3, 3, 0, 1, 6, []) := rfl
theorem cd_62_4 : cd 62 4 = some (.aload_n 0, 1, 0, 0, 0, []) := rfl
theorem cd_62_5 : cd 62 5 = some (.bipush 60, 2, 0, 0, 0, []) := rfl
theorem cd_62_7 : cd 62 7 = some (.newarray .int, 2, 0, 0, 0, []) := rfl
theorem cd_62_9 : cd 62 9 = some (.putfield 9, 3, 6, 0, 0, []) := rfl
theorem cd_62_12 : cd 62 12 = some (.return_, 1, 0, 0, 0, []) := rfl
theorem cd_63_0 : cd 63 0 = some (.aload_n 0, 1, 0, 0, 0, []) := rfl
theorem cd_63_1 : cd 63 1 = some (.getfield 15, 3, 6, 1, 0, []) := rfl
theorem cd_63_4 : cd 63 4 = some (.bipush 60, 2, 0, 0, 0, []) := rfl
theorem cd_63_6 : cd 63 6 = some (.if_icmp .lt 7, 3, 0, 0, 0, []) := rfl
theorem cd_63_9 : cd 63 9 = some (.iconst 1, 1, 0, 0, 0, []) := rfl
theorem cd_63_10 : cd 63 10 = some (.goto 4, 3, 0, 0, 0, []) := rfl
theorem cd_63_13 : cd 63 13 = some (.iconst 0, 1, 0, 0, 0, []) := rfl
theorem cd_63_14 : cd 63 14 = some (.ireturn, 1, 0, 0, 0, []) := rfl
theorem cd_64_0 : cd 64 0 = some (.aload_n 0, 1, 0, 0, 0, []) := rfl
theorem cd_64_1 : cd 64 1 = some (.getfield 9, 3, 6, 0, 0, []) := rfl
theorem cd_64_4 : cd 64 4 = some (.aload_n 0, 1, 0, 0, 0, []) := rfl
theorem cd_64_5 : cd 64 5 = some (.getfield 15, 3, 6, 1, 0, []) := rfl
theorem cd_64_8 : cd 64 8 = some (.iload_n 1, 1, 0, 0, 0, []) := rfl
theorem cd_64_9 : cd 64 9 = some (.invokestatic 19, 3, 127, 3, 3, []) := rfl
theorem cd_64_12 : cd 64 12 = some (.aload_n 0, 1, 0, 0, 0, []) := rfl
theorem cd_64_13 : cd 64 13 = some (.dup, 1, 0, 0, 0, []) := rfl
theorem cd_64_14 : cd 64 14 = some (.getfield 15, 3, 6, 1, 0, []) := rfl
theorem cd_64_17 : cd 64 17 = some (.iconst 1, 1, 0, 0, 0, []) := rfl
theorem cd_64_18 : cd 64 18 = some (.iadd, 1, 0, 0, 0, []) := rfl
theorem cd_64_19 : cd 64 19 = some (.putfield 15, 3, 6, 1, 0, []) := rfl
theorem cd_64_22 : cd 64 22 = some (.return_, 1, 0, 0, 0, []) := rfl
theorem cd_65_0 : cd 65 0 = some (.aload_n 0, 1, 0, 0, 0, []) := rfl
theorem cd_65_1 : cd 65 1 = some (.getfield 15, 3, 6, 1, 0, []) := rfl
theorem cd_65_4 : cd 65 4 = some (.iconst 1, 1, 0, 0, 0, []) := rfl
theorem cd_65_5 : cd 65 5 = some (.bipush 8, 2, 0, 0, 0, []) := rfl
theorem cd_65_7 : cd 65 7 = some (.invokestatic 23, 3, 116, 3, 3, []) := rfl
theorem cd_65_10 : cd 65 10 = some (.ifCond .ne 5, 3, 0, 0, 0, []) := rfl
theorem cd_65_13 : cd 65 13 = some (.iconst 0, 1, 0, 0, 0, []) := rfl
theorem cd_65_14 : cd 65 14 = some (.ireturn, 1, 0, 0, 0, []) := rfl
theorem cd_65_15 : cd 65 15 = some (.iconst 0, 1, 0, 0, 0, []) := rfl
theorem cd_65_16 : cd 65 16 = some (.istore_n 1, 1, 0, 0, 0, []) := rfl
theorem cd_65_17 : cd 65 17 = some (.iload_n 1, 1, 0, 0, 0, []) := rfl
theorem cd_65_18 : cd 65 18 = some (.aload_n 0, 1, 0, 0, 0, []) := rfl
theorem cd_65_19 : cd 65 19 = some (.getfield 15, 3, 6, 1, 0, []) := rfl
theorem cd_65_22 : cd 65 22 = some (.if_icmp .ge 25, 3, 0, 0, 0, []) := rfl
theorem cd_65_25 : cd 65 25 = some (.aload_n 0, 1, 0, 0, 0, []) := rfl
theorem cd_65_26 : cd 65 26 = some (.getfield 9, 3, 6, 0, 0, []) := rfl
theorem cd_65_29 : cd 65 29 = some (.iload_n 1, 1, 0, 0, 0, []) := rfl
theorem cd_65_30 : cd 65 30 = some (.invokestatic 27, 3, 125, 2, 3, []) := rfl
theorem cd_65_33 : cd 65 33 = some (.invokestatic 31, 3, 118, 1, 3, []) := rfl
theorem cd_65_36 : cd 65 36 = some (.ifCond .ne 5, 3, 0, 0, 0, []) := rfl
theorem cd_65_39 : cd 65 39 = some (.iconst 0, 1, 0, 0, 0, []) := rfl
theorem cd_65_40 : cd 65 40 = some (.ireturn, 1, 0, 0, 0, []) := rfl
theorem cd_65_41 : cd 65 41 = some (.iinc 1 1, 3, 0, 0, 0, []) := rfl
theorem cd_65_44 : cd 65 44 = some (.goto (-27), 3, 0, 0, 0, []) := rfl
theorem cd_65_47 : cd 65 47 = some (.iconst 1, 1, 0, 0, 0, []) := rfl
theorem cd_65_48 : cd 65 48 = some (.ireturn, 1, 0, 0, 0, []) := rfl
theorem cd_69_0 : cd 69 0 = some (.aload_n 0, 1, 0, 0, 0, []) := rfl
theorem cd_69_1 : cd 69 1 = some (.invokespecial 3, 3, 0, 1, 6, []) := rfl
theorem cd_69_4 : cd 69 4 = some (.aload_n 0, 1, 0, 0, 0, []) := rfl
theorem cd_69_5 : cd 69 5 = some (.bipush 8, 2, 0, 0, 0, []) := rfl
theorem cd_69_7 : cd 69 7 = some (.newarray .int, 2, 0, 0, 0, []) := rfl
theorem cd_69_9 : cd 69 9 = some (.putfield 9, 3, 7, 1, 0, []) := rfl
theorem cd_69_12 : cd 69 12 = some (.aload_n 0, 1, 0, 0, 0, []) := rfl
theorem cd_69_13 : cd 69 13 = some (.bipush 64, 2, 0, 0, 0, []) := rfl
theorem cd_69_15 : cd 69 15 = some (.newarray .int, 2, 0, 0, 0, []) := rfl
theorem cd_69_17 : cd 69 17 = some (.putfield 15, 3, 7, 2, 0, []) := rfl
theorem cd_69_20 : cd 69 20 = some (.return_, 1, 0, 0, 0, []) := rfl
theorem cd_70_0 : cd 70 0 = some (.aload_n 0, 1, 0, 0, 0, []) := rfl
theorem cd_70_1 : cd 70 1 = some (.aload_n 1, 1, 0, 0, 0, []) := rfl
theorem cd_70_2 : cd 70 2 = some (.getfield 18, 3, 7, 0, 0, []) := rfl
theorem cd_70_5 : cd 70 5 = some (.putfield 18, 3, 7, 0, 0, []) := rfl
theorem cd_70_8 : cd 70 8 = some (.aload_n 1, 1, 0, 0, 0, []) := rfl
theorem cd_70_9 : cd 70 9 = some (.getfield 9, 3, 7, 1, 0, []) := rfl
theorem cd_70_12 : cd 70 12 = some (.aload_n 0, 1, 0, 0, 0, []) := rfl
theorem cd_70_13 : cd 70 13 = some (.getfield 9, 3, 7, 1, 0, []) := rfl
theorem cd_70_16 : cd 70 16 = some (.invokestatic 22, 3, 129, 2, 3, []) := rfl
theorem cd_70_19 : cd 70 19 = some (.aload_n 1, 1, 0, 0, 0, []) := rfl
theorem cd_70_20 : cd 70 20 = some (.getfield 15, 3, 7, 2, 0, []) := rfl
theorem cd_70_23 : cd 70 23 = some (.aload_n 0, 1, 0, 0, 0, []) := rfl
theorem cd_70_24 : cd 70 24 = some (.getfield 15, 3, 7, 2, 0, []) := rfl
theorem cd_70_27 : cd 70 27 = some (.invokestatic 22, 3, 129, 2, 3, []) := rfl
theorem cd_70_30 : cd 70 30 = some (.return_, 1, 0, 0, 0, []) := rfl
theorem cd_71_0 : cd 71 0 = some (.iload_n 1, 1, 0, 0, 0, []) := rfl
theorem cd_71_1 : cd 71 1 = some (.ifCond .lt 15, 3, 0, 0, 0, []) := rfl
theorem cd_71_4 : cd 71 4 = some (.iload_n 1, 1, 0, 0, 0, []) := rfl
theorem cd_71_5 : cd 71 5 = some (.aload_n 0, 1, 0, 0, 0, []) := rfl
theorem cd_71_6 : cd 71 6 = some (.getfield 18, 3, 7, 0, 0, []) := rfl
theorem cd_71_9 : cd 71 9 = some (.if_icmp .ge 7, 3, 0, 0, 0, []) := rfl
theorem cd_71_12 : cd 71 12 = some (.iconst 1, 1, 0, 0, 0, []) := rfl
theorem cd_71_13 : cd 71 13 = some (.goto 4, 3, 0, 0, 0, []) := rfl
theorem cd_71_16 : cd 71 16 = some (.iconst 0, 1, 0, 0, 0, []) := rfl
theorem cd_71_17 : cd 71 17 = some (.ireturn, 1, 0, 0, 0, []) := rfl
theorem cd_72_0 : cd 72 0 = some (.aload_n 0, 1, 0, 0, 0, []) := rfl
theorem cd_72_1 : cd 72 1 = some (.getfield 18, 3, 7, 0, 0, []) := rfl
theorem cd_72_4 : cd 72 4 = some (.bipush 8, 2, 0, 0, 0, []) := rfl
theorem cd_72_6 : cd 72 6 = some (.if_icmp .lt 7, 3, 0, 0, 0, []) := rfl
theorem cd_72_9 : cd 72 9 = some (.iconst 1, 1, 0, 0, 0, []) := rfl
theorem cd_72_10 : cd 72 10 = some (.goto 4, 3, 0, 0, 0, []) := rfl
theorem cd_72_13 : cd 72 13 = some (.iconst 0, 1, 0, 0, 0, []) := rfl
theorem cd_72_14 : cd 72 14 = some (.ireturn, 1, 0, 0, 0, []) := rfl
theorem cd_73_0 : cd 73 0 = some (.iload_n 2, 1, 0, 0, 0, []) := rfl
theorem cd_73_1 : cd 73 1 = some (.aload_n 0, 1, 0, 0, 0, []) := rfl
theorem cd_73_2 : cd 73 2 = some (.getfield 9, 3, 7, 1, 0, []) := rfl
theorem cd_73_5 : cd 73 5 = some (.iload_n 1, 1, 0, 0, 0, []) := rfl
theorem cd_73_6 : cd 73 6 = some (.invokestatic 26, 3, 125, 2, 3, []) := rfl
theorem cd_73_9 : cd 73 9 = some (.if_icmp .ge 15, 3, 0, 0, 0, []) := rfl
theorem cd_73_12 : cd 73 12 = some (.aload_n 0, 1, 0, 0, 0, []) := rfl
theorem cd_73_13 : cd 73 13 = some (.iload_n 1, 1, 0, 0, 0, []) := rfl
theorem cd_73_14 : cd 73 14 = some (.iload_n 2, 1, 0, 0, 0, []) := rfl
theorem cd_73_15 : cd 73 15 = some (.invokevirtual 30, 3, 74, 3, 0, []) := rfl
theorem cd_73_18 : cd 73 18 = some (.bipush 97, 2, 0, 0, 0, []) := rfl
theorem cd_73_20 : cd 73 20 = some (.isub, 1, 0, 0, 0, []) := rfl
theorem cd_73_21 : cd 73 21 = some (.goto 4, 3, 0, 0, 0, []) := rfl
theorem cd_73_24 : cd 73 24 = some (.iconst (-1), 1, 0, 0, 0, []) := rfl
theorem cd_73_25 : cd 73 25 = some (.ireturn, 1, 0, 0, 0, []) := rfl
theorem cd_74_0 : cd 74 0 = some (.aload_n 0, 1, 0, 0, 0, []) := rfl
theorem cd_74_1 : cd 74 1 = some (.getfield 15, 3, 7, 2, 0, []) := rfl
theorem cd_74_4 : cd 74 4 = some (.iload_n 1, 1, 0, 0, 0, []) := rfl
theorem cd_74_5 : cd 74 5 = some (.bipush 8, 2, 0, 0, 0, []) := rfl
theorem cd_74_7 : cd 74 7 = some (.imul, 1, 0, 0, 0, []) := rfl
theorem cd_74_8 : cd 74 8 = some (.iload_n 2, 1, 0, 0, 0, []) := rfl
theorem cd_74_9 : cd 74 9 = some (.iadd, 1, 0, 0, 0, []) := rfl
theorem cd_74_10 : cd 74 10 = some (.invokestatic 26, 3, 125, 2, 3, []) := rfl
theorem cd_74_13 : cd 74 13 = some (.ireturn, 1, 0, 0, 0, []) := rfl
theorem cd_75_0 : cd 75 0 = some (.aload_n 0, 1, 0, 0, 0, []) := rfl
theorem cd_75_1 : cd 75 1 = some (.getfield 18, 3, 7, 0, 0, []) := rfl
theorem cd_75_4 : cd 75 4 = some (.istore_n 3, 1, 0, 0, 0, []) := rfl
theorem cd_75_5 : cd 75 5 = some (.iconst 0, 1, 0, 0, 0, []) := rfl
theorem cd_75_6 : cd 75 6 = some (.istore 4, 2, 0, 0, 0, []) := rfl
theorem cd_75_8 : cd 75 8 = some (.iload 4, 2, 0, 0, 0, []) := rfl
theorem cd_75_10 : cd 75 10 = some (.iload_n 2, 1, 0, 0, 0, []) := rfl
theorem cd_75_11 : cd 75 11 = some (.if_icmp .ge 36, 3, 0, 0, 0, []) := rfl
theorem cd_75_14 : cd 75 14 = some (.iload 4, 2, 0, 0, 0, []) := rfl
theorem cd_75_16 : cd 75 16 = some (.bipush 8, 2, 0, 0, 0, []) := rfl
theorem cd_75_18 : cd 75 18 = some (.if_icmp .ge 29, 3, 0, 0, 0, []) := rfl
theorem cd_75_21 : cd 75 21 = some (.aload_n 0, 1, 0, 0, 0, []) := rfl
theorem cd_75_22 : cd 75 22 = some (.getfield 15, 3, 7, 2, 0, []) := rfl
theorem cd_75_25 : cd 75 25 = some (.iload_n 3, 1, 0, 0, 0, []) := rfl
theorem cd_75_26 : cd 75 26 = some (.bipush 8, 2, 0, 0, 0, []) := rfl
theorem cd_75_28 : cd 75 28 = some (.imul, 1, 0, 0, 0, []) := rfl
theorem cd_75_29 : cd 75 29 = some (.iload 4, 2, 0, 0, 0, []) := rfl
theorem cd_75_31 : cd 75 31 = some (.iadd, 1, 0, 0, 0, []) := rfl
theorem cd_75_32 : cd 75 32 = some (.aload_n 1, 1, 0, 0, 0, []) := rfl
theorem cd_75_33 : cd 75 33 = some (.iload 4, 2, 0, 0, 0, []) := rfl
theorem cd_75_35 : cd 75 35 = some (.invokestatic 26, 3, 125, 2, 3, []) := rfl
theorem cd_75_38 : cd 75 38 = some (.invokestatic 34, 3, 127, 3, 3, []) := rfl
theorem cd_75_41 : cd 75 41 = some (.iinc 4 1, 3, 0, 0, 0, []) := rfl
theorem cd_75_44 : cd 75 44 = some (.goto (-36), 3, 0, 0, 0, []) := rfl
theorem cd_75_47 : cd 75 47 = some (.aload_n 0, 1, 0, 0, 0, []) := rfl
theorem cd_75_48 : cd 75 48 = some (.getfield 9, 3, 7, 1, 0, []) := rfl
theorem cd_75_51 : cd 75 51 = some (.iload_n 3, 1, 0, 0, 0, []) := rfl
theorem cd_75_52 : cd 75 52 = some (.iload_n 2, 1, 0, 0, 0, []) := rfl
theorem cd_75_53 : cd 75 53 = some (.invokestatic 34, 3, 127, 3, 3, []) := rfl
theorem cd_75_56 : cd 75 56 = some (.aload_n 0, 1, 0, 0, 0, []) := rfl
theorem cd_75_57 : cd 75 57 = some (.dup, 1, 0, 0, 0, []) := rfl
theorem cd_75_58 : cd 75 58 = some (.getfield 18, 3, 7, 0, 0, []) := rfl
theorem cd_75_61 : cd 75 61 = some (.iconst 1, 1, 0, 0, 0, []) := rfl
theorem cd_75_62 : cd 75 62 = some (.iadd, 1, 0, 0, 0, []) := rfl
theorem cd_75_63 : cd 75 63 = some (.putfield 18, 3, 7, 0, 0, []) := rfl
theorem cd_75_66 : cd 75 66 = some (.iload_n 3, 1, 0, 0, 0, []) := rfl
theorem cd_75_67 : cd 75 67 = some (.ireturn, 1, 0, 0, 0, []) := rfl
theorem cd_76_0 : cd 76 0 = some (.iload_n 1, 1, 0, 0, 0, []) := rfl
theorem cd_76_1 : cd 76 1 = some (.iconst 1, 1, 0, 0, 0, []) := rfl
theorem cd_76_2 : cd 76 2 = some (.iadd, 1, 0, 0, 0, []) := rfl
theorem cd_76_3 : cd 76 3 = some (.istore_n 2, 1, 0, 0, 0, []) := rfl
theorem cd_76_4 : cd 76 4 = some (.iload_n 2, 1, 0, 0, 0, [1, 3]) := rfl
theorem cd_76_5 : cd 76 5 = some (.aload_n 0, 1, 0, 0, 0, []) := rfl
theorem cd_76_6 : cd 76 6 = some (.getfield 18, 3, 7, 0, 0, []) := rfl
theorem cd_76_9 : cd 76 9 = some (.if_icmp .ge 62, 3, 0, 0, 0, []) := rfl
theorem cd_76_12 : cd 76 12 = some (.iconst 0, 1, 0, 0, 0, []) := rfl
theorem cd_76_13 : cd 76 13 = some (.istore_n 3, 1, 0, 0, 0, []) := rfl
theorem cd_76_14 : cd 76 14 = some (.iload_n 3, 1, 0, 0, 0, [1]) := rfl
theorem cd_76_15 : cd 76 15 = some (.bipush 8, 2, 0, 0, 0, []) := rfl
theorem cd_76_17 : cd 76 17 = some (.if_icmp .ge 30, 3, 0, 0, 0, []) := rfl
theorem cd_76_20 : cd 76 20 = some (.aload_n 0, 1, 0, 0, 0, []) := rfl
theorem cd_76_21 : cd 76 21 = some (.getfield 15, 3, 7, 2, 0, []) := rfl
theorem cd_76_24 : cd 76 24 = some (.iload_n 2, 1, 0, 0, 0, []) := rfl
theorem cd_76_25 : cd 76 25 = some (.iconst 1, 1, 0, 0, 0, []) := rfl
theorem cd_76_26 : cd 76 26 = some (.isub, 1, 0, 0, 0, []) := rfl
theorem cd_76_27 : cd 76 27 = some (.bipush 8, 2, 0, 0, 0, []) := rfl
theorem cd_76_29 : cd 76 29 = some (.imul, 1, 0, 0, 0, []) := rfl
theorem cd_76_30 : cd 76 30 = some (.iload_n 3, 1, 0, 0, 0, []) := rfl
theorem cd_76_31 : cd 76 31 = some (.iadd, 1, 0, 0, 0, []) := rfl
theorem cd_76_32 : cd 76 32 = some (.aload_n 0, 1, 0, 0, 0, []) := rfl
theorem cd_76_33 : cd 76 33 = some (.iload_n 2, 1, 0, 0, 0, []) := rfl
theorem cd_76_34 : cd 76 34 = some (.iload_n 3, 1, 0, 0, 0, []) := rfl
theorem cd_76_35 : cd 76 35 = some (.invokevirtual 30, 3, 74, 3, 0, []) := rfl
theorem cd_76_38 : cd 76 38 = some (.invokestatic 34, 3, 127, 3, 3, []) := rfl
theorem cd_76_41 : cd 76 41 = some (.iinc 3 1, 3, 0, 0, 0, []) := rfl
theorem cd_76_44 : cd 76 44 = some (.goto (-30), 3, 0, 0, 0, []) := rfl
theorem cd_76_47 : cd 76 47 = some (.aload_n 0, 1, 0, 0, 0, []) := rfl
theorem cd_76_48 : cd 76 48 = some (.getfield 9, 3, 7, 1, 0, []) := rfl
theorem cd_76_51 : cd 76 51 = some (.iload_n 2, 1, 0, 0, 0, []) := rfl
theorem cd_76_52 : cd 76 52 = some (.iconst 1, 1, 0, 0, 0, []) := rfl
theorem cd_76_53 : cd 76 53 = some (.isub, 1, 0, 0, 0, []) := rfl
theorem cd_76_54 : cd 76 54 = some (.aload_n 0, 1, 0, 0, 0, []) := rfl
theorem cd_76_55 : cd 76 55 = some (.getfield 9, 3, 7, 1, 0, []) := rfl
theorem cd_76_58 : cd 76 58 = some (.iload_n 2, 1, 0, 0, 0, []) := rfl
theorem cd_76_59 : cd 76 59 = some (.invokestatic 26, 3, 125, 2, 3, []) := rfl
theorem cd_76_62 : cd 76 62 = some (.invokestatic 34, 3, 127, 3, 3, []) := rfl
theorem cd_76_65 : cd 76 65 = some (.iinc 2 1, 3, 0, 0, 0, []) := rfl
theorem cd_76_68 : cd 76 68 = some (.goto (-64), 3, 0, 0, 0, []) := rfl
theorem cd_76_71 : cd 76 71 = some (.aload_n 0, 1, 0, 0, 0, []) := rfl
theorem cd_76_72 : cd 76 72 = some (.dup, 1, 0, 0, 0, []) := rfl
theorem cd_76_73 : cd 76 73 = some (.getfield 18, 3, 7, 0, 0, []) := rfl
theorem cd_76_76 : cd 76 76 = some (.iconst 1, 1, 0, 0, 0, []) := rfl
theorem cd_76_77 : cd 76 77 = some (.isub, 1, 0, 0, 0, []) := rfl
theorem cd_76_78 : cd 76 78 = some (.putfield 18, 3, 7, 0, 0, []) := rfl
theorem cd_76_81 : cd 76 81 = some (.return_, 1, 0, 0, 0, []) := rfl
theorem cd_77_0 : cd 77 0 = some (.iconst 0, 1, 0, 0, 0, []) := rfl
theorem cd_77_1 : cd 77 1 = some (.istore 4, 2, 0, 0, 0, []) := rfl
theorem cd_77_3 : cd 77 3 = some (.iload 4, 2, 0, 0, 0, []) := rfl
theorem cd_77_5 : cd 77 5 = some (.aload_n 0, 1, 0, 0, 0, []) := rfl
theorem cd_77_6 : cd 77 6 = some (.getfield 18, 3, 7, 0, 0, []) := rfl
theorem cd_77_9 : cd 77 9 = some (.if_icmp .ge 36, 3, 0, 0, 0, []) := rfl
theorem cd_77_12 : cd 77 12 = some (.aload_n 0, 1, 0, 0, 0, []) := rfl
theorem cd_77_13 : cd 77 13 = some (.getfield 9, 3, 7, 1, 0, []) := rfl
theorem cd_77_16 : cd 77 16 = some (.iload 4, 2, 0, 0, 0, []) := rfl
theorem cd_77_18 : cd 77 18 = some (.invokestatic 26, 3, 125, 2, 3, []) := rfl
theorem cd_77_21 : cd 77 21 = some (.iload_n 3, 1, 0, 0, 0, []) := rfl
theorem cd_77_22 : cd 77 22 = some (.if_icmp .ne 17, 3, 0, 0, 0, []) := rfl
theorem cd_77_25 : cd 77 25 = some (.aload_n 0, 1, 0, 0, 0, []) := rfl
theorem cd_77_26 : cd 77 26 = some (.iload 4, 2, 0, 0, 0, []) := rfl
theorem cd_77_28 : cd 77 28 = some (.aload_n 1, 1, 0, 0, 0, []) := rfl
theorem cd_77_29 : cd 77 29 = some (.iload_n 2, 1, 0, 0, 0, []) := rfl
theorem cd_77_30 : cd 77 30 = some (.invokevirtual 38, 3, 78, 4, 0, []) := rfl
theorem cd_77_33 : cd 77 33 = some (.ifCond .eq 6, 3, 0, 0, 0, []) := rfl
theorem cd_77_36 : cd 77 36 = some (.iload 4, 2, 0, 0, 0, []) := rfl
theorem cd_77_38 : cd 77 38 = some (.ireturn, 1, 0, 0, 0, []) := rfl
theorem cd_77_39 : cd 77 39 = some (.iinc 4 1, 3, 0, 0, 0, []) := rfl
theorem cd_77_42 : cd 77 42 = some (.goto (-39), 3, 0, 0, 0, []) := rfl
theorem cd_77_45 : cd 77 45 = some (.iconst (-1), 1, 0, 0, 0, []) := rfl
theorem cd_77_46 : cd 77 46 = some (.ireturn, 1, 0, 0, 0, []) := rfl
theorem cd_78_0 : cd 78 0 = some (.aload_n 0, 1, 0, 0, 0, []) := rfl
theorem cd_78_1 : cd 78 1 = some (.getfield 9, 3, 7, 1, 0, []) := rfl
theorem cd_78_4 : cd 78 4 = some (.iload_n 1, 1, 0, 0, 0, []) := rfl
theorem cd_78_5 : cd 78 5 = some (.invokestatic 26, 3, 125, 2, 3, []) := rfl
theorem cd_78_8 : cd 78 8 = some (.istore 4, 2, 0, 0, 0, []) := rfl
theorem cd_78_10 : cd 78 10 = some (.iconst 0, 1, 0, 0, 0, []) := rfl
theorem cd_78_11 : cd 78 11 = some (.istore 5, 2, 0, 0, 0, []) := rfl
theorem cd_78_13 : cd 78 13 = some (.iload 5, 2, 0, 0, 0, []) := rfl
theorem cd_78_15 : cd 78 15 = some (.iload 4, 2, 0, 0, 0, []) := rfl
theorem cd_78_17 : cd 78 17 = some (.if_icmp .ge 29, 3, 0, 0, 0, []) := rfl
theorem cd_78_20 : cd 78 20 = some (.aload_n 0, 1, 0, 0, 0, []) := rfl
theorem cd_78_21 : cd 78 21 = some (.iload_n 1, 1, 0, 0, 0, []) := rfl
theorem cd_78_22 : cd 78 22 = some (.iload 5, 2, 0, 0, 0, []) := rfl
theorem cd_78_24 : cd 78 24 = some (.invokevirtual 30, 3, 74, 3, 0, []) := rfl
theorem cd_78_27 : cd 78 27 = some (.aload_n 2, 1, 0, 0, 0, []) := rfl
theorem cd_78_28 : cd 78 28 = some (.iload_n 3, 1, 0, 0, 0, []) := rfl
theorem cd_78_29 : cd 78 29 = some (.iload 5, 2, 0, 0, 0, []) := rfl
theorem cd_78_31 : cd 78 31 = some (.iadd, 1, 0, 0, 0, []) := rfl
theorem cd_78_32 : cd 78 32 = some (.invokestatic 26, 3, 125, 2, 3, []) := rfl
theorem cd_78_35 : cd 78 35 = some (.if_icmp .eq 5, 3, 0, 0, 0, []) := rfl
theorem cd_78_38 : cd 78 38 = some (.iconst 0, 1, 0, 0, 0, []) := rfl
theorem cd_78_39 : cd 78 39 = some (.ireturn, 1, 0, 0, 0, []) := rfl
theorem cd_78_40 : cd 78 40 = some (.iinc 5 1, 3, 0, 0, 0, []) := rfl
theorem cd_78_43 : cd 78 43 = some (.goto (-30), 3, 0, 0, 0, []) := rfl
theorem cd_78_46 : cd 78 46 = some (.iconst 1, 1, 0, 0, 0, []) := rfl
theorem cd_78_47 : cd 78 47 = some (.ireturn, 1, 0, 0, 0, []) := rfl
theorem cd_199_0 : cd 199 0 = some (.lload_n 0, 1, 0, 0, 0, []) := rfl
theorem cd_199_1 : cd 199 1 = some (.lload_n 0, 1, 0, 0, 0, []) := rfl
theorem cd_199_2 : cd 199 2 = some (.iconst 1, 1, 0, 0, 0, []) := rfl
theorem cd_199_3 : cd 199 3 = some (.lushr, 1, 0, 0, 0, []) := rfl
theorem cd_199_4 : cd 199 4 = some (.ldc2_w 314, 3, 3, 0, 0, []) := rfl
theorem cd_199_7 : cd 199 7 = some (.land, 1, 0, 0, 0, []) := rfl
theorem cd_199_8 : cd 199 8 = some (.lsub, 1, 0, 0, 0, []) := rfl
theorem cd_199_9 : cd 199 9 = some (.lstore_n 0, 1, 0, 0, 0, []) := rfl
theorem cd_199_10 : cd 199 10 = some (.lload_n 0, 1, 0, 0, 0, []) := rfl
theorem cd_199_11 : cd 199 11 = some (.ldc2_w 316, 3, 4, 0, 0, []) := rfl
theorem cd_199_14 : cd 199 14 = some (.land, 1, 0, 0, 0, []) := rfl
theorem cd_199_15 : cd 199 15 = some (.lload_n 0, 1, 0, 0, 0, []) := rfl
theorem cd_199_16 : cd 199 16 = some (.iconst 2, 1, 0, 0, 0, []) := rfl
theorem cd_199_17 : cd 199 17 = some (.lushr, 1, 0, 0, 0, []) := rfl
theorem cd_199_18 : cd 199 18 = some (.ldc2_w 316, 3, 4, 0, 0, []) := rfl
theorem cd_199_21 : cd 199 21 = some (.land, 1, 0, 0, 0, []) := rfl
theorem cd_199_22 : cd 199 22 = some (.ladd, 1, 0, 0, 0, []) := rfl
theorem cd_199_23 : cd 199 23 = some (.lstore_n 0, 1, 0, 0, 0, []) := rfl
theorem cd_199_24 : cd 199 24 = some (.lload_n 0, 1, 0, 0, 0, []) := rfl
theorem cd_199_25 : cd 199 25 = some (.lload_n 0, 1, 0, 0, 0, []) := rfl
theorem cd_199_26 : cd 199 26 = some (.iconst 4, 1, 0, 0, 0, []) := rfl
theorem cd_199_27 : cd 199 27 = some (.lushr, 1, 0, 0, 0, []) := rfl
theorem cd_199_28 : cd 199 28 = some (.ladd, 1, 0, 0, 0, []) := rfl
theorem cd_199_29 : cd 199 29 = some (.ldc2_w 318, 3, 5, 0, 0, []) := rfl
theorem cd_199_32 : cd 199 32 = some (.land, 1, 0, 0, 0, []) := rfl
theorem cd_199_33 : cd 199 33 = some (.lstore_n 0, 1, 0, 0, 0, []) := rfl
theorem cd_199_34 : cd 199 34 = some (.lload_n 0, 1, 0, 0, 0, []) := rfl
theorem cd_199_35 : cd 199 35 = some (.lload_n 0, 1, 0, 0, 0, []) := rfl
theorem cd_199_36 : cd 199 36 = some (.bipush 8, 2, 0, 0, 0, []) := rfl
theorem cd_199_38 : cd 199 38 = some (.lushr, 1, 0, 0, 0, []) := rfl
theorem cd_199_39 : cd 199 39 = some (.ladd, 1, 0, 0, 0, []) := rfl
theorem cd_199_40 : cd 199 40 = some (.lstore_n 0, 1, 0, 0, 0, []) := rfl
theorem cd_199_41 : cd 199 41 = some (.lload_n 0, 1, 0, 0, 0, []) := rfl
theorem cd_199_42 : cd 199 42 = some (.lload_n 0, 1, 0, 0, 0, []) := rfl
theorem cd_199_43 : cd 199 43 = some (.bipush 16, 2, 0, 0, 0, []) := rfl
theorem cd_199_45 : cd 199 45 = some (.lushr, 1, 0, 0, 0, []) := rfl
theorem cd_199_46 : cd 199 46 = some (.ladd, 1, 0, 0, 0, []) := rfl
theorem cd_199_47 : cd 199 47 = some (.lstore_n 0, 1, 0, 0, 0, []) := rfl
theorem cd_199_48 : cd 199 48 = some (.lload_n 0, 1, 0, 0, 0, []) := rfl
theorem cd_199_49 : cd 199 49 = some (.lload_n 0, 1, 0, 0, 0, []) := rfl
theorem cd_199_50 : cd 199 50 = some (.bipush 32, 2, 0, 0, 0, []) := rfl
theorem cd_199_52 : cd 199 52 = some (.lushr, 1, 0, 0, 0, []) := rfl
theorem cd_199_53 : cd 199 53 = some (.ladd, 1, 0, 0, 0, []) := rfl
theorem cd_199_54 : cd 199 54 = some (.lstore_n 0, 1, 0, 0, 0, []) := rfl
theorem cd_199_55 : cd 199 55 = some (.lload_n 0, 1, 0, 0, 0, []) := rfl
theorem cd_199_56 : cd 199 56 = some (.l2i, 1, 0, 0, 0, []) := rfl
theorem cd_199_57 : cd 199 57 = some (.bipush 127, 2, 0, 0, 0, []) := rfl
theorem cd_199_59 : cd 199 59 = some (.iand, 1, 0, 0, 0, []) := rfl
theorem cd_199_60 : cd 199 60 = some (.ireturn, 1, 0, 0, 0, []) := rfl
theorem cd_200_0 : cd 200 0 = some (.iconst 0, 1, 0, 0, 0, []) := rfl
theorem cd_200_1 : cd 200 1 = some (.istore_n 3, 1, 0, 0, 0, []) := rfl
theorem cd_200_2 : cd 200 2 = some (.aload_n 0, 1, 0, 0, 0, []) := rfl
theorem cd_200_3 : cd 200 3 = some (.arraylength, 1, 0, 0, 0, []) := rfl
theorem cd_200_4 : cd 200 4 = some (.istore 4, 2, 0, 0, 0, []) := rfl
theorem cd_200_6 : cd 200 6 = some (.iload_n 3, 1, 0, 0, 0, [2]) := rfl
theorem cd_200_7 : cd 200 7 = some (.iload 4, 2, 0, 0, 0, []) := rfl
theorem cd_200_9 : cd 200 9 = some (.if_icmp .ge 13, 3, 0, 0, 0, []) := rfl
theorem cd_200_12 : cd 200 12 = some (.aload_n 0, 1, 0, 0, 0, []) := rfl
theorem cd_200_13 : cd 200 13 = some (.iload_n 3, 1, 0, 0, 0, []) := rfl
theorem cd_200_14 : cd 200 14 = some (.lload_n 1, 1, 0, 0, 0, []) := rfl
theorem cd_200_15 : cd 200 15 = some (.lastore, 1, 0, 0, 0, []) := rfl
theorem cd_200_16 : cd 200 16 = some (.iinc 3 1, 3, 0, 0, 0, []) := rfl
theorem cd_200_19 : cd 200 19 = some (.goto (-13), 3, 0, 0, 0, []) := rfl
theorem cd_200_22 : cd 200 22 = some (.return_, 1, 0, 0, 0, []) := rfl
theorem cd_201_0 : cd 201 0 = some (.iconst 0, 1, 0, 0, 0, []) := rfl
theorem cd_201_1 : cd 201 1 = some (.istore_n 2, 1, 0, 0, 0, []) := rfl
theorem cd_201_2 : cd 201 2 = some (.aload_n 0, 1, 0, 0, 0, []) := rfl
theorem cd_201_3 : cd 201 3 = some (.arraylength, 1, 0, 0, 0, []) := rfl
theorem cd_201_4 : cd 201 4 = some (.istore_n 3, 1, 0, 0, 0, []) := rfl
theorem cd_201_5 : cd 201 5 = some (.iload_n 2, 1, 0, 0, 0, []) := rfl
theorem cd_201_6 : cd 201 6 = some (.iload_n 3, 1, 0, 0, 0, []) := rfl
theorem cd_201_7 : cd 201 7 = some (.if_icmp .ge 13, 3, 0, 0, 0, []) := rfl
theorem cd_201_10 : cd 201 10 = some (.aload_n 0, 1, 0, 0, 0, []) := rfl
theorem cd_201_11 : cd 201 11 = some (.iload_n 2, 1, 0, 0, 0, []) := rfl
theorem cd_201_12 : cd 201 12 = some (.iload_n 1, 1, 0, 0, 0, []) := rfl
theorem cd_201_13 : cd 201 13 = some (.iastore, 1, 0, 0, 0, []) := rfl
theorem cd_201_14 : cd 201 14 = some (.iinc 2 1, 3, 0, 0, 0, []) := rfl
theorem cd_201_17 : cd 201 17 = some (.goto (-12), 3, 0, 0, 0, []) := rfl
theorem cd_201_20 : cd 201 20 = some (.return_, 1, 0, 0, 0, []) := rfl
