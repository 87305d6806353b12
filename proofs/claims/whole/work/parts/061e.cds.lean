/-! ===== the code table, row by row: by program (wip/whole/gen4.py) ===== -/
theorem cd_164_0 : cd 164 0 = some (.aload_n 0, 1, 0, 0, 0, []) := rfl
theorem cd_164_1 : cd 164 1 = some (.iload_n 1, 1, 0, 0, 0, []) := rfl
theorem cd_164_2 : cd 164 2 = some (.invokevirtual 137, 3, 160, 2, 0, []) := rfl
theorem cd_164_5 : cd 164 5 = some (.iload_n 2, 1, 0, 0, 0, []) := rfl
theorem cd_164_6 : cd 164 6 = some (.tableswitch 87 0 5 #[38, 55, 60, 72, 77, 82], 38, 0, 0, 0, []) := rfl
theorem cd_164_44 : cd 164 44 = some (.aload_n 0, 1, 0, 0, 0, []) := rfl
theorem cd_164_45 : cd 164 45 = some (.iload_n 1, 1, 0, 0, 0, []) := rfl
theorem cd_164_46 : cd 164 46 = some (.invokevirtual 141, 3, 163, 2, 0, []) := rfl
theorem cd_164_49 : cd 164 49 = some (.ifCond .eq 7, 3, 0, 0, 0, []) := rfl
theorem cd_164_52 : cd 164 52 = some (.iload_n 1, 1, 0, 0, 0, []) := rfl
theorem cd_164_53 : cd 164 53 = some (.goto 7, 3, 0, 0, 0, []) := rfl
theorem cd_164_56 : cd 164 56 = some (.aload_n 0, 1, 0, 0, 0, []) := rfl
theorem cd_164_57 : cd 164 57 = some (.getfield 127, 3, 9, 10, 0, []) := rfl
theorem cd_164_60 : cd 164 60 = some (.ireturn, 1, 0, 0, 0, []) := rfl
theorem cd_164_61 : cd 164 61 = some (.aload_n 0, 1, 0, 0, 0, []) := rfl
theorem cd_164_62 : cd 164 62 = some (.getfield 127, 3, 9, 10, 0, []) := rfl
theorem cd_164_65 : cd 164 65 = some (.ireturn, 1, 0, 0, 0, []) := rfl
theorem cd_164_66 : cd 164 66 = some (.aload_n 0, 1, 0, 0, 0, []) := rfl
theorem cd_164_67 : cd 164 67 = some (.getfield 22, 3, 9, 7, 0, []) := rfl
theorem cd_164_70 : cd 164 70 = some (.aload_n 0, 1, 0, 0, 0, []) := rfl
theorem cd_164_71 : cd 164 71 = some (.getfield 121, 3, 9, 9, 0, []) := rfl
theorem cd_164_74 : cd 164 74 = some (.iconst 1, 1, 0, 0, 0, []) := rfl
theorem cd_164_75 : cd 164 75 = some (.isub, 1, 0, 0, 0, []) := rfl
theorem cd_164_76 : cd 164 76 = some (.iaload, 1, 0, 0, 0, []) := rfl
theorem cd_164_77 : cd 164 77 = some (.ireturn, 1, 0, 0, 0, []) := rfl
theorem cd_164_78 : cd 164 78 = some (.aload_n 0, 1, 0, 0, 0, []) := rfl
theorem cd_164_79 : cd 164 79 = some (.getfield 121, 3, 9, 9, 0, []) := rfl
theorem cd_164_82 : cd 164 82 = some (.ireturn, 1, 0, 0, 0, []) := rfl
theorem cd_164_83 : cd 164 83 = some (.aload_n 0, 1, 0, 0, 0, []) := rfl
theorem cd_164_84 : cd 164 84 = some (.getfield 124, 3, 9, 11, 0, []) := rfl
theorem cd_164_87 : cd 164 87 = some (.ireturn, 1, 0, 0, 0, []) := rfl
theorem cd_164_88 : cd 164 88 = some (.aload_n 0, 1, 0, 0, 0, []) := rfl
theorem cd_164_89 : cd 164 89 = some (.invokevirtual 144, 3, 162, 1, 0, []) := rfl
theorem cd_164_92 : cd 164 92 = some (.ireturn, 1, 0, 0, 0, []) := rfl
theorem cd_164_93 : cd 164 93 = some (.aload_n 0, 1, 0, 0, 0, []) := rfl
theorem cd_164_94 : cd 164 94 = some (.invokevirtual 147, 3, 161, 1, 0, []) := rfl
theorem cd_164_97 : cd 164 97 = some (.ifCond .eq 7, 3, 0, 0, 0, []) := rfl
theorem cd_164_100 : cd 164 100 = some (.iconst 1, 1, 0, 0, 0, []) := rfl
theorem cd_164_101 : cd 164 101 = some (.goto 4, 3, 0, 0, 0, []) := rfl
theorem cd_164_104 : cd 164 104 = some (.iconst 0, 1, 0, 0, 0, []) := rfl
theorem cd_164_105 : cd 164 105 = some (.ireturn, 1, 0, 0, 0, []) := rfl
theorem cd_165_0 : cd 165 0 = some (.aload_n 0, 1, 0, 0, 0, []) := rfl
theorem cd_165_1 : cd 165 1 = some (.aload_n 0, 1, 0, 0, 0, []) := rfl
theorem cd_165_2 : cd 165 2 = some (.iload_n 1, 1, 0, 0, 0, []) := rfl
theorem cd_165_3 : cd 165 3 = some (.invokevirtual 150, 3, 158, 2, 0, []) := rfl
theorem cd_165_6 : cd 165 6 = some (.ifCond .ne 7, 3, 0, 0, 0, []) := rfl
theorem cd_165_9 : cd 165 9 = some (.iconst 1, 1, 0, 0, 0, []) := rfl
theorem cd_165_10 : cd 165 10 = some (.goto 18, 3, 0, 0, 0, []) := rfl
theorem cd_165_13 : cd 165 13 = some (.iload_n 2, 1, 0, 0, 0, []) := rfl
theorem cd_165_14 : cd 165 14 = some (.iconst 0, 1, 0, 0, 0, []) := rfl
theorem cd_165_15 : cd 165 15 = some (.bipush 6, 2, 0, 0, 0, []) := rfl
theorem cd_165_17 : cd 165 17 = some (.invokestatic 73, 3, 133, 3, 2, []) := rfl
theorem cd_165_20 : cd 165 20 = some (.ifCond .eq 7, 3, 0, 0, 0, []) := rfl
theorem cd_165_23 : cd 165 23 = some (.iconst 0, 1, 0, 0, 0, []) := rfl
theorem cd_165_24 : cd 165 24 = some (.goto 4, 3, 0, 0, 0, []) := rfl
theorem cd_165_27 : cd 165 27 = some (.iconst 2, 1, 0, 0, 0, []) := rfl
theorem cd_165_28 : cd 165 28 = some (.invokevirtual 65, 3, 132, 2, 0, []) := rfl
theorem cd_165_31 : cd 165 31 = some (.ifCond .eq 7, 3, 0, 0, 0, []) := rfl
theorem cd_165_34 : cd 165 34 = some (.iconst 0, 1, 0, 0, 0, []) := rfl
theorem cd_165_35 : cd 165 35 = some (.goto 9, 3, 0, 0, 0, []) := rfl
theorem cd_165_38 : cd 165 38 = some (.aload_n 0, 1, 0, 0, 0, []) := rfl
theorem cd_165_39 : cd 165 39 = some (.iload_n 1, 1, 0, 0, 0, []) := rfl
theorem cd_165_40 : cd 165 40 = some (.iload_n 2, 1, 0, 0, 0, []) := rfl
theorem cd_165_41 : cd 165 41 = some (.invokevirtual 153, 3, 164, 3, 0, []) := rfl
theorem cd_165_44 : cd 165 44 = some (.ireturn, 1, 0, 0, 0, []) := rfl
theorem cd_166_0 : cd 166 0 = some (.aload_n 0, 1, 0, 0, 0, []) := rfl
theorem cd_166_1 : cd 166 1 = some (.iload_n 1, 1, 0, 0, 0, []) := rfl
theorem cd_166_2 : cd 166 2 = some (.invokevirtual 150, 3, 158, 2, 0, []) := rfl
theorem cd_166_5 : cd 166 5 = some (.ifCond .eq 11, 3, 0, 0, 0, []) := rfl
theorem cd_166_8 : cd 166 8 = some (.iload_n 2, 1, 0, 0, 0, []) := rfl
theorem cd_166_9 : cd 166 9 = some (.ifCond .lt 7, 3, 0, 0, 0, []) := rfl
theorem cd_166_12 : cd 166 12 = some (.iconst 1, 1, 0, 0, 0, []) := rfl
theorem cd_166_13 : cd 166 13 = some (.goto 4, 3, 0, 0, 0, []) := rfl
theorem cd_166_16 : cd 166 16 = some (.iconst 0, 1, 0, 0, 0, []) := rfl
theorem cd_166_17 : cd 166 17 = some (.istore_n 3, 1, 0, 0, 0, []) := rfl
theorem cd_166_18 : cd 166 18 = some (.iload_n 3, 1, 0, 0, 0, []) := rfl
theorem cd_166_19 : cd 166 19 = some (.ifCond .eq 22, 3, 0, 0, 0, []) := rfl
theorem cd_166_22 : cd 166 22 = some (.aload_n 0, 1, 0, 0, 0, []) := rfl
theorem cd_166_23 : cd 166 23 = some (.iload_n 1, 1, 0, 0, 0, []) := rfl
theorem cd_166_24 : cd 166 24 = some (.invokevirtual 137, 3, 160, 2, 0, []) := rfl
theorem cd_166_27 : cd 166 27 = some (.iload_n 2, 1, 0, 0, 0, []) := rfl
theorem cd_166_28 : cd 166 28 = some (.aload_n 0, 1, 0, 0, 0, []) := rfl
theorem cd_166_29 : cd 166 29 = some (.getfield 121, 3, 9, 9, 0, []) := rfl
theorem cd_166_32 : cd 166 32 = some (.if_icmp .ge 7, 3, 0, 0, 0, []) := rfl
theorem cd_166_35 : cd 166 35 = some (.iconst 1, 1, 0, 0, 0, []) := rfl
theorem cd_166_36 : cd 166 36 = some (.goto 4, 3, 0, 0, 0, []) := rfl
theorem cd_166_39 : cd 166 39 = some (.iconst 0, 1, 0, 0, 0, []) := rfl
theorem cd_166_40 : cd 166 40 = some (.istore_n 3, 1, 0, 0, 0, []) := rfl
theorem cd_166_41 : cd 166 41 = some (.aload_n 0, 1, 0, 0, 0, []) := rfl
theorem cd_166_42 : cd 166 42 = some (.iload_n 3, 1, 0, 0, 0, []) := rfl
theorem cd_166_43 : cd 166 43 = some (.ifCond .eq 7, 3, 0, 0, 0, []) := rfl
theorem cd_166_46 : cd 166 46 = some (.iconst 0, 1, 0, 0, 0, []) := rfl
theorem cd_166_47 : cd 166 47 = some (.goto 4, 3, 0, 0, 0, []) := rfl
theorem cd_166_50 : cd 166 50 = some (.iconst 1, 1, 0, 0, 0, []) := rfl
theorem cd_166_51 : cd 166 51 = some (.invokevirtual 65, 3, 132, 2, 0, []) := rfl
theorem cd_166_54 : cd 166 54 = some (.ifCond .eq 7, 3, 0, 0, 0, []) := rfl
theorem cd_166_57 : cd 166 57 = some (.iconst 0, 1, 0, 0, 0, []) := rfl
theorem cd_166_58 : cd 166 58 = some (.goto 9, 3, 0, 0, 0, []) := rfl
theorem cd_166_61 : cd 166 61 = some (.aload_n 0, 1, 0, 0, 0, []) := rfl
theorem cd_166_62 : cd 166 62 = some (.getfield 22, 3, 9, 7, 0, []) := rfl
theorem cd_166_65 : cd 166 65 = some (.iload_n 2, 1, 0, 0, 0, []) := rfl
theorem cd_166_66 : cd 166 66 = some (.iaload, 1, 0, 0, 0, []) := rfl
theorem cd_166_67 : cd 166 67 = some (.ireturn, 1, 0, 0, 0, []) := rfl
theorem cd_167_0 : cd 167 0 = some (.iconst (-1), 1, 0, 0, 0, []) := rfl
theorem cd_167_1 : cd 167 1 = some (.istore_n 3, 1, 0, 0, 0, []) := rfl
theorem cd_167_2 : cd 167 2 = some (.iconst 0, 1, 0, 0, 0, []) := rfl
theorem cd_167_3 : cd 167 3 = some (.istore 4, 2, 0, 0, 0, []) := rfl
theorem cd_167_5 : cd 167 5 = some (.iconst 0, 1, 0, 0, 0, []) := rfl
theorem cd_167_6 : cd 167 6 = some (.istore 5, 2, 0, 0, 0, []) := rfl
theorem cd_167_8 : cd 167 8 = some (.iload 5, 2, 0, 0, 0, [6]) := rfl
theorem cd_167_10 : cd 167 10 = some (.aload_n 0, 1, 0, 0, 0, []) := rfl
theorem cd_167_11 : cd 167 11 = some (.invokevirtual 86, 3, 138, 1, 0, []) := rfl
theorem cd_167_14 : cd 167 14 = some (.if_icmp .ge 88, 3, 0, 0, 0, []) := rfl
theorem cd_167_17 : cd 167 17 = some (.aload_n 0, 1, 0, 0, 0, []) := rfl
theorem cd_167_18 : cd 167 18 = some (.iload 5, 2, 0, 0, 0, []) := rfl
theorem cd_167_20 : cd 167 20 = some (.invokevirtual 137, 3, 160, 2, 0, []) := rfl
theorem cd_167_23 : cd 167 23 = some (.iconst 0, 1, 0, 0, 0, []) := rfl
theorem cd_167_24 : cd 167 24 = some (.istore 6, 2, 0, 0, 0, []) := rfl
theorem cd_167_26 : cd 167 26 = some (.iload 6, 2, 0, 0, 0, []) := rfl
theorem cd_167_28 : cd 167 28 = some (.aload_n 0, 1, 0, 0, 0, []) := rfl
theorem cd_167_29 : cd 167 29 = some (.getfield 121, 3, 9, 9, 0, []) := rfl
theorem cd_167_32 : cd 167 32 = some (.if_icmp .ge 64, 3, 0, 0, 0, []) := rfl
theorem cd_167_35 : cd 167 35 = some (.aload_n 0, 1, 0, 0, 0, []) := rfl
theorem cd_167_36 : cd 167 36 = some (.iload 5, 2, 0, 0, 0, []) := rfl
theorem cd_167_38 : cd 167 38 = some (.invokevirtual 141, 3, 163, 2, 0, []) := rfl
theorem cd_167_41 : cd 167 41 = some (.ifCond .eq 55, 3, 0, 0, 0, []) := rfl
theorem cd_167_44 : cd 167 44 = some (.aload_n 0, 1, 0, 0, 0, []) := rfl
theorem cd_167_45 : cd 167 45 = some (.getfield 22, 3, 9, 7, 0, []) := rfl
theorem cd_167_48 : cd 167 48 = some (.iload 6, 2, 0, 0, 0, []) := rfl
theorem cd_167_50 : cd 167 50 = some (.iaload, 1, 0, 0, 0, []) := rfl
theorem cd_167_51 : cd 167 51 = some (.iload_n 1, 1, 0, 0, 0, []) := rfl
theorem cd_167_52 : cd 167 52 = some (.if_icmp .ne 38, 3, 0, 0, 0, []) := rfl
theorem cd_167_55 : cd 167 55 = some (.iinc 4 1, 3, 0, 0, 0, []) := rfl
theorem cd_167_58 : cd 167 58 = some (.iload_n 3, 1, 0, 0, 0, []) := rfl
theorem cd_167_59 : cd 167 59 = some (.iconst (-1), 1, 0, 0, 0, []) := rfl
theorem cd_167_60 : cd 167 60 = some (.if_icmp .ne 28, 3, 0, 0, 0, []) := rfl
theorem cd_167_63 : cd 167 63 = some (.aload_n 0, 1, 0, 0, 0, []) := rfl
theorem cd_167_64 : cd 167 64 = some (.getfield 25, 3, 9, 8, 0, []) := rfl
theorem cd_167_67 : cd 167 67 = some (.iload 6, 2, 0, 0, 0, []) := rfl
theorem cd_167_69 : cd 167 69 = some (.baload, 1, 0, 0, 0, []) := rfl
theorem cd_167_70 : cd 167 70 = some (.iload_n 2, 1, 0, 0, 0, []) := rfl
theorem cd_167_71 : cd 167 71 = some (.iconst 1, 1, 0, 0, 0, []) := rfl
theorem cd_167_72 : cd 167 72 = some (.if_icmp .ne 7, 3, 0, 0, 0, []) := rfl
theorem cd_167_75 : cd 167 75 = some (.iconst 1, 1, 0, 0, 0, []) := rfl
theorem cd_167_76 : cd 167 76 = some (.goto 4, 3, 0, 0, 0, []) := rfl
theorem cd_167_79 : cd 167 79 = some (.iconst 0, 1, 0, 0, 0, []) := rfl
theorem cd_167_80 : cd 167 80 = some (.if_icmp .ne 8, 3, 0, 0, 0, []) := rfl
theorem cd_167_83 : cd 167 83 = some (.iload 5, 2, 0, 0, 0, []) := rfl
theorem cd_167_85 : cd 167 85 = some (.goto 4, 3, 0, 0, 0, []) := rfl
theorem cd_167_88 : cd 167 88 = some (.iload_n 3, 1, 0, 0, 0, []) := rfl
theorem cd_167_89 : cd 167 89 = some (.istore_n 3, 1, 0, 0, 0, []) := rfl
theorem cd_167_90 : cd 167 90 = some (.iinc 6 1, 3, 0, 0, 0, []) := rfl
theorem cd_167_93 : cd 167 93 = some (.goto (-67), 3, 0, 0, 0, []) := rfl
theorem cd_167_96 : cd 167 96 = some (.iinc 5 1, 3, 0, 0, 0, []) := rfl
theorem cd_167_99 : cd 167 99 = some (.goto (-91), 3, 0, 0, 0, []) := rfl
theorem cd_167_102 : cd 167 102 = some (.iload_n 2, 1, 0, 0, 0, []) := rfl
theorem cd_167_103 : cd 167 103 = some (.iconst 3, 1, 0, 0, 0, []) := rfl
theorem cd_167_104 : cd 167 104 = some (.if_icmp .ne 8, 3, 0, 0, 0, []) := rfl
theorem cd_167_107 : cd 167 107 = some (.iload 4, 2, 0, 0, 0, []) := rfl
theorem cd_167_109 : cd 167 109 = some (.goto 4, 3, 0, 0, 0, []) := rfl
theorem cd_167_112 : cd 167 112 = some (.iload_n 3, 1, 0, 0, 0, []) := rfl
theorem cd_167_113 : cd 167 113 = some (.ireturn, 1, 0, 0, 0, []) := rfl
theorem cd_168_0 : cd 168 0 = some (.aload_n 0, 1, 0, 0, 0, []) := rfl
theorem cd_168_1 : cd 168 1 = some (.iload_n 1, 1, 0, 0, 0, []) := rfl
theorem cd_168_2 : cd 168 2 = some (.invokevirtual 95, 3, 139, 2, 0, []) := rfl
theorem cd_168_5 : cd 168 5 = some (.istore_n 3, 1, 0, 0, 0, []) := rfl
theorem cd_168_6 : cd 168 6 = some (.iload_n 2, 1, 0, 0, 0, []) := rfl
theorem cd_168_7 : cd 168 7 = some (.ifCond .ne 7, 3, 0, 0, 0, []) := rfl
theorem cd_168_10 : cd 168 10 = some (.iload_n 3, 1, 0, 0, 0, []) := rfl
theorem cd_168_11 : cd 168 11 = some (.goto 46, 3, 0, 0, 0, []) := rfl
theorem cd_168_14 : cd 168 14 = some (.iload_n 2, 1, 0, 0, 0, []) := rfl
theorem cd_168_15 : cd 168 15 = some (.iconst 4, 1, 0, 0, 0, []) := rfl
theorem cd_168_16 : cd 168 16 = some (.if_icmp .ge 12, 3, 0, 0, 0, []) := rfl
theorem cd_168_19 : cd 168 19 = some (.aload_n 0, 1, 0, 0, 0, []) := rfl
theorem cd_168_20 : cd 168 20 = some (.iload_n 1, 1, 0, 0, 0, []) := rfl
theorem cd_168_21 : cd 168 21 = some (.iload_n 2, 1, 0, 0, 0, []) := rfl
theorem cd_168_22 : cd 168 22 = some (.invokevirtual 156, 3, 167, 3, 0, []) := rfl
theorem cd_168_25 : cd 168 25 = some (.goto 32, 3, 0, 0, 0, []) := rfl
theorem cd_168_28 : cd 168 28 = some (.iload_n 3, 1, 0, 0, 0, []) := rfl
theorem cd_168_29 : cd 168 29 = some (.invokestatic 134, 3, 143, 1, 2, []) := rfl
theorem cd_168_32 : cd 168 32 = some (.ifCond .ne 7, 3, 0, 0, 0, []) := rfl
theorem cd_168_35 : cd 168 35 = some (.iconst (-1), 1, 0, 0, 0, []) := rfl
theorem cd_168_36 : cd 168 36 = some (.goto 21, 3, 0, 0, 0, []) := rfl
theorem cd_168_39 : cd 168 39 = some (.iload_n 3, 1, 0, 0, 0, []) := rfl
theorem cd_168_40 : cd 168 40 = some (.invokestatic 77, 3, 142, 1, 2, []) := rfl
theorem cd_168_43 : cd 168 43 = some (.ifCond .eq 10, 3, 0, 0, 0, []) := rfl
theorem cd_168_46 : cd 168 46 = some (.iload_n 3, 1, 0, 0, 0, []) := rfl
theorem cd_168_47 : cd 168 47 = some (.bipush 65, 2, 0, 0, 0, []) := rfl
theorem cd_168_49 : cd 168 49 = some (.isub, 1, 0, 0, 0, []) := rfl
theorem cd_168_50 : cd 168 50 = some (.goto 7, 3, 0, 0, 0, []) := rfl
theorem cd_168_53 : cd 168 53 = some (.iload_n 3, 1, 0, 0, 0, []) := rfl
theorem cd_168_54 : cd 168 54 = some (.bipush 97, 2, 0, 0, 0, []) := rfl
theorem cd_168_56 : cd 168 56 = some (.isub, 1, 0, 0, 0, []) := rfl
theorem cd_168_57 : cd 168 57 = some (.ireturn, 1, 0, 0, 0, []) := rfl
theorem cd_169_0 : cd 169 0 = some (.aload_n 0, 1, 0, 0, 0, []) := rfl
theorem cd_169_1 : cd 169 1 = some (.aload_n 0, 1, 0, 0, 0, []) := rfl
theorem cd_169_2 : cd 169 2 = some (.iload_n 1, 1, 0, 0, 0, []) := rfl
theorem cd_169_3 : cd 169 3 = some (.invokevirtual 89, 3, 140, 2, 0, []) := rfl
theorem cd_169_6 : cd 169 6 = some (.ifCond .ne 7, 3, 0, 0, 0, []) := rfl
theorem cd_169_9 : cd 169 9 = some (.iconst 1, 1, 0, 0, 0, []) := rfl
theorem cd_169_10 : cd 169 10 = some (.goto 17, 3, 0, 0, 0, []) := rfl
theorem cd_169_13 : cd 169 13 = some (.iload_n 2, 1, 0, 0, 0, []) := rfl
theorem cd_169_14 : cd 169 14 = some (.iconst 0, 1, 0, 0, 0, []) := rfl
theorem cd_169_15 : cd 169 15 = some (.iconst 4, 1, 0, 0, 0, []) := rfl
theorem cd_169_16 : cd 169 16 = some (.invokestatic 73, 3, 133, 3, 2, []) := rfl
theorem cd_169_19 : cd 169 19 = some (.ifCond .eq 7, 3, 0, 0, 0, []) := rfl
theorem cd_169_22 : cd 169 22 = some (.iconst 0, 1, 0, 0, 0, []) := rfl
theorem cd_169_23 : cd 169 23 = some (.goto 4, 3, 0, 0, 0, []) := rfl
theorem cd_169_26 : cd 169 26 = some (.iconst 2, 1, 0, 0, 0, []) := rfl
theorem cd_169_27 : cd 169 27 = some (.invokevirtual 65, 3, 132, 2, 0, []) := rfl
theorem cd_169_30 : cd 169 30 = some (.ifCond .eq 7, 3, 0, 0, 0, []) := rfl
theorem cd_169_33 : cd 169 33 = some (.iconst 0, 1, 0, 0, 0, []) := rfl
theorem cd_169_34 : cd 169 34 = some (.goto 9, 3, 0, 0, 0, []) := rfl
theorem cd_169_37 : cd 169 37 = some (.aload_n 0, 1, 0, 0, 0, []) := rfl
theorem cd_169_38 : cd 169 38 = some (.iload_n 1, 1, 0, 0, 0, []) := rfl
theorem cd_169_39 : cd 169 39 = some (.iload_n 2, 1, 0, 0, 0, []) := rfl
theorem cd_169_40 : cd 169 40 = some (.invokevirtual 159, 3, 168, 3, 0, []) := rfl
theorem cd_169_43 : cd 169 43 = some (.ireturn, 1, 0, 0, 0, []) := rfl
theorem cd_170_0 : cd 170 0 = some (.iconst 0, 1, 0, 0, 0, []) := rfl
theorem cd_170_1 : cd 170 1 = some (.istore_n 2, 1, 0, 0, 0, []) := rfl
theorem cd_170_2 : cd 170 2 = some (.iconst 0, 1, 0, 0, 0, []) := rfl
theorem cd_170_3 : cd 170 3 = some (.istore_n 3, 1, 0, 0, 0, []) := rfl
theorem cd_170_4 : cd 170 4 = some (.iload_n 3, 1, 0, 0, 0, [4, 5]) := rfl
theorem cd_170_5 : cd 170 5 = some (.aload_n 0, 1, 0, 0, 0, []) := rfl
theorem cd_170_6 : cd 170 6 = some (.invokevirtual 69, 3, 137, 1, 0, []) := rfl
theorem cd_170_9 : cd 170 9 = some (.if_icmp .ge 82, 3, 0, 0, 0, []) := rfl
theorem cd_170_12 : cd 170 12 = some (.aload_n 0, 1, 0, 0, 0, []) := rfl
theorem cd_170_13 : cd 170 13 = some (.iload_n 3, 1, 0, 0, 0, []) := rfl
theorem cd_170_14 : cd 170 14 = some (.invokevirtual 95, 3, 139, 2, 0, []) := rfl
theorem cd_170_17 : cd 170 17 = some (.istore 4, 2, 0, 0, 0, []) := rfl
theorem cd_170_19 : cd 170 19 = some (.iload_n 1, 1, 0, 0, 0, []) := rfl
theorem cd_170_20 : cd 170 20 = some (.iconst 2, 1, 0, 0, 0, []) := rfl
theorem cd_170_21 : cd 170 21 = some (.if_icmp .ne 11, 3, 0, 0, 0, []) := rfl
theorem cd_170_24 : cd 170 24 = some (.iload 4, 2, 0, 0, 0, []) := rfl
theorem cd_170_26 : cd 170 26 = some (.invokestatic 134, 3, 143, 1, 2, []) := rfl
theorem cd_170_29 : cd 170 29 = some (.goto 41, 3, 0, 0, 0, []) := rfl
theorem cd_170_32 : cd 170 32 = some (.iload_n 1, 1, 0, 0, 0, []) := rfl
theorem cd_170_33 : cd 170 33 = some (.iconst 3, 1, 0, 0, 0, []) := rfl
theorem cd_170_34 : cd 170 34 = some (.if_icmp .ne 11, 3, 0, 0, 0, []) := rfl
theorem cd_170_37 : cd 170 37 = some (.iload 4, 2, 0, 0, 0, []) := rfl
theorem cd_170_39 : cd 170 39 = some (.invokestatic 77, 3, 142, 1, 2, []) := rfl
theorem cd_170_42 : cd 170 42 = some (.goto 28, 3, 0, 0, 0, []) := rfl
theorem cd_170_45 : cd 170 45 = some (.iload_n 1, 1, 0, 0, 0, []) := rfl
theorem cd_170_46 : cd 170 46 = some (.iconst 4, 1, 0, 0, 0, []) := rfl
theorem cd_170_47 : cd 170 47 = some (.if_icmp .ne 11, 3, 0, 0, 0, []) := rfl
theorem cd_170_50 : cd 170 50 = some (.iload 4, 2, 0, 0, 0, []) := rfl
theorem cd_170_52 : cd 170 52 = some (.invokestatic 99, 3, 144, 1, 2, []) := rfl
theorem cd_170_55 : cd 170 55 = some (.goto 15, 3, 0, 0, 0, []) := rfl
theorem cd_170_58 : cd 170 58 = some (.iload 4, 2, 0, 0, 0, []) := rfl
theorem cd_170_60 : cd 170 60 = some (.bipush 35, 2, 0, 0, 0, []) := rfl
theorem cd_170_62 : cd 170 62 = some (.if_icmp .ne 7, 3, 0, 0, 0, []) := rfl
theorem cd_170_65 : cd 170 65 = some (.iconst 1, 1, 0, 0, 0, []) := rfl
theorem cd_170_66 : cd 170 66 = some (.goto 4, 3, 0, 0, 0, []) := rfl
theorem cd_170_69 : cd 170 69 = some (.iconst 0, 1, 0, 0, 0, []) := rfl
theorem cd_170_70 : cd 170 70 = some (.istore 5, 2, 0, 0, 0, []) := rfl
theorem cd_170_72 : cd 170 72 = some (.iload_n 2, 1, 0, 0, 0, []) := rfl
theorem cd_170_73 : cd 170 73 = some (.iload 5, 2, 0, 0, 0, []) := rfl
theorem cd_170_75 : cd 170 75 = some (.ifCond .eq 7, 3, 0, 0, 0, []) := rfl
theorem cd_170_78 : cd 170 78 = some (.iconst 1, 1, 0, 0, 0, []) := rfl
theorem cd_170_79 : cd 170 79 = some (.goto 4, 3, 0, 0, 0, []) := rfl
theorem cd_170_82 : cd 170 82 = some (.iconst 0, 1, 0, 0, 0, []) := rfl
theorem cd_170_83 : cd 170 83 = some (.iadd, 1, 0, 0, 0, []) := rfl
theorem cd_170_84 : cd 170 84 = some (.istore_n 2, 1, 0, 0, 0, []) := rfl
theorem cd_170_85 : cd 170 85 = some (.iinc 3 1, 3, 0, 0, 0, []) := rfl
theorem cd_170_88 : cd 170 88 = some (.goto (-84), 3, 0, 0, 0, []) := rfl
theorem cd_170_91 : cd 170 91 = some (.iload_n 2, 1, 0, 0, 0, []) := rfl
theorem cd_170_92 : cd 170 92 = some (.ireturn, 1, 0, 0, 0, []) := rfl
theorem cd_171_0 : cd 171 0 = some (.iconst 0, 1, 0, 0, 0, []) := rfl
theorem cd_171_1 : cd 171 1 = some (.istore_n 2, 1, 0, 0, 0, []) := rfl
theorem cd_171_2 : cd 171 2 = some (.iconst 0, 1, 0, 0, 0, []) := rfl
theorem cd_171_3 : cd 171 3 = some (.istore_n 3, 1, 0, 0, 0, []) := rfl
theorem cd_171_4 : cd 171 4 = some (.iload_n 3, 1, 0, 0, 0, []) := rfl
theorem cd_171_5 : cd 171 5 = some (.aload_n 0, 1, 0, 0, 0, []) := rfl
theorem cd_171_6 : cd 171 6 = some (.invokevirtual 86, 3, 138, 1, 0, []) := rfl
theorem cd_171_9 : cd 171 9 = some (.if_icmp .ge 41, 3, 0, 0, 0, []) := rfl
theorem cd_171_12 : cd 171 12 = some (.aload_n 0, 1, 0, 0, 0, []) := rfl
theorem cd_171_13 : cd 171 13 = some (.iload_n 3, 1, 0, 0, 0, []) := rfl
theorem cd_171_14 : cd 171 14 = some (.invokevirtual 137, 3, 160, 2, 0, []) := rfl
theorem cd_171_17 : cd 171 17 = some (.iload_n 2, 1, 0, 0, 0, []) := rfl
theorem cd_171_18 : cd 171 18 = some (.aload_n 0, 1, 0, 0, 0, []) := rfl
theorem cd_171_19 : cd 171 19 = some (.iload_n 3, 1, 0, 0, 0, []) := rfl
theorem cd_171_20 : cd 171 20 = some (.invokevirtual 141, 3, 163, 2, 0, []) := rfl
theorem cd_171_23 : cd 171 23 = some (.ifCond .eq 18, 3, 0, 0, 0, []) := rfl
theorem cd_171_26 : cd 171 26 = some (.iload_n 1, 1, 0, 0, 0, []) := rfl
theorem cd_171_27 : cd 171 27 = some (.ifCond .eq 10, 3, 0, 0, 0, []) := rfl
theorem cd_171_30 : cd 171 30 = some (.aload_n 0, 1, 0, 0, 0, []) := rfl
theorem cd_171_31 : cd 171 31 = some (.invokevirtual 147, 3, 161, 1, 0, []) := rfl
theorem cd_171_34 : cd 171 34 = some (.ifCond .eq 7, 3, 0, 0, 0, []) := rfl
theorem cd_171_37 : cd 171 37 = some (.iconst 1, 1, 0, 0, 0, []) := rfl
theorem cd_171_38 : cd 171 38 = some (.goto 4, 3, 0, 0, 0, []) := rfl
theorem cd_171_41 : cd 171 41 = some (.iconst 0, 1, 0, 0, 0, []) := rfl
theorem cd_171_42 : cd 171 42 = some (.iadd, 1, 0, 0, 0, []) := rfl
theorem cd_171_43 : cd 171 43 = some (.istore_n 2, 1, 0, 0, 0, []) := rfl
theorem cd_171_44 : cd 171 44 = some (.iinc 3 1, 3, 0, 0, 0, []) := rfl
theorem cd_171_47 : cd 171 47 = some (.goto (-43), 3, 0, 0, 0, []) := rfl
theorem cd_171_50 : cd 171 50 = some (.iload_n 2, 1, 0, 0, 0, []) := rfl
theorem cd_171_51 : cd 171 51 = some (.ireturn, 1, 0, 0, 0, []) := rfl
theorem cd_172_0 : cd 172 0 = some (.iload_n 1, 1, 0, 0, 0, []) := rfl
theorem cd_172_1 : cd 172 1 = some (.tableswitch 81 0 8 #[51, 51, 58, 58, 58, 58, 64, 69, 75], 51, 0, 0, 0, []) := rfl
theorem cd_172_52 : cd 172 52 = some (.aload_n 0, 1, 0, 0, 0, []) := rfl
theorem cd_172_53 : cd 172 53 = some (.getfield 7, 3, 9, 0, 0, []) := rfl
theorem cd_172_56 : cd 172 56 = some (.iload_n 1, 1, 0, 0, 0, []) := rfl
theorem cd_172_57 : cd 172 57 = some (.iaload, 1, 0, 0, 0, []) := rfl
theorem cd_172_58 : cd 172 58 = some (.ireturn, 1, 0, 0, 0, []) := rfl
theorem cd_172_59 : cd 172 59 = some (.aload_n 0, 1, 0, 0, 0, []) := rfl
theorem cd_172_60 : cd 172 60 = some (.iload_n 1, 1, 0, 0, 0, []) := rfl
theorem cd_172_61 : cd 172 61 = some (.invokevirtual 162, 3, 170, 2, 0, []) := rfl
theorem cd_172_64 : cd 172 64 = some (.ireturn, 1, 0, 0, 0, []) := rfl
theorem cd_172_65 : cd 172 65 = some (.aload_n 0, 1, 0, 0, 0, []) := rfl
theorem cd_172_66 : cd 172 66 = some (.invokevirtual 86, 3, 138, 1, 0, []) := rfl
theorem cd_172_69 : cd 172 69 = some (.ireturn, 1, 0, 0, 0, []) := rfl
theorem cd_172_70 : cd 172 70 = some (.aload_n 0, 1, 0, 0, 0, []) := rfl
theorem cd_172_71 : cd 172 71 = some (.iconst 0, 1, 0, 0, 0, []) := rfl
theorem cd_172_72 : cd 172 72 = some (.invokevirtual 165, 3, 171, 2, 0, []) := rfl
theorem cd_172_75 : cd 172 75 = some (.ireturn, 1, 0, 0, 0, []) := rfl
theorem cd_172_76 : cd 172 76 = some (.aload_n 0, 1, 0, 0, 0, []) := rfl
theorem cd_172_77 : cd 172 77 = some (.iconst 1, 1, 0, 0, 0, []) := rfl
theorem cd_172_78 : cd 172 78 = some (.invokevirtual 165, 3, 171, 2, 0, []) := rfl
theorem cd_172_81 : cd 172 81 = some (.ireturn, 1, 0, 0, 0, []) := rfl
theorem cd_172_82 : cd 172 82 = some (.aload_n 0, 1, 0, 0, 0, []) := rfl
theorem cd_172_83 : cd 172 83 = some (.getfield 7, 3, 9, 0, 0, []) := rfl
theorem cd_172_86 : cd 172 86 = some (.bipush 51, 2, 0, 0, 0, []) := rfl
theorem cd_172_88 : cd 172 88 = some (.iaload, 1, 0, 0, 0, []) := rfl
theorem cd_172_89 : cd 172 89 = some (.ireturn, 1, 0, 0, 0, []) := rfl
theorem cd_173_0 : cd 173 0 = some (.aload_n 0, 1, 0, 0, 0, []) := rfl
theorem cd_173_1 : cd 173 1 = some (.iload_n 1, 1, 0, 0, 0, []) := rfl
theorem cd_173_2 : cd 173 2 = some (.iconst 0, 1, 0, 0, 0, []) := rfl
theorem cd_173_3 : cd 173 3 = some (.bipush 9, 2, 0, 0, 0, []) := rfl
theorem cd_173_5 : cd 173 5 = some (.invokestatic 73, 3, 133, 3, 2, []) := rfl
theorem cd_173_8 : cd 173 8 = some (.ifCond .eq 7, 3, 0, 0, 0, []) := rfl
theorem cd_173_11 : cd 173 11 = some (.iconst 0, 1, 0, 0, 0, []) := rfl
theorem cd_173_12 : cd 173 12 = some (.goto 4, 3, 0, 0, 0, []) := rfl
theorem cd_173_15 : cd 173 15 = some (.iconst 1, 1, 0, 0, 0, []) := rfl
theorem cd_173_16 : cd 173 16 = some (.invokevirtual 65, 3, 132, 2, 0, []) := rfl
theorem cd_173_19 : cd 173 19 = some (.ifCond .eq 7, 3, 0, 0, 0, []) := rfl
theorem cd_173_22 : cd 173 22 = some (.iconst 0, 1, 0, 0, 0, []) := rfl
theorem cd_173_23 : cd 173 23 = some (.goto 8, 3, 0, 0, 0, []) := rfl
theorem cd_173_26 : cd 173 26 = some (.aload_n 0, 1, 0, 0, 0, []) := rfl
theorem cd_173_27 : cd 173 27 = some (.iload_n 1, 1, 0, 0, 0, []) := rfl
theorem cd_173_28 : cd 173 28 = some (.invokevirtual 169, 3, 172, 2, 0, []) := rfl
theorem cd_173_31 : cd 173 31 = some (.ireturn, 1, 0, 0, 0, []) := rfl
theorem cd_174_0 : cd 174 0 = some (.aload_n 0, 1, 0, 0, 0, []) := rfl
theorem cd_174_1 : cd 174 1 = some (.getfield 172, 3, 9, 14, 0, []) := rfl
theorem cd_174_4 : cd 174 4 = some (.ifCond .eq 30, 3, 0, 0, 0, []) := rfl
theorem cd_174_7 : cd 174 7 = some (.aload_n 0, 1, 0, 0, 0, []) := rfl
theorem cd_174_8 : cd 174 8 = some (.getfield 176, 3, 9, 13, 0, []) := rfl
theorem cd_174_11 : cd 174 11 = some (.ifCond .le 23, 3, 0, 0, 0, []) := rfl
theorem cd_174_14 : cd 174 14 = some (.aload_n 0, 1, 0, 0, 0, []) := rfl
theorem cd_174_15 : cd 174 15 = some (.getfield 29, 3, 9, 12, 0, []) := rfl
theorem cd_174_18 : cd 174 18 = some (.aload_n 0, 1, 0, 0, 0, []) := rfl
theorem cd_174_19 : cd 174 19 = some (.getfield 176, 3, 9, 13, 0, []) := rfl
theorem cd_174_22 : cd 174 22 = some (.iconst (-1), 1, 0, 0, 0, []) := rfl
theorem cd_174_23 : cd 174 23 = some (.iastore, 1, 0, 0, 0, []) := rfl
theorem cd_174_24 : cd 174 24 = some (.aload_n 0, 1, 0, 0, 0, []) := rfl
theorem cd_174_25 : cd 174 25 = some (.dup, 1, 0, 0, 0, []) := rfl
theorem cd_174_26 : cd 174 26 = some (.getfield 176, 3, 9, 13, 0, []) := rfl
theorem cd_174_29 : cd 174 29 = some (.iconst 1, 1, 0, 0, 0, []) := rfl
theorem cd_174_30 : cd 174 30 = some (.iadd, 1, 0, 0, 0, []) := rfl
theorem cd_174_31 : cd 174 31 = some (.putfield 176, 3, 9, 13, 0, []) := rfl
theorem cd_174_34 : cd 174 34 = some (.aload_n 0, 1, 0, 0, 0, []) := rfl
theorem cd_174_35 : cd 174 35 = some (.iconst 0, 1, 0, 0, 0, []) := rfl
theorem cd_174_36 : cd 174 36 = some (.putfield 172, 3, 9, 14, 0, []) := rfl
theorem cd_174_39 : cd 174 39 = some (.aload_n 0, 1, 0, 0, 0, []) := rfl
theorem cd_174_40 : cd 174 40 = some (.getfield 29, 3, 9, 12, 0, []) := rfl
theorem cd_174_43 : cd 174 43 = some (.aload_n 0, 1, 0, 0, 0, []) := rfl
theorem cd_174_44 : cd 174 44 = some (.getfield 176, 3, 9, 13, 0, []) := rfl
theorem cd_174_47 : cd 174 47 = some (.iload_n 1, 1, 0, 0, 0, []) := rfl
theorem cd_174_48 : cd 174 48 = some (.iastore, 1, 0, 0, 0, []) := rfl
theorem cd_174_49 : cd 174 49 = some (.aload_n 0, 1, 0, 0, 0, []) := rfl
theorem cd_174_50 : cd 174 50 = some (.dup, 1, 0, 0, 0, []) := rfl
theorem cd_174_51 : cd 174 51 = some (.getfield 176, 3, 9, 13, 0, []) := rfl
theorem cd_174_54 : cd 174 54 = some (.iconst 1, 1, 0, 0, 0, []) := rfl
theorem cd_174_55 : cd 174 55 = some (.iadd, 1, 0, 0, 0, []) := rfl
theorem cd_174_56 : cd 174 56 = some (.putfield 176, 3, 9, 13, 0, []) := rfl
theorem cd_174_59 : cd 174 59 = some (.return_, 1, 0, 0, 0, []) := rfl
theorem cd_175_0 : cd 175 0 = some (.aload_n 0, 1, 0, 0, 0, []) := rfl
theorem cd_175_1 : cd 175 1 = some (.iload_n 1, 1, 0, 0, 0, []) := rfl
theorem cd_175_2 : cd 175 2 = some (.invokevirtual 137, 3, 160, 2, 0, []) := rfl
theorem cd_175_5 : cd 175 5 = some (.aload_n 0, 1, 0, 0, 0, []) := rfl
theorem cd_175_6 : cd 175 6 = some (.iconst 0, 1, 0, 0, 0, []) := rfl
theorem cd_175_7 : cd 175 7 = some (.putfield 176, 3, 9, 13, 0, []) := rfl
theorem cd_175_10 : cd 175 10 = some (.aload_n 0, 1, 0, 0, 0, []) := rfl
theorem cd_175_11 : cd 175 11 = some (.iconst 0, 1, 0, 0, 0, []) := rfl
theorem cd_175_12 : cd 175 12 = some (.putfield 172, 3, 9, 14, 0, []) := rfl
theorem cd_175_15 : cd 175 15 = some (.iconst 0, 1, 0, 0, 0, []) := rfl
theorem cd_175_16 : cd 175 16 = some (.istore_n 2, 1, 0, 0, 0, []) := rfl
theorem cd_175_17 : cd 175 17 = some (.iload_n 2, 1, 0, 0, 0, [1, 3]) := rfl
theorem cd_175_18 : cd 175 18 = some (.aload_n 0, 1, 0, 0, 0, []) := rfl
theorem cd_175_19 : cd 175 19 = some (.getfield 121, 3, 9, 9, 0, []) := rfl
theorem cd_175_22 : cd 175 22 = some (.if_icmp .ge 88, 3, 0, 0, 0, []) := rfl
theorem cd_175_25 : cd 175 25 = some (.aload_n 0, 1, 0, 0, 0, []) := rfl
theorem cd_175_26 : cd 175 26 = some (.aload_n 0, 1, 0, 0, 0, []) := rfl
theorem cd_175_27 : cd 175 27 = some (.getfield 22, 3, 9, 7, 0, []) := rfl
theorem cd_175_30 : cd 175 30 = some (.iload_n 2, 1, 0, 0, 0, []) := rfl
theorem cd_175_31 : cd 175 31 = some (.iaload, 1, 0, 0, 0, []) := rfl
theorem cd_175_32 : cd 175 32 = some (.invokevirtual 95, 3, 139, 2, 0, []) := rfl
theorem cd_175_35 : cd 175 35 = some (.istore_n 3, 1, 0, 0, 0, []) := rfl
theorem cd_175_36 : cd 175 36 = some (.aload_n 0, 1, 0, 0, 0, []) := rfl
theorem cd_175_37 : cd 175 37 = some (.aload_n 0, 1, 0, 0, 0, []) := rfl
theorem cd_175_38 : cd 175 38 = some (.getfield 172, 3, 9, 14, 0, []) := rfl
theorem cd_175_41 : cd 175 41 = some (.ifCond .ne 9, 3, 0, 0, 0, []) := rfl
theorem cd_175_44 : cd 175 44 = some (.iload_n 3, 1, 0, 0, 0, []) := rfl
theorem cd_175_45 : cd 175 45 = some (.bipush 58, 2, 0, 0, 0, []) := rfl
theorem cd_175_47 : cd 175 47 = some (.if_icmp .ne 7, 3, 0, 0, 0, []) := rfl
theorem cd_175_50 : cd 175 50 = some (.iconst 1, 1, 0, 0, 0, []) := rfl
theorem cd_175_51 : cd 175 51 = some (.goto 4, 3, 0, 0, 0, []) := rfl
theorem cd_175_54 : cd 175 54 = some (.iconst 0, 1, 0, 0, 0, []) := rfl
theorem cd_175_55 : cd 175 55 = some (.putfield 172, 3, 9, 14, 0, []) := rfl
theorem cd_175_58 : cd 175 58 = some (.iload_n 3, 1, 0, 0, 0, []) := rfl
theorem cd_175_59 : cd 175 59 = some (.invokestatic 77, 3, 142, 1, 2, []) := rfl
theorem cd_175_62 : cd 175 62 = some (.ifCond .eq 27, 3, 0, 0, 0, []) := rfl
theorem cd_175_65 : cd 175 65 = some (.aload_n 0, 1, 0, 0, 0, []) := rfl
theorem cd_175_66 : cd 175 66 = some (.iload_n 3, 1, 0, 0, 0, []) := rfl
theorem cd_175_67 : cd 175 67 = some (.bipush 65, 2, 0, 0, 0, []) := rfl
theorem cd_175_69 : cd 175 69 = some (.isub, 1, 0, 0, 0, []) := rfl
theorem cd_175_70 : cd 175 70 = some (.invokevirtual 179, 3, 174, 2, 0, []) := rfl
theorem cd_175_73 : cd 175 73 = some (.aload_n 0, 1, 0, 0, 0, []) := rfl
theorem cd_175_74 : cd 175 74 = some (.iconst 1, 1, 0, 0, 0, []) := rfl
theorem cd_175_75 : cd 175 75 = some (.putfield 172, 3, 9, 14, 0, []) := rfl
theorem cd_175_78 : cd 175 78 = some (.aload_n 0, 1, 0, 0, 0, []) := rfl
theorem cd_175_79 : cd 175 79 = some (.iload_n 3, 1, 0, 0, 0, []) := rfl
theorem cd_175_80 : cd 175 80 = some (.bipush 65, 2, 0, 0, 0, []) := rfl
theorem cd_175_82 : cd 175 82 = some (.isub, 1, 0, 0, 0, []) := rfl
theorem cd_175_83 : cd 175 83 = some (.invokevirtual 179, 3, 174, 2, 0, []) := rfl
theorem cd_175_86 : cd 175 86 = some (.goto 18, 3, 0, 0, 0, []) := rfl
theorem cd_175_89 : cd 175 89 = some (.iload_n 3, 1, 0, 0, 0, []) := rfl
theorem cd_175_90 : cd 175 90 = some (.invokestatic 134, 3, 143, 1, 2, []) := rfl
theorem cd_175_93 : cd 175 93 = some (.ifCond .eq 11, 3, 0, 0, 0, []) := rfl
theorem cd_175_96 : cd 175 96 = some (.aload_n 0, 1, 0, 0, 0, []) := rfl
theorem cd_175_97 : cd 175 97 = some (.iload_n 3, 1, 0, 0, 0, []) := rfl
theorem cd_175_98 : cd 175 98 = some (.bipush 97, 2, 0, 0, 0, []) := rfl
theorem cd_175_100 : cd 175 100 = some (.isub, 1, 0, 0, 0, []) := rfl
theorem cd_175_101 : cd 175 101 = some (.invokevirtual 179, 3, 174, 2, 0, []) := rfl
theorem cd_175_104 : cd 175 104 = some (.iinc 2 1, 3, 0, 0, 0, []) := rfl
theorem cd_175_107 : cd 175 107 = some (.goto (-90), 3, 0, 0, 0, []) := rfl
theorem cd_175_110 : cd 175 110 = some (.return_, 1, 0, 0, 0, []) := rfl
theorem cd_176_0 : cd 176 0 = some (.aload_n 0, 1, 0, 0, 0, []) := rfl
theorem cd_176_1 : cd 176 1 = some (.aload_n 0, 1, 0, 0, 0, []) := rfl
theorem cd_176_2 : cd 176 2 = some (.iload_n 1, 1, 0, 0, 0, []) := rfl
theorem cd_176_3 : cd 176 3 = some (.invokevirtual 150, 3, 158, 2, 0, []) := rfl
theorem cd_176_6 : cd 176 6 = some (.ifCond .eq 7, 3, 0, 0, 0, []) := rfl
theorem cd_176_9 : cd 176 9 = some (.iload_n 2, 1, 0, 0, 0, []) := rfl
theorem cd_176_10 : cd 176 10 = some (.ifCond .ge 7, 3, 0, 0, 0, []) := rfl
theorem cd_176_13 : cd 176 13 = some (.iconst 1, 1, 0, 0, 0, []) := rfl
theorem cd_176_14 : cd 176 14 = some (.goto 4, 3, 0, 0, 0, []) := rfl
theorem cd_176_17 : cd 176 17 = some (.iconst 0, 1, 0, 0, 0, []) := rfl
theorem cd_176_18 : cd 176 18 = some (.invokevirtual 65, 3, 132, 2, 0, []) := rfl
theorem cd_176_21 : cd 176 21 = some (.ifCond .eq 5, 3, 0, 0, 0, []) := rfl
theorem cd_176_24 : cd 176 24 = some (.iconst 0, 1, 0, 0, 0, []) := rfl
theorem cd_176_25 : cd 176 25 = some (.ireturn, 1, 0, 0, 0, []) := rfl
theorem cd_176_26 : cd 176 26 = some (.aload_n 0, 1, 0, 0, 0, []) := rfl
theorem cd_176_27 : cd 176 27 = some (.iload_n 1, 1, 0, 0, 0, []) := rfl
theorem cd_176_28 : cd 176 28 = some (.invokevirtual 182, 3, 175, 2, 0, []) := rfl
theorem cd_176_31 : cd 176 31 = some (.iload_n 2, 1, 0, 0, 0, []) := rfl
theorem cd_176_32 : cd 176 32 = some (.aload_n 0, 1, 0, 0, 0, []) := rfl
theorem cd_176_33 : cd 176 33 = some (.getfield 176, 3, 9, 13, 0, []) := rfl
theorem cd_176_36 : cd 176 36 = some (.if_icmp .lt 7, 3, 0, 0, 0, []) := rfl
theorem cd_176_39 : cd 176 39 = some (.iconst (-1), 1, 0, 0, 0, []) := rfl
theorem cd_176_40 : cd 176 40 = some (.goto 27, 3, 0, 0, 0, []) := rfl
theorem cd_176_43 : cd 176 43 = some (.aload_n 0, 1, 0, 0, 0, []) := rfl
theorem cd_176_44 : cd 176 44 = some (.getfield 29, 3, 9, 12, 0, []) := rfl
theorem cd_176_47 : cd 176 47 = some (.iload_n 2, 1, 0, 0, 0, []) := rfl
theorem cd_176_48 : cd 176 48 = some (.iaload, 1, 0, 0, 0, []) := rfl
theorem cd_176_49 : cd 176 49 = some (.iconst (-1), 1, 0, 0, 0, []) := rfl
theorem cd_176_50 : cd 176 50 = some (.if_icmp .ne 8, 3, 0, 0, 0, []) := rfl
theorem cd_176_53 : cd 176 53 = some (.bipush 32, 2, 0, 0, 0, []) := rfl
theorem cd_176_55 : cd 176 55 = some (.goto 12, 3, 0, 0, 0, []) := rfl
theorem cd_176_58 : cd 176 58 = some (.bipush 97, 2, 0, 0, 0, []) := rfl
theorem cd_176_60 : cd 176 60 = some (.aload_n 0, 1, 0, 0, 0, []) := rfl
theorem cd_176_61 : cd 176 61 = some (.getfield 29, 3, 9, 12, 0, []) := rfl
theorem cd_176_64 : cd 176 64 = some (.iload_n 2, 1, 0, 0, 0, []) := rfl
theorem cd_176_65 : cd 176 65 = some (.iaload, 1, 0, 0, 0, []) := rfl
theorem cd_176_66 : cd 176 66 = some (.iadd, 1, 0, 0, 0, []) := rfl
theorem cd_176_67 : cd 176 67 = some (.ireturn, 1, 0, 0, 0, []) := rfl
theorem cd_177_0 : cd 177 0 = some (.iconst 0, 1, 0, 0, 0, []) := rfl
theorem cd_177_1 : cd 177 1 = some (.istore_n 3, 1, 0, 0, 0, []) := rfl
theorem cd_177_2 : cd 177 2 = some (.iload_n 3, 1, 0, 0, 0, [4, 5]) := rfl
theorem cd_177_3 : cd 177 3 = some (.aload_n 0, 1, 0, 0, 0, []) := rfl
theorem cd_177_4 : cd 177 4 = some (.getfield 7, 3, 9, 0, 0, []) := rfl
theorem cd_177_7 : cd 177 7 = some (.bipush 51, 2, 0, 0, 0, []) := rfl
theorem cd_177_9 : cd 177 9 = some (.iaload, 1, 0, 0, 0, []) := rfl
theorem cd_177_10 : cd 177 10 = some (.if_icmp .ge 97, 3, 0, 0, 0, []) := rfl
theorem cd_177_13 : cd 177 13 = some (.aload_n 0, 1, 0, 0, 0, []) := rfl
theorem cd_177_14 : cd 177 14 = some (.getfield 7, 3, 9, 0, 0, []) := rfl
theorem cd_177_17 : cd 177 17 = some (.bipush 52, 2, 0, 0, 0, []) := rfl
theorem cd_177_19 : cd 177 19 = some (.bipush 9, 2, 0, 0, 0, []) := rfl
theorem cd_177_21 : cd 177 21 = some (.iload_n 3, 1, 0, 0, 0, []) := rfl
theorem cd_177_22 : cd 177 22 = some (.imul, 1, 0, 0, 0, []) := rfl
theorem cd_177_23 : cd 177 23 = some (.iadd, 1, 0, 0, 0, []) := rfl
theorem cd_177_24 : cd 177 24 = some (.iaload, 1, 0, 0, 0, []) := rfl
theorem cd_177_25 : cd 177 25 = some (.iload_n 2, 1, 0, 0, 0, []) := rfl
theorem cd_177_26 : cd 177 26 = some (.iload_n 1, 1, 0, 0, 0, []) := rfl
theorem cd_177_27 : cd 177 27 = some (.isub, 1, 0, 0, 0, []) := rfl
theorem cd_177_28 : cd 177 28 = some (.if_icmp .ne 7, 3, 0, 0, 0, []) := rfl
theorem cd_177_31 : cd 177 31 = some (.iconst 1, 1, 0, 0, 0, []) := rfl
theorem cd_177_32 : cd 177 32 = some (.goto 4, 3, 0, 0, 0, []) := rfl
theorem cd_177_35 : cd 177 35 = some (.iconst 0, 1, 0, 0, 0, []) := rfl
theorem cd_177_36 : cd 177 36 = some (.istore 4, 2, 0, 0, 0, []) := rfl
theorem cd_177_38 : cd 177 38 = some (.iload_n 1, 1, 0, 0, 0, []) := rfl
theorem cd_177_39 : cd 177 39 = some (.istore 5, 2, 0, 0, 0, []) := rfl
theorem cd_177_41 : cd 177 41 = some (.iload 5, 2, 0, 0, 0, []) := rfl
theorem cd_177_43 : cd 177 43 = some (.iload_n 2, 1, 0, 0, 0, []) := rfl
theorem cd_177_44 : cd 177 44 = some (.if_icmp .ge 50, 3, 0, 0, 0, []) := rfl
theorem cd_177_47 : cd 177 47 = some (.iload 4, 2, 0, 0, 0, []) := rfl
theorem cd_177_49 : cd 177 49 = some (.ifCond .eq 45, 3, 0, 0, 0, []) := rfl
theorem cd_177_52 : cd 177 52 = some (.aload_n 0, 1, 0, 0, 0, []) := rfl
theorem cd_177_53 : cd 177 53 = some (.getfield 7, 3, 9, 0, 0, []) := rfl
theorem cd_177_56 : cd 177 56 = some (.bipush 52, 2, 0, 0, 0, []) := rfl
theorem cd_177_58 : cd 177 58 = some (.bipush 9, 2, 0, 0, 0, []) := rfl
theorem cd_177_60 : cd 177 60 = some (.iload_n 3, 1, 0, 0, 0, []) := rfl
theorem cd_177_61 : cd 177 61 = some (.imul, 1, 0, 0, 0, []) := rfl
theorem cd_177_62 : cd 177 62 = some (.iadd, 1, 0, 0, 0, []) := rfl
theorem cd_177_63 : cd 177 63 = some (.iconst 1, 1, 0, 0, 0, []) := rfl
theorem cd_177_64 : cd 177 64 = some (.iadd, 1, 0, 0, 0, []) := rfl
theorem cd_177_65 : cd 177 65 = some (.iload 5, 2, 0, 0, 0, []) := rfl
theorem cd_177_67 : cd 177 67 = some (.iadd, 1, 0, 0, 0, []) := rfl
theorem cd_177_68 : cd 177 68 = some (.iload_n 1, 1, 0, 0, 0, []) := rfl
theorem cd_177_69 : cd 177 69 = some (.isub, 1, 0, 0, 0, []) := rfl
theorem cd_177_70 : cd 177 70 = some (.iaload, 1, 0, 0, 0, []) := rfl
theorem cd_177_71 : cd 177 71 = some (.aload_n 0, 1, 0, 0, 0, []) := rfl
theorem cd_177_72 : cd 177 72 = some (.getfield 29, 3, 9, 12, 0, []) := rfl
theorem cd_177_75 : cd 177 75 = some (.iload 5, 2, 0, 0, 0, []) := rfl
theorem cd_177_77 : cd 177 77 = some (.iaload, 1, 0, 0, 0, []) := rfl
theorem cd_177_78 : cd 177 78 = some (.if_icmp .ne 7, 3, 0, 0, 0, []) := rfl
theorem cd_177_81 : cd 177 81 = some (.iconst 1, 1, 0, 0, 0, []) := rfl
theorem cd_177_82 : cd 177 82 = some (.goto 4, 3, 0, 0, 0, []) := rfl
theorem cd_177_85 : cd 177 85 = some (.iconst 0, 1, 0, 0, 0, []) := rfl
theorem cd_177_86 : cd 177 86 = some (.istore 4, 2, 0, 0, 0, []) := rfl
theorem cd_177_88 : cd 177 88 = some (.iinc 5 1, 3, 0, 0, 0, []) := rfl
theorem cd_177_91 : cd 177 91 = some (.goto (-50), 3, 0, 0, 0, []) := rfl
theorem cd_177_94 : cd 177 94 = some (.iload 4, 2, 0, 0, 0, []) := rfl
theorem cd_177_96 : cd 177 96 = some (.ifCond .eq 5, 3, 0, 0, 0, []) := rfl
theorem cd_177_99 : cd 177 99 = some (.iconst 1, 1, 0, 0, 0, []) := rfl
theorem cd_177_100 : cd 177 100 = some (.ireturn, 1, 0, 0, 0, []) := rfl
theorem cd_177_101 : cd 177 101 = some (.iinc 3 1, 3, 0, 0, 0, []) := rfl
theorem cd_177_104 : cd 177 104 = some (.goto (-102), 3, 0, 0, 0, []) := rfl
theorem cd_177_107 : cd 177 107 = some (.iconst 0, 1, 0, 0, 0, []) := rfl
theorem cd_177_108 : cd 177 108 = some (.ireturn, 1, 0, 0, 0, []) := rfl
theorem cd_178_0 : cd 178 0 = some (.aload_n 0, 1, 0, 0, 0, []) := rfl
theorem cd_178_1 : cd 178 1 = some (.iload_n 1, 1, 0, 0, 0, []) := rfl
theorem cd_178_2 : cd 178 2 = some (.invokevirtual 182, 3, 175, 2, 0, []) := rfl
theorem cd_178_5 : cd 178 5 = some (.iconst 0, 1, 0, 0, 0, []) := rfl
theorem cd_178_6 : cd 178 6 = some (.istore_n 2, 1, 0, 0, 0, []) := rfl
theorem cd_178_7 : cd 178 7 = some (.iconst 0, 1, 0, 0, 0, []) := rfl
theorem cd_178_8 : cd 178 8 = some (.istore_n 3, 1, 0, 0, 0, []) := rfl
theorem cd_178_9 : cd 178 9 = some (.iconst 0, 1, 0, 0, 0, []) := rfl
theorem cd_178_10 : cd 178 10 = some (.istore 4, 2, 0, 0, 0, []) := rfl
theorem cd_178_12 : cd 178 12 = some (.iload 4, 2, 0, 0, 0, [1, 5]) := rfl
theorem cd_178_14 : cd 178 14 = some (.aload_n 0, 1, 0, 0, 0, []) := rfl
theorem cd_178_15 : cd 178 15 = some (.getfield 176, 3, 9, 13, 0, []) := rfl
theorem cd_178_18 : cd 178 18 = some (.if_icmp .ge 64, 3, 0, 0, 0, []) := rfl
theorem cd_178_21 : cd 178 21 = some (.iload 4, 2, 0, 0, 0, []) := rfl
theorem cd_178_23 : cd 178 23 = some (.istore 5, 2, 0, 0, 0, []) := rfl
theorem cd_178_25 : cd 178 25 = some (.iload 5, 2, 0, 0, 0, [1]) := rfl
theorem cd_178_27 : cd 178 27 = some (.aload_n 0, 1, 0, 0, 0, []) := rfl
theorem cd_178_28 : cd 178 28 = some (.getfield 176, 3, 9, 13, 0, []) := rfl
theorem cd_178_31 : cd 178 31 = some (.if_icmp .ge 20, 3, 0, 0, 0, []) := rfl
theorem cd_178_34 : cd 178 34 = some (.aload_n 0, 1, 0, 0, 0, []) := rfl
theorem cd_178_35 : cd 178 35 = some (.getfield 29, 3, 9, 12, 0, []) := rfl
theorem cd_178_38 : cd 178 38 = some (.iload 5, 2, 0, 0, 0, []) := rfl
theorem cd_178_40 : cd 178 40 = some (.iaload, 1, 0, 0, 0, []) := rfl
theorem cd_178_41 : cd 178 41 = some (.iconst (-1), 1, 0, 0, 0, []) := rfl
theorem cd_178_42 : cd 178 42 = some (.if_icmp .eq 9, 3, 0, 0, 0, []) := rfl
theorem cd_178_45 : cd 178 45 = some (.iinc 5 1, 3, 0, 0, 0, []) := rfl
theorem cd_178_48 : cd 178 48 = some (.goto (-23), 3, 0, 0, 0, []) := rfl
theorem cd_178_51 : cd 178 51 = some (.iinc 2 1, 3, 0, 0, 0, []) := rfl
theorem cd_178_54 : cd 178 54 = some (.iload_n 3, 1, 0, 0, 0, []) := rfl
theorem cd_178_55 : cd 178 55 = some (.aload_n 0, 1, 0, 0, 0, []) := rfl
theorem cd_178_56 : cd 178 56 = some (.iload 4, 2, 0, 0, 0, []) := rfl
theorem cd_178_58 : cd 178 58 = some (.iload 5, 2, 0, 0, 0, []) := rfl
theorem cd_178_60 : cd 178 60 = some (.invokevirtual 185, 3, 177, 3, 0, []) := rfl
theorem cd_178_63 : cd 178 63 = some (.ifCond .eq 7, 3, 0, 0, 0, []) := rfl
theorem cd_178_66 : cd 178 66 = some (.iconst 1, 1, 0, 0, 0, []) := rfl
theorem cd_178_67 : cd 178 67 = some (.goto 4, 3, 0, 0, 0, []) := rfl
theorem cd_178_70 : cd 178 70 = some (.iconst 0, 1, 0, 0, 0, []) := rfl
theorem cd_178_71 : cd 178 71 = some (.iadd, 1, 0, 0, 0, []) := rfl
theorem cd_178_72 : cd 178 72 = some (.istore_n 3, 1, 0, 0, 0, []) := rfl
theorem cd_178_73 : cd 178 73 = some (.iload 5, 2, 0, 0, 0, []) := rfl
theorem cd_178_75 : cd 178 75 = some (.iconst 1, 1, 0, 0, 0, []) := rfl
theorem cd_178_76 : cd 178 76 = some (.iadd, 1, 0, 0, 0, []) := rfl
theorem cd_178_77 : cd 178 77 = some (.istore 4, 2, 0, 0, 0, []) := rfl
theorem cd_178_79 : cd 178 79 = some (.goto (-67), 3, 0, 0, 0, []) := rfl
theorem cd_178_82 : cd 178 82 = some (.iload_n 2, 1, 0, 0, 0, []) := rfl
theorem cd_178_83 : cd 178 83 = some (.ifCond .le 12, 3, 0, 0, 0, []) := rfl
theorem cd_178_86 : cd 178 86 = some (.iload_n 3, 1, 0, 0, 0, []) := rfl
theorem cd_178_87 : cd 178 87 = some (.iload_n 2, 1, 0, 0, 0, []) := rfl
theorem cd_178_88 : cd 178 88 = some (.if_icmp .ne 7, 3, 0, 0, 0, []) := rfl
theorem cd_178_91 : cd 178 91 = some (.iload_n 3, 1, 0, 0, 0, []) := rfl
theorem cd_178_92 : cd 178 92 = some (.goto 6, 3, 0, 0, 0, []) := rfl
theorem cd_178_95 : cd 178 95 = some (.iconst (-1), 1, 0, 0, 0, []) := rfl
theorem cd_178_96 : cd 178 96 = some (.iload_n 3, 1, 0, 0, 0, []) := rfl
theorem cd_178_97 : cd 178 97 = some (.isub, 1, 0, 0, 0, []) := rfl
theorem cd_178_98 : cd 178 98 = some (.ireturn, 1, 0, 0, 0, []) := rfl
theorem cd_179_0 : cd 179 0 = some (.aload_n 0, 1, 0, 0, 0, []) := rfl
theorem cd_179_1 : cd 179 1 = some (.aload_n 0, 1, 0, 0, 0, []) := rfl
theorem cd_179_2 : cd 179 2 = some (.iload_n 1, 1, 0, 0, 0, []) := rfl
theorem cd_179_3 : cd 179 3 = some (.invokevirtual 150, 3, 158, 2, 0, []) := rfl
theorem cd_179_6 : cd 179 6 = some (.ifCond .eq 7, 3, 0, 0, 0, []) := rfl
theorem cd_179_9 : cd 179 9 = some (.iconst 0, 1, 0, 0, 0, []) := rfl
theorem cd_179_10 : cd 179 10 = some (.goto 4, 3, 0, 0, 0, []) := rfl
theorem cd_179_13 : cd 179 13 = some (.iconst 1, 1, 0, 0, 0, []) := rfl
theorem cd_179_14 : cd 179 14 = some (.invokevirtual 65, 3, 132, 2, 0, []) := rfl
theorem cd_179_17 : cd 179 17 = some (.ifCond .eq 7, 3, 0, 0, 0, []) := rfl
theorem cd_179_20 : cd 179 20 = some (.iconst 0, 1, 0, 0, 0, []) := rfl
theorem cd_179_21 : cd 179 21 = some (.goto 8, 3, 0, 0, 0, []) := rfl
theorem cd_179_24 : cd 179 24 = some (.aload_n 0, 1, 0, 0, 0, []) := rfl
theorem cd_179_25 : cd 179 25 = some (.iload_n 1, 1, 0, 0, 0, []) := rfl
theorem cd_179_26 : cd 179 26 = some (.invokevirtual 189, 3, 178, 2, 0, []) := rfl
theorem cd_179_29 : cd 179 29 = some (.ireturn, 1, 0, 0, 0, []) := rfl
theorem cd_180_0 : cd 180 0 = some (.aload_n 0, 1, 0, 0, 0, []) := rfl
theorem cd_180_1 : cd 180 1 = some (.iload_n 1, 1, 0, 0, 0, []) := rfl
theorem cd_180_2 : cd 180 2 = some (.invokevirtual 182, 3, 175, 2, 0, []) := rfl
theorem cd_180_5 : cd 180 5 = some (.aload_n 0, 1, 0, 0, 0, []) := rfl
theorem cd_180_6 : cd 180 6 = some (.getfield 127, 3, 9, 10, 0, []) := rfl
theorem cd_180_9 : cd 180 9 = some (.iconst (-1), 1, 0, 0, 0, []) := rfl
theorem cd_180_10 : cd 180 10 = some (.if_icmp .ne 5, 3, 0, 0, 0, []) := rfl
theorem cd_180_13 : cd 180 13 = some (.iconst 0, 1, 0, 0, 0, []) := rfl
theorem cd_180_14 : cd 180 14 = some (.ireturn, 1, 0, 0, 0, []) := rfl
theorem cd_180_15 : cd 180 15 = some (.aload_n 0, 1, 0, 0, 0, []) := rfl
theorem cd_180_16 : cd 180 16 = some (.getfield 176, 3, 9, 13, 0, []) := rfl
theorem cd_180_19 : cd 180 19 = some (.istore_n 2, 1, 0, 0, 0, []) := rfl
theorem cd_180_20 : cd 180 20 = some (.iconst 0, 1, 0, 0, 0, []) := rfl
theorem cd_180_21 : cd 180 21 = some (.istore_n 3, 1, 0, 0, 0, []) := rfl
theorem cd_180_22 : cd 180 22 = some (.iload_n 3, 1, 0, 0, 0, [1, 4]) := rfl
theorem cd_180_23 : cd 180 23 = some (.iload_n 2, 1, 0, 0, 0, []) := rfl
theorem cd_180_24 : cd 180 24 = some (.if_icmp .ge 21, 3, 0, 0, 0, []) := rfl
theorem cd_180_27 : cd 180 27 = some (.aload_n 0, 1, 0, 0, 0, []) := rfl
theorem cd_180_28 : cd 180 28 = some (.getfield 32, 3, 9, 15, 0, []) := rfl
theorem cd_180_31 : cd 180 31 = some (.iload_n 3, 1, 0, 0, 0, []) := rfl
theorem cd_180_32 : cd 180 32 = some (.aload_n 0, 1, 0, 0, 0, []) := rfl
theorem cd_180_33 : cd 180 33 = some (.getfield 29, 3, 9, 12, 0, []) := rfl
theorem cd_180_36 : cd 180 36 = some (.iload_n 3, 1, 0, 0, 0, []) := rfl
theorem cd_180_37 : cd 180 37 = some (.iaload, 1, 0, 0, 0, []) := rfl
theorem cd_180_38 : cd 180 38 = some (.iastore, 1, 0, 0, 0, []) := rfl
theorem cd_180_39 : cd 180 39 = some (.iinc 3 1, 3, 0, 0, 0, []) := rfl
theorem cd_180_42 : cd 180 42 = some (.goto (-20), 3, 0, 0, 0, []) := rfl
theorem cd_180_45 : cd 180 45 = some (.aload_n 0, 1, 0, 0, 0, []) := rfl
theorem cd_180_46 : cd 180 46 = some (.aload_n 0, 1, 0, 0, 0, []) := rfl
theorem cd_180_47 : cd 180 47 = some (.getfield 127, 3, 9, 10, 0, []) := rfl
theorem cd_180_50 : cd 180 50 = some (.invokevirtual 182, 3, 175, 2, 0, []) := rfl
theorem cd_180_53 : cd 180 53 = some (.aload_n 0, 1, 0, 0, 0, []) := rfl
theorem cd_180_54 : cd 180 54 = some (.getfield 176, 3, 9, 13, 0, []) := rfl
theorem cd_180_57 : cd 180 57 = some (.iload_n 2, 1, 0, 0, 0, []) := rfl
theorem cd_180_58 : cd 180 58 = some (.if_icmp .ne 7, 3, 0, 0, 0, []) := rfl
theorem cd_180_61 : cd 180 61 = some (.iconst 1, 1, 0, 0, 0, []) := rfl
theorem cd_180_62 : cd 180 62 = some (.goto 4, 3, 0, 0, 0, []) := rfl
theorem cd_180_65 : cd 180 65 = some (.iconst 0, 1, 0, 0, 0, []) := rfl
theorem cd_180_66 : cd 180 66 = some (.istore_n 3, 1, 0, 0, 0, []) := rfl
theorem cd_180_67 : cd 180 67 = some (.iconst 0, 1, 0, 0, 0, []) := rfl
theorem cd_180_68 : cd 180 68 = some (.istore 4, 2, 0, 0, 0, []) := rfl
theorem cd_180_70 : cd 180 70 = some (.iload 4, 2, 0, 0, 0, [1]) := rfl
theorem cd_180_72 : cd 180 72 = some (.iload_n 2, 1, 0, 0, 0, []) := rfl
theorem cd_180_73 : cd 180 73 = some (.if_icmp .ge 36, 3, 0, 0, 0, []) := rfl
theorem cd_180_76 : cd 180 76 = some (.iload_n 3, 1, 0, 0, 0, []) := rfl
theorem cd_180_77 : cd 180 77 = some (.ifCond .eq 32, 3, 0, 0, 0, []) := rfl
theorem cd_180_80 : cd 180 80 = some (.aload_n 0, 1, 0, 0, 0, []) := rfl
theorem cd_180_81 : cd 180 81 = some (.getfield 32, 3, 9, 15, 0, []) := rfl
theorem cd_180_84 : cd 180 84 = some (.iload 4, 2, 0, 0, 0, []) := rfl
theorem cd_180_86 : cd 180 86 = some (.iaload, 1, 0, 0, 0, []) := rfl
theorem cd_180_87 : cd 180 87 = some (.aload_n 0, 1, 0, 0, 0, []) := rfl
theorem cd_180_88 : cd 180 88 = some (.getfield 29, 3, 9, 12, 0, []) := rfl
theorem cd_180_91 : cd 180 91 = some (.iload 4, 2, 0, 0, 0, []) := rfl
theorem cd_180_93 : cd 180 93 = some (.iaload, 1, 0, 0, 0, []) := rfl
theorem cd_180_94 : cd 180 94 = some (.if_icmp .ne 7, 3, 0, 0, 0, []) := rfl
theorem cd_180_97 : cd 180 97 = some (.iconst 1, 1, 0, 0, 0, []) := rfl
theorem cd_180_98 : cd 180 98 = some (.goto 4, 3, 0, 0, 0, []) := rfl
theorem cd_180_101 : cd 180 101 = some (.iconst 0, 1, 0, 0, 0, []) := rfl
theorem cd_180_102 : cd 180 102 = some (.istore_n 3, 1, 0, 0, 0, []) := rfl
theorem cd_180_103 : cd 180 103 = some (.iinc 4 1, 3, 0, 0, 0, []) := rfl
theorem cd_180_106 : cd 180 106 = some (.goto (-36), 3, 0, 0, 0, []) := rfl
theorem cd_180_109 : cd 180 109 = some (.iload_n 3, 1, 0, 0, 0, []) := rfl
theorem cd_180_110 : cd 180 110 = some (.ireturn, 1, 0, 0, 0, []) := rfl
theorem cd_181_0 : cd 181 0 = some (.aload_n 0, 1, 0, 0, 0, []) := rfl
theorem cd_181_1 : cd 181 1 = some (.aload_n 0, 1, 0, 0, 0, []) := rfl
theorem cd_181_2 : cd 181 2 = some (.iload_n 1, 1, 0, 0, 0, []) := rfl
theorem cd_181_3 : cd 181 3 = some (.invokevirtual 150, 3, 158, 2, 0, []) := rfl
theorem cd_181_6 : cd 181 6 = some (.ifCond .eq 7, 3, 0, 0, 0, []) := rfl
theorem cd_181_9 : cd 181 9 = some (.iconst 0, 1, 0, 0, 0, []) := rfl
theorem cd_181_10 : cd 181 10 = some (.goto 4, 3, 0, 0, 0, []) := rfl
theorem cd_181_13 : cd 181 13 = some (.iconst 1, 1, 0, 0, 0, []) := rfl
theorem cd_181_14 : cd 181 14 = some (.invokevirtual 65, 3, 132, 2, 0, []) := rfl
theorem cd_181_17 : cd 181 17 = some (.ifCond .ne 15, 3, 0, 0, 0, []) := rfl
theorem cd_181_20 : cd 181 20 = some (.aload_n 0, 1, 0, 0, 0, []) := rfl
theorem cd_181_21 : cd 181 21 = some (.iload_n 1, 1, 0, 0, 0, []) := rfl
theorem cd_181_22 : cd 181 22 = some (.invokevirtual 192, 3, 180, 2, 0, []) := rfl
theorem cd_181_25 : cd 181 25 = some (.ifCond .eq 7, 3, 0, 0, 0, []) := rfl
theorem cd_181_28 : cd 181 28 = some (.iconst 1, 1, 0, 0, 0, []) := rfl
theorem cd_181_29 : cd 181 29 = some (.goto 4, 3, 0, 0, 0, []) := rfl
theorem cd_181_32 : cd 181 32 = some (.iconst 0, 1, 0, 0, 0, []) := rfl
theorem cd_181_33 : cd 181 33 = some (.ireturn, 1, 0, 0, 0, []) := rfl
theorem cd_182_0 : cd 182 0 = some (.aload_n 0, 1, 0, 0, 0, []) := rfl
theorem cd_182_1 : cd 182 1 = some (.iconst 0, 1, 0, 0, 0, []) := rfl
theorem cd_182_2 : cd 182 2 = some (.putfield 195, 3, 9, 18, 0, []) := rfl
theorem cd_182_5 : cd 182 5 = some (.iconst 0, 1, 0, 0, 0, []) := rfl
theorem cd_182_6 : cd 182 6 = some (.istore_n 1, 1, 0, 0, 0, []) := rfl
theorem cd_182_7 : cd 182 7 = some (.iload_n 1, 1, 0, 0, 0, [2, 3, 4]) := rfl
theorem cd_182_8 : cd 182 8 = some (.aload_n 0, 1, 0, 0, 0, []) := rfl
theorem cd_182_9 : cd 182 9 = some (.invokevirtual 86, 3, 138, 1, 0, []) := rfl
theorem cd_182_12 : cd 182 12 = some (.if_icmp .ge 118, 3, 0, 0, 0, []) := rfl
theorem cd_182_15 : cd 182 15 = some (.aload_n 0, 1, 0, 0, 0, []) := rfl
theorem cd_182_16 : cd 182 16 = some (.iload_n 1, 1, 0, 0, 0, []) := rfl
theorem cd_182_17 : cd 182 17 = some (.invokevirtual 137, 3, 160, 2, 0, []) := rfl
theorem cd_182_20 : cd 182 20 = some (.lconst 0, 1, 0, 0, 0, []) := rfl
theorem cd_182_21 : cd 182 21 = some (.lstore_n 2, 1, 0, 0, 0, []) := rfl
theorem cd_182_22 : cd 182 22 = some (.iconst 0, 1, 0, 0, 0, []) := rfl
theorem cd_182_23 : cd 182 23 = some (.istore 4, 2, 0, 0, 0, []) := rfl
theorem cd_182_25 : cd 182 25 = some (.iload 4, 2, 0, 0, 0, [3]) := rfl
theorem cd_182_27 : cd 182 27 = some (.aload_n 0, 1, 0, 0, 0, []) := rfl
theorem cd_182_28 : cd 182 28 = some (.getfield 121, 3, 9, 9, 0, []) := rfl
theorem cd_182_31 : cd 182 31 = some (.if_icmp .ge 42, 3, 0, 0, 0, []) := rfl
theorem cd_182_34 : cd 182 34 = some (.lload_n 2, 1, 0, 0, 0, []) := rfl
theorem cd_182_35 : cd 182 35 = some (.aload_n 0, 1, 0, 0, 0, []) := rfl
theorem cd_182_36 : cd 182 36 = some (.aload_n 0, 1, 0, 0, 0, []) := rfl
theorem cd_182_37 : cd 182 37 = some (.getfield 22, 3, 9, 7, 0, []) := rfl
theorem cd_182_40 : cd 182 40 = some (.iload 4, 2, 0, 0, 0, []) := rfl
theorem cd_182_42 : cd 182 42 = some (.iaload, 1, 0, 0, 0, []) := rfl
theorem cd_182_43 : cd 182 43 = some (.invokevirtual 95, 3, 139, 2, 0, []) := rfl
theorem cd_182_46 : cd 182 46 = some (.invokestatic 134, 3, 143, 1, 2, []) := rfl
theorem cd_182_49 : cd 182 49 = some (.ifCond .eq 15, 3, 0, 0, 0, []) := rfl
theorem cd_182_52 : cd 182 52 = some (.lconst 1, 1, 0, 0, 0, []) := rfl
theorem cd_182_53 : cd 182 53 = some (.aload_n 0, 1, 0, 0, 0, []) := rfl
theorem cd_182_54 : cd 182 54 = some (.getfield 22, 3, 9, 7, 0, []) := rfl
theorem cd_182_57 : cd 182 57 = some (.iload 4, 2, 0, 0, 0, []) := rfl
theorem cd_182_59 : cd 182 59 = some (.iaload, 1, 0, 0, 0, []) := rfl
theorem cd_182_60 : cd 182 60 = some (.lshl, 1, 0, 0, 0, []) := rfl
theorem cd_182_61 : cd 182 61 = some (.goto 4, 3, 0, 0, 0, []) := rfl
theorem cd_182_64 : cd 182 64 = some (.lconst 0, 1, 0, 0, 0, []) := rfl
theorem cd_182_65 : cd 182 65 = some (.lor, 1, 0, 0, 0, []) := rfl
theorem cd_182_66 : cd 182 66 = some (.lstore_n 2, 1, 0, 0, 0, []) := rfl
theorem cd_182_67 : cd 182 67 = some (.iinc 4 1, 3, 0, 0, 0, []) := rfl
theorem cd_182_70 : cd 182 70 = some (.goto (-45), 3, 0, 0, 0, []) := rfl
theorem cd_182_73 : cd 182 73 = some (.aload_n 0, 1, 0, 0, 0, []) := rfl
theorem cd_182_74 : cd 182 74 = some (.iload_n 1, 1, 0, 0, 0, []) := rfl
theorem cd_182_75 : cd 182 75 = some (.invokevirtual 141, 3, 163, 2, 0, []) := rfl
theorem cd_182_78 : cd 182 78 = some (.ifCond .eq 46, 3, 0, 0, 0, []) := rfl
theorem cd_182_81 : cd 182 81 = some (.lload_n 2, 1, 0, 0, 0, []) := rfl
theorem cd_182_82 : cd 182 82 = some (.lconst 0, 1, 0, 0, 0, []) := rfl
theorem cd_182_83 : cd 182 83 = some (.lcmp, 1, 0, 0, 0, []) := rfl
theorem cd_182_84 : cd 182 84 = some (.ifCond .eq 40, 3, 0, 0, 0, []) := rfl
theorem cd_182_87 : cd 182 87 = some (.aload_n 0, 1, 0, 0, 0, []) := rfl
theorem cd_182_88 : cd 182 88 = some (.invokevirtual 147, 3, 161, 1, 0, []) := rfl
theorem cd_182_91 : cd 182 91 = some (.ifCond .ne 33, 3, 0, 0, 0, []) := rfl
theorem cd_182_94 : cd 182 94 = some (.aload_n 0, 1, 0, 0, 0, []) := rfl
theorem cd_182_95 : cd 182 95 = some (.getfield 35, 3, 9, 16, 0, []) := rfl
theorem cd_182_98 : cd 182 98 = some (.aload_n 0, 1, 0, 0, 0, []) := rfl
theorem cd_182_99 : cd 182 99 = some (.getfield 195, 3, 9, 18, 0, []) := rfl
theorem cd_182_102 : cd 182 102 = some (.iload_n 1, 1, 0, 0, 0, []) := rfl
theorem cd_182_103 : cd 182 103 = some (.iastore, 1, 0, 0, 0, []) := rfl
theorem cd_182_104 : cd 182 104 = some (.aload_n 0, 1, 0, 0, 0, []) := rfl
theorem cd_182_105 : cd 182 105 = some (.getfield 38, 3, 9, 17, 0, []) := rfl
theorem cd_182_108 : cd 182 108 = some (.aload_n 0, 1, 0, 0, 0, []) := rfl
theorem cd_182_109 : cd 182 109 = some (.getfield 195, 3, 9, 18, 0, []) := rfl
theorem cd_182_112 : cd 182 112 = some (.lload_n 2, 1, 0, 0, 0, []) := rfl
theorem cd_182_113 : cd 182 113 = some (.lastore, 1, 0, 0, 0, []) := rfl
theorem cd_182_114 : cd 182 114 = some (.aload_n 0, 1, 0, 0, 0, []) := rfl
theorem cd_182_115 : cd 182 115 = some (.dup, 1, 0, 0, 0, []) := rfl
theorem cd_182_116 : cd 182 116 = some (.getfield 195, 3, 9, 18, 0, []) := rfl
theorem cd_182_119 : cd 182 119 = some (.iconst 1, 1, 0, 0, 0, []) := rfl
theorem cd_182_120 : cd 182 120 = some (.iadd, 1, 0, 0, 0, []) := rfl
theorem cd_182_121 : cd 182 121 = some (.putfield 195, 3, 9, 18, 0, []) := rfl
theorem cd_182_124 : cd 182 124 = some (.iinc 1 1, 3, 0, 0, 0, []) := rfl
theorem cd_182_127 : cd 182 127 = some (.goto (-120), 3, 0, 0, 0, []) := rfl
theorem cd_182_130 : cd 182 130 = some (.aload_n 0, 1, 0, 0, 0, []) := rfl
theorem cd_182_131 : cd 182 131 = some (.lconst 0, 1, 0, 0, 0, []) := rfl
theorem cd_182_132 : cd 182 132 = some (.putfield 198, 3, 9, 29, 0, []) := rfl
theorem cd_182_135 : cd 182 135 = some (.iconst 0, 1, 0, 0, 0, []) := rfl
theorem cd_182_136 : cd 182 136 = some (.istore_n 1, 1, 0, 0, 0, []) := rfl
theorem cd_182_137 : cd 182 137 = some (.iload_n 1, 1, 0, 0, 0, [2, 3, 4]) := rfl
theorem cd_182_138 : cd 182 138 = some (.aload_n 0, 1, 0, 0, 0, []) := rfl
theorem cd_182_139 : cd 182 139 = some (.invokevirtual 69, 3, 137, 1, 0, []) := rfl
theorem cd_182_142 : cd 182 142 = some (.if_icmp .ge 36, 3, 0, 0, 0, []) := rfl
theorem cd_182_145 : cd 182 145 = some (.aload_n 0, 1, 0, 0, 0, []) := rfl
theorem cd_182_146 : cd 182 146 = some (.dup, 1, 0, 0, 0, []) := rfl
theorem cd_182_147 : cd 182 147 = some (.getfield 198, 3, 9, 29, 0, []) := rfl
theorem cd_182_150 : cd 182 150 = some (.aload_n 0, 1, 0, 0, 0, []) := rfl
theorem cd_182_151 : cd 182 151 = some (.iload_n 1, 1, 0, 0, 0, []) := rfl
theorem cd_182_152 : cd 182 152 = some (.invokevirtual 95, 3, 139, 2, 0, []) := rfl
theorem cd_182_155 : cd 182 155 = some (.invokestatic 134, 3, 143, 1, 2, []) := rfl
theorem cd_182_158 : cd 182 158 = some (.ifCond .eq 9, 3, 0, 0, 0, []) := rfl
theorem cd_182_161 : cd 182 161 = some (.lconst 1, 1, 0, 0, 0, []) := rfl
theorem cd_182_162 : cd 182 162 = some (.iload_n 1, 1, 0, 0, 0, []) := rfl
theorem cd_182_163 : cd 182 163 = some (.lshl, 1, 0, 0, 0, []) := rfl
theorem cd_182_164 : cd 182 164 = some (.goto 4, 3, 0, 0, 0, []) := rfl
theorem cd_182_167 : cd 182 167 = some (.lconst 0, 1, 0, 0, 0, []) := rfl
theorem cd_182_168 : cd 182 168 = some (.lor, 1, 0, 0, 0, []) := rfl
theorem cd_182_169 : cd 182 169 = some (.putfield 198, 3, 9, 29, 0, []) := rfl
theorem cd_182_172 : cd 182 172 = some (.iinc 1 1, 3, 0, 0, 0, []) := rfl
theorem cd_182_175 : cd 182 175 = some (.goto (-38), 3, 0, 0, 0, []) := rfl
theorem cd_182_178 : cd 182 178 = some (.return_, 1, 0, 0, 0, []) := rfl
theorem cd_183_0 : cd 183 0 = some (.aload_n 0, 1, 0, 0, 0, []) := rfl
theorem cd_183_1 : cd 183 1 = some (.dup, 1, 0, 0, 0, []) := rfl
theorem cd_183_2 : cd 183 2 = some (.getfield 202, 3, 9, 25, 0, []) := rfl
theorem cd_183_5 : cd 183 5 = some (.iconst 1, 1, 0, 0, 0, []) := rfl
theorem cd_183_6 : cd 183 6 = some (.iadd, 1, 0, 0, 0, []) := rfl
theorem cd_183_7 : cd 183 7 = some (.putfield 202, 3, 9, 25, 0, []) := rfl
theorem cd_183_10 : cd 183 10 = some (.aload_n 0, 1, 0, 0, 0, []) := rfl
theorem cd_183_11 : cd 183 11 = some (.getfield 202, 3, 9, 25, 0, []) := rfl
theorem cd_183_14 : cd 183 14 = some (.iconst 1, 1, 0, 0, 0, []) := rfl
theorem cd_183_15 : cd 183 15 = some (.if_icmp .ne 44, 3, 0, 0, 0, []) := rfl
theorem cd_183_18 : cd 183 18 = some (.aload_n 0, 1, 0, 0, 0, []) := rfl
theorem cd_183_19 : cd 183 19 = some (.aload_n 0, 1, 0, 0, 0, []) := rfl
theorem cd_183_20 : cd 183 20 = some (.getfield 205, 3, 9, 22, 0, []) := rfl
theorem cd_183_23 : cd 183 23 = some (.putfield 208, 3, 9, 27, 0, []) := rfl
theorem cd_183_26 : cd 183 26 = some (.iconst 0, 1, 0, 0, 0, []) := rfl
theorem cd_183_27 : cd 183 27 = some (.istore_n 1, 1, 0, 0, 0, []) := rfl
theorem cd_183_28 : cd 183 28 = some (.iload_n 1, 1, 0, 0, 0, []) := rfl
theorem cd_183_29 : cd 183 29 = some (.aload_n 0, 1, 0, 0, 0, []) := rfl
theorem cd_183_30 : cd 183 30 = some (.getfield 205, 3, 9, 22, 0, []) := rfl
theorem cd_183_33 : cd 183 33 = some (.if_icmp .ge 26, 3, 0, 0, 0, []) := rfl
theorem cd_183_36 : cd 183 36 = some (.aload_n 0, 1, 0, 0, 0, []) := rfl
theorem cd_183_37 : cd 183 37 = some (.getfield 51, 3, 9, 26, 0, []) := rfl
theorem cd_183_40 : cd 183 40 = some (.iload_n 1, 1, 0, 0, 0, []) := rfl
theorem cd_183_41 : cd 183 41 = some (.aload_n 0, 1, 0, 0, 0, []) := rfl
theorem cd_183_42 : cd 183 42 = some (.getfield 35, 3, 9, 16, 0, []) := rfl
theorem cd_183_45 : cd 183 45 = some (.aload_n 0, 1, 0, 0, 0, []) := rfl
theorem cd_183_46 : cd 183 46 = some (.getfield 48, 3, 9, 21, 0, []) := rfl
theorem cd_183_49 : cd 183 49 = some (.iload_n 1, 1, 0, 0, 0, []) := rfl
theorem cd_183_50 : cd 183 50 = some (.iaload, 1, 0, 0, 0, []) := rfl
theorem cd_183_51 : cd 183 51 = some (.iaload, 1, 0, 0, 0, []) := rfl
theorem cd_183_52 : cd 183 52 = some (.iastore, 1, 0, 0, 0, []) := rfl
theorem cd_183_53 : cd 183 53 = some (.iinc 1 1, 3, 0, 0, 0, []) := rfl
theorem cd_183_56 : cd 183 56 = some (.goto (-28), 3, 0, 0, 0, []) := rfl
theorem cd_183_59 : cd 183 59 = some (.aload_n 0, 1, 0, 0, 0, []) := rfl
theorem cd_183_60 : cd 183 60 = some (.aload_n 0, 1, 0, 0, 0, []) := rfl
theorem cd_183_61 : cd 183 61 = some (.getfield 202, 3, 9, 25, 0, []) := rfl
theorem cd_183_64 : cd 183 64 = some (.iconst 1, 1, 0, 0, 0, []) := rfl
theorem cd_183_65 : cd 183 65 = some (.if_icmp .eq 14, 3, 0, 0, 0, []) := rfl
theorem cd_183_68 : cd 183 68 = some (.aload_n 0, 1, 0, 0, 0, []) := rfl
theorem cd_183_69 : cd 183 69 = some (.getfield 205, 3, 9, 22, 0, []) := rfl
theorem cd_183_72 : cd 183 72 = some (.aload_n 0, 1, 0, 0, 0, []) := rfl
theorem cd_183_73 : cd 183 73 = some (.getfield 211, 3, 9, 28, 0, []) := rfl
theorem cd_183_76 : cd 183 76 = some (.if_icmp .ge 10, 3, 0, 0, 0, []) := rfl
theorem cd_183_79 : cd 183 79 = some (.aload_n 0, 1, 0, 0, 0, []) := rfl
theorem cd_183_80 : cd 183 80 = some (.getfield 205, 3, 9, 22, 0, []) := rfl
theorem cd_183_83 : cd 183 83 = some (.goto 7, 3, 0, 0, 0, []) := rfl
theorem cd_183_86 : cd 183 86 = some (.aload_n 0, 1, 0, 0, 0, []) := rfl
theorem cd_183_87 : cd 183 87 = some (.getfield 211, 3, 9, 28, 0, []) := rfl
theorem cd_183_90 : cd 183 90 = some (.putfield 211, 3, 9, 28, 0, []) := rfl
theorem cd_183_93 : cd 183 93 = some (.return_, 1, 0, 0, 0, []) := rfl
theorem cd_184_0 : cd 184 0 = some (.aload_n 0, 1, 0, 0, 0, []) := rfl
theorem cd_184_1 : cd 184 1 = some (.aload_n 0, 1, 0, 0, 0, []) := rfl
theorem cd_184_2 : cd 184 2 = some (.getfield 214, 3, 9, 23, 0, []) := rfl
theorem cd_184_5 : cd 184 5 = some (.sipush 2000, 3, 0, 0, 0, []) := rfl
theorem cd_184_8 : cd 184 8 = some (.if_icmp .ne 7, 3, 0, 0, 0, []) := rfl
theorem cd_184_11 : cd 184 11 = some (.iconst 1, 1, 0, 0, 0, []) := rfl
theorem cd_184_12 : cd 184 12 = some (.goto 4, 3, 0, 0, 0, []) := rfl
theorem cd_184_15 : cd 184 15 = some (.iconst 0, 1, 0, 0, 0, []) := rfl
theorem cd_184_16 : cd 184 16 = some (.putfield 217, 3, 9, 24, 0, []) := rfl
theorem cd_184_19 : cd 184 19 = some (.aload_n 0, 1, 0, 0, 0, []) := rfl
theorem cd_184_20 : cd 184 20 = some (.getfield 217, 3, 9, 24, 0, []) := rfl
theorem cd_184_23 : cd 184 23 = some (.ifCond .eq 4, 3, 0, 0, 0, []) := rfl
theorem cd_184_26 : cd 184 26 = some (.return_, 1, 0, 0, 0, []) := rfl
theorem cd_184_27 : cd 184 27 = some (.aload_n 0, 1, 0, 0, 0, []) := rfl
theorem cd_184_28 : cd 184 28 = some (.dup, 1, 0, 0, 0, []) := rfl
theorem cd_184_29 : cd 184 29 = some (.getfield 214, 3, 9, 23, 0, []) := rfl
theorem cd_184_32 : cd 184 32 = some (.iconst 1, 1, 0, 0, 0, []) := rfl
theorem cd_184_33 : cd 184 33 = some (.iadd, 1, 0, 0, 0, []) := rfl
theorem cd_184_34 : cd 184 34 = some (.putfield 214, 3, 9, 23, 0, []) := rfl
theorem cd_184_37 : cd 184 37 = some (.aload_n 0, 1, 0, 0, 0, []) := rfl
theorem cd_184_38 : cd 184 38 = some (.getfield 48, 3, 9, 21, 0, []) := rfl
theorem cd_184_41 : cd 184 41 = some (.aload_n 0, 1, 0, 0, 0, []) := rfl
theorem cd_184_42 : cd 184 42 = some (.getfield 205, 3, 9, 22, 0, []) := rfl
theorem cd_184_45 : cd 184 45 = some (.iconst (-1), 1, 0, 0, 0, []) := rfl
theorem cd_184_46 : cd 184 46 = some (.iastore, 1, 0, 0, 0, []) := rfl
theorem cd_184_47 : cd 184 47 = some (.aload_n 0, 1, 0, 0, 0, []) := rfl
theorem cd_184_48 : cd 184 48 = some (.getfield 45, 3, 9, 20, 0, []) := rfl
theorem cd_184_51 : cd 184 51 = some (.aload_n 0, 1, 0, 0, 0, []) := rfl
theorem cd_184_52 : cd 184 52 = some (.getfield 205, 3, 9, 22, 0, []) := rfl
theorem cd_184_55 : cd 184 55 = some (.iconst 0, 1, 0, 0, 0, []) := rfl
theorem cd_184_56 : cd 184 56 = some (.iastore, 1, 0, 0, 0, []) := rfl
theorem cd_184_57 : cd 184 57 = some (.aload_n 0, 1, 0, 0, 0, []) := rfl
theorem cd_184_58 : cd 184 58 = some (.getfield 42, 3, 9, 19, 0, []) := rfl
theorem cd_184_61 : cd 184 61 = some (.aload_n 0, 1, 0, 0, 0, []) := rfl
theorem cd_184_62 : cd 184 62 = some (.getfield 205, 3, 9, 22, 0, []) := rfl
theorem cd_184_65 : cd 184 65 = some (.laload, 1, 0, 0, 0, []) := rfl
theorem cd_184_66 : cd 184 66 = some (.aload_n 0, 1, 0, 0, 0, []) := rfl
theorem cd_184_67 : cd 184 67 = some (.getfield 198, 3, 9, 29, 0, []) := rfl
theorem cd_184_70 : cd 184 70 = some (.lcmp, 1, 0, 0, 0, []) := rfl
theorem cd_184_71 : cd 184 71 = some (.ifCond .ne 21, 3, 0, 0, 0, []) := rfl
theorem cd_184_74 : cd 184 74 = some (.aload_n 0, 1, 0, 0, 0, []) := rfl
theorem cd_184_75 : cd 184 75 = some (.invokevirtual 220, 3, 183, 1, 0, []) := rfl
theorem cd_184_78 : cd 184 78 = some (.aload_n 0, 1, 0, 0, 0, []) := rfl
theorem cd_184_79 : cd 184 79 = some (.getfield 48, 3, 9, 21, 0, []) := rfl
theorem cd_184_82 : cd 184 82 = some (.aload_n 0, 1, 0, 0, 0, []) := rfl
theorem cd_184_83 : cd 184 83 = some (.getfield 205, 3, 9, 22, 0, []) := rfl
theorem cd_184_86 : cd 184 86 = some (.aload_n 0, 1, 0, 0, 0, []) := rfl
theorem cd_184_87 : cd 184 87 = some (.getfield 195, 3, 9, 18, 0, []) := rfl
theorem cd_184_90 : cd 184 90 = some (.iastore, 1, 0, 0, 0, []) := rfl
theorem cd_184_91 : cd 184 91 = some (.return_, 1, 0, 0, 0, []) := rfl
theorem cd_184_92 : cd 184 92 = some (.aload_n 0, 1, 0, 0, 0, []) := rfl
theorem cd_184_93 : cd 184 93 = some (.getfield 198, 3, 9, 29, 0, []) := rfl
theorem cd_184_96 : cd 184 96 = some (.aload_n 0, 1, 0, 0, 0, []) := rfl
theorem cd_184_97 : cd 184 97 = some (.getfield 42, 3, 9, 19, 0, []) := rfl
theorem cd_184_100 : cd 184 100 = some (.aload_n 0, 1, 0, 0, 0, []) := rfl
theorem cd_184_101 : cd 184 101 = some (.getfield 205, 3, 9, 22, 0, []) := rfl
theorem cd_184_104 : cd 184 104 = some (.laload, 1, 0, 0, 0, []) := rfl
theorem cd_184_105 : cd 184 105 = some (.ldc2_w 223, 3, 0, 0, 0, []) := rfl
theorem cd_184_108 : cd 184 108 = some (.lxor, 1, 0, 0, 0, []) := rfl
theorem cd_184_109 : cd 184 109 = some (.land, 1, 0, 0, 0, []) := rfl
theorem cd_184_110 : cd 184 110 = some (.aload_n 0, 1, 0, 0, 0, []) := rfl
theorem cd_184_111 : cd 184 111 = some (.getfield 45, 3, 9, 20, 0, []) := rfl
theorem cd_184_114 : cd 184 114 = some (.aload_n 0, 1, 0, 0, 0, []) := rfl
theorem cd_184_115 : cd 184 115 = some (.getfield 205, 3, 9, 22, 0, []) := rfl
theorem cd_184_118 : cd 184 118 = some (.iaload, 1, 0, 0, 0, []) := rfl
theorem cd_184_119 : cd 184 119 = some (.lshr, 1, 0, 0, 0, []) := rfl
theorem cd_184_120 : cd 184 120 = some (.lconst 1, 1, 0, 0, 0, []) := rfl
theorem cd_184_121 : cd 184 121 = some (.land, 1, 0, 0, 0, []) := rfl
theorem cd_184_122 : cd 184 122 = some (.lconst 0, 1, 0, 0, 0, []) := rfl
theorem cd_184_123 : cd 184 123 = some (.lcmp, 1, 0, 0, 0, []) := rfl
theorem cd_184_124 : cd 184 124 = some (.ifCond .ne 19, 3, 0, 0, 0, []) := rfl
theorem cd_184_127 : cd 184 127 = some (.aload_n 0, 1, 0, 0, 0, []) := rfl
theorem cd_184_128 : cd 184 128 = some (.getfield 45, 3, 9, 20, 0, []) := rfl
theorem cd_184_131 : cd 184 131 = some (.aload_n 0, 1, 0, 0, 0, []) := rfl
theorem cd_184_132 : cd 184 132 = some (.getfield 205, 3, 9, 22, 0, []) := rfl
theorem cd_184_135 : cd 184 135 = some (.dup2, 1, 0, 0, 0, []) := rfl
theorem cd_184_136 : cd 184 136 = some (.iaload, 1, 0, 0, 0, []) := rfl
theorem cd_184_137 : cd 184 137 = some (.iconst 1, 1, 0, 0, 0, []) := rfl
theorem cd_184_138 : cd 184 138 = some (.iadd, 1, 0, 0, 0, []) := rfl
theorem cd_184_139 : cd 184 139 = some (.iastore, 1, 0, 0, 0, []) := rfl
theorem cd_184_140 : cd 184 140 = some (.goto (-48), 3, 0, 0, 0, []) := rfl
theorem cd_184_143 : cd 184 143 = some (.return_, 1, 0, 0, 0, []) := rfl
theorem cd_185_0 : cd 185 0 = some (.aload_n 0, 1, 0, 0, 0, []) := rfl
theorem cd_185_1 : cd 185 1 = some (.invokevirtual 225, 3, 182, 1, 0, []) := rfl
theorem cd_185_4 : cd 185 4 = some (.aload_n 0, 1, 0, 0, 0, []) := rfl
theorem cd_185_5 : cd 185 5 = some (.iconst 0, 1, 0, 0, 0, []) := rfl
theorem cd_185_6 : cd 185 6 = some (.putfield 214, 3, 9, 23, 0, []) := rfl
theorem cd_185_9 : cd 185 9 = some (.aload_n 0, 1, 0, 0, 0, []) := rfl
theorem cd_185_10 : cd 185 10 = some (.iconst 0, 1, 0, 0, 0, []) := rfl
theorem cd_185_11 : cd 185 11 = some (.putfield 202, 3, 9, 25, 0, []) := rfl
theorem cd_185_14 : cd 185 14 = some (.aload_n 0, 1, 0, 0, 0, []) := rfl
theorem cd_185_15 : cd 185 15 = some (.iconst (-1), 1, 0, 0, 0, []) := rfl
theorem cd_185_16 : cd 185 16 = some (.putfield 211, 3, 9, 28, 0, []) := rfl
theorem cd_185_19 : cd 185 19 = some (.aload_n 0, 1, 0, 0, 0, []) := rfl
theorem cd_185_20 : cd 185 20 = some (.iconst 0, 1, 0, 0, 0, []) := rfl
theorem cd_185_21 : cd 185 21 = some (.putfield 208, 3, 9, 27, 0, []) := rfl
theorem cd_185_24 : cd 185 24 = some (.aload_n 0, 1, 0, 0, 0, []) := rfl
theorem cd_185_25 : cd 185 25 = some (.iconst 0, 1, 0, 0, 0, []) := rfl
theorem cd_185_26 : cd 185 26 = some (.putfield 205, 3, 9, 22, 0, []) := rfl
theorem cd_185_29 : cd 185 29 = some (.aload_n 0, 1, 0, 0, 0, []) := rfl
theorem cd_185_30 : cd 185 30 = some (.getfield 42, 3, 9, 19, 0, []) := rfl
theorem cd_185_33 : cd 185 33 = some (.iconst 0, 1, 0, 0, 0, []) := rfl
theorem cd_185_34 : cd 185 34 = some (.lconst 0, 1, 0, 0, 0, []) := rfl
theorem cd_185_35 : cd 185 35 = some (.lastore, 1, 0, 0, 0, []) := rfl
theorem cd_185_36 : cd 185 36 = some (.aload_n 0, 1, 0, 0, 0, []) := rfl
theorem cd_185_37 : cd 185 37 = some (.invokevirtual 228, 3, 184, 1, 0, []) := rfl
theorem cd_185_40 : cd 185 40 = some (.aload_n 0, 1, 0, 0, 0, [2, 3]) := rfl
theorem cd_185_41 : cd 185 41 = some (.getfield 205, 3, 9, 22, 0, []) := rfl
theorem cd_185_44 : cd 185 44 = some (.ifCond .lt 148, 3, 0, 0, 0, []) := rfl
theorem cd_185_47 : cd 185 47 = some (.aload_n 0, 1, 0, 0, 0, []) := rfl
theorem cd_185_48 : cd 185 48 = some (.getfield 217, 3, 9, 24, 0, []) := rfl
theorem cd_185_51 : cd 185 51 = some (.ifCond .ne 141, 3, 0, 0, 0, []) := rfl
theorem cd_185_54 : cd 185 54 = some (.aload_n 0, 1, 0, 0, 0, []) := rfl
theorem cd_185_55 : cd 185 55 = some (.getfield 202, 3, 9, 25, 0, []) := rfl
theorem cd_185_58 : cd 185 58 = some (.iload_n 1, 1, 0, 0, 0, []) := rfl
theorem cd_185_59 : cd 185 59 = some (.if_icmp .ge 133, 3, 0, 0, 0, []) := rfl
theorem cd_185_62 : cd 185 62 = some (.aload_n 0, 1, 0, 0, 0, []) := rfl
theorem cd_185_63 : cd 185 63 = some (.getfield 48, 3, 9, 21, 0, []) := rfl
theorem cd_185_66 : cd 185 66 = some (.aload_n 0, 1, 0, 0, 0, []) := rfl
theorem cd_185_67 : cd 185 67 = some (.getfield 205, 3, 9, 22, 0, []) := rfl
theorem cd_185_70 : cd 185 70 = some (.dup2, 1, 0, 0, 0, []) := rfl
theorem cd_185_71 : cd 185 71 = some (.iaload, 1, 0, 0, 0, []) := rfl
theorem cd_185_72 : cd 185 72 = some (.iconst 1, 1, 0, 0, 0, []) := rfl
theorem cd_185_73 : cd 185 73 = some (.iadd, 1, 0, 0, 0, []) := rfl
theorem cd_185_74 : cd 185 74 = some (.iastore, 1, 0, 0, 0, []) := rfl
theorem cd_185_75 : cd 185 75 = some (.aload_n 0, 1, 0, 0, 0, []) := rfl
theorem cd_185_76 : cd 185 76 = some (.getfield 48, 3, 9, 21, 0, []) := rfl
theorem cd_185_79 : cd 185 79 = some (.aload_n 0, 1, 0, 0, 0, []) := rfl
theorem cd_185_80 : cd 185 80 = some (.getfield 205, 3, 9, 22, 0, []) := rfl
theorem cd_185_83 : cd 185 83 = some (.iaload, 1, 0, 0, 0, []) := rfl
theorem cd_185_84 : cd 185 84 = some (.aload_n 0, 1, 0, 0, 0, []) := rfl
theorem cd_185_85 : cd 185 85 = some (.getfield 195, 3, 9, 18, 0, []) := rfl
theorem cd_185_88 : cd 185 88 = some (.if_icmp .lt 16, 3, 0, 0, 0, []) := rfl
theorem cd_185_91 : cd 185 91 = some (.aload_n 0, 1, 0, 0, 0, []) := rfl
theorem cd_185_92 : cd 185 92 = some (.dup, 1, 0, 0, 0, []) := rfl
theorem cd_185_93 : cd 185 93 = some (.getfield 205, 3, 9, 22, 0, []) := rfl
theorem cd_185_96 : cd 185 96 = some (.iconst 1, 1, 0, 0, 0, []) := rfl
theorem cd_185_97 : cd 185 97 = some (.isub, 1, 0, 0, 0, []) := rfl
theorem cd_185_98 : cd 185 98 = some (.putfield 205, 3, 9, 22, 0, []) := rfl
theorem cd_185_101 : cd 185 101 = some (.goto (-61), 3, 0, 0, 0, []) := rfl
theorem cd_185_104 : cd 185 104 = some (.aload_n 0, 1, 0, 0, 0, []) := rfl
theorem cd_185_105 : cd 185 105 = some (.getfield 38, 3, 9, 17, 0, []) := rfl
theorem cd_185_108 : cd 185 108 = some (.aload_n 0, 1, 0, 0, 0, []) := rfl
theorem cd_185_109 : cd 185 109 = some (.getfield 48, 3, 9, 21, 0, []) := rfl
theorem cd_185_112 : cd 185 112 = some (.aload_n 0, 1, 0, 0, 0, []) := rfl
theorem cd_185_113 : cd 185 113 = some (.getfield 205, 3, 9, 22, 0, []) := rfl
theorem cd_185_116 : cd 185 116 = some (.iaload, 1, 0, 0, 0, []) := rfl
theorem cd_185_117 : cd 185 117 = some (.laload, 1, 0, 0, 0, []) := rfl
theorem cd_185_118 : cd 185 118 = some (.lstore_n 2, 1, 0, 0, 0, []) := rfl
theorem cd_185_119 : cd 185 119 = some (.lload_n 2, 1, 0, 0, 0, []) := rfl
theorem cd_185_120 : cd 185 120 = some (.aload_n 0, 1, 0, 0, 0, []) := rfl
theorem cd_185_121 : cd 185 121 = some (.getfield 45, 3, 9, 20, 0, []) := rfl
theorem cd_185_124 : cd 185 124 = some (.aload_n 0, 1, 0, 0, 0, []) := rfl
theorem cd_185_125 : cd 185 125 = some (.getfield 205, 3, 9, 22, 0, []) := rfl
theorem cd_185_128 : cd 185 128 = some (.iaload, 1, 0, 0, 0, []) := rfl
theorem cd_185_129 : cd 185 129 = some (.lshr, 1, 0, 0, 0, []) := rfl
theorem cd_185_130 : cd 185 130 = some (.lconst 1, 1, 0, 0, 0, []) := rfl
theorem cd_185_131 : cd 185 131 = some (.land, 1, 0, 0, 0, []) := rfl
theorem cd_185_132 : cd 185 132 = some (.lconst 1, 1, 0, 0, 0, []) := rfl
theorem cd_185_133 : cd 185 133 = some (.lcmp, 1, 0, 0, 0, []) := rfl
theorem cd_185_134 : cd 185 134 = some (.ifCond .ne 55, 3, 0, 0, 0, []) := rfl
theorem cd_185_137 : cd 185 137 = some (.lload_n 2, 1, 0, 0, 0, []) := rfl
theorem cd_185_138 : cd 185 138 = some (.aload_n 0, 1, 0, 0, 0, []) := rfl
theorem cd_185_139 : cd 185 139 = some (.getfield 42, 3, 9, 19, 0, []) := rfl
theorem cd_185_142 : cd 185 142 = some (.aload_n 0, 1, 0, 0, 0, []) := rfl
theorem cd_185_143 : cd 185 143 = some (.getfield 205, 3, 9, 22, 0, []) := rfl
theorem cd_185_146 : cd 185 146 = some (.laload, 1, 0, 0, 0, []) := rfl
theorem cd_185_147 : cd 185 147 = some (.land, 1, 0, 0, 0, []) := rfl
theorem cd_185_148 : cd 185 148 = some (.lconst 0, 1, 0, 0, 0, []) := rfl
theorem cd_185_149 : cd 185 149 = some (.lcmp, 1, 0, 0, 0, []) := rfl
theorem cd_185_150 : cd 185 150 = some (.ifCond .ne 39, 3, 0, 0, 0, []) := rfl
theorem cd_185_153 : cd 185 153 = some (.aload_n 0, 1, 0, 0, 0, []) := rfl
theorem cd_185_154 : cd 185 154 = some (.getfield 42, 3, 9, 19, 0, []) := rfl
theorem cd_185_157 : cd 185 157 = some (.aload_n 0, 1, 0, 0, 0, []) := rfl
theorem cd_185_158 : cd 185 158 = some (.getfield 205, 3, 9, 22, 0, []) := rfl
theorem cd_185_161 : cd 185 161 = some (.iconst 1, 1, 0, 0, 0, []) := rfl
theorem cd_185_162 : cd 185 162 = some (.iadd, 1, 0, 0, 0, []) := rfl
theorem cd_185_163 : cd 185 163 = some (.aload_n 0, 1, 0, 0, 0, []) := rfl
theorem cd_185_164 : cd 185 164 = some (.getfield 42, 3, 9, 19, 0, []) := rfl
theorem cd_185_167 : cd 185 167 = some (.aload_n 0, 1, 0, 0, 0, []) := rfl
theorem cd_185_168 : cd 185 168 = some (.getfield 205, 3, 9, 22, 0, []) := rfl
theorem cd_185_171 : cd 185 171 = some (.laload, 1, 0, 0, 0, []) := rfl
theorem cd_185_172 : cd 185 172 = some (.lload_n 2, 1, 0, 0, 0, []) := rfl
theorem cd_185_173 : cd 185 173 = some (.lor, 1, 0, 0, 0, []) := rfl
theorem cd_185_174 : cd 185 174 = some (.lastore, 1, 0, 0, 0, []) := rfl
theorem cd_185_175 : cd 185 175 = some (.aload_n 0, 1, 0, 0, 0, []) := rfl
theorem cd_185_176 : cd 185 176 = some (.dup, 1, 0, 0, 0, []) := rfl
theorem cd_185_177 : cd 185 177 = some (.getfield 205, 3, 9, 22, 0, []) := rfl
theorem cd_185_180 : cd 185 180 = some (.iconst 1, 1, 0, 0, 0, []) := rfl
theorem cd_185_181 : cd 185 181 = some (.iadd, 1, 0, 0, 0, []) := rfl
theorem cd_185_182 : cd 185 182 = some (.putfield 205, 3, 9, 22, 0, []) := rfl
theorem cd_185_185 : cd 185 185 = some (.aload_n 0, 1, 0, 0, 0, []) := rfl
theorem cd_185_186 : cd 185 186 = some (.invokevirtual 228, 3, 184, 1, 0, []) := rfl
theorem cd_185_189 : cd 185 189 = some (.goto (-149), 3, 0, 0, 0, []) := rfl
theorem cd_185_192 : cd 185 192 = some (.return_, 1, 0, 0, 0, []) := rfl
theorem cd_186_0 : cd 186 0 = some (.iload_n 0, 1, 0, 0, 0, []) := rfl
theorem cd_186_1 : cd 186 1 = some (.iconst 1, 1, 0, 0, 0, []) := rfl
theorem cd_186_2 : cd 186 2 = some (.bipush 50, 2, 0, 0, 0, []) := rfl
theorem cd_186_4 : cd 186 4 = some (.invokestatic 73, 3, 133, 3, 2, []) := rfl
theorem cd_186_7 : cd 186 7 = some (.ireturn, 1, 0, 0, 0, []) := rfl
theorem cd_187_0 : cd 187 0 = some (.aload_n 0, 1, 0, 0, 0, []) := rfl
theorem cd_187_1 : cd 187 1 = some (.iload_n 1, 1, 0, 0, 0, []) := rfl
theorem cd_187_2 : cd 187 2 = some (.invokestatic 231, 3, 186, 1, 2, []) := rfl
theorem cd_187_5 : cd 187 5 = some (.ifCond .eq 7, 3, 0, 0, 0, []) := rfl
theorem cd_187_8 : cd 187 8 = some (.iconst 0, 1, 0, 0, 0, []) := rfl
theorem cd_187_9 : cd 187 9 = some (.goto 4, 3, 0, 0, 0, []) := rfl
theorem cd_187_12 : cd 187 12 = some (.iconst 1, 1, 0, 0, 0, []) := rfl
theorem cd_187_13 : cd 187 13 = some (.invokevirtual 65, 3, 132, 2, 0, []) := rfl
theorem cd_187_16 : cd 187 16 = some (.ifCond .eq 5, 3, 0, 0, 0, []) := rfl
theorem cd_187_19 : cd 187 19 = some (.iconst 0, 1, 0, 0, 0, []) := rfl
theorem cd_187_20 : cd 187 20 = some (.ireturn, 1, 0, 0, 0, []) := rfl
theorem cd_187_21 : cd 187 21 = some (.aload_n 0, 1, 0, 0, 0, []) := rfl
theorem cd_187_22 : cd 187 22 = some (.iload_n 1, 1, 0, 0, 0, []) := rfl
theorem cd_187_23 : cd 187 23 = some (.invokevirtual 234, 3, 185, 2, 0, []) := rfl
theorem cd_187_26 : cd 187 26 = some (.aload_n 0, 1, 0, 0, 0, []) := rfl
theorem cd_187_27 : cd 187 27 = some (.getfield 202, 3, 9, 25, 0, []) := rfl
theorem cd_187_30 : cd 187 30 = some (.ireturn, 1, 0, 0, 0, []) := rfl
theorem cd_188_0 : cd 188 0 = some (.aload_n 0, 1, 0, 0, 0, []) := rfl
theorem cd_188_1 : cd 188 1 = some (.iload_n 1, 1, 0, 0, 0, []) := rfl
theorem cd_188_2 : cd 188 2 = some (.invokestatic 231, 3, 186, 1, 2, []) := rfl
theorem cd_188_5 : cd 188 5 = some (.ifCond .eq 7, 3, 0, 0, 0, []) := rfl
theorem cd_188_8 : cd 188 8 = some (.iconst 0, 1, 0, 0, 0, []) := rfl
theorem cd_188_9 : cd 188 9 = some (.goto 4, 3, 0, 0, 0, []) := rfl
theorem cd_188_12 : cd 188 12 = some (.iconst 1, 1, 0, 0, 0, []) := rfl
theorem cd_188_13 : cd 188 13 = some (.invokevirtual 65, 3, 132, 2, 0, []) := rfl
theorem cd_188_16 : cd 188 16 = some (.ifCond .eq 5, 3, 0, 0, 0, []) := rfl
theorem cd_188_19 : cd 188 19 = some (.iconst 0, 1, 0, 0, 0, []) := rfl
theorem cd_188_20 : cd 188 20 = some (.ireturn, 1, 0, 0, 0, []) := rfl
theorem cd_188_21 : cd 188 21 = some (.aload_n 0, 1, 0, 0, 0, []) := rfl
theorem cd_188_22 : cd 188 22 = some (.iload_n 1, 1, 0, 0, 0, []) := rfl
theorem cd_188_23 : cd 188 23 = some (.invokevirtual 234, 3, 185, 2, 0, []) := rfl
theorem cd_188_26 : cd 188 26 = some (.aload_n 0, 1, 0, 0, 0, []) := rfl
theorem cd_188_27 : cd 188 27 = some (.getfield 217, 3, 9, 24, 0, []) := rfl
theorem cd_188_30 : cd 188 30 = some (.ifCond .eq 9, 3, 0, 0, 0, []) := rfl
theorem cd_188_33 : cd 188 33 = some (.sipush (-2000), 3, 0, 0, 0, []) := rfl
theorem cd_188_36 : cd 188 36 = some (.goto 7, 3, 0, 0, 0, []) := rfl
theorem cd_188_39 : cd 188 39 = some (.aload_n 0, 1, 0, 0, 0, []) := rfl
theorem cd_188_40 : cd 188 40 = some (.getfield 214, 3, 9, 23, 0, []) := rfl
theorem cd_188_43 : cd 188 43 = some (.ireturn, 1, 0, 0, 0, []) := rfl
theorem cd_189_0 : cd 189 0 = some (.aload_n 0, 1, 0, 0, 0, []) := rfl
theorem cd_189_1 : cd 189 1 = some (.iload_n 1, 1, 0, 0, 0, []) := rfl
theorem cd_189_2 : cd 189 2 = some (.ifCond .ge 7, 3, 0, 0, 0, []) := rfl
theorem cd_189_5 : cd 189 5 = some (.iconst 1, 1, 0, 0, 0, []) := rfl
theorem cd_189_6 : cd 189 6 = some (.goto 4, 3, 0, 0, 0, []) := rfl
theorem cd_189_9 : cd 189 9 = some (.iconst 0, 1, 0, 0, 0, []) := rfl
theorem cd_189_10 : cd 189 10 = some (.invokevirtual 65, 3, 132, 2, 0, []) := rfl
theorem cd_189_13 : cd 189 13 = some (.ifCond .eq 5, 3, 0, 0, 0, []) := rfl
theorem cd_189_16 : cd 189 16 = some (.iconst 0, 1, 0, 0, 0, []) := rfl
theorem cd_189_17 : cd 189 17 = some (.ireturn, 1, 0, 0, 0, []) := rfl
theorem cd_189_18 : cd 189 18 = some (.aload_n 0, 1, 0, 0, 0, []) := rfl
theorem cd_189_19 : cd 189 19 = some (.iconst 1, 1, 0, 0, 0, []) := rfl
theorem cd_189_20 : cd 189 20 = some (.invokevirtual 234, 3, 185, 2, 0, []) := rfl
theorem cd_189_23 : cd 189 23 = some (.iload_n 1, 1, 0, 0, 0, []) := rfl
theorem cd_189_24 : cd 189 24 = some (.aload_n 0, 1, 0, 0, 0, []) := rfl
theorem cd_189_25 : cd 189 25 = some (.getfield 208, 3, 9, 27, 0, []) := rfl
theorem cd_189_28 : cd 189 28 = some (.if_icmp .lt 7, 3, 0, 0, 0, []) := rfl
theorem cd_189_31 : cd 189 31 = some (.iconst (-1), 1, 0, 0, 0, []) := rfl
theorem cd_189_32 : cd 189 32 = some (.goto 9, 3, 0, 0, 0, []) := rfl
theorem cd_189_35 : cd 189 35 = some (.aload_n 0, 1, 0, 0, 0, []) := rfl
theorem cd_189_36 : cd 189 36 = some (.getfield 51, 3, 9, 26, 0, []) := rfl
theorem cd_189_39 : cd 189 39 = some (.iload_n 1, 1, 0, 0, 0, []) := rfl
theorem cd_189_40 : cd 189 40 = some (.iaload, 1, 0, 0, 0, []) := rfl
theorem cd_189_41 : cd 189 41 = some (.ireturn, 1, 0, 0, 0, []) := rfl
theorem cd_190_0 : cd 190 0 = some (.aload_n 0, 1, 0, 0, 0, []) := rfl
theorem cd_190_1 : cd 190 1 = some (.iconst 0, 1, 0, 0, 0, []) := rfl
theorem cd_190_2 : cd 190 2 = some (.putfield 58, 3, 9, 4, 0, []) := rfl
theorem cd_190_5 : cd 190 5 = some (.aload_n 0, 1, 0, 0, 0, []) := rfl
theorem cd_190_6 : cd 190 6 = some (.bipush 50, 2, 0, 0, 0, []) := rfl
theorem cd_190_8 : cd 190 8 = some (.invokevirtual 234, 3, 185, 2, 0, []) := rfl
theorem cd_190_11 : cd 190 11 = some (.aload_n 0, 1, 0, 0, 0, []) := rfl
theorem cd_190_12 : cd 190 12 = some (.getfield 211, 3, 9, 28, 0, []) := rfl
theorem cd_190_15 : cd 190 15 = some (.ireturn, 1, 0, 0, 0, []) := rfl
theorem cd_191_0 : cd 191 0 = some (.aload_n 0, 1, 0, 0, 0, []) := rfl
theorem cd_191_1 : cd 191 1 = some (.iconst 0, 1, 0, 0, 0, []) := rfl
theorem cd_191_2 : cd 191 2 = some (.putfield 58, 3, 9, 4, 0, []) := rfl
theorem cd_191_5 : cd 191 5 = some (.iconst 0, 1, 0, 0, 0, []) := rfl
theorem cd_191_6 : cd 191 6 = some (.istore_n 1, 1, 0, 0, 0, []) := rfl
theorem cd_191_7 : cd 191 7 = some (.iload_n 1, 1, 0, 0, 0, []) := rfl
theorem cd_191_8 : cd 191 8 = some (.iconst 2, 1, 0, 0, 0, []) := rfl
theorem cd_191_9 : cd 191 9 = some (.aload_n 0, 1, 0, 0, 0, []) := rfl
theorem cd_191_10 : cd 191 10 = some (.invokevirtual 69, 3, 137, 1, 0, []) := rfl
theorem cd_191_13 : cd 191 13 = some (.imul, 1, 0, 0, 0, []) := rfl
theorem cd_191_14 : cd 191 14 = some (.if_icmp .ge 70, 3, 0, 0, 0, []) := rfl
theorem cd_191_17 : cd 191 17 = some (.aload_n 0, 1, 0, 0, 0, []) := rfl
theorem cd_191_18 : cd 191 18 = some (.iload_n 1, 1, 0, 0, 0, []) := rfl
theorem cd_191_19 : cd 191 19 = some (.iconst 2, 1, 0, 0, 0, []) := rfl
theorem cd_191_20 : cd 191 20 = some (.idiv, 1, 0, 0, 0, []) := rfl
theorem cd_191_21 : cd 191 21 = some (.invokevirtual 95, 3, 139, 2, 0, []) := rfl
theorem cd_191_24 : cd 191 24 = some (.bipush 35, 2, 0, 0, 0, []) := rfl
theorem cd_191_26 : cd 191 26 = some (.if_icmp .ne 52, 3, 0, 0, 0, []) := rfl
theorem cd_191_29 : cd 191 29 = some (.aload_n 0, 1, 0, 0, 0, []) := rfl
theorem cd_191_30 : cd 191 30 = some (.getfield 7, 3, 9, 0, 0, []) := rfl
theorem cd_191_33 : cd 191 33 = some (.iconst 2, 1, 0, 0, 0, []) := rfl
theorem cd_191_34 : cd 191 34 = some (.iload_n 1, 1, 0, 0, 0, []) := rfl
theorem cd_191_35 : cd 191 35 = some (.iconst 2, 1, 0, 0, 0, []) := rfl
theorem cd_191_36 : cd 191 36 = some (.idiv, 1, 0, 0, 0, []) := rfl
theorem cd_191_37 : cd 191 37 = some (.iadd, 1, 0, 0, 0, []) := rfl
theorem cd_191_38 : cd 191 38 = some (.iload_n 1, 1, 0, 0, 0, []) := rfl
theorem cd_191_39 : cd 191 39 = some (.iconst 2, 1, 0, 0, 0, []) := rfl
theorem cd_191_40 : cd 191 40 = some (.irem, 1, 0, 0, 0, []) := rfl
theorem cd_191_41 : cd 191 41 = some (.ifCond .ne 8, 3, 0, 0, 0, []) := rfl
theorem cd_191_44 : cd 191 44 = some (.bipush 47, 2, 0, 0, 0, []) := rfl
theorem cd_191_46 : cd 191 46 = some (.goto 5, 3, 0, 0, 0, []) := rfl
theorem cd_191_49 : cd 191 49 = some (.bipush 92, 2, 0, 0, 0, []) := rfl
theorem cd_191_51 : cd 191 51 = some (.iastore, 1, 0, 0, 0, []) := rfl
theorem cd_191_52 : cd 191 52 = some (.aload_n 0, 1, 0, 0, 0, []) := rfl
theorem cd_191_53 : cd 191 53 = some (.iconst 1, 1, 0, 0, 0, []) := rfl
theorem cd_191_54 : cd 191 54 = some (.invokevirtual 234, 3, 185, 2, 0, []) := rfl
theorem cd_191_57 : cd 191 57 = some (.aload_n 0, 1, 0, 0, 0, []) := rfl
theorem cd_191_58 : cd 191 58 = some (.getfield 7, 3, 9, 0, 0, []) := rfl
theorem cd_191_61 : cd 191 61 = some (.iconst 2, 1, 0, 0, 0, []) := rfl
theorem cd_191_62 : cd 191 62 = some (.iload_n 1, 1, 0, 0, 0, []) := rfl
theorem cd_191_63 : cd 191 63 = some (.iconst 2, 1, 0, 0, 0, []) := rfl
theorem cd_191_64 : cd 191 64 = some (.idiv, 1, 0, 0, 0, []) := rfl
theorem cd_191_65 : cd 191 65 = some (.iadd, 1, 0, 0, 0, []) := rfl
theorem cd_191_66 : cd 191 66 = some (.bipush 35, 2, 0, 0, 0, []) := rfl
theorem cd_191_68 : cd 191 68 = some (.iastore, 1, 0, 0, 0, []) := rfl
theorem cd_191_69 : cd 191 69 = some (.aload_n 0, 1, 0, 0, 0, []) := rfl
theorem cd_191_70 : cd 191 70 = some (.getfield 202, 3, 9, 25, 0, []) := rfl
theorem cd_191_73 : cd 191 73 = some (.ifCond .le 5, 3, 0, 0, 0, []) := rfl
theorem cd_191_76 : cd 191 76 = some (.iload_n 1, 1, 0, 0, 0, []) := rfl
theorem cd_191_77 : cd 191 77 = some (.ireturn, 1, 0, 0, 0, []) := rfl
theorem cd_191_78 : cd 191 78 = some (.iinc 1 1, 3, 0, 0, 0, []) := rfl
theorem cd_191_81 : cd 191 81 = some (.goto (-74), 3, 0, 0, 0, []) := rfl
theorem cd_191_84 : cd 191 84 = some (.iconst (-1), 1, 0, 0, 0, []) := rfl
theorem cd_191_85 : cd 191 85 = some (.ireturn, 1, 0, 0, 0, []) := rfl
theorem cd_192_0 : cd 192 0 = some (.aload_n 0, 1, 0, 0, 0, []) := rfl
theorem cd_192_1 : cd 192 1 = some (.iconst 0, 1, 0, 0, 0, []) := rfl
theorem cd_192_2 : cd 192 2 = some (.putfield 58, 3, 9, 4, 0, []) := rfl
theorem cd_192_5 : cd 192 5 = some (.lconst 0, 1, 0, 0, 0, []) := rfl
theorem cd_192_6 : cd 192 6 = some (.lstore_n 1, 1, 0, 0, 0, []) := rfl
theorem cd_192_7 : cd 192 7 = some (.iconst 0, 1, 0, 0, 0, []) := rfl
theorem cd_192_8 : cd 192 8 = some (.istore_n 3, 1, 0, 0, 0, []) := rfl
theorem cd_192_9 : cd 192 9 = some (.iload_n 3, 1, 0, 0, 0, [2, 4, 5, 6]) := rfl
theorem cd_192_10 : cd 192 10 = some (.aload_n 0, 1, 0, 0, 0, []) := rfl
theorem cd_192_11 : cd 192 11 = some (.invokevirtual 86, 3, 138, 1, 0, []) := rfl
theorem cd_192_14 : cd 192 14 = some (.if_icmp .ge 68, 3, 0, 0, 0, []) := rfl
theorem cd_192_17 : cd 192 17 = some (.aload_n 0, 1, 0, 0, 0, []) := rfl
theorem cd_192_18 : cd 192 18 = some (.iload_n 3, 1, 0, 0, 0, []) := rfl
theorem cd_192_19 : cd 192 19 = some (.invokevirtual 189, 3, 178, 2, 0, []) := rfl
theorem cd_192_22 : cd 192 22 = some (.ifCond .le 54, 3, 0, 0, 0, []) := rfl
theorem cd_192_25 : cd 192 25 = some (.iconst 0, 1, 0, 0, 0, []) := rfl
theorem cd_192_26 : cd 192 26 = some (.istore 4, 2, 0, 0, 0, []) := rfl
theorem cd_192_28 : cd 192 28 = some (.iload 4, 2, 0, 0, 0, [2, 5, 6]) := rfl
theorem cd_192_30 : cd 192 30 = some (.aload_n 0, 1, 0, 0, 0, []) := rfl
theorem cd_192_31 : cd 192 31 = some (.getfield 121, 3, 9, 9, 0, []) := rfl
theorem cd_192_34 : cd 192 34 = some (.if_icmp .ge 42, 3, 0, 0, 0, []) := rfl
theorem cd_192_37 : cd 192 37 = some (.lload_n 1, 1, 0, 0, 0, []) := rfl
theorem cd_192_38 : cd 192 38 = some (.aload_n 0, 1, 0, 0, 0, []) := rfl
theorem cd_192_39 : cd 192 39 = some (.aload_n 0, 1, 0, 0, 0, []) := rfl
theorem cd_192_40 : cd 192 40 = some (.getfield 22, 3, 9, 7, 0, []) := rfl
theorem cd_192_43 : cd 192 43 = some (.iload 4, 2, 0, 0, 0, []) := rfl
theorem cd_192_45 : cd 192 45 = some (.iaload, 1, 0, 0, 0, []) := rfl
theorem cd_192_46 : cd 192 46 = some (.invokevirtual 95, 3, 139, 2, 0, []) := rfl
theorem cd_192_49 : cd 192 49 = some (.invokestatic 134, 3, 143, 1, 2, []) := rfl
theorem cd_192_52 : cd 192 52 = some (.ifCond .eq 15, 3, 0, 0, 0, []) := rfl
theorem cd_192_55 : cd 192 55 = some (.lconst 1, 1, 0, 0, 0, []) := rfl
theorem cd_192_56 : cd 192 56 = some (.aload_n 0, 1, 0, 0, 0, []) := rfl
theorem cd_192_57 : cd 192 57 = some (.getfield 22, 3, 9, 7, 0, []) := rfl
theorem cd_192_60 : cd 192 60 = some (.iload 4, 2, 0, 0, 0, []) := rfl
theorem cd_192_62 : cd 192 62 = some (.iaload, 1, 0, 0, 0, []) := rfl
theorem cd_192_63 : cd 192 63 = some (.lshl, 1, 0, 0, 0, []) := rfl
theorem cd_192_64 : cd 192 64 = some (.goto 4, 3, 0, 0, 0, []) := rfl
theorem cd_192_67 : cd 192 67 = some (.lconst 0, 1, 0, 0, 0, []) := rfl
theorem cd_192_68 : cd 192 68 = some (.lor, 1, 0, 0, 0, []) := rfl
theorem cd_192_69 : cd 192 69 = some (.lstore_n 1, 1, 0, 0, 0, []) := rfl
theorem cd_192_70 : cd 192 70 = some (.iinc 4 1, 3, 0, 0, 0, []) := rfl
theorem cd_192_73 : cd 192 73 = some (.goto (-45), 3, 0, 0, 0, []) := rfl
theorem cd_192_76 : cd 192 76 = some (.iinc 3 1, 3, 0, 0, 0, []) := rfl
theorem cd_192_79 : cd 192 79 = some (.goto (-70), 3, 0, 0, 0, []) := rfl
theorem cd_192_82 : cd 192 82 = some (.aload_n 0, 1, 0, 0, 0, []) := rfl
theorem cd_192_83 : cd 192 83 = some (.iconst 2, 1, 0, 0, 0, []) := rfl
theorem cd_192_84 : cd 192 84 = some (.invokevirtual 162, 3, 170, 2, 0, []) := rfl
theorem cd_192_87 : cd 192 87 = some (.istore_n 3, 1, 0, 0, 0, []) := rfl
theorem cd_192_88 : cd 192 88 = some (.iconst 0, 1, 0, 0, 0, []) := rfl
theorem cd_192_89 : cd 192 89 = some (.istore 4, 2, 0, 0, 0, []) := rfl
theorem cd_192_91 : cd 192 91 = some (.lload_n 1, 1, 0, 0, 0, []) := rfl
theorem cd_192_92 : cd 192 92 = some (.lstore 5, 2, 0, 0, 0, []) := rfl
theorem cd_192_94 : cd 192 94 = some (.lload 5, 2, 0, 0, 0, [0, 1, 2, 6]) := rfl
theorem cd_192_96 : cd 192 96 = some (.lconst 0, 1, 0, 0, 0, []) := rfl
theorem cd_192_97 : cd 192 97 = some (.lcmp, 1, 0, 0, 0, []) := rfl
theorem cd_192_98 : cd 192 98 = some (.ifCond .eq 31, 3, 0, 0, 0, []) := rfl
theorem cd_192_101 : cd 192 101 = some (.iload 4, 2, 0, 0, 0, []) := rfl
theorem cd_192_103 : cd 192 103 = some (.lload 5, 2, 0, 0, 0, []) := rfl
theorem cd_192_105 : cd 192 105 = some (.lconst 1, 1, 0, 0, 0, []) := rfl
theorem cd_192_106 : cd 192 106 = some (.land, 1, 0, 0, 0, []) := rfl
theorem cd_192_107 : cd 192 107 = some (.lconst 1, 1, 0, 0, 0, []) := rfl
theorem cd_192_108 : cd 192 108 = some (.lcmp, 1, 0, 0, 0, []) := rfl
theorem cd_192_109 : cd 192 109 = some (.ifCond .ne 7, 3, 0, 0, 0, []) := rfl
theorem cd_192_112 : cd 192 112 = some (.iconst 1, 1, 0, 0, 0, []) := rfl
theorem cd_192_113 : cd 192 113 = some (.goto 4, 3, 0, 0, 0, []) := rfl
theorem cd_192_116 : cd 192 116 = some (.iconst 0, 1, 0, 0, 0, []) := rfl
theorem cd_192_117 : cd 192 117 = some (.iadd, 1, 0, 0, 0, []) := rfl
theorem cd_192_118 : cd 192 118 = some (.istore 4, 2, 0, 0, 0, []) := rfl
theorem cd_192_120 : cd 192 120 = some (.lload 5, 2, 0, 0, 0, []) := rfl
theorem cd_192_122 : cd 192 122 = some (.iconst 1, 1, 0, 0, 0, []) := rfl
theorem cd_192_123 : cd 192 123 = some (.lshr, 1, 0, 0, 0, []) := rfl
theorem cd_192_124 : cd 192 124 = some (.lstore 5, 2, 0, 0, 0, []) := rfl
theorem cd_192_126 : cd 192 126 = some (.goto (-32), 3, 0, 0, 0, []) := rfl
theorem cd_192_129 : cd 192 129 = some (.iload_n 3, 1, 0, 0, 0, []) := rfl
theorem cd_192_130 : cd 192 130 = some (.ifCond .ne 7, 3, 0, 0, 0, []) := rfl
theorem cd_192_133 : cd 192 133 = some (.dconst 1, 1, 0, 0, 0, []) := rfl
theorem cd_192_134 : cd 192 134 = some (.goto 9, 3, 0, 0, 0, []) := rfl
theorem cd_192_137 : cd 192 137 = some (.iload 4, 2, 0, 0, 0, []) := rfl
theorem cd_192_139 : cd 192 139 = some (.i2d, 1, 0, 0, 0, []) := rfl
theorem cd_192_140 : cd 192 140 = some (.iload_n 3, 1, 0, 0, 0, []) := rfl
theorem cd_192_141 : cd 192 141 = some (.i2d, 1, 0, 0, 0, []) := rfl
theorem cd_192_142 : cd 192 142 = some (.ddiv, 1, 0, 0, 0, []) := rfl
theorem cd_192_143 : cd 192 143 = some (.dreturn, 1, 0, 0, 0, []) := rfl
theorem cd_193_0 : cd 193 0 = some (.aload_n 0, 1, 0, 0, 0, []) := rfl
theorem cd_193_1 : cd 193 1 = some (.iload_n 1, 1, 0, 0, 0, []) := rfl
theorem cd_193_2 : cd 193 2 = some (.iconst 0, 1, 0, 0, 0, []) := rfl
theorem cd_193_3 : cd 193 3 = some (.bipush 127, 2, 0, 0, 0, []) := rfl
theorem cd_193_5 : cd 193 5 = some (.invokestatic 73, 3, 133, 3, 2, []) := rfl
theorem cd_193_8 : cd 193 8 = some (.ifCond .ne 7, 3, 0, 0, 0, []) := rfl
theorem cd_193_11 : cd 193 11 = some (.iconst 1, 1, 0, 0, 0, []) := rfl
theorem cd_193_12 : cd 193 12 = some (.goto 17, 3, 0, 0, 0, []) := rfl
theorem cd_193_15 : cd 193 15 = some (.aload_n 0, 1, 0, 0, 0, []) := rfl
theorem cd_193_16 : cd 193 16 = some (.getfield 108, 3, 9, 6, 0, []) := rfl
theorem cd_193_19 : cd 193 19 = some (.bipush 60, 2, 0, 0, 0, []) := rfl
theorem cd_193_21 : cd 193 21 = some (.if_icmp .ne 7, 3, 0, 0, 0, []) := rfl
theorem cd_193_24 : cd 193 24 = some (.iconst 2, 1, 0, 0, 0, []) := rfl
theorem cd_193_25 : cd 193 25 = some (.goto 4, 3, 0, 0, 0, []) := rfl
theorem cd_193_28 : cd 193 28 = some (.iconst 0, 1, 0, 0, 0, []) := rfl
theorem cd_193_29 : cd 193 29 = some (.invokevirtual 65, 3, 132, 2, 0, []) := rfl
theorem cd_193_32 : cd 193 32 = some (.ifCond .eq 5, 3, 0, 0, 0, []) := rfl
theorem cd_193_35 : cd 193 35 = some (.iconst 0, 1, 0, 0, 0, []) := rfl
theorem cd_193_36 : cd 193 36 = some (.ireturn, 1, 0, 0, 0, []) := rfl
theorem cd_193_37 : cd 193 37 = some (.aload_n 0, 1, 0, 0, 0, []) := rfl
theorem cd_193_38 : cd 193 38 = some (.getfield 19, 3, 9, 5, 0, []) := rfl
theorem cd_193_41 : cd 193 41 = some (.aload_n 0, 1, 0, 0, 0, []) := rfl
theorem cd_193_42 : cd 193 42 = some (.getfield 108, 3, 9, 6, 0, []) := rfl
theorem cd_193_45 : cd 193 45 = some (.iload_n 1, 1, 0, 0, 0, []) := rfl
theorem cd_193_46 : cd 193 46 = some (.iastore, 1, 0, 0, 0, []) := rfl
theorem cd_193_47 : cd 193 47 = some (.aload_n 0, 1, 0, 0, 0, []) := rfl
theorem cd_193_48 : cd 193 48 = some (.dup, 1, 0, 0, 0, []) := rfl
theorem cd_193_49 : cd 193 49 = some (.getfield 108, 3, 9, 6, 0, []) := rfl
theorem cd_193_52 : cd 193 52 = some (.iconst 1, 1, 0, 0, 0, []) := rfl
theorem cd_193_53 : cd 193 53 = some (.iadd, 1, 0, 0, 0, []) := rfl
theorem cd_193_54 : cd 193 54 = some (.putfield 108, 3, 9, 6, 0, []) := rfl
theorem cd_193_57 : cd 193 57 = some (.aload_n 0, 1, 0, 0, 0, []) := rfl
theorem cd_193_58 : cd 193 58 = some (.getfield 108, 3, 9, 6, 0, []) := rfl
theorem cd_193_61 : cd 193 61 = some (.ireturn, 1, 0, 0, 0, []) := rfl
theorem cd_194_0 : cd 194 0 = some (.aload_n 0, 1, 0, 0, 0, []) := rfl
theorem cd_194_1 : cd 194 1 = some (.iconst 0, 1, 0, 0, 0, []) := rfl
theorem cd_194_2 : cd 194 2 = some (.putfield 58, 3, 9, 4, 0, []) := rfl
theorem cd_194_5 : cd 194 5 = some (.aload_n 0, 1, 0, 0, 0, []) := rfl
theorem cd_194_6 : cd 194 6 = some (.getfield 108, 3, 9, 6, 0, []) := rfl
theorem cd_194_9 : cd 194 9 = some (.istore_n 1, 1, 0, 0, 0, []) := rfl
theorem cd_194_10 : cd 194 10 = some (.aload_n 0, 1, 0, 0, 0, []) := rfl
theorem cd_194_11 : cd 194 11 = some (.iconst 0, 1, 0, 0, 0, []) := rfl
theorem cd_194_12 : cd 194 12 = some (.putfield 108, 3, 9, 6, 0, []) := rfl
theorem cd_194_15 : cd 194 15 = some (.iload_n 1, 1, 0, 0, 0, []) := rfl
theorem cd_194_16 : cd 194 16 = some (.ireturn, 1, 0, 0, 0, []) := rfl
theorem cd_195_0 : cd 195 0 = some (.aload_n 0, 1, 0, 0, 0, []) := rfl
theorem cd_195_1 : cd 195 1 = some (.iconst 0, 1, 0, 0, 0, []) := rfl
theorem cd_195_2 : cd 195 2 = some (.putfield 58, 3, 9, 4, 0, []) := rfl
theorem cd_195_5 : cd 195 5 = some (.iconst 0, 1, 0, 0, 0, []) := rfl
theorem cd_195_6 : cd 195 6 = some (.istore_n 1, 1, 0, 0, 0, []) := rfl
theorem cd_195_7 : cd 195 7 = some (.iconst 0, 1, 0, 0, 0, []) := rfl
theorem cd_195_8 : cd 195 8 = some (.istore_n 2, 1, 0, 0, 0, []) := rfl
theorem cd_195_9 : cd 195 9 = some (.iconst 0, 1, 0, 0, 0, []) := rfl
theorem cd_195_10 : cd 195 10 = some (.istore_n 3, 1, 0, 0, 0, []) := rfl
theorem cd_195_11 : cd 195 11 = some (.iconst 0, 1, 0, 0, 0, []) := rfl
theorem cd_195_12 : cd 195 12 = some (.istore 4, 2, 0, 0, 0, []) := rfl
theorem cd_195_14 : cd 195 14 = some (.iconst 1, 1, 0, 0, 0, []) := rfl
theorem cd_195_15 : cd 195 15 = some (.istore 5, 2, 0, 0, 0, []) := rfl
theorem cd_195_17 : cd 195 17 = some (.iload 5, 2, 0, 0, 0, [6, 7, 8]) := rfl
theorem cd_195_19 : cd 195 19 = some (.ifCond .eq 171, 3, 0, 0, 0, []) := rfl
theorem cd_195_22 : cd 195 22 = some (.iload 4, 2, 0, 0, 0, []) := rfl
theorem cd_195_24 : cd 195 24 = some (.aload_n 0, 1, 0, 0, 0, []) := rfl
theorem cd_195_25 : cd 195 25 = some (.getfield 108, 3, 9, 6, 0, []) := rfl
theorem cd_195_28 : cd 195 28 = some (.if_icmp .ge 162, 3, 0, 0, 0, []) := rfl
theorem cd_195_31 : cd 195 31 = some (.aload_n 0, 1, 0, 0, 0, []) := rfl
theorem cd_195_32 : cd 195 32 = some (.getfield 19, 3, 9, 5, 0, []) := rfl
theorem cd_195_35 : cd 195 35 = some (.iload 4, 2, 0, 0, 0, []) := rfl
theorem cd_195_37 : cd 195 37 = some (.iaload, 1, 0, 0, 0, []) := rfl
theorem cd_195_38 : cd 195 38 = some (.istore 6, 2, 0, 0, 0, []) := rfl
theorem cd_195_40 : cd 195 40 = some (.iload_n 2, 1, 0, 0, 0, []) := rfl
theorem cd_195_41 : cd 195 41 = some (.ifCond .ne 8, 3, 0, 0, 0, []) := rfl
theorem cd_195_44 : cd 195 44 = some (.bipush 7, 2, 0, 0, 0, []) := rfl
theorem cd_195_46 : cd 195 46 = some (.goto 4, 3, 0, 0, 0, []) := rfl
theorem cd_195_49 : cd 195 49 = some (.iload_n 1, 1, 0, 0, 0, []) := rfl
theorem cd_195_50 : cd 195 50 = some (.istore 7, 2, 0, 0, 0, []) := rfl
theorem cd_195_52 : cd 195 52 = some (.iload_n 3, 1, 0, 0, 0, []) := rfl
theorem cd_195_53 : cd 195 53 = some (.iload 7, 2, 0, 0, 0, []) := rfl
theorem cd_195_55 : cd 195 55 = some (.if_icmp .eq 12, 3, 0, 0, 0, []) := rfl
theorem cd_195_58 : cd 195 58 = some (.iload_n 2, 1, 0, 0, 0, []) := rfl
theorem cd_195_59 : cd 195 59 = some (.ifCond .ne 12, 3, 0, 0, 0, []) := rfl
theorem cd_195_62 : cd 195 62 = some (.iload_n 3, 1, 0, 0, 0, []) := rfl
theorem cd_195_63 : cd 195 63 = some (.iconst 2, 1, 0, 0, 0, []) := rfl
theorem cd_195_64 : cd 195 64 = some (.if_icmp .lt 7, 3, 0, 0, 0, []) := rfl
theorem cd_195_67 : cd 195 67 = some (.iconst 1, 1, 0, 0, 0, []) := rfl
theorem cd_195_68 : cd 195 68 = some (.goto 4, 3, 0, 0, 0, []) := rfl
theorem cd_195_71 : cd 195 71 = some (.iconst 0, 1, 0, 0, 0, []) := rfl
theorem cd_195_72 : cd 195 72 = some (.istore 8, 2, 0, 0, 0, []) := rfl
theorem cd_195_74 : cd 195 74 = some (.iload 6, 2, 0, 0, 0, []) := rfl
theorem cd_195_76 : cd 195 76 = some (.invokestatic 92, 3, 141, 1, 2, []) := rfl
theorem cd_195_79 : cd 195 79 = some (.ifCond .eq 17, 3, 0, 0, 0, []) := rfl
theorem cd_195_82 : cd 195 82 = some (.iload_n 3, 1, 0, 0, 0, []) := rfl
theorem cd_195_83 : cd 195 83 = some (.iload 7, 2, 0, 0, 0, []) := rfl
theorem cd_195_85 : cd 195 85 = some (.if_icmp .ge 7, 3, 0, 0, 0, []) := rfl
theorem cd_195_88 : cd 195 88 = some (.iconst 1, 1, 0, 0, 0, []) := rfl
theorem cd_195_89 : cd 195 89 = some (.goto 30, 3, 0, 0, 0, []) := rfl
theorem cd_195_92 : cd 195 92 = some (.iconst 0, 1, 0, 0, 0, []) := rfl
theorem cd_195_93 : cd 195 93 = some (.goto 26, 3, 0, 0, 0, []) := rfl
theorem cd_195_96 : cd 195 96 = some (.iload 6, 2, 0, 0, 0, []) := rfl
theorem cd_195_98 : cd 195 98 = some (.bipush 124, 2, 0, 0, 0, []) := rfl
theorem cd_195_100 : cd 195 100 = some (.if_icmp .ne 18, 3, 0, 0, 0, []) := rfl
theorem cd_195_103 : cd 195 103 = some (.iload 8, 2, 0, 0, 0, []) := rfl
theorem cd_195_105 : cd 195 105 = some (.ifCond .eq 13, 3, 0, 0, 0, []) := rfl
theorem cd_195_108 : cd 195 108 = some (.iload_n 2, 1, 0, 0, 0, []) := rfl
theorem cd_195_109 : cd 195 109 = some (.bipush 6, 2, 0, 0, 0, []) := rfl
theorem cd_195_111 : cd 195 111 = some (.if_icmp .ge 7, 3, 0, 0, 0, []) := rfl
theorem cd_195_114 : cd 195 114 = some (.iconst 1, 1, 0, 0, 0, []) := rfl
theorem cd_195_115 : cd 195 115 = some (.goto 4, 3, 0, 0, 0, []) := rfl
theorem cd_195_118 : cd 195 118 = some (.iconst 0, 1, 0, 0, 0, []) := rfl
theorem cd_195_119 : cd 195 119 = some (.istore 5, 2, 0, 0, 0, []) := rfl
theorem cd_195_121 : cd 195 121 = some (.iload 5, 2, 0, 0, 0, []) := rfl
theorem cd_195_123 : cd 195 123 = some (.ifCond .eq 28, 3, 0, 0, 0, []) := rfl
theorem cd_195_126 : cd 195 126 = some (.iload 6, 2, 0, 0, 0, []) := rfl
theorem cd_195_128 : cd 195 128 = some (.bipush 124, 2, 0, 0, 0, []) := rfl
theorem cd_195_130 : cd 195 130 = some (.if_icmp .ne 21, 3, 0, 0, 0, []) := rfl
theorem cd_195_133 : cd 195 133 = some (.iload_n 2, 1, 0, 0, 0, []) := rfl
theorem cd_195_134 : cd 195 134 = some (.ifCond .ne 7, 3, 0, 0, 0, []) := rfl
theorem cd_195_137 : cd 195 137 = some (.iload_n 3, 1, 0, 0, 0, []) := rfl
theorem cd_195_138 : cd 195 138 = some (.goto 4, 3, 0, 0, 0, []) := rfl
theorem cd_195_141 : cd 195 141 = some (.iload_n 1, 1, 0, 0, 0, []) := rfl
theorem cd_195_142 : cd 195 142 = some (.istore_n 1, 1, 0, 0, 0, []) := rfl
theorem cd_195_143 : cd 195 143 = some (.iinc 2 1, 3, 0, 0, 0, []) := rfl
theorem cd_195_146 : cd 195 146 = some (.iconst 0, 1, 0, 0, 0, []) := rfl
theorem cd_195_147 : cd 195 147 = some (.istore_n 3, 1, 0, 0, 0, []) := rfl
theorem cd_195_148 : cd 195 148 = some (.goto 24, 3, 0, 0, 0, []) := rfl
theorem cd_195_151 : cd 195 151 = some (.iload 5, 2, 0, 0, 0, []) := rfl
theorem cd_195_153 : cd 195 153 = some (.ifCond .eq 19, 3, 0, 0, 0, []) := rfl
theorem cd_195_156 : cd 195 156 = some (.aload_n 0, 1, 0, 0, 0, []) := rfl
theorem cd_195_157 : cd 195 157 = some (.getfield 16, 3, 9, 2, 0, []) := rfl
theorem cd_195_160 : cd 195 160 = some (.bipush 7, 2, 0, 0, 0, []) := rfl
theorem cd_195_162 : cd 195 162 = some (.iload_n 2, 1, 0, 0, 0, []) := rfl
theorem cd_195_163 : cd 195 163 = some (.imul, 1, 0, 0, 0, []) := rfl
theorem cd_195_164 : cd 195 164 = some (.iload_n 3, 1, 0, 0, 0, []) := rfl
theorem cd_195_165 : cd 195 165 = some (.iadd, 1, 0, 0, 0, []) := rfl
theorem cd_195_166 : cd 195 166 = some (.iload 6, 2, 0, 0, 0, []) := rfl
theorem cd_195_168 : cd 195 168 = some (.iastore, 1, 0, 0, 0, []) := rfl
theorem cd_195_169 : cd 195 169 = some (.iinc 3 1, 3, 0, 0, 0, []) := rfl
theorem cd_195_172 : cd 195 172 = some (.iload 4, 2, 0, 0, 0, []) := rfl
theorem cd_195_174 : cd 195 174 = some (.iload 5, 2, 0, 0, 0, []) := rfl
theorem cd_195_176 : cd 195 176 = some (.ifCond .eq 7, 3, 0, 0, 0, []) := rfl
theorem cd_195_179 : cd 195 179 = some (.iconst 1, 1, 0, 0, 0, []) := rfl
theorem cd_195_180 : cd 195 180 = some (.goto 4, 3, 0, 0, 0, []) := rfl
theorem cd_195_183 : cd 195 183 = some (.iconst 0, 1, 0, 0, 0, []) := rfl
theorem cd_195_184 : cd 195 184 = some (.iadd, 1, 0, 0, 0, []) := rfl
theorem cd_195_185 : cd 195 185 = some (.istore 4, 2, 0, 0, 0, []) := rfl
theorem cd_195_187 : cd 195 187 = some (.goto (-170), 3, 0, 0, 0, []) := rfl
theorem cd_195_190 : cd 195 190 = some (.iload 5, 2, 0, 0, 0, []) := rfl
theorem cd_195_192 : cd 195 192 = some (.ifCond .eq 12, 3, 0, 0, 0, []) := rfl
theorem cd_195_195 : cd 195 195 = some (.iload_n 2, 1, 0, 0, 0, []) := rfl
theorem cd_195_196 : cd 195 196 = some (.ifCond .eq 8, 3, 0, 0, 0, []) := rfl
theorem cd_195_199 : cd 195 199 = some (.iload_n 3, 1, 0, 0, 0, []) := rfl
theorem cd_195_200 : cd 195 200 = some (.iload_n 1, 1, 0, 0, 0, []) := rfl
theorem cd_195_201 : cd 195 201 = some (.if_icmp .ge 9, 3, 0, 0, 0, []) := rfl
theorem cd_195_204 : cd 195 204 = some (.bipush (-10), 2, 0, 0, 0, []) := rfl
theorem cd_195_206 : cd 195 206 = some (.iload 4, 2, 0, 0, 0, []) := rfl
theorem cd_195_208 : cd 195 208 = some (.isub, 1, 0, 0, 0, []) := rfl
theorem cd_195_209 : cd 195 209 = some (.ireturn, 1, 0, 0, 0, []) := rfl
theorem cd_195_210 : cd 195 210 = some (.aload_n 0, 1, 0, 0, 0, []) := rfl
theorem cd_195_211 : cd 195 211 = some (.invokevirtual 83, 3, 134, 1, 0, []) := rfl
theorem cd_195_214 : cd 195 214 = some (.aload_n 0, 1, 0, 0, 0, []) := rfl
theorem cd_195_215 : cd 195 215 = some (.iload_n 1, 1, 0, 0, 0, []) := rfl
theorem cd_195_216 : cd 195 216 = some (.iload_n 2, 1, 0, 0, 0, []) := rfl
theorem cd_195_217 : cd 195 217 = some (.iconst 1, 1, 0, 0, 0, []) := rfl
theorem cd_195_218 : cd 195 218 = some (.iadd, 1, 0, 0, 0, []) := rfl
theorem cd_195_219 : cd 195 219 = some (.invokevirtual 54, 3, 136, 3, 0, []) := rfl
theorem cd_195_222 : cd 195 222 = some (.iconst 0, 1, 0, 0, 0, []) := rfl
theorem cd_195_223 : cd 195 223 = some (.istore 6, 2, 0, 0, 0, []) := rfl
theorem cd_195_225 : cd 195 225 = some (.iload 6, 2, 0, 0, 0, [2, 3, 4, 5, 7, 8]) := rfl
theorem cd_195_227 : cd 195 227 = some (.aload_n 0, 1, 0, 0, 0, []) := rfl
theorem cd_195_228 : cd 195 228 = some (.invokevirtual 69, 3, 137, 1, 0, []) := rfl
theorem cd_195_231 : cd 195 231 = some (.if_icmp .ge 35, 3, 0, 0, 0, []) := rfl
theorem cd_195_234 : cd 195 234 = some (.aload_n 0, 1, 0, 0, 0, []) := rfl
theorem cd_195_235 : cd 195 235 = some (.getfield 7, 3, 9, 0, 0, []) := rfl
theorem cd_195_238 : cd 195 238 = some (.iconst 2, 1, 0, 0, 0, []) := rfl
theorem cd_195_239 : cd 195 239 = some (.iload 6, 2, 0, 0, 0, []) := rfl
theorem cd_195_241 : cd 195 241 = some (.iadd, 1, 0, 0, 0, []) := rfl
theorem cd_195_242 : cd 195 242 = some (.aload_n 0, 1, 0, 0, 0, []) := rfl
theorem cd_195_243 : cd 195 243 = some (.getfield 16, 3, 9, 2, 0, []) := rfl
theorem cd_195_246 : cd 195 246 = some (.iload 6, 2, 0, 0, 0, []) := rfl
theorem cd_195_248 : cd 195 248 = some (.iload_n 1, 1, 0, 0, 0, []) := rfl
theorem cd_195_249 : cd 195 249 = some (.idiv, 1, 0, 0, 0, []) := rfl
theorem cd_195_250 : cd 195 250 = some (.bipush 7, 2, 0, 0, 0, []) := rfl
theorem cd_195_252 : cd 195 252 = some (.imul, 1, 0, 0, 0, []) := rfl
theorem cd_195_253 : cd 195 253 = some (.iload 6, 2, 0, 0, 0, []) := rfl
theorem cd_195_255 : cd 195 255 = some (.iload_n 1, 1, 0, 0, 0, []) := rfl
theorem cd_195_256 : cd 195 256 = some (.irem, 1, 0, 0, 0, []) := rfl
theorem cd_195_257 : cd 195 257 = some (.iadd, 1, 0, 0, 0, []) := rfl
theorem cd_195_258 : cd 195 258 = some (.iaload, 1, 0, 0, 0, []) := rfl
theorem cd_195_259 : cd 195 259 = some (.iastore, 1, 0, 0, 0, []) := rfl
theorem cd_195_260 : cd 195 260 = some (.iinc 6 1, 3, 0, 0, 0, []) := rfl
theorem cd_195_263 : cd 195 263 = some (.goto (-38), 3, 0, 0, 0, []) := rfl
theorem cd_195_266 : cd 195 266 = some (.aload_n 0, 1, 0, 0, 0, []) := rfl
theorem cd_195_267 : cd 195 267 = some (.iconst 2, 1, 0, 0, 0, []) := rfl
theorem cd_195_268 : cd 195 268 = some (.invokevirtual 162, 3, 170, 2, 0, []) := rfl
theorem cd_195_271 : cd 195 271 = some (.ireturn, 1, 0, 0, 0, []) := rfl
theorem cd_196_0 : cd 196 0 = some (.aload_n 0, 1, 0, 0, 0, []) := rfl
theorem cd_196_1 : cd 196 1 = some (.ldc2_w 237, 3, 2, 0, 0, []) := rfl
theorem cd_196_4 : cd 196 4 = some (.aload_n 0, 1, 0, 0, 0, []) := rfl
theorem cd_196_5 : cd 196 5 = some (.getfield 239, 3, 9, 30, 0, []) := rfl
theorem cd_196_8 : cd 196 8 = some (.lmul, 1, 0, 0, 0, []) := rfl
theorem cd_196_9 : cd 196 9 = some (.iload_n 1, 1, 0, 0, 0, []) := rfl
theorem cd_196_10 : cd 196 10 = some (.i2l, 1, 0, 0, 0, []) := rfl
theorem cd_196_11 : cd 196 11 = some (.ladd, 1, 0, 0, 0, []) := rfl
theorem cd_196_12 : cd 196 12 = some (.putfield 239, 3, 9, 30, 0, []) := rfl
theorem cd_196_15 : cd 196 15 = some (.return_, 1, 0, 0, 0, []) := rfl
theorem cd_197_0 : cd 197 0 = some (.iconst 0, 1, 0, 0, 0, []) := rfl
theorem cd_197_1 : cd 197 1 = some (.istore_n 2, 1, 0, 0, 0, []) := rfl
theorem cd_197_2 : cd 197 2 = some (.iload_n 2, 1, 0, 0, 0, []) := rfl
theorem cd_197_3 : cd 197 3 = some (.bipush 7, 2, 0, 0, 0, []) := rfl
theorem cd_197_5 : cd 197 5 = some (.if_icmp .ge 19, 3, 0, 0, 0, []) := rfl
theorem cd_197_8 : cd 197 8 = some (.aload_n 0, 1, 0, 0, 0, []) := rfl
theorem cd_197_9 : cd 197 9 = some (.aload_n 0, 1, 0, 0, 0, []) := rfl
theorem cd_197_10 : cd 197 10 = some (.iload_n 1, 1, 0, 0, 0, []) := rfl
theorem cd_197_11 : cd 197 11 = some (.iload_n 2, 1, 0, 0, 0, []) := rfl
theorem cd_197_12 : cd 197 12 = some (.invokevirtual 153, 3, 164, 3, 0, []) := rfl
theorem cd_197_15 : cd 197 15 = some (.invokevirtual 242, 3, 196, 2, 0, []) := rfl
theorem cd_197_18 : cd 197 18 = some (.iinc 2 1, 3, 0, 0, 0, []) := rfl
theorem cd_197_21 : cd 197 21 = some (.goto (-19), 3, 0, 0, 0, []) := rfl
theorem cd_197_24 : cd 197 24 = some (.aload_n 0, 1, 0, 0, 0, []) := rfl
theorem cd_197_25 : cd 197 25 = some (.iload_n 1, 1, 0, 0, 0, []) := rfl
theorem cd_197_26 : cd 197 26 = some (.invokevirtual 182, 3, 175, 2, 0, []) := rfl
theorem cd_197_29 : cd 197 29 = some (.iconst 0, 1, 0, 0, 0, []) := rfl
theorem cd_197_30 : cd 197 30 = some (.istore_n 2, 1, 0, 0, 0, []) := rfl
theorem cd_197_31 : cd 197 31 = some (.iload_n 2, 1, 0, 0, 0, []) := rfl
theorem cd_197_32 : cd 197 32 = some (.aload_n 0, 1, 0, 0, 0, []) := rfl
theorem cd_197_33 : cd 197 33 = some (.getfield 176, 3, 9, 13, 0, []) := rfl
theorem cd_197_36 : cd 197 36 = some (.if_icmp .ge 37, 3, 0, 0, 0, []) := rfl
theorem cd_197_39 : cd 197 39 = some (.aload_n 0, 1, 0, 0, 0, []) := rfl
theorem cd_197_40 : cd 197 40 = some (.aload_n 0, 1, 0, 0, 0, []) := rfl
theorem cd_197_41 : cd 197 41 = some (.getfield 29, 3, 9, 12, 0, []) := rfl
theorem cd_197_44 : cd 197 44 = some (.iload_n 2, 1, 0, 0, 0, []) := rfl
theorem cd_197_45 : cd 197 45 = some (.iaload, 1, 0, 0, 0, []) := rfl
theorem cd_197_46 : cd 197 46 = some (.iconst (-1), 1, 0, 0, 0, []) := rfl
theorem cd_197_47 : cd 197 47 = some (.if_icmp .ne 8, 3, 0, 0, 0, []) := rfl
theorem cd_197_50 : cd 197 50 = some (.bipush 32, 2, 0, 0, 0, []) := rfl
theorem cd_197_52 : cd 197 52 = some (.goto 12, 3, 0, 0, 0, []) := rfl
theorem cd_197_55 : cd 197 55 = some (.bipush 97, 2, 0, 0, 0, []) := rfl
theorem cd_197_57 : cd 197 57 = some (.aload_n 0, 1, 0, 0, 0, []) := rfl
theorem cd_197_58 : cd 197 58 = some (.getfield 29, 3, 9, 12, 0, []) := rfl
theorem cd_197_61 : cd 197 61 = some (.iload_n 2, 1, 0, 0, 0, []) := rfl
theorem cd_197_62 : cd 197 62 = some (.iaload, 1, 0, 0, 0, []) := rfl
theorem cd_197_63 : cd 197 63 = some (.iadd, 1, 0, 0, 0, []) := rfl
theorem cd_197_64 : cd 197 64 = some (.invokevirtual 242, 3, 196, 2, 0, []) := rfl
theorem cd_197_67 : cd 197 67 = some (.iinc 2 1, 3, 0, 0, 0, []) := rfl
theorem cd_197_70 : cd 197 70 = some (.goto (-39), 3, 0, 0, 0, []) := rfl
theorem cd_197_73 : cd 197 73 = some (.aload_n 0, 1, 0, 0, 0, []) := rfl
theorem cd_197_74 : cd 197 74 = some (.aload_n 0, 1, 0, 0, 0, []) := rfl
theorem cd_197_75 : cd 197 75 = some (.iload_n 1, 1, 0, 0, 0, []) := rfl
theorem cd_197_76 : cd 197 76 = some (.invokevirtual 189, 3, 178, 2, 0, []) := rfl
theorem cd_197_79 : cd 197 79 = some (.invokevirtual 242, 3, 196, 2, 0, []) := rfl
theorem cd_197_82 : cd 197 82 = some (.return_, 1, 0, 0, 0, []) := rfl
theorem cd_198_0 : cd 198 0 = some (.aload_n 0, 1, 0, 0, 0, []) := rfl
theorem cd_198_1 : cd 198 1 = some (.iconst 0, 1, 0, 0, 0, []) := rfl
theorem cd_198_2 : cd 198 2 = some (.putfield 58, 3, 9, 4, 0, []) := rfl
theorem cd_198_5 : cd 198 5 = some (.aload_n 0, 1, 0, 0, 0, []) := rfl
theorem cd_198_6 : cd 198 6 = some (.ldc2_w 245, 3, 1, 0, 0, []) := rfl
theorem cd_198_9 : cd 198 9 = some (.putfield 239, 3, 9, 30, 0, []) := rfl
theorem cd_198_12 : cd 198 12 = some (.aload_n 0, 1, 0, 0, 0, []) := rfl
theorem cd_198_13 : cd 198 13 = some (.aload_n 0, 1, 0, 0, 0, []) := rfl
theorem cd_198_14 : cd 198 14 = some (.getfield 108, 3, 9, 6, 0, []) := rfl
theorem cd_198_17 : cd 198 17 = some (.invokevirtual 242, 3, 196, 2, 0, []) := rfl
theorem cd_198_20 : cd 198 20 = some (.iconst 0, 1, 0, 0, 0, []) := rfl
theorem cd_198_21 : cd 198 21 = some (.istore_n 1, 1, 0, 0, 0, []) := rfl
theorem cd_198_22 : cd 198 22 = some (.iload_n 1, 1, 0, 0, 0, [2]) := rfl
theorem cd_198_23 : cd 198 23 = some (.bipush 10, 2, 0, 0, 0, []) := rfl
theorem cd_198_25 : cd 198 25 = some (.if_icmp .ge 18, 3, 0, 0, 0, []) := rfl
theorem cd_198_28 : cd 198 28 = some (.aload_n 0, 1, 0, 0, 0, []) := rfl
theorem cd_198_29 : cd 198 29 = some (.aload_n 0, 1, 0, 0, 0, []) := rfl
theorem cd_198_30 : cd 198 30 = some (.iload_n 1, 1, 0, 0, 0, []) := rfl
theorem cd_198_31 : cd 198 31 = some (.invokevirtual 169, 3, 172, 2, 0, []) := rfl
theorem cd_198_34 : cd 198 34 = some (.invokevirtual 242, 3, 196, 2, 0, []) := rfl
theorem cd_198_37 : cd 198 37 = some (.iinc 1 1, 3, 0, 0, 0, []) := rfl
theorem cd_198_40 : cd 198 40 = some (.goto (-18), 3, 0, 0, 0, []) := rfl
theorem cd_198_43 : cd 198 43 = some (.iconst 0, 1, 0, 0, 0, []) := rfl
theorem cd_198_44 : cd 198 44 = some (.istore_n 1, 1, 0, 0, 0, []) := rfl
theorem cd_198_45 : cd 198 45 = some (.iload_n 1, 1, 0, 0, 0, [2]) := rfl
theorem cd_198_46 : cd 198 46 = some (.iconst 5, 1, 0, 0, 0, []) := rfl
theorem cd_198_47 : cd 198 47 = some (.aload_n 0, 1, 0, 0, 0, []) := rfl
theorem cd_198_48 : cd 198 48 = some (.invokevirtual 69, 3, 137, 1, 0, []) := rfl
theorem cd_198_51 : cd 198 51 = some (.imul, 1, 0, 0, 0, []) := rfl
theorem cd_198_52 : cd 198 52 = some (.if_icmp .ge 23, 3, 0, 0, 0, []) := rfl
theorem cd_198_55 : cd 198 55 = some (.aload_n 0, 1, 0, 0, 0, []) := rfl
theorem cd_198_56 : cd 198 56 = some (.aload_n 0, 1, 0, 0, 0, []) := rfl
theorem cd_198_57 : cd 198 57 = some (.iload_n 1, 1, 0, 0, 0, []) := rfl
theorem cd_198_58 : cd 198 58 = some (.iconst 5, 1, 0, 0, 0, []) := rfl
theorem cd_198_59 : cd 198 59 = some (.idiv, 1, 0, 0, 0, []) := rfl
theorem cd_198_60 : cd 198 60 = some (.iload_n 1, 1, 0, 0, 0, []) := rfl
theorem cd_198_61 : cd 198 61 = some (.iconst 5, 1, 0, 0, 0, []) := rfl
theorem cd_198_62 : cd 198 62 = some (.irem, 1, 0, 0, 0, []) := rfl
theorem cd_198_63 : cd 198 63 = some (.invokevirtual 159, 3, 168, 3, 0, []) := rfl
theorem cd_198_66 : cd 198 66 = some (.invokevirtual 242, 3, 196, 2, 0, []) := rfl
theorem cd_198_69 : cd 198 69 = some (.iinc 1 1, 3, 0, 0, 0, []) := rfl
theorem cd_198_72 : cd 198 72 = some (.goto (-27), 3, 0, 0, 0, []) := rfl
theorem cd_198_75 : cd 198 75 = some (.iconst 0, 1, 0, 0, 0, []) := rfl
theorem cd_198_76 : cd 198 76 = some (.istore_n 1, 1, 0, 0, 0, []) := rfl
theorem cd_198_77 : cd 198 77 = some (.iload_n 1, 1, 0, 0, 0, [2]) := rfl
theorem cd_198_78 : cd 198 78 = some (.aload_n 0, 1, 0, 0, 0, []) := rfl
theorem cd_198_79 : cd 198 79 = some (.invokevirtual 86, 3, 138, 1, 0, []) := rfl
theorem cd_198_82 : cd 198 82 = some (.if_icmp .ge 14, 3, 0, 0, 0, []) := rfl
theorem cd_198_85 : cd 198 85 = some (.aload_n 0, 1, 0, 0, 0, []) := rfl
theorem cd_198_86 : cd 198 86 = some (.iload_n 1, 1, 0, 0, 0, []) := rfl
theorem cd_198_87 : cd 198 87 = some (.invokevirtual 247, 3, 197, 2, 0, []) := rfl
theorem cd_198_90 : cd 198 90 = some (.iinc 1 1, 3, 0, 0, 0, []) := rfl
theorem cd_198_93 : cd 198 93 = some (.goto (-16), 3, 0, 0, 0, []) := rfl
theorem cd_198_96 : cd 198 96 = some (.iconst 0, 1, 0, 0, 0, []) := rfl
theorem cd_198_97 : cd 198 97 = some (.istore_n 1, 1, 0, 0, 0, []) := rfl
theorem cd_198_98 : cd 198 98 = some (.iload_n 1, 1, 0, 0, 0, [2]) := rfl
theorem cd_198_99 : cd 198 99 = some (.aload_n 0, 1, 0, 0, 0, []) := rfl
theorem cd_198_100 : cd 198 100 = some (.getfield 7, 3, 9, 0, 0, []) := rfl
theorem cd_198_103 : cd 198 103 = some (.bipush 51, 2, 0, 0, 0, []) := rfl
theorem cd_198_105 : cd 198 105 = some (.iaload, 1, 0, 0, 0, []) := rfl
theorem cd_198_106 : cd 198 106 = some (.if_icmp .ge 53, 3, 0, 0, 0, []) := rfl
theorem cd_198_109 : cd 198 109 = some (.iconst 0, 1, 0, 0, 0, []) := rfl
theorem cd_198_110 : cd 198 110 = some (.istore_n 2, 1, 0, 0, 0, []) := rfl
theorem cd_198_111 : cd 198 111 = some (.iload_n 2, 1, 0, 0, 0, []) := rfl
theorem cd_198_112 : cd 198 112 = some (.aload_n 0, 1, 0, 0, 0, []) := rfl
theorem cd_198_113 : cd 198 113 = some (.getfield 7, 3, 9, 0, 0, []) := rfl
theorem cd_198_116 : cd 198 116 = some (.bipush 52, 2, 0, 0, 0, []) := rfl
theorem cd_198_118 : cd 198 118 = some (.bipush 9, 2, 0, 0, 0, []) := rfl
theorem cd_198_120 : cd 198 120 = some (.iload_n 1, 1, 0, 0, 0, []) := rfl
theorem cd_198_121 : cd 198 121 = some (.imul, 1, 0, 0, 0, []) := rfl
theorem cd_198_122 : cd 198 122 = some (.iadd, 1, 0, 0, 0, []) := rfl
theorem cd_198_123 : cd 198 123 = some (.iaload, 1, 0, 0, 0, []) := rfl
theorem cd_198_124 : cd 198 124 = some (.if_icmp .ge 29, 3, 0, 0, 0, []) := rfl
theorem cd_198_127 : cd 198 127 = some (.aload_n 0, 1, 0, 0, 0, []) := rfl
theorem cd_198_128 : cd 198 128 = some (.aload_n 0, 1, 0, 0, 0, []) := rfl
theorem cd_198_129 : cd 198 129 = some (.getfield 7, 3, 9, 0, 0, []) := rfl
theorem cd_198_132 : cd 198 132 = some (.bipush 52, 2, 0, 0, 0, []) := rfl
theorem cd_198_134 : cd 198 134 = some (.bipush 9, 2, 0, 0, 0, []) := rfl
theorem cd_198_136 : cd 198 136 = some (.iload_n 1, 1, 0, 0, 0, []) := rfl
theorem cd_198_137 : cd 198 137 = some (.imul, 1, 0, 0, 0, []) := rfl
theorem cd_198_138 : cd 198 138 = some (.iadd, 1, 0, 0, 0, []) := rfl
theorem cd_198_139 : cd 198 139 = some (.iconst 1, 1, 0, 0, 0, []) := rfl
theorem cd_198_140 : cd 198 140 = some (.iadd, 1, 0, 0, 0, []) := rfl
theorem cd_198_141 : cd 198 141 = some (.iload_n 2, 1, 0, 0, 0, []) := rfl
theorem cd_198_142 : cd 198 142 = some (.iadd, 1, 0, 0, 0, []) := rfl
theorem cd_198_143 : cd 198 143 = some (.iaload, 1, 0, 0, 0, []) := rfl
theorem cd_198_144 : cd 198 144 = some (.invokevirtual 242, 3, 196, 2, 0, []) := rfl
theorem cd_198_147 : cd 198 147 = some (.iinc 2 1, 3, 0, 0, 0, []) := rfl
theorem cd_198_150 : cd 198 150 = some (.goto (-39), 3, 0, 0, 0, []) := rfl
theorem cd_198_153 : cd 198 153 = some (.iinc 1 1, 3, 0, 0, 0, []) := rfl
theorem cd_198_156 : cd 198 156 = some (.goto (-58), 3, 0, 0, 0, []) := rfl
theorem cd_198_159 : cd 198 159 = some (.aload_n 0, 1, 0, 0, 0, []) := rfl
theorem cd_198_160 : cd 198 160 = some (.iconst 3, 1, 0, 0, 0, []) := rfl
theorem cd_198_161 : cd 198 161 = some (.invokevirtual 234, 3, 185, 2, 0, []) := rfl
theorem cd_198_164 : cd 198 164 = some (.aload_n 0, 1, 0, 0, 0, []) := rfl
theorem cd_198_165 : cd 198 165 = some (.aload_n 0, 1, 0, 0, 0, []) := rfl
theorem cd_198_166 : cd 198 166 = some (.getfield 202, 3, 9, 25, 0, []) := rfl
theorem cd_198_169 : cd 198 169 = some (.invokevirtual 242, 3, 196, 2, 0, []) := rfl
theorem cd_198_172 : cd 198 172 = some (.aload_n 0, 1, 0, 0, 0, []) := rfl
theorem cd_198_173 : cd 198 173 = some (.aload_n 0, 1, 0, 0, 0, []) := rfl
theorem cd_198_174 : cd 198 174 = some (.getfield 62, 3, 9, 3, 0, []) := rfl
theorem cd_198_177 : cd 198 177 = some (.invokevirtual 242, 3, 196, 2, 0, []) := rfl
theorem cd_198_180 : cd 198 180 = some (.aload_n 0, 1, 0, 0, 0, []) := rfl
theorem cd_198_181 : cd 198 181 = some (.getfield 239, 3, 9, 30, 0, []) := rfl
theorem cd_198_184 : cd 198 184 = some (.lreturn, 1, 0, 0, 0, []) := rfl
