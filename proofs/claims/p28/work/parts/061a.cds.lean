/-! ===== the code table, row by row: by program (wip/p28/gen4.py) ===== -/
theorem cd_0_0 : cd 0 0 = some (.aload_n 0, 1, 0, 0, 0, []) := rfl
theorem cd_0_1 : cd 0 1 = some (.invokespecial 3, 3, 0, 1, 6, []) := rfl
theorem cd_0_4 : cd 0 4 = some (.aload_n 0, 1, 0, 0, 0, []) := rfl
theorem cd_0_5 : cd 0 5 = some (.new 9, 3, 1, 0, 0, []) := rfl
theorem cd_0_8 : cd 0 8 = some (.dup, 1, 0, 0, 0, []) := rfl
theorem cd_0_9 : cd 0 9 = some (.invokespecial 11, 3, 18, 1, 5, []) := rfl
theorem cd_0_12 : cd 0 12 = some (.putfield 12, 3, 0, 0, 0, []) := rfl
theorem cd_0_15 : cd 0 15 = some (.aload_n 0, 1, 0, 0, 0, []) := rfl
theorem cd_0_16 : cd 0 16 = some (.bipush 28, 2, 0, 0, 0, []) := rfl
theorem cd_0_18 : cd 0 18 = some (.newarray .int, 2, 0, 0, 0, []) := rfl
theorem cd_0_20 : cd 0 20 = some (.putfield 18, 3, 0, 1, 0, []) := rfl
theorem cd_0_23 : cd 0 23 = some (.aload_n 0, 1, 0, 0, 0, []) := rfl
theorem cd_0_24 : cd 0 24 = some (.bipush 28, 2, 0, 0, 0, []) := rfl
theorem cd_0_26 : cd 0 26 = some (.newarray .int, 2, 0, 0, 0, []) := rfl
theorem cd_0_28 : cd 0 28 = some (.putfield 22, 3, 0, 2, 0, []) := rfl
theorem cd_0_31 : cd 0 31 = some (.aload_n 0, 1, 0, 0, 0, []) := rfl
theorem cd_0_32 : cd 0 32 = some (.bipush 28, 2, 0, 0, 0, []) := rfl
theorem cd_0_34 : cd 0 34 = some (.newarray .int, 2, 0, 0, 0, []) := rfl
theorem cd_0_36 : cd 0 36 = some (.putfield 25, 3, 0, 3, 0, []) := rfl
theorem cd_0_39 : cd 0 39 = some (.aload_n 0, 1, 0, 0, 0, []) := rfl
theorem cd_0_40 : cd 0 40 = some (.bipush 28, 2, 0, 0, 0, []) := rfl
theorem cd_0_42 : cd 0 42 = some (.newarray .int, 2, 0, 0, 0, []) := rfl
theorem cd_0_44 : cd 0 44 = some (.putfield 28, 3, 0, 4, 0, []) := rfl
theorem cd_0_47 : cd 0 47 = some (.aload_n 0, 1, 0, 0, 0, []) := rfl
theorem cd_0_48 : cd 0 48 = some (.bipush 28, 2, 0, 0, 0, []) := rfl
theorem cd_0_50 : cd 0 50 = some (.newarray .long, 2, 0, 0, 0, []) := rfl
theorem cd_0_52 : cd 0 52 = some (.putfield 31, 3, 0, 5, 0, []) := rfl
theorem cd_0_55 : cd 0 55 = some (.aload_n 0, 1, 0, 0, 0, []) := rfl
theorem cd_0_56 : cd 0 56 = some (.bipush 28, 2, 0, 0, 0, []) := rfl
theorem cd_0_58 : cd 0 58 = some (.newarray .long, 2, 0, 0, 0, []) := rfl
theorem cd_0_60 : cd 0 60 = some (.putfield 35, 3, 0, 6, 0, []) := rfl
theorem cd_0_63 : cd 0 63 = some (.aload_n 0, 1, 0, 0, 0, []) := rfl
theorem cd_0_64 : cd 0 64 = some (.sipush 2744, 3, 0, 0, 0, []) := rfl
theorem cd_0_67 : cd 0 67 = some (.newarray .int, 2, 0, 0, 0, []) := rfl
theorem cd_0_69 : cd 0 69 = some (.putfield 38, 3, 0, 7, 0, []) := rfl
theorem cd_0_72 : cd 0 72 = some (.aload_n 0, 1, 0, 0, 0, []) := rfl
theorem cd_0_73 : cd 0 73 = some (.bipush 49, 2, 0, 0, 0, []) := rfl
theorem cd_0_75 : cd 0 75 = some (.newarray .int, 2, 0, 0, 0, []) := rfl
theorem cd_0_77 : cd 0 77 = some (.putfield 41, 3, 0, 8, 0, []) := rfl
theorem cd_0_80 : cd 0 80 = some (.aload_n 0, 1, 0, 0, 0, []) := rfl
theorem cd_0_81 : cd 0 81 = some (.bipush 49, 2, 0, 0, 0, []) := rfl
theorem cd_0_83 : cd 0 83 = some (.newarray .int, 2, 0, 0, 0, []) := rfl
theorem cd_0_85 : cd 0 85 = some (.putfield 44, 3, 0, 9, 0, []) := rfl
theorem cd_0_88 : cd 0 88 = some (.aload_n 0, 1, 0, 0, 0, []) := rfl
theorem cd_0_89 : cd 0 89 = some (.bipush 49, 2, 0, 0, 0, []) := rfl
theorem cd_0_91 : cd 0 91 = some (.newarray .int, 2, 0, 0, 0, []) := rfl
theorem cd_0_93 : cd 0 93 = some (.putfield 47, 3, 0, 10, 0, []) := rfl
theorem cd_0_96 : cd 0 96 = some (.return_, 1, 0, 0, 0, []) := rfl
theorem cd_1_0 : cd 1 0 = some (.aload_n 0, 1, 0, 0, 0, []) := rfl
theorem cd_1_1 : cd 1 1 = some (.invokevirtual 50, 3, 2, 1, 0, []) := rfl
theorem cd_1_4 : cd 1 4 = some (.iconst 0, 1, 0, 0, 0, []) := rfl
theorem cd_1_5 : cd 1 5 = some (.istore_n 2, 1, 0, 0, 0, []) := rfl
theorem cd_1_6 : cd 1 6 = some (.iload_n 2, 1, 0, 0, 0, []) := rfl
theorem cd_1_7 : cd 1 7 = some (.aload_n 1, 1, 0, 0, 0, []) := rfl
theorem cd_1_8 : cd 1 8 = some (.invokevirtual 53, 3, 50, 1, 0, []) := rfl
theorem cd_1_11 : cd 1 11 = some (.if_icmp .ge 30, 3, 0, 0, 0, []) := rfl
theorem cd_1_14 : cd 1 14 = some (.aload_n 0, 1, 0, 0, 0, []) := rfl
theorem cd_1_15 : cd 1 15 = some (.aload_n 1, 1, 0, 0, 0, []) := rfl
theorem cd_1_16 : cd 1 16 = some (.iload_n 2, 1, 0, 0, 0, []) := rfl
theorem cd_1_17 : cd 1 17 = some (.invokevirtual 59, 3, 3, 3, 0, []) := rfl
theorem cd_1_20 : cd 1 20 = some (.aload_n 0, 1, 0, 0, 0, []) := rfl
theorem cd_1_21 : cd 1 21 = some (.iload_n 2, 1, 0, 0, 0, []) := rfl
theorem cd_1_22 : cd 1 22 = some (.invokevirtual 63, 3, 7, 2, 0, []) := rfl
theorem cd_1_25 : cd 1 25 = some (.iload_n 2, 1, 0, 0, 0, []) := rfl
theorem cd_1_26 : cd 1 26 = some (.if_icmp .ne 9, 3, 0, 0, 0, []) := rfl
theorem cd_1_29 : cd 1 29 = some (.aload_n 0, 1, 0, 0, 0, []) := rfl
theorem cd_1_30 : cd 1 30 = some (.aload_n 1, 1, 0, 0, 0, []) := rfl
theorem cd_1_31 : cd 1 31 = some (.iload_n 2, 1, 0, 0, 0, []) := rfl
theorem cd_1_32 : cd 1 32 = some (.invokevirtual 67, 3, 5, 3, 0, []) := rfl
theorem cd_1_35 : cd 1 35 = some (.iinc 2 1, 3, 0, 0, 0, []) := rfl
theorem cd_1_38 : cd 1 38 = some (.goto (-32), 3, 0, 0, 0, []) := rfl
theorem cd_1_41 : cd 1 41 = some (.return_, 1, 0, 0, 0, []) := rfl
theorem cd_2_0 : cd 2 0 = some (.aload_n 0, 1, 0, 0, 0, []) := rfl
theorem cd_2_1 : cd 2 1 = some (.getfield 18, 3, 0, 1, 0, []) := rfl
theorem cd_2_4 : cd 2 4 = some (.iconst (-1), 1, 0, 0, 0, []) := rfl
theorem cd_2_5 : cd 2 5 = some (.invokestatic 70, 3, 201, 2, 2, []) := rfl
theorem cd_2_8 : cd 2 8 = some (.aload_n 0, 1, 0, 0, 0, []) := rfl
theorem cd_2_9 : cd 2 9 = some (.getfield 22, 3, 0, 2, 0, []) := rfl
theorem cd_2_12 : cd 2 12 = some (.iconst 0, 1, 0, 0, 0, []) := rfl
theorem cd_2_13 : cd 2 13 = some (.invokestatic 70, 3, 201, 2, 2, []) := rfl
theorem cd_2_16 : cd 2 16 = some (.aload_n 0, 1, 0, 0, 0, []) := rfl
theorem cd_2_17 : cd 2 17 = some (.getfield 25, 3, 0, 3, 0, []) := rfl
theorem cd_2_20 : cd 2 20 = some (.iconst 0, 1, 0, 0, 0, []) := rfl
theorem cd_2_21 : cd 2 21 = some (.invokestatic 70, 3, 201, 2, 2, []) := rfl
theorem cd_2_24 : cd 2 24 = some (.aload_n 0, 1, 0, 0, 0, []) := rfl
theorem cd_2_25 : cd 2 25 = some (.getfield 28, 3, 0, 4, 0, []) := rfl
theorem cd_2_28 : cd 2 28 = some (.iconst 0, 1, 0, 0, 0, []) := rfl
theorem cd_2_29 : cd 2 29 = some (.invokestatic 70, 3, 201, 2, 2, []) := rfl
theorem cd_2_32 : cd 2 32 = some (.aload_n 0, 1, 0, 0, 0, []) := rfl
theorem cd_2_33 : cd 2 33 = some (.getfield 31, 3, 0, 5, 0, []) := rfl
theorem cd_2_36 : cd 2 36 = some (.lconst 0, 1, 0, 0, 0, []) := rfl
theorem cd_2_37 : cd 2 37 = some (.invokestatic 76, 3, 200, 2, 2, []) := rfl
theorem cd_2_40 : cd 2 40 = some (.aload_n 0, 1, 0, 0, 0, []) := rfl
theorem cd_2_41 : cd 2 41 = some (.getfield 35, 3, 0, 6, 0, []) := rfl
theorem cd_2_44 : cd 2 44 = some (.lconst 0, 1, 0, 0, 0, []) := rfl
theorem cd_2_45 : cd 2 45 = some (.invokestatic 76, 3, 200, 2, 2, []) := rfl
theorem cd_2_48 : cd 2 48 = some (.aload_n 0, 1, 0, 0, 0, []) := rfl
theorem cd_2_49 : cd 2 49 = some (.getfield 41, 3, 0, 8, 0, []) := rfl
theorem cd_2_52 : cd 2 52 = some (.iconst (-1), 1, 0, 0, 0, []) := rfl
theorem cd_2_53 : cd 2 53 = some (.invokestatic 70, 3, 201, 2, 2, []) := rfl
theorem cd_2_56 : cd 2 56 = some (.aload_n 0, 1, 0, 0, 0, []) := rfl
theorem cd_2_57 : cd 2 57 = some (.getfield 44, 3, 0, 9, 0, []) := rfl
theorem cd_2_60 : cd 2 60 = some (.iconst (-1), 1, 0, 0, 0, []) := rfl
theorem cd_2_61 : cd 2 61 = some (.invokestatic 70, 3, 201, 2, 2, []) := rfl
theorem cd_2_64 : cd 2 64 = some (.aload_n 0, 1, 0, 0, 0, []) := rfl
theorem cd_2_65 : cd 2 65 = some (.getfield 47, 3, 0, 10, 0, []) := rfl
theorem cd_2_68 : cd 2 68 = some (.iconst 0, 1, 0, 0, 0, []) := rfl
theorem cd_2_69 : cd 2 69 = some (.invokestatic 70, 3, 201, 2, 2, []) := rfl
theorem cd_2_72 : cd 2 72 = some (.aload_n 0, 1, 0, 0, 0, []) := rfl
theorem cd_2_73 : cd 2 73 = some (.iconst 0, 1, 0, 0, 0, []) := rfl
theorem cd_2_74 : cd 2 74 = some (.putfield 79, 3, 0, 11, 0, []) := rfl
theorem cd_2_77 : cd 2 77 = some (.aload_n 0, 1, 0, 0, 0, []) := rfl
theorem cd_2_78 : cd 2 78 = some (.iconst 0, 1, 0, 0, 0, []) := rfl
theorem cd_2_79 : cd 2 79 = some (.putfield 83, 3, 0, 12, 0, []) := rfl
theorem cd_2_82 : cd 2 82 = some (.return_, 1, 0, 0, 0, []) := rfl
theorem cd_3_0 : cd 3 0 = some (.aload_n 0, 1, 0, 0, 0, []) := rfl
theorem cd_3_1 : cd 3 1 = some (.getfield 12, 3, 0, 0, 0, []) := rfl
theorem cd_3_4 : cd 3 4 = some (.aload_n 1, 1, 0, 0, 0, []) := rfl
theorem cd_3_5 : cd 3 5 = some (.iload_n 2, 1, 0, 0, 0, []) := rfl
theorem cd_3_6 : cd 3 6 = some (.invokevirtual 86, 3, 19, 3, 0, []) := rfl
theorem cd_3_9 : cd 3 9 = some (.iconst 0, 1, 0, 0, 0, []) := rfl
theorem cd_3_10 : cd 3 10 = some (.istore_n 3, 1, 0, 0, 0, []) := rfl
theorem cd_3_11 : cd 3 11 = some (.iload_n 3, 1, 0, 0, 0, [4, 5, 6]) := rfl
theorem cd_3_12 : cd 3 12 = some (.bipush 98, 2, 0, 0, 0, []) := rfl
theorem cd_3_14 : cd 3 14 = some (.if_icmp .ge 80, 3, 0, 0, 0, []) := rfl
theorem cd_3_17 : cd 3 17 = some (.aload_n 0, 1, 0, 0, 0, []) := rfl
theorem cd_3_18 : cd 3 18 = some (.getfield 12, 3, 0, 0, 0, []) := rfl
theorem cd_3_21 : cd 3 21 = some (.aload_n 1, 1, 0, 0, 0, []) := rfl
theorem cd_3_22 : cd 3 22 = some (.invokevirtual 89, 3, 21, 2, 0, []) := rfl
theorem cd_3_25 : cd 3 25 = some (.istore 4, 2, 0, 0, 0, []) := rfl
theorem cd_3_27 : cd 3 27 = some (.aload_n 1, 1, 0, 0, 0, []) := rfl
theorem cd_3_28 : cd 3 28 = some (.iload 4, 2, 0, 0, 0, []) := rfl
theorem cd_3_30 : cd 3 30 = some (.invokevirtual 93, 3, 53, 2, 0, []) := rfl
theorem cd_3_33 : cd 3 33 = some (.istore 5, 2, 0, 0, 0, []) := rfl
theorem cd_3_35 : cd 3 35 = some (.aload_n 0, 1, 0, 0, 0, []) := rfl
theorem cd_3_36 : cd 3 36 = some (.iload_n 2, 1, 0, 0, 0, []) := rfl
theorem cd_3_37 : cd 3 37 = some (.iload 4, 2, 0, 0, 0, []) := rfl
theorem cd_3_39 : cd 3 39 = some (.iload 5, 2, 0, 0, 0, []) := rfl
theorem cd_3_41 : cd 3 41 = some (.invokevirtual 96, 3, 4, 4, 0, []) := rfl
theorem cd_3_44 : cd 3 44 = some (.iload 5, 2, 0, 0, 0, []) := rfl
theorem cd_3_46 : cd 3 46 = some (.bipush 35, 2, 0, 0, 0, []) := rfl
theorem cd_3_48 : cd 3 48 = some (.if_icmp .ne 4, 3, 0, 0, 0, []) := rfl
theorem cd_3_51 : cd 3 51 = some (.return_, 1, 0, 0, 0, []) := rfl
theorem cd_3_52 : cd 3 52 = some (.aload_n 0, 1, 0, 0, 0, []) := rfl
theorem cd_3_53 : cd 3 53 = some (.getfield 12, 3, 0, 0, 0, []) := rfl
theorem cd_3_56 : cd 3 56 = some (.iload 5, 2, 0, 0, 0, []) := rfl
theorem cd_3_58 : cd 3 58 = some (.invokevirtual 100, 3, 22, 2, 0, []) := rfl
theorem cd_3_61 : cd 3 61 = some (.aload_n 0, 1, 0, 0, 0, []) := rfl
theorem cd_3_62 : cd 3 62 = some (.getfield 12, 3, 0, 0, 0, []) := rfl
theorem cd_3_65 : cd 3 65 = some (.aload_n 1, 1, 0, 0, 0, []) := rfl
theorem cd_3_66 : cd 3 66 = some (.invokevirtual 104, 3, 24, 2, 0, []) := rfl
theorem cd_3_69 : cd 3 69 = some (.istore 6, 2, 0, 0, 0, []) := rfl
theorem cd_3_71 : cd 3 71 = some (.iload 6, 2, 0, 0, 0, []) := rfl
theorem cd_3_73 : cd 3 73 = some (.iconst (-1), 1, 0, 0, 0, []) := rfl
theorem cd_3_74 : cd 3 74 = some (.if_icmp .eq 14, 3, 0, 0, 0, []) := rfl
theorem cd_3_77 : cd 3 77 = some (.aload_n 0, 1, 0, 0, 0, []) := rfl
theorem cd_3_78 : cd 3 78 = some (.getfield 18, 3, 0, 1, 0, []) := rfl
theorem cd_3_81 : cd 3 81 = some (.iload_n 2, 1, 0, 0, 0, []) := rfl
theorem cd_3_82 : cd 3 82 = some (.iload 6, 2, 0, 0, 0, []) := rfl
theorem cd_3_84 : cd 3 84 = some (.invokestatic 107, 3, 127, 3, 3, []) := rfl
theorem cd_3_87 : cd 3 87 = some (.return_, 1, 0, 0, 0, []) := rfl
theorem cd_3_88 : cd 3 88 = some (.iinc 3 1, 3, 0, 0, 0, []) := rfl
theorem cd_3_91 : cd 3 91 = some (.goto (-80), 3, 0, 0, 0, []) := rfl
theorem cd_3_94 : cd 3 94 = some (.return_, 1, 0, 0, 0, []) := rfl
theorem cd_4_0 : cd 4 0 = some (.aload_n 0, 1, 0, 0, 0, []) := rfl
theorem cd_4_1 : cd 4 1 = some (.getfield 22, 3, 0, 2, 0, []) := rfl
theorem cd_4_4 : cd 4 4 = some (.iload_n 1, 1, 0, 0, 0, []) := rfl
theorem cd_4_5 : cd 4 5 = some (.invokestatic 111, 3, 125, 2, 3, []) := rfl
theorem cd_4_8 : cd 4 8 = some (.istore 4, 2, 0, 0, 0, []) := rfl
theorem cd_4_10 : cd 4 10 = some (.aload_n 0, 1, 0, 0, 0, []) := rfl
theorem cd_4_11 : cd 4 11 = some (.getfield 38, 3, 0, 7, 0, []) := rfl
theorem cd_4_14 : cd 4 14 = some (.iload_n 1, 1, 0, 0, 0, []) := rfl
theorem cd_4_15 : cd 4 15 = some (.bipush 98, 2, 0, 0, 0, []) := rfl
theorem cd_4_17 : cd 4 17 = some (.imul, 1, 0, 0, 0, []) := rfl
theorem cd_4_18 : cd 4 18 = some (.iload 4, 2, 0, 0, 0, []) := rfl
theorem cd_4_20 : cd 4 20 = some (.iadd, 1, 0, 0, 0, []) := rfl
theorem cd_4_21 : cd 4 21 = some (.iload_n 2, 1, 0, 0, 0, []) := rfl
theorem cd_4_22 : cd 4 22 = some (.invokestatic 107, 3, 127, 3, 3, []) := rfl
theorem cd_4_25 : cd 4 25 = some (.aload_n 0, 1, 0, 0, 0, []) := rfl
theorem cd_4_26 : cd 4 26 = some (.getfield 22, 3, 0, 2, 0, []) := rfl
theorem cd_4_29 : cd 4 29 = some (.iload_n 1, 1, 0, 0, 0, []) := rfl
theorem cd_4_30 : cd 4 30 = some (.iload 4, 2, 0, 0, 0, []) := rfl
theorem cd_4_32 : cd 4 32 = some (.iconst 1, 1, 0, 0, 0, []) := rfl
theorem cd_4_33 : cd 4 33 = some (.iadd, 1, 0, 0, 0, []) := rfl
theorem cd_4_34 : cd 4 34 = some (.invokestatic 107, 3, 127, 3, 3, []) := rfl
theorem cd_4_37 : cd 4 37 = some (.aload_n 0, 1, 0, 0, 0, []) := rfl
theorem cd_4_38 : cd 4 38 = some (.getfield 25, 3, 0, 3, 0, []) := rfl
theorem cd_4_41 : cd 4 41 = some (.iload_n 1, 1, 0, 0, 0, []) := rfl
theorem cd_4_42 : cd 4 42 = some (.aload_n 0, 1, 0, 0, 0, []) := rfl
theorem cd_4_43 : cd 4 43 = some (.getfield 25, 3, 0, 3, 0, []) := rfl
theorem cd_4_46 : cd 4 46 = some (.iload_n 1, 1, 0, 0, 0, []) := rfl
theorem cd_4_47 : cd 4 47 = some (.invokestatic 111, 3, 125, 2, 3, []) := rfl
theorem cd_4_50 : cd 4 50 = some (.iload_n 3, 1, 0, 0, 0, []) := rfl
theorem cd_4_51 : cd 4 51 = some (.invokestatic 115, 3, 121, 1, 3, []) := rfl
theorem cd_4_54 : cd 4 54 = some (.ifCond .eq 7, 3, 0, 0, 0, []) := rfl
theorem cd_4_57 : cd 4 57 = some (.iconst 1, 1, 0, 0, 0, []) := rfl
theorem cd_4_58 : cd 4 58 = some (.goto 4, 3, 0, 0, 0, []) := rfl
theorem cd_4_61 : cd 4 61 = some (.iconst 0, 1, 0, 0, 0, []) := rfl
theorem cd_4_62 : cd 4 62 = some (.iadd, 1, 0, 0, 0, []) := rfl
theorem cd_4_63 : cd 4 63 = some (.invokestatic 107, 3, 127, 3, 3, []) := rfl
theorem cd_4_66 : cd 4 66 = some (.aload_n 0, 1, 0, 0, 0, []) := rfl
theorem cd_4_67 : cd 4 67 = some (.getfield 28, 3, 0, 4, 0, []) := rfl
theorem cd_4_70 : cd 4 70 = some (.iload_n 1, 1, 0, 0, 0, []) := rfl
theorem cd_4_71 : cd 4 71 = some (.aload_n 0, 1, 0, 0, 0, []) := rfl
theorem cd_4_72 : cd 4 72 = some (.getfield 28, 3, 0, 4, 0, []) := rfl
theorem cd_4_75 : cd 4 75 = some (.iload_n 1, 1, 0, 0, 0, []) := rfl
theorem cd_4_76 : cd 4 76 = some (.invokestatic 111, 3, 125, 2, 3, []) := rfl
theorem cd_4_79 : cd 4 79 = some (.iload_n 3, 1, 0, 0, 0, []) := rfl
theorem cd_4_80 : cd 4 80 = some (.invokestatic 119, 3, 120, 1, 3, []) := rfl
theorem cd_4_83 : cd 4 83 = some (.ifCond .eq 7, 3, 0, 0, 0, []) := rfl
theorem cd_4_86 : cd 4 86 = some (.iconst 1, 1, 0, 0, 0, []) := rfl
theorem cd_4_87 : cd 4 87 = some (.goto 4, 3, 0, 0, 0, []) := rfl
theorem cd_4_90 : cd 4 90 = some (.iconst 0, 1, 0, 0, 0, []) := rfl
theorem cd_4_91 : cd 4 91 = some (.iadd, 1, 0, 0, 0, []) := rfl
theorem cd_4_92 : cd 4 92 = some (.invokestatic 107, 3, 127, 3, 3, []) := rfl
theorem cd_4_95 : cd 4 95 = some (.aload_n 0, 1, 0, 0, 0, []) := rfl
theorem cd_4_96 : cd 4 96 = some (.getfield 31, 3, 0, 5, 0, []) := rfl
theorem cd_4_99 : cd 4 99 = some (.iload_n 1, 1, 0, 0, 0, []) := rfl
theorem cd_4_100 : cd 4 100 = some (.invokestatic 122, 3, 126, 2, 3, []) := rfl
theorem cd_4_103 : cd 4 103 = some (.lstore 5, 2, 0, 0, 0, []) := rfl
theorem cd_4_105 : cd 4 105 = some (.lconst 1, 1, 0, 0, 0, []) := rfl
theorem cd_4_106 : cd 4 106 = some (.iload_n 2, 1, 0, 0, 0, []) := rfl
theorem cd_4_107 : cd 4 107 = some (.lshl, 1, 0, 0, 0, []) := rfl
theorem cd_4_108 : cd 4 108 = some (.lstore 7, 2, 0, 0, 0, []) := rfl
theorem cd_4_110 : cd 4 110 = some (.aload_n 0, 1, 0, 0, 0, []) := rfl
theorem cd_4_111 : cd 4 111 = some (.getfield 35, 3, 0, 6, 0, []) := rfl
theorem cd_4_114 : cd 4 114 = some (.iload_n 1, 1, 0, 0, 0, []) := rfl
theorem cd_4_115 : cd 4 115 = some (.aload_n 0, 1, 0, 0, 0, []) := rfl
theorem cd_4_116 : cd 4 116 = some (.getfield 35, 3, 0, 6, 0, []) := rfl
theorem cd_4_119 : cd 4 119 = some (.iload_n 1, 1, 0, 0, 0, []) := rfl
theorem cd_4_120 : cd 4 120 = some (.invokestatic 122, 3, 126, 2, 3, []) := rfl
theorem cd_4_123 : cd 4 123 = some (.lload 5, 2, 0, 0, 0, []) := rfl
theorem cd_4_125 : cd 4 125 = some (.lload 7, 2, 0, 0, 0, []) := rfl
theorem cd_4_127 : cd 4 127 = some (.land, 1, 0, 0, 0, []) := rfl
theorem cd_4_128 : cd 4 128 = some (.lor, 1, 0, 0, 0, []) := rfl
theorem cd_4_129 : cd 4 129 = some (.invokestatic 125, 3, 128, 3, 3, []) := rfl
theorem cd_4_132 : cd 4 132 = some (.aload_n 0, 1, 0, 0, 0, []) := rfl
theorem cd_4_133 : cd 4 133 = some (.getfield 31, 3, 0, 5, 0, []) := rfl
theorem cd_4_136 : cd 4 136 = some (.iload_n 1, 1, 0, 0, 0, []) := rfl
theorem cd_4_137 : cd 4 137 = some (.lload 5, 2, 0, 0, 0, []) := rfl
theorem cd_4_139 : cd 4 139 = some (.lload 7, 2, 0, 0, 0, []) := rfl
theorem cd_4_141 : cd 4 141 = some (.lor, 1, 0, 0, 0, []) := rfl
theorem cd_4_142 : cd 4 142 = some (.invokestatic 125, 3, 128, 3, 3, []) := rfl
theorem cd_4_145 : cd 4 145 = some (.return_, 1, 0, 0, 0, []) := rfl
theorem cd_5_0 : cd 5 0 = some (.aload_n 0, 1, 0, 0, 0, []) := rfl
theorem cd_5_1 : cd 5 1 = some (.dup, 1, 0, 0, 0, []) := rfl
theorem cd_5_2 : cd 5 2 = some (.getfield 79, 3, 0, 11, 0, []) := rfl
theorem cd_5_5 : cd 5 5 = some (.iconst 1, 1, 0, 0, 0, []) := rfl
theorem cd_5_6 : cd 5 6 = some (.iadd, 1, 0, 0, 0, []) := rfl
theorem cd_5_7 : cd 5 7 = some (.putfield 79, 3, 0, 11, 0, []) := rfl
theorem cd_5_10 : cd 5 10 = some (.aload_n 0, 1, 0, 0, 0, []) := rfl
theorem cd_5_11 : cd 5 11 = some (.dup, 1, 0, 0, 0, []) := rfl
theorem cd_5_12 : cd 5 12 = some (.getfield 83, 3, 0, 12, 0, []) := rfl
theorem cd_5_15 : cd 5 15 = some (.aload_n 0, 1, 0, 0, 0, []) := rfl
theorem cd_5_16 : cd 5 16 = some (.iload_n 2, 1, 0, 0, 0, []) := rfl
theorem cd_5_17 : cd 5 17 = some (.invokevirtual 128, 3, 12, 2, 0, []) := rfl
theorem cd_5_20 : cd 5 20 = some (.ifCond .eq 7, 3, 0, 0, 0, []) := rfl
theorem cd_5_23 : cd 5 23 = some (.iconst 1, 1, 0, 0, 0, []) := rfl
theorem cd_5_24 : cd 5 24 = some (.goto 4, 3, 0, 0, 0, []) := rfl
theorem cd_5_27 : cd 5 27 = some (.iconst 0, 1, 0, 0, 0, []) := rfl
theorem cd_5_28 : cd 5 28 = some (.iadd, 1, 0, 0, 0, []) := rfl
theorem cd_5_29 : cd 5 29 = some (.putfield 83, 3, 0, 12, 0, []) := rfl
theorem cd_5_32 : cd 5 32 = some (.aload_n 0, 1, 0, 0, 0, []) := rfl
theorem cd_5_33 : cd 5 33 = some (.getfield 12, 3, 0, 0, 0, []) := rfl
theorem cd_5_36 : cd 5 36 = some (.aload_n 1, 1, 0, 0, 0, []) := rfl
theorem cd_5_37 : cd 5 37 = some (.iload_n 2, 1, 0, 0, 0, []) := rfl
theorem cd_5_38 : cd 5 38 = some (.invokevirtual 86, 3, 19, 3, 0, []) := rfl
theorem cd_5_41 : cd 5 41 = some (.iconst 0, 1, 0, 0, 0, []) := rfl
theorem cd_5_42 : cd 5 42 = some (.istore_n 3, 1, 0, 0, 0, []) := rfl
theorem cd_5_43 : cd 5 43 = some (.iload_n 3, 1, 0, 0, 0, [4, 5]) := rfl
theorem cd_5_44 : cd 5 44 = some (.aload_n 0, 1, 0, 0, 0, []) := rfl
theorem cd_5_45 : cd 5 45 = some (.iload_n 2, 1, 0, 0, 0, []) := rfl
theorem cd_5_46 : cd 5 46 = some (.invokevirtual 131, 3, 9, 2, 0, []) := rfl
theorem cd_5_49 : cd 5 49 = some (.if_icmp .ge 82, 3, 0, 0, 0, []) := rfl
theorem cd_5_52 : cd 5 52 = some (.aload_n 0, 1, 0, 0, 0, []) := rfl
theorem cd_5_53 : cd 5 53 = some (.iload_n 2, 1, 0, 0, 0, []) := rfl
theorem cd_5_54 : cd 5 54 = some (.iload_n 3, 1, 0, 0, 0, []) := rfl
theorem cd_5_55 : cd 5 55 = some (.invokevirtual 134, 3, 14, 3, 0, []) := rfl
theorem cd_5_58 : cd 5 58 = some (.istore 4, 2, 0, 0, 0, []) := rfl
theorem cd_5_60 : cd 5 60 = some (.aload_n 0, 1, 0, 0, 0, []) := rfl
theorem cd_5_61 : cd 5 61 = some (.getfield 12, 3, 0, 0, 0, []) := rfl
theorem cd_5_64 : cd 5 64 = some (.getfield 138, 3, 1, 2, 1, []) := rfl
theorem cd_5_67 : cd 5 67 = some (.iconst 3, 1, 0, 0, 0, []) := rfl
theorem cd_5_68 : cd 5 68 = some (.if_icmp .eq 14, 3, 0, 0, 0, []) := rfl
theorem cd_5_71 : cd 5 71 = some (.aload_n 0, 1, 0, 0, 0, []) := rfl
theorem cd_5_72 : cd 5 72 = some (.getfield 12, 3, 0, 0, 0, []) := rfl
theorem cd_5_75 : cd 5 75 = some (.getfield 138, 3, 1, 2, 1, []) := rfl
theorem cd_5_78 : cd 5 78 = some (.iconst 1, 1, 0, 0, 0, []) := rfl
theorem cd_5_79 : cd 5 79 = some (.if_icmp .ne 7, 3, 0, 0, 0, []) := rfl
theorem cd_5_82 : cd 5 82 = some (.iconst 1, 1, 0, 0, 0, []) := rfl
theorem cd_5_83 : cd 5 83 = some (.goto 4, 3, 0, 0, 0, []) := rfl
theorem cd_5_86 : cd 5 86 = some (.iconst 0, 1, 0, 0, 0, []) := rfl
theorem cd_5_87 : cd 5 87 = some (.istore 5, 2, 0, 0, 0, []) := rfl
theorem cd_5_89 : cd 5 89 = some (.aload_n 0, 1, 0, 0, 0, []) := rfl
theorem cd_5_90 : cd 5 90 = some (.iload 5, 2, 0, 0, 0, []) := rfl
theorem cd_5_92 : cd 5 92 = some (.ifCond .eq 10, 3, 0, 0, 0, []) := rfl
theorem cd_5_95 : cd 5 95 = some (.aload_n 0, 1, 0, 0, 0, []) := rfl
theorem cd_5_96 : cd 5 96 = some (.getfield 41, 3, 0, 8, 0, []) := rfl
theorem cd_5_99 : cd 5 99 = some (.goto 7, 3, 0, 0, 0, []) := rfl
theorem cd_5_102 : cd 5 102 = some (.aload_n 0, 1, 0, 0, 0, []) := rfl
theorem cd_5_103 : cd 5 103 = some (.getfield 44, 3, 0, 9, 0, []) := rfl
theorem cd_5_106 : cd 5 106 = some (.iload 4, 2, 0, 0, 0, []) := rfl
theorem cd_5_108 : cd 5 108 = some (.iload_n 2, 1, 0, 0, 0, []) := rfl
theorem cd_5_109 : cd 5 109 = some (.invokevirtual 141, 3, 6, 4, 0, []) := rfl
theorem cd_5_112 : cd 5 112 = some (.aload_n 0, 1, 0, 0, 0, []) := rfl
theorem cd_5_113 : cd 5 113 = some (.getfield 12, 3, 0, 0, 0, []) := rfl
theorem cd_5_116 : cd 5 116 = some (.aload_n 1, 1, 0, 0, 0, []) := rfl
theorem cd_5_117 : cd 5 117 = some (.iload 4, 2, 0, 0, 0, []) := rfl
theorem cd_5_119 : cd 5 119 = some (.invokevirtual 93, 3, 53, 2, 0, []) := rfl
theorem cd_5_122 : cd 5 122 = some (.invokevirtual 100, 3, 22, 2, 0, []) := rfl
theorem cd_5_125 : cd 5 125 = some (.iinc 3 1, 3, 0, 0, 0, []) := rfl
theorem cd_5_128 : cd 5 128 = some (.goto (-85), 3, 0, 0, 0, []) := rfl
theorem cd_5_131 : cd 5 131 = some (.return_, 1, 0, 0, 0, []) := rfl
theorem cd_6_0 : cd 6 0 = some (.aload_n 1, 1, 0, 0, 0, []) := rfl
theorem cd_6_1 : cd 6 1 = some (.iload_n 2, 1, 0, 0, 0, []) := rfl
theorem cd_6_2 : cd 6 2 = some (.invokestatic 111, 3, 125, 2, 3, []) := rfl
theorem cd_6_5 : cd 6 5 = some (.iconst (-1), 1, 0, 0, 0, []) := rfl
theorem cd_6_6 : cd 6 6 = some (.if_icmp .ne 9, 3, 0, 0, 0, []) := rfl
theorem cd_6_9 : cd 6 9 = some (.aload_n 1, 1, 0, 0, 0, []) := rfl
theorem cd_6_10 : cd 6 10 = some (.iload_n 2, 1, 0, 0, 0, []) := rfl
theorem cd_6_11 : cd 6 11 = some (.iload_n 3, 1, 0, 0, 0, []) := rfl
theorem cd_6_12 : cd 6 12 = some (.invokestatic 107, 3, 127, 3, 3, []) := rfl
theorem cd_6_15 : cd 6 15 = some (.aload_n 0, 1, 0, 0, 0, []) := rfl
theorem cd_6_16 : cd 6 16 = some (.getfield 47, 3, 0, 10, 0, []) := rfl
theorem cd_6_19 : cd 6 19 = some (.iload_n 2, 1, 0, 0, 0, []) := rfl
theorem cd_6_20 : cd 6 20 = some (.aload_n 0, 1, 0, 0, 0, []) := rfl
theorem cd_6_21 : cd 6 21 = some (.getfield 47, 3, 0, 10, 0, []) := rfl
theorem cd_6_24 : cd 6 24 = some (.iload_n 2, 1, 0, 0, 0, []) := rfl
theorem cd_6_25 : cd 6 25 = some (.invokestatic 111, 3, 125, 2, 3, []) := rfl
theorem cd_6_28 : cd 6 28 = some (.iconst 1, 1, 0, 0, 0, []) := rfl
theorem cd_6_29 : cd 6 29 = some (.iadd, 1, 0, 0, 0, []) := rfl
theorem cd_6_30 : cd 6 30 = some (.invokestatic 107, 3, 127, 3, 3, []) := rfl
theorem cd_6_33 : cd 6 33 = some (.return_, 1, 0, 0, 0, []) := rfl
theorem cd_7_0 : cd 7 0 = some (.aload_n 0, 1, 0, 0, 0, []) := rfl
theorem cd_7_1 : cd 7 1 = some (.getfield 18, 3, 0, 1, 0, []) := rfl
theorem cd_7_4 : cd 7 4 = some (.iload_n 1, 1, 0, 0, 0, []) := rfl
theorem cd_7_5 : cd 7 5 = some (.invokestatic 111, 3, 125, 2, 3, []) := rfl
theorem cd_7_8 : cd 7 8 = some (.istore_n 2, 1, 0, 0, 0, []) := rfl
theorem cd_7_9 : cd 7 9 = some (.iload_n 2, 1, 0, 0, 0, []) := rfl
theorem cd_7_10 : cd 7 10 = some (.iconst (-1), 1, 0, 0, 0, []) := rfl
theorem cd_7_11 : cd 7 11 = some (.if_icmp .ne 7, 3, 0, 0, 0, []) := rfl
theorem cd_7_14 : cd 7 14 = some (.iload_n 1, 1, 0, 0, 0, []) := rfl
theorem cd_7_15 : cd 7 15 = some (.goto 8, 3, 0, 0, 0, []) := rfl
theorem cd_7_18 : cd 7 18 = some (.iload_n 1, 1, 0, 0, 0, []) := rfl
theorem cd_7_19 : cd 7 19 = some (.iload_n 2, 1, 0, 0, 0, []) := rfl
theorem cd_7_20 : cd 7 20 = some (.invokestatic 144, 3, 0, 2, 9, []) := rfl
theorem cd_7_23 : cd 7 23 = some (.ireturn, 1, 0, 0, 0, []) := rfl
theorem cd_8_0 : cd 8 0 = some (.aload_n 0, 1, 0, 0, 0, []) := rfl
theorem cd_8_1 : cd 8 1 = some (.getfield 18, 3, 0, 1, 0, []) := rfl
theorem cd_8_4 : cd 8 4 = some (.iload_n 1, 1, 0, 0, 0, []) := rfl
theorem cd_8_5 : cd 8 5 = some (.invokestatic 111, 3, 125, 2, 3, []) := rfl
theorem cd_8_8 : cd 8 8 = some (.ireturn, 1, 0, 0, 0, []) := rfl
theorem cd_9_0 : cd 9 0 = some (.aload_n 0, 1, 0, 0, 0, []) := rfl
theorem cd_9_1 : cd 9 1 = some (.getfield 22, 3, 0, 2, 0, []) := rfl
theorem cd_9_4 : cd 9 4 = some (.iload_n 1, 1, 0, 0, 0, []) := rfl
theorem cd_9_5 : cd 9 5 = some (.invokestatic 111, 3, 125, 2, 3, []) := rfl
theorem cd_9_8 : cd 9 8 = some (.ireturn, 1, 0, 0, 0, []) := rfl
theorem cd_10_0 : cd 10 0 = some (.aload_n 0, 1, 0, 0, 0, []) := rfl
theorem cd_10_1 : cd 10 1 = some (.getfield 25, 3, 0, 3, 0, []) := rfl
theorem cd_10_4 : cd 10 4 = some (.iload_n 1, 1, 0, 0, 0, []) := rfl
theorem cd_10_5 : cd 10 5 = some (.invokestatic 111, 3, 125, 2, 3, []) := rfl
theorem cd_10_8 : cd 10 8 = some (.ireturn, 1, 0, 0, 0, []) := rfl
theorem cd_11_0 : cd 11 0 = some (.aload_n 0, 1, 0, 0, 0, []) := rfl
theorem cd_11_1 : cd 11 1 = some (.getfield 28, 3, 0, 4, 0, []) := rfl
theorem cd_11_4 : cd 11 4 = some (.iload_n 1, 1, 0, 0, 0, []) := rfl
theorem cd_11_5 : cd 11 5 = some (.invokestatic 111, 3, 125, 2, 3, []) := rfl
theorem cd_11_8 : cd 11 8 = some (.ireturn, 1, 0, 0, 0, []) := rfl
theorem cd_12_0 : cd 12 0 = some (.aload_n 0, 1, 0, 0, 0, []) := rfl
theorem cd_12_1 : cd 12 1 = some (.getfield 35, 3, 0, 6, 0, []) := rfl
theorem cd_12_4 : cd 12 4 = some (.iload_n 1, 1, 0, 0, 0, []) := rfl
theorem cd_12_5 : cd 12 5 = some (.invokestatic 122, 3, 126, 2, 3, []) := rfl
theorem cd_12_8 : cd 12 8 = some (.lconst 0, 1, 0, 0, 0, []) := rfl
theorem cd_12_9 : cd 12 9 = some (.lcmp, 1, 0, 0, 0, []) := rfl
theorem cd_12_10 : cd 12 10 = some (.ifCond .eq 7, 3, 0, 0, 0, []) := rfl
theorem cd_12_13 : cd 12 13 = some (.iconst 1, 1, 0, 0, 0, []) := rfl
theorem cd_12_14 : cd 12 14 = some (.goto 4, 3, 0, 0, 0, []) := rfl
theorem cd_12_17 : cd 12 17 = some (.iconst 0, 1, 0, 0, 0, []) := rfl
theorem cd_12_18 : cd 12 18 = some (.ireturn, 1, 0, 0, 0, []) := rfl
theorem cd_13_0 : cd 13 0 = some (.aload_n 0, 1, 0, 0, 0, []) := rfl
theorem cd_13_1 : cd 13 1 = some (.getfield 31, 3, 0, 5, 0, []) := rfl
theorem cd_13_4 : cd 13 4 = some (.iload_n 1, 1, 0, 0, 0, []) := rfl
theorem cd_13_5 : cd 13 5 = some (.invokestatic 122, 3, 126, 2, 3, []) := rfl
theorem cd_13_8 : cd 13 8 = some (.lreturn, 1, 0, 0, 0, []) := rfl
theorem cd_14_0 : cd 14 0 = some (.aload_n 0, 1, 0, 0, 0, []) := rfl
theorem cd_14_1 : cd 14 1 = some (.getfield 38, 3, 0, 7, 0, []) := rfl
theorem cd_14_4 : cd 14 4 = some (.iload_n 1, 1, 0, 0, 0, []) := rfl
theorem cd_14_5 : cd 14 5 = some (.bipush 98, 2, 0, 0, 0, []) := rfl
theorem cd_14_7 : cd 14 7 = some (.imul, 1, 0, 0, 0, []) := rfl
theorem cd_14_8 : cd 14 8 = some (.iload_n 2, 1, 0, 0, 0, []) := rfl
theorem cd_14_9 : cd 14 9 = some (.iadd, 1, 0, 0, 0, []) := rfl
theorem cd_14_10 : cd 14 10 = some (.invokestatic 111, 3, 125, 2, 3, []) := rfl
theorem cd_14_13 : cd 14 13 = some (.ireturn, 1, 0, 0, 0, []) := rfl
theorem cd_15_0 : cd 15 0 = some (.aload_n 0, 1, 0, 0, 0, []) := rfl
theorem cd_15_1 : cd 15 1 = some (.getfield 41, 3, 0, 8, 0, []) := rfl
theorem cd_15_4 : cd 15 4 = some (.iload_n 1, 1, 0, 0, 0, []) := rfl
theorem cd_15_5 : cd 15 5 = some (.invokestatic 111, 3, 125, 2, 3, []) := rfl
theorem cd_15_8 : cd 15 8 = some (.ireturn, 1, 0, 0, 0, []) := rfl
theorem cd_16_0 : cd 16 0 = some (.aload_n 0, 1, 0, 0, 0, []) := rfl
theorem cd_16_1 : cd 16 1 = some (.getfield 44, 3, 0, 9, 0, []) := rfl
theorem cd_16_4 : cd 16 4 = some (.iload_n 1, 1, 0, 0, 0, []) := rfl
theorem cd_16_5 : cd 16 5 = some (.invokestatic 111, 3, 125, 2, 3, []) := rfl
theorem cd_16_8 : cd 16 8 = some (.ireturn, 1, 0, 0, 0, []) := rfl
theorem cd_17_0 : cd 17 0 = some (.aload_n 0, 1, 0, 0, 0, []) := rfl
theorem cd_17_1 : cd 17 1 = some (.getfield 47, 3, 0, 10, 0, []) := rfl
theorem cd_17_4 : cd 17 4 = some (.iload_n 1, 1, 0, 0, 0, []) := rfl
theorem cd_17_5 : cd 17 5 = some (.invokestatic 111, 3, 125, 2, 3, []) := rfl
theorem cd_17_8 : cd 17 8 = some (.ireturn, 1, 0, 0, 0, []) := rfl
theorem cd_18_0 : cd 18 0 = some (.aload_n 0, 1, 0, 0, 0, []) := rfl
theorem cd_18_1 : cd 18 1 = some (.invokespecial 3, 3, 0, 1, 6, []) := rfl
theorem cd_18_4 : cd 18 4 = some (.return_, 1, 0, 0, 0, []) := rfl
theorem cd_19_0 : cd 19 0 = some (.aload_n 1, 1, 0, 0, 0, []) := rfl
theorem cd_19_1 : cd 19 1 = some (.getfield 9, 3, 5, 0, 1, []) := rfl
theorem cd_19_4 : cd 19 4 = some (.istore_n 3, 1, 0, 0, 0, []) := rfl
theorem cd_19_5 : cd 19 5 = some (.aload_n 1, 1, 0, 0, 0, []) := rfl
theorem cd_19_6 : cd 19 6 = some (.getfield 15, 3, 5, 1, 1, []) := rfl
theorem cd_19_9 : cd 19 9 = some (.istore 4, 2, 0, 0, 0, []) := rfl
theorem cd_19_11 : cd 19 11 = some (.iload_n 2, 1, 0, 0, 0, []) := rfl
theorem cd_19_12 : cd 19 12 = some (.iload_n 3, 1, 0, 0, 0, []) := rfl
theorem cd_19_13 : cd 19 13 = some (.if_icmp .ge 13, 3, 0, 0, 0, []) := rfl
theorem cd_19_16 : cd 19 16 = some (.aload_n 0, 1, 0, 0, 0, []) := rfl
theorem cd_19_17 : cd 19 17 = some (.iconst 0, 1, 0, 0, 0, []) := rfl
theorem cd_19_18 : cd 19 18 = some (.iload_n 2, 1, 0, 0, 0, []) := rfl
theorem cd_19_19 : cd 19 19 = some (.iconst 2, 1, 0, 0, 0, []) := rfl
theorem cd_19_20 : cd 19 20 = some (.invokevirtual 18, 3, 20, 4, 0, []) := rfl
theorem cd_19_23 : cd 19 23 = some (.goto 67, 3, 0, 0, 0, []) := rfl
theorem cd_19_26 : cd 19 26 = some (.iload_n 2, 1, 0, 0, 0, []) := rfl
theorem cd_19_27 : cd 19 27 = some (.iload_n 3, 1, 0, 0, 0, []) := rfl
theorem cd_19_28 : cd 19 28 = some (.iload 4, 2, 0, 0, 0, []) := rfl
theorem cd_19_30 : cd 19 30 = some (.iadd, 1, 0, 0, 0, []) := rfl
theorem cd_19_31 : cd 19 31 = some (.if_icmp .ge 17, 3, 0, 0, 0, []) := rfl
theorem cd_19_34 : cd 19 34 = some (.aload_n 0, 1, 0, 0, 0, []) := rfl
theorem cd_19_35 : cd 19 35 = some (.iload_n 2, 1, 0, 0, 0, []) := rfl
theorem cd_19_36 : cd 19 36 = some (.iload_n 3, 1, 0, 0, 0, []) := rfl
theorem cd_19_37 : cd 19 37 = some (.isub, 1, 0, 0, 0, []) := rfl
theorem cd_19_38 : cd 19 38 = some (.iload_n 3, 1, 0, 0, 0, []) := rfl
theorem cd_19_39 : cd 19 39 = some (.iconst 1, 1, 0, 0, 0, []) := rfl
theorem cd_19_40 : cd 19 40 = some (.isub, 1, 0, 0, 0, []) := rfl
theorem cd_19_41 : cd 19 41 = some (.iconst 3, 1, 0, 0, 0, []) := rfl
theorem cd_19_42 : cd 19 42 = some (.invokevirtual 18, 3, 20, 4, 0, []) := rfl
theorem cd_19_45 : cd 19 45 = some (.goto 45, 3, 0, 0, 0, []) := rfl
theorem cd_19_48 : cd 19 48 = some (.iload_n 2, 1, 0, 0, 0, []) := rfl
theorem cd_19_49 : cd 19 49 = some (.iconst 2, 1, 0, 0, 0, []) := rfl
theorem cd_19_50 : cd 19 50 = some (.iload_n 3, 1, 0, 0, 0, []) := rfl
theorem cd_19_51 : cd 19 51 = some (.imul, 1, 0, 0, 0, []) := rfl
theorem cd_19_52 : cd 19 52 = some (.iload 4, 2, 0, 0, 0, []) := rfl
theorem cd_19_54 : cd 19 54 = some (.iadd, 1, 0, 0, 0, []) := rfl
theorem cd_19_55 : cd 19 55 = some (.if_icmp .ge 21, 3, 0, 0, 0, []) := rfl
theorem cd_19_58 : cd 19 58 = some (.aload_n 0, 1, 0, 0, 0, []) := rfl
theorem cd_19_59 : cd 19 59 = some (.iload 4, 2, 0, 0, 0, []) := rfl
theorem cd_19_61 : cd 19 61 = some (.iconst 1, 1, 0, 0, 0, []) := rfl
theorem cd_19_62 : cd 19 62 = some (.isub, 1, 0, 0, 0, []) := rfl
theorem cd_19_63 : cd 19 63 = some (.iload_n 2, 1, 0, 0, 0, []) := rfl
theorem cd_19_64 : cd 19 64 = some (.iload_n 3, 1, 0, 0, 0, []) := rfl
theorem cd_19_65 : cd 19 65 = some (.isub, 1, 0, 0, 0, []) := rfl
theorem cd_19_66 : cd 19 66 = some (.iload 4, 2, 0, 0, 0, []) := rfl
theorem cd_19_68 : cd 19 68 = some (.isub, 1, 0, 0, 0, []) := rfl
theorem cd_19_69 : cd 19 69 = some (.iconst 0, 1, 0, 0, 0, []) := rfl
theorem cd_19_70 : cd 19 70 = some (.invokevirtual 18, 3, 20, 4, 0, []) := rfl
theorem cd_19_73 : cd 19 73 = some (.goto 17, 3, 0, 0, 0, []) := rfl
theorem cd_19_76 : cd 19 76 = some (.aload_n 0, 1, 0, 0, 0, []) := rfl
theorem cd_19_77 : cd 19 77 = some (.iload_n 2, 1, 0, 0, 0, []) := rfl
theorem cd_19_78 : cd 19 78 = some (.iconst 2, 1, 0, 0, 0, []) := rfl
theorem cd_19_79 : cd 19 79 = some (.iload_n 3, 1, 0, 0, 0, []) := rfl
theorem cd_19_80 : cd 19 80 = some (.imul, 1, 0, 0, 0, []) := rfl
theorem cd_19_81 : cd 19 81 = some (.isub, 1, 0, 0, 0, []) := rfl
theorem cd_19_82 : cd 19 82 = some (.iload 4, 2, 0, 0, 0, []) := rfl
theorem cd_19_84 : cd 19 84 = some (.isub, 1, 0, 0, 0, []) := rfl
theorem cd_19_85 : cd 19 85 = some (.iconst 0, 1, 0, 0, 0, []) := rfl
theorem cd_19_86 : cd 19 86 = some (.iconst 1, 1, 0, 0, 0, []) := rfl
theorem cd_19_87 : cd 19 87 = some (.invokevirtual 18, 3, 20, 4, 0, []) := rfl
theorem cd_19_90 : cd 19 90 = some (.return_, 1, 0, 0, 0, []) := rfl
theorem cd_20_0 : cd 20 0 = some (.aload_n 0, 1, 0, 0, 0, []) := rfl
theorem cd_20_1 : cd 20 1 = some (.iload_n 1, 1, 0, 0, 0, []) := rfl
theorem cd_20_2 : cd 20 2 = some (.putfield 24, 3, 1, 0, 0, []) := rfl
theorem cd_20_5 : cd 20 5 = some (.aload_n 0, 1, 0, 0, 0, []) := rfl
theorem cd_20_6 : cd 20 6 = some (.iload_n 2, 1, 0, 0, 0, []) := rfl
theorem cd_20_7 : cd 20 7 = some (.putfield 27, 3, 1, 1, 0, []) := rfl
theorem cd_20_10 : cd 20 10 = some (.aload_n 0, 1, 0, 0, 0, []) := rfl
theorem cd_20_11 : cd 20 11 = some (.iload_n 3, 1, 0, 0, 0, []) := rfl
theorem cd_20_12 : cd 20 12 = some (.putfield 30, 3, 1, 2, 0, []) := rfl
theorem cd_20_15 : cd 20 15 = some (.return_, 1, 0, 0, 0, []) := rfl
theorem cd_21_0 : cd 21 0 = some (.aload_n 0, 1, 0, 0, 0, []) := rfl
theorem cd_21_1 : cd 21 1 = some (.getfield 24, 3, 1, 0, 0, []) := rfl
theorem cd_21_4 : cd 21 4 = some (.aload_n 1, 1, 0, 0, 0, []) := rfl
theorem cd_21_5 : cd 21 5 = some (.getfield 9, 3, 5, 0, 1, []) := rfl
theorem cd_21_8 : cd 21 8 = some (.imul, 1, 0, 0, 0, []) := rfl
theorem cd_21_9 : cd 21 9 = some (.aload_n 0, 1, 0, 0, 0, []) := rfl
theorem cd_21_10 : cd 21 10 = some (.getfield 27, 3, 1, 1, 0, []) := rfl
theorem cd_21_13 : cd 21 13 = some (.iadd, 1, 0, 0, 0, []) := rfl
theorem cd_21_14 : cd 21 14 = some (.ireturn, 1, 0, 0, 0, []) := rfl
theorem cd_22_0 : cd 22 0 = some (.aload_n 0, 1, 0, 0, 0, []) := rfl
theorem cd_22_1 : cd 22 1 = some (.aload_n 0, 1, 0, 0, 0, []) := rfl
theorem cd_22_2 : cd 22 2 = some (.iload_n 1, 1, 0, 0, 0, []) := rfl
theorem cd_22_3 : cd 22 3 = some (.invokevirtual 33, 3, 23, 2, 0, []) := rfl
theorem cd_22_6 : cd 22 6 = some (.putfield 30, 3, 1, 2, 0, []) := rfl
theorem cd_22_9 : cd 22 9 = some (.aload_n 0, 1, 0, 0, 0, []) := rfl
theorem cd_22_10 : cd 22 10 = some (.getfield 30, 3, 1, 2, 0, []) := rfl
theorem cd_22_13 : cd 22 13 = some (.tableswitch 66 0 2 #[27, 40, 53], 27, 0, 0, 0, []) := rfl
theorem cd_22_40 : cd 22 40 = some (.aload_n 0, 1, 0, 0, 0, []) := rfl
theorem cd_22_41 : cd 22 41 = some (.dup, 1, 0, 0, 0, []) := rfl
theorem cd_22_42 : cd 22 42 = some (.getfield 24, 3, 1, 0, 0, []) := rfl
theorem cd_22_45 : cd 22 45 = some (.iconst 1, 1, 0, 0, 0, []) := rfl
theorem cd_22_46 : cd 22 46 = some (.isub, 1, 0, 0, 0, []) := rfl
theorem cd_22_47 : cd 22 47 = some (.putfield 24, 3, 1, 0, 0, []) := rfl
theorem cd_22_50 : cd 22 50 = some (.goto 39, 3, 0, 0, 0, []) := rfl
theorem cd_22_53 : cd 22 53 = some (.aload_n 0, 1, 0, 0, 0, []) := rfl
theorem cd_22_54 : cd 22 54 = some (.dup, 1, 0, 0, 0, []) := rfl
theorem cd_22_55 : cd 22 55 = some (.getfield 27, 3, 1, 1, 0, []) := rfl
theorem cd_22_58 : cd 22 58 = some (.iconst 1, 1, 0, 0, 0, []) := rfl
theorem cd_22_59 : cd 22 59 = some (.iadd, 1, 0, 0, 0, []) := rfl
theorem cd_22_60 : cd 22 60 = some (.putfield 27, 3, 1, 1, 0, []) := rfl
theorem cd_22_63 : cd 22 63 = some (.goto 26, 3, 0, 0, 0, []) := rfl
theorem cd_22_66 : cd 22 66 = some (.aload_n 0, 1, 0, 0, 0, []) := rfl
theorem cd_22_67 : cd 22 67 = some (.dup, 1, 0, 0, 0, []) := rfl
theorem cd_22_68 : cd 22 68 = some (.getfield 24, 3, 1, 0, 0, []) := rfl
theorem cd_22_71 : cd 22 71 = some (.iconst 1, 1, 0, 0, 0, []) := rfl
theorem cd_22_72 : cd 22 72 = some (.iadd, 1, 0, 0, 0, []) := rfl
theorem cd_22_73 : cd 22 73 = some (.putfield 24, 3, 1, 0, 0, []) := rfl
theorem cd_22_76 : cd 22 76 = some (.goto 13, 3, 0, 0, 0, []) := rfl
theorem cd_22_79 : cd 22 79 = some (.aload_n 0, 1, 0, 0, 0, []) := rfl
theorem cd_22_80 : cd 22 80 = some (.dup, 1, 0, 0, 0, []) := rfl
theorem cd_22_81 : cd 22 81 = some (.getfield 27, 3, 1, 1, 0, []) := rfl
theorem cd_22_84 : cd 22 84 = some (.iconst 1, 1, 0, 0, 0, []) := rfl
theorem cd_22_85 : cd 22 85 = some (.isub, 1, 0, 0, 0, []) := rfl
theorem cd_22_86 : cd 22 86 = some (.putfield 27, 3, 1, 1, 0, []) := rfl
theorem cd_22_89 : cd 22 89 = some (.return_, 1, 0, 0, 0, []) := rfl
theorem cd_23_0 : cd 23 0 = some (.iload_n 1, 1, 0, 0, 0, []) := rfl
theorem cd_23_1 : cd 23 1 = some (.bipush 47, 2, 0, 0, 0, []) := rfl
theorem cd_23_3 : cd 23 3 = some (.if_icmp .ne 40, 3, 0, 0, 0, []) := rfl
theorem cd_23_6 : cd 23 6 = some (.aload_n 0, 1, 0, 0, 0, []) := rfl
theorem cd_23_7 : cd 23 7 = some (.getfield 30, 3, 1, 2, 0, []) := rfl
theorem cd_23_10 : cd 23 10 = some (.ifCond .ne 7, 3, 0, 0, 0, []) := rfl
theorem cd_23_13 : cd 23 13 = some (.iconst 1, 1, 0, 0, 0, []) := rfl
theorem cd_23_14 : cd 23 14 = some (.goto 28, 3, 0, 0, 0, []) := rfl
theorem cd_23_17 : cd 23 17 = some (.aload_n 0, 1, 0, 0, 0, []) := rfl
theorem cd_23_18 : cd 23 18 = some (.getfield 30, 3, 1, 2, 0, []) := rfl
theorem cd_23_21 : cd 23 21 = some (.iconst 1, 1, 0, 0, 0, []) := rfl
theorem cd_23_22 : cd 23 22 = some (.if_icmp .ne 7, 3, 0, 0, 0, []) := rfl
theorem cd_23_25 : cd 23 25 = some (.iconst 0, 1, 0, 0, 0, []) := rfl
theorem cd_23_26 : cd 23 26 = some (.goto 16, 3, 0, 0, 0, []) := rfl
theorem cd_23_29 : cd 23 29 = some (.aload_n 0, 1, 0, 0, 0, []) := rfl
theorem cd_23_30 : cd 23 30 = some (.getfield 30, 3, 1, 2, 0, []) := rfl
theorem cd_23_33 : cd 23 33 = some (.iconst 2, 1, 0, 0, 0, []) := rfl
theorem cd_23_34 : cd 23 34 = some (.if_icmp .ne 7, 3, 0, 0, 0, []) := rfl
theorem cd_23_37 : cd 23 37 = some (.iconst 3, 1, 0, 0, 0, []) := rfl
theorem cd_23_38 : cd 23 38 = some (.goto 4, 3, 0, 0, 0, []) := rfl
theorem cd_23_41 : cd 23 41 = some (.iconst 2, 1, 0, 0, 0, []) := rfl
theorem cd_23_42 : cd 23 42 = some (.ireturn, 1, 0, 0, 0, []) := rfl
theorem cd_23_43 : cd 23 43 = some (.iload_n 1, 1, 0, 0, 0, []) := rfl
theorem cd_23_44 : cd 23 44 = some (.bipush 92, 2, 0, 0, 0, []) := rfl
theorem cd_23_46 : cd 23 46 = some (.if_icmp .ne 40, 3, 0, 0, 0, []) := rfl
theorem cd_23_49 : cd 23 49 = some (.aload_n 0, 1, 0, 0, 0, []) := rfl
theorem cd_23_50 : cd 23 50 = some (.getfield 30, 3, 1, 2, 0, []) := rfl
theorem cd_23_53 : cd 23 53 = some (.ifCond .ne 7, 3, 0, 0, 0, []) := rfl
theorem cd_23_56 : cd 23 56 = some (.iconst 3, 1, 0, 0, 0, []) := rfl
theorem cd_23_57 : cd 23 57 = some (.goto 28, 3, 0, 0, 0, []) := rfl
theorem cd_23_60 : cd 23 60 = some (.aload_n 0, 1, 0, 0, 0, []) := rfl
theorem cd_23_61 : cd 23 61 = some (.getfield 30, 3, 1, 2, 0, []) := rfl
theorem cd_23_64 : cd 23 64 = some (.iconst 3, 1, 0, 0, 0, []) := rfl
theorem cd_23_65 : cd 23 65 = some (.if_icmp .ne 7, 3, 0, 0, 0, []) := rfl
theorem cd_23_68 : cd 23 68 = some (.iconst 0, 1, 0, 0, 0, []) := rfl
theorem cd_23_69 : cd 23 69 = some (.goto 16, 3, 0, 0, 0, []) := rfl
theorem cd_23_72 : cd 23 72 = some (.aload_n 0, 1, 0, 0, 0, []) := rfl
theorem cd_23_73 : cd 23 73 = some (.getfield 30, 3, 1, 2, 0, []) := rfl
theorem cd_23_76 : cd 23 76 = some (.iconst 2, 1, 0, 0, 0, []) := rfl
theorem cd_23_77 : cd 23 77 = some (.if_icmp .ne 7, 3, 0, 0, 0, []) := rfl
theorem cd_23_80 : cd 23 80 = some (.iconst 1, 1, 0, 0, 0, []) := rfl
theorem cd_23_81 : cd 23 81 = some (.goto 4, 3, 0, 0, 0, []) := rfl
theorem cd_23_84 : cd 23 84 = some (.iconst 2, 1, 0, 0, 0, []) := rfl
theorem cd_23_85 : cd 23 85 = some (.ireturn, 1, 0, 0, 0, []) := rfl
theorem cd_23_86 : cd 23 86 = some (.aload_n 0, 1, 0, 0, 0, []) := rfl
theorem cd_23_87 : cd 23 87 = some (.getfield 30, 3, 1, 2, 0, []) := rfl
theorem cd_23_90 : cd 23 90 = some (.ireturn, 1, 0, 0, 0, []) := rfl
theorem cd_24_0 : cd 24 0 = some (.aload_n 1, 1, 0, 0, 0, []) := rfl
theorem cd_24_1 : cd 24 1 = some (.getfield 9, 3, 5, 0, 1, []) := rfl
theorem cd_24_4 : cd 24 4 = some (.istore_n 2, 1, 0, 0, 0, []) := rfl
theorem cd_24_5 : cd 24 5 = some (.aload_n 1, 1, 0, 0, 0, []) := rfl
theorem cd_24_6 : cd 24 6 = some (.getfield 15, 3, 5, 1, 1, []) := rfl
theorem cd_24_9 : cd 24 9 = some (.istore_n 3, 1, 0, 0, 0, []) := rfl
theorem cd_24_10 : cd 24 10 = some (.aload_n 0, 1, 0, 0, 0, []) := rfl
theorem cd_24_11 : cd 24 11 = some (.getfield 24, 3, 1, 0, 0, []) := rfl
theorem cd_24_14 : cd 24 14 = some (.ifCond .ge 8, 3, 0, 0, 0, []) := rfl
theorem cd_24_17 : cd 24 17 = some (.aload_n 0, 1, 0, 0, 0, []) := rfl
theorem cd_24_18 : cd 24 18 = some (.getfield 27, 3, 1, 1, 0, []) := rfl
theorem cd_24_21 : cd 24 21 = some (.ireturn, 1, 0, 0, 0, []) := rfl
theorem cd_24_22 : cd 24 22 = some (.aload_n 0, 1, 0, 0, 0, []) := rfl
theorem cd_24_23 : cd 24 23 = some (.getfield 27, 3, 1, 1, 0, []) := rfl
theorem cd_24_26 : cd 24 26 = some (.iload_n 2, 1, 0, 0, 0, []) := rfl
theorem cd_24_27 : cd 24 27 = some (.if_icmp .lt 10, 3, 0, 0, 0, []) := rfl
theorem cd_24_30 : cd 24 30 = some (.iload_n 2, 1, 0, 0, 0, []) := rfl
theorem cd_24_31 : cd 24 31 = some (.aload_n 0, 1, 0, 0, 0, []) := rfl
theorem cd_24_32 : cd 24 32 = some (.getfield 24, 3, 1, 0, 0, []) := rfl
theorem cd_24_35 : cd 24 35 = some (.iadd, 1, 0, 0, 0, []) := rfl
theorem cd_24_36 : cd 24 36 = some (.ireturn, 1, 0, 0, 0, []) := rfl
theorem cd_24_37 : cd 24 37 = some (.aload_n 0, 1, 0, 0, 0, []) := rfl
theorem cd_24_38 : cd 24 38 = some (.getfield 24, 3, 1, 0, 0, []) := rfl
theorem cd_24_41 : cd 24 41 = some (.iload_n 3, 1, 0, 0, 0, []) := rfl
theorem cd_24_42 : cd 24 42 = some (.if_icmp .lt 12, 3, 0, 0, 0, []) := rfl
theorem cd_24_45 : cd 24 45 = some (.iload_n 2, 1, 0, 0, 0, []) := rfl
theorem cd_24_46 : cd 24 46 = some (.iload_n 3, 1, 0, 0, 0, []) := rfl
theorem cd_24_47 : cd 24 47 = some (.iadd, 1, 0, 0, 0, []) := rfl
theorem cd_24_48 : cd 24 48 = some (.aload_n 0, 1, 0, 0, 0, []) := rfl
theorem cd_24_49 : cd 24 49 = some (.getfield 27, 3, 1, 1, 0, []) := rfl
theorem cd_24_52 : cd 24 52 = some (.iadd, 1, 0, 0, 0, []) := rfl
theorem cd_24_53 : cd 24 53 = some (.ireturn, 1, 0, 0, 0, []) := rfl
theorem cd_24_54 : cd 24 54 = some (.aload_n 0, 1, 0, 0, 0, []) := rfl
theorem cd_24_55 : cd 24 55 = some (.getfield 27, 3, 1, 1, 0, []) := rfl
theorem cd_24_58 : cd 24 58 = some (.ifCond .ge 16, 3, 0, 0, 0, []) := rfl
theorem cd_24_61 : cd 24 61 = some (.iconst 2, 1, 0, 0, 0, []) := rfl
theorem cd_24_62 : cd 24 62 = some (.iload_n 2, 1, 0, 0, 0, []) := rfl
theorem cd_24_63 : cd 24 63 = some (.imul, 1, 0, 0, 0, []) := rfl
theorem cd_24_64 : cd 24 64 = some (.iload_n 3, 1, 0, 0, 0, []) := rfl
theorem cd_24_65 : cd 24 65 = some (.iadd, 1, 0, 0, 0, []) := rfl
theorem cd_24_66 : cd 24 66 = some (.aload_n 0, 1, 0, 0, 0, []) := rfl
theorem cd_24_67 : cd 24 67 = some (.getfield 24, 3, 1, 0, 0, []) := rfl
theorem cd_24_70 : cd 24 70 = some (.iadd, 1, 0, 0, 0, []) := rfl
theorem cd_24_71 : cd 24 71 = some (.goto 4, 3, 0, 0, 0, []) := rfl
theorem cd_24_74 : cd 24 74 = some (.iconst (-1), 1, 0, 0, 0, []) := rfl
theorem cd_24_75 : cd 24 75 = some (.ireturn, 1, 0, 0, 0, []) := rfl
theorem cd_25_0 : cd 25 0 = some (.aload_n 0, 1, 0, 0, 0, []) := rfl
theorem cd_25_1 : cd 25 1 = some (.invokespecial 3, 3, 0, 1, 6, []) := rfl
theorem cd_25_4 : cd 25 4 = some (.aload_n 0, 1, 0, 0, 0, []) := rfl
theorem cd_25_5 : cd 25 5 = some (.iconst 4, 1, 0, 0, 0, []) := rfl
theorem cd_25_6 : cd 25 6 = some (.anewarray 9, 3, 3, 0, 0, []) := rfl
theorem cd_25_9 : cd 25 9 = some (.putfield 11, 3, 2, 0, 0, []) := rfl
theorem cd_25_12 : cd 25 12 = some (.aload_n 0, 1, 0, 0, 0, []) := rfl
theorem cd_25_13 : cd 25 13 = some (.iconst 4, 1, 0, 0, 0, []) := rfl
theorem cd_25_14 : cd 25 14 = some (.anewarray 17, 3, 4, 0, 0, []) := rfl
theorem cd_25_17 : cd 25 17 = some (.putfield 19, 3, 2, 1, 0, []) := rfl
theorem cd_25_20 : cd 25 20 = some (.iconst 0, 1, 0, 0, 0, []) := rfl
theorem cd_25_21 : cd 25 21 = some (.istore_n 1, 1, 0, 0, 0, []) := rfl
theorem cd_25_22 : cd 25 22 = some (.iload_n 1, 1, 0, 0, 0, []) := rfl
theorem cd_25_23 : cd 25 23 = some (.aload_n 0, 1, 0, 0, 0, []) := rfl
theorem cd_25_24 : cd 25 24 = some (.getfield 11, 3, 2, 0, 0, []) := rfl
theorem cd_25_27 : cd 25 27 = some (.arraylength, 1, 0, 0, 0, []) := rfl
theorem cd_25_28 : cd 25 28 = some (.if_icmp .ge 44, 3, 0, 0, 0, []) := rfl
theorem cd_25_31 : cd 25 31 = some (.iload_n 1, 1, 0, 0, 0, []) := rfl
theorem cd_25_32 : cd 25 32 = some (.aload_n 0, 1, 0, 0, 0, []) := rfl
theorem cd_25_33 : cd 25 33 = some (.getfield 19, 3, 2, 1, 0, []) := rfl
theorem cd_25_36 : cd 25 36 = some (.arraylength, 1, 0, 0, 0, []) := rfl
theorem cd_25_37 : cd 25 37 = some (.if_icmp .ge 35, 3, 0, 0, 0, []) := rfl
theorem cd_25_40 : cd 25 40 = some (.aload_n 0, 1, 0, 0, 0, []) := rfl
theorem cd_25_41 : cd 25 41 = some (.getfield 11, 3, 2, 0, 0, []) := rfl
theorem cd_25_44 : cd 25 44 = some (.iload_n 1, 1, 0, 0, 0, []) := rfl
theorem cd_25_45 : cd 25 45 = some (.new 9, 3, 5, 0, 0, []) := rfl
theorem cd_25_48 : cd 25 48 = some (.dup, 1, 0, 0, 0, []) := rfl
theorem cd_25_49 : cd 25 49 = some (.invokespecial 23, 3, 46, 1, 4, []) := rfl
theorem cd_25_52 : cd 25 52 = some (.aastore, 1, 0, 0, 0, []) := rfl
theorem cd_25_53 : cd 25 53 = some (.aload_n 0, 1, 0, 0, 0, []) := rfl
theorem cd_25_54 : cd 25 54 = some (.getfield 19, 3, 2, 1, 0, []) := rfl
theorem cd_25_57 : cd 25 57 = some (.iload_n 1, 1, 0, 0, 0, []) := rfl
theorem cd_25_58 : cd 25 58 = some (.new 17, 3, 7, 0, 0, []) := rfl
theorem cd_25_61 : cd 25 61 = some (.dup, 1, 0, 0, 0, []) := rfl
theorem cd_25_62 : cd 25 62 = some (.invokespecial 24, 3, 69, 1, 5, []) := rfl
theorem cd_25_65 : cd 25 65 = some (.aastore, 1, 0, 0, 0, []) := rfl
theorem cd_25_66 : cd 25 66 = some (.iinc 1 1, 3, 0, 0, 0, []) := rfl
theorem cd_25_69 : cd 25 69 = some (.goto (-47), 3, 0, 0, 0, []) := rfl
theorem cd_25_72 : cd 25 72 = some (.return_, 1, 0, 0, 0, []) := rfl
theorem cd_26_0 : cd 26 0 = some (.aload_n 0, 1, 0, 0, 0, []) := rfl
theorem cd_26_1 : cd 26 1 = some (.aload_n 0, 1, 0, 0, 0, []) := rfl
theorem cd_26_2 : cd 26 2 = some (.getfield 25, 3, 2, 3, 0, []) := rfl
theorem cd_26_5 : cd 26 5 = some (.invokevirtual 29, 3, 28, 2, 0, []) := rfl
theorem cd_26_8 : cd 26 8 = some (.astore_n 3, 1, 0, 0, 0, []) := rfl
theorem cd_26_9 : cd 26 9 = some (.aload_n 0, 1, 0, 0, 0, []) := rfl
theorem cd_26_10 : cd 26 10 = some (.aload_n 0, 1, 0, 0, 0, []) := rfl
theorem cd_26_11 : cd 26 11 = some (.getfield 25, 3, 2, 3, 0, []) := rfl
theorem cd_26_14 : cd 26 14 = some (.invokevirtual 33, 3, 29, 2, 0, []) := rfl
theorem cd_26_17 : cd 26 17 = some (.astore 4, 2, 0, 0, 0, []) := rfl
theorem cd_26_19 : cd 26 19 = some (.aload_n 3, 1, 0, 0, 0, []) := rfl
theorem cd_26_20 : cd 26 20 = some (.ifnull 19, 3, 0, 0, 0, []) := rfl
theorem cd_26_23 : cd 26 23 = some (.aload 4, 2, 0, 0, 0, []) := rfl
theorem cd_26_25 : cd 26 25 = some (.ifnull 14, 3, 0, 0, 0, []) := rfl
theorem cd_26_28 : cd 26 28 = some (.aload_n 3, 1, 0, 0, 0, []) := rfl
theorem cd_26_29 : cd 26 29 = some (.aload_n 1, 1, 0, 0, 0, []) := rfl
theorem cd_26_30 : cd 26 30 = some (.invokevirtual 37, 3, 48, 2, 0, []) := rfl
theorem cd_26_33 : cd 26 33 = some (.aload 4, 2, 0, 0, 0, []) := rfl
theorem cd_26_35 : cd 26 35 = some (.aload_n 2, 1, 0, 0, 0, []) := rfl
theorem cd_26_36 : cd 26 36 = some (.invokevirtual 41, 3, 70, 2, 0, []) := rfl
theorem cd_26_39 : cd 26 39 = some (.aload_n 0, 1, 0, 0, 0, []) := rfl
theorem cd_26_40 : cd 26 40 = some (.aload_n 0, 1, 0, 0, 0, []) := rfl
theorem cd_26_41 : cd 26 41 = some (.getfield 25, 3, 2, 3, 0, []) := rfl
theorem cd_26_44 : cd 26 44 = some (.iconst 1, 1, 0, 0, 0, []) := rfl
theorem cd_26_45 : cd 26 45 = some (.iadd, 1, 0, 0, 0, []) := rfl
theorem cd_26_46 : cd 26 46 = some (.iconst 4, 1, 0, 0, 0, []) := rfl
theorem cd_26_47 : cd 26 47 = some (.irem, 1, 0, 0, 0, []) := rfl
theorem cd_26_48 : cd 26 48 = some (.putfield 25, 3, 2, 3, 0, []) := rfl
theorem cd_26_51 : cd 26 51 = some (.aload_n 0, 1, 0, 0, 0, []) := rfl
theorem cd_26_52 : cd 26 52 = some (.aload_n 0, 1, 0, 0, 0, []) := rfl
theorem cd_26_53 : cd 26 53 = some (.getfield 44, 3, 2, 2, 0, []) := rfl
theorem cd_26_56 : cd 26 56 = some (.iconst 1, 1, 0, 0, 0, []) := rfl
theorem cd_26_57 : cd 26 57 = some (.iadd, 1, 0, 0, 0, []) := rfl
theorem cd_26_58 : cd 26 58 = some (.iconst 4, 1, 0, 0, 0, []) := rfl
theorem cd_26_59 : cd 26 59 = some (.invokestatic 47, 3, 0, 2, 9, []) := rfl
theorem cd_26_62 : cd 26 62 = some (.putfield 44, 3, 2, 2, 0, []) := rfl
theorem cd_26_65 : cd 26 65 = some (.return_, 1, 0, 0, 0, []) := rfl
theorem cd_27_0 : cd 27 0 = some (.aload_n 0, 1, 0, 0, 0, []) := rfl
theorem cd_27_1 : cd 27 1 = some (.aload_n 0, 1, 0, 0, 0, []) := rfl
theorem cd_27_2 : cd 27 2 = some (.getfield 25, 3, 2, 3, 0, []) := rfl
theorem cd_27_5 : cd 27 5 = some (.iconst 4, 1, 0, 0, 0, []) := rfl
theorem cd_27_6 : cd 27 6 = some (.iadd, 1, 0, 0, 0, []) := rfl
theorem cd_27_7 : cd 27 7 = some (.iconst 1, 1, 0, 0, 0, []) := rfl
theorem cd_27_8 : cd 27 8 = some (.isub, 1, 0, 0, 0, []) := rfl
theorem cd_27_9 : cd 27 9 = some (.iconst 4, 1, 0, 0, 0, []) := rfl
theorem cd_27_10 : cd 27 10 = some (.irem, 1, 0, 0, 0, []) := rfl
theorem cd_27_11 : cd 27 11 = some (.putfield 25, 3, 2, 3, 0, []) := rfl
theorem cd_27_14 : cd 27 14 = some (.aload_n 0, 1, 0, 0, 0, []) := rfl
theorem cd_27_15 : cd 27 15 = some (.aload_n 0, 1, 0, 0, 0, []) := rfl
theorem cd_27_16 : cd 27 16 = some (.getfield 44, 3, 2, 2, 0, []) := rfl
theorem cd_27_19 : cd 27 19 = some (.iconst 1, 1, 0, 0, 0, []) := rfl
theorem cd_27_20 : cd 27 20 = some (.isub, 1, 0, 0, 0, []) := rfl
theorem cd_27_21 : cd 27 21 = some (.iconst 0, 1, 0, 0, 0, []) := rfl
theorem cd_27_22 : cd 27 22 = some (.invokestatic 53, 3, 0, 2, 8, []) := rfl
theorem cd_27_25 : cd 27 25 = some (.putfield 44, 3, 2, 2, 0, []) := rfl
theorem cd_27_28 : cd 27 28 = some (.aload_n 0, 1, 0, 0, 0, []) := rfl
theorem cd_27_29 : cd 27 29 = some (.aload_n 0, 1, 0, 0, 0, []) := rfl
theorem cd_27_30 : cd 27 30 = some (.getfield 25, 3, 2, 3, 0, []) := rfl
theorem cd_27_33 : cd 27 33 = some (.invokevirtual 29, 3, 28, 2, 0, []) := rfl
theorem cd_27_36 : cd 27 36 = some (.astore_n 3, 1, 0, 0, 0, []) := rfl
theorem cd_27_37 : cd 27 37 = some (.aload_n 0, 1, 0, 0, 0, []) := rfl
theorem cd_27_38 : cd 27 38 = some (.aload_n 0, 1, 0, 0, 0, []) := rfl
theorem cd_27_39 : cd 27 39 = some (.getfield 25, 3, 2, 3, 0, []) := rfl
theorem cd_27_42 : cd 27 42 = some (.invokevirtual 33, 3, 29, 2, 0, []) := rfl
theorem cd_27_45 : cd 27 45 = some (.astore 4, 2, 0, 0, 0, []) := rfl
theorem cd_27_47 : cd 27 47 = some (.aload_n 3, 1, 0, 0, 0, []) := rfl
theorem cd_27_48 : cd 27 48 = some (.ifnull 19, 3, 0, 0, 0, []) := rfl
theorem cd_27_51 : cd 27 51 = some (.aload 4, 2, 0, 0, 0, []) := rfl
theorem cd_27_53 : cd 27 53 = some (.ifnull 14, 3, 0, 0, 0, []) := rfl
theorem cd_27_56 : cd 27 56 = some (.aload_n 1, 1, 0, 0, 0, []) := rfl
theorem cd_27_57 : cd 27 57 = some (.aload_n 3, 1, 0, 0, 0, []) := rfl
theorem cd_27_58 : cd 27 58 = some (.invokevirtual 37, 3, 48, 2, 0, []) := rfl
theorem cd_27_61 : cd 27 61 = some (.aload_n 2, 1, 0, 0, 0, []) := rfl
theorem cd_27_62 : cd 27 62 = some (.aload 4, 2, 0, 0, 0, []) := rfl
theorem cd_27_64 : cd 27 64 = some (.invokevirtual 41, 3, 70, 2, 0, []) := rfl
theorem cd_27_67 : cd 27 67 = some (.return_, 1, 0, 0, 0, []) := rfl
theorem cd_28_0 : cd 28 0 = some (.iload_n 1, 1, 0, 0, 0, []) := rfl
theorem cd_28_1 : cd 28 1 = some (.ifCond .lt 21, 3, 0, 0, 0, []) := rfl
theorem cd_28_4 : cd 28 4 = some (.iload_n 1, 1, 0, 0, 0, []) := rfl
theorem cd_28_5 : cd 28 5 = some (.aload_n 0, 1, 0, 0, 0, []) := rfl
theorem cd_28_6 : cd 28 6 = some (.getfield 11, 3, 2, 0, 0, []) := rfl
theorem cd_28_9 : cd 28 9 = some (.arraylength, 1, 0, 0, 0, []) := rfl
theorem cd_28_10 : cd 28 10 = some (.if_icmp .ge 12, 3, 0, 0, 0, []) := rfl
theorem cd_28_13 : cd 28 13 = some (.aload_n 0, 1, 0, 0, 0, []) := rfl
theorem cd_28_14 : cd 28 14 = some (.getfield 11, 3, 2, 0, 0, []) := rfl
theorem cd_28_17 : cd 28 17 = some (.iload_n 1, 1, 0, 0, 0, []) := rfl
theorem cd_28_18 : cd 28 18 = some (.aaload, 1, 0, 0, 0, []) := rfl
theorem cd_28_19 : cd 28 19 = some (.goto 4, 3, 0, 0, 0, []) := rfl
theorem cd_28_22 : cd 28 22 = some (.aconst_null, 1, 0, 0, 0, []) := rfl
theorem cd_28_23 : cd 28 23 = some (.areturn, 1, 0, 0, 0, []) := rfl
theorem cd_29_0 : cd 29 0 = some (.iload_n 1, 1, 0, 0, 0, []) := rfl
theorem cd_29_1 : cd 29 1 = some (.ifCond .lt 21, 3, 0, 0, 0, []) := rfl
theorem cd_29_4 : cd 29 4 = some (.iload_n 1, 1, 0, 0, 0, []) := rfl
theorem cd_29_5 : cd 29 5 = some (.aload_n 0, 1, 0, 0, 0, []) := rfl
theorem cd_29_6 : cd 29 6 = some (.getfield 19, 3, 2, 1, 0, []) := rfl
theorem cd_29_9 : cd 29 9 = some (.arraylength, 1, 0, 0, 0, []) := rfl
theorem cd_29_10 : cd 29 10 = some (.if_icmp .ge 12, 3, 0, 0, 0, []) := rfl
theorem cd_29_13 : cd 29 13 = some (.aload_n 0, 1, 0, 0, 0, []) := rfl
theorem cd_29_14 : cd 29 14 = some (.getfield 19, 3, 2, 1, 0, []) := rfl
theorem cd_29_17 : cd 29 17 = some (.iload_n 1, 1, 0, 0, 0, []) := rfl
theorem cd_29_18 : cd 29 18 = some (.aaload, 1, 0, 0, 0, []) := rfl
theorem cd_29_19 : cd 29 19 = some (.goto 4, 3, 0, 0, 0, []) := rfl
theorem cd_29_22 : cd 29 22 = some (.aconst_null, 1, 0, 0, 0, []) := rfl
theorem cd_29_23 : cd 29 23 = some (.areturn, 1, 0, 0, 0, []) := rfl
theorem cd_30_0 : cd 30 0 = some (.aload_n 0, 1, 0, 0, 0, []) := rfl
theorem cd_30_1 : cd 30 1 = some (.invokespecial 3, 3, 0, 1, 6, []) := rfl
theorem cd_30_4 : cd 30 4 = some (.aload_n 0, 1, 0, 0, 0, []) := rfl
theorem cd_30_5 : cd 30 5 = some (.sipush 294, 3, 0, 0, 0, []) := rfl
theorem cd_30_8 : cd 30 8 = some (.newarray .int, 2, 0, 0, 0, []) := rfl
theorem cd_30_10 : cd 30 10 = some (.putfield 9, 3, 3, 0, 0, []) := rfl
theorem cd_30_13 : cd 30 13 = some (.return_, 1, 0, 0, 0, []) := rfl
theorem cd_31_0 : cd 31 0 = some (.aload_n 0, 1, 0, 0, 0, []) := rfl
theorem cd_31_1 : cd 31 1 = some (.iconst 0, 1, 0, 0, 0, []) := rfl
theorem cd_31_2 : cd 31 2 = some (.putfield 15, 3, 3, 1, 0, []) := rfl
theorem cd_31_5 : cd 31 5 = some (.aload_n 0, 1, 0, 0, 0, []) := rfl
theorem cd_31_6 : cd 31 6 = some (.iconst 0, 1, 0, 0, 0, []) := rfl
theorem cd_31_7 : cd 31 7 = some (.putfield 19, 3, 3, 2, 0, []) := rfl
theorem cd_31_10 : cd 31 10 = some (.iconst 0, 1, 0, 0, 0, []) := rfl
theorem cd_31_11 : cd 31 11 = some (.istore 4, 2, 0, 0, 0, []) := rfl
theorem cd_31_13 : cd 31 13 = some (.iload 4, 2, 0, 0, 0, []) := rfl
theorem cd_31_15 : cd 31 15 = some (.aload_n 2, 1, 0, 0, 0, []) := rfl
theorem cd_31_16 : cd 31 16 = some (.iload_n 3, 1, 0, 0, 0, []) := rfl
theorem cd_31_17 : cd 31 17 = some (.invokevirtual 23, 3, 9, 2, 0, []) := rfl
theorem cd_31_20 : cd 31 20 = some (.if_icmp .ge 24, 3, 0, 0, 0, []) := rfl
theorem cd_31_23 : cd 31 23 = some (.aload_n 0, 1, 0, 0, 0, []) := rfl
theorem cd_31_24 : cd 31 24 = some (.aload_n 1, 1, 0, 0, 0, []) := rfl
theorem cd_31_25 : cd 31 25 = some (.aload_n 2, 1, 0, 0, 0, []) := rfl
theorem cd_31_26 : cd 31 26 = some (.iload_n 3, 1, 0, 0, 0, []) := rfl
theorem cd_31_27 : cd 31 27 = some (.iload 4, 2, 0, 0, 0, []) := rfl
theorem cd_31_29 : cd 31 29 = some (.invokevirtual 29, 3, 14, 3, 0, []) := rfl
theorem cd_31_32 : cd 31 32 = some (.invokevirtual 33, 3, 53, 2, 0, []) := rfl
theorem cd_31_35 : cd 31 35 = some (.invokevirtual 38, 3, 32, 2, 0, []) := rfl
theorem cd_31_38 : cd 31 38 = some (.iinc 4 1, 3, 0, 0, 0, []) := rfl
theorem cd_31_41 : cd 31 41 = some (.goto (-28), 3, 0, 0, 0, []) := rfl
theorem cd_31_44 : cd 31 44 = some (.return_, 1, 0, 0, 0, []) := rfl
theorem cd_32_0 : cd 32 0 = some (.iload_n 1, 1, 0, 0, 0, []) := rfl
theorem cd_32_1 : cd 32 1 = some (.invokestatic 42, 3, 118, 1, 3, []) := rfl
theorem cd_32_4 : cd 32 4 = some (.ifCond .eq 11, 3, 0, 0, 0, []) := rfl
theorem cd_32_7 : cd 32 7 = some (.aload_n 0, 1, 0, 0, 0, []) := rfl
theorem cd_32_8 : cd 32 8 = some (.iload_n 1, 1, 0, 0, 0, []) := rfl
theorem cd_32_9 : cd 32 9 = some (.invokevirtual 46, 3, 33, 2, 0, []) := rfl
theorem cd_32_12 : cd 32 12 = some (.goto 47, 3, 0, 0, 0, []) := rfl
theorem cd_32_15 : cd 32 15 = some (.iload_n 1, 1, 0, 0, 0, []) := rfl
theorem cd_32_16 : cd 32 16 = some (.invokestatic 49, 3, 119, 1, 3, []) := rfl
theorem cd_32_19 : cd 32 19 = some (.ifCond .eq 29, 3, 0, 0, 0, []) := rfl
theorem cd_32_22 : cd 32 22 = some (.iload_n 1, 1, 0, 0, 0, []) := rfl
theorem cd_32_23 : cd 32 23 = some (.bipush 65, 2, 0, 0, 0, []) := rfl
theorem cd_32_25 : cd 32 25 = some (.isub, 1, 0, 0, 0, []) := rfl
theorem cd_32_26 : cd 32 26 = some (.bipush 97, 2, 0, 0, 0, []) := rfl
theorem cd_32_28 : cd 32 28 = some (.iadd, 1, 0, 0, 0, []) := rfl
theorem cd_32_29 : cd 32 29 = some (.istore_n 2, 1, 0, 0, 0, []) := rfl
theorem cd_32_30 : cd 32 30 = some (.aload_n 0, 1, 0, 0, 0, []) := rfl
theorem cd_32_31 : cd 32 31 = some (.iload_n 2, 1, 0, 0, 0, []) := rfl
theorem cd_32_32 : cd 32 32 = some (.invokevirtual 46, 3, 33, 2, 0, []) := rfl
theorem cd_32_35 : cd 32 35 = some (.aload_n 0, 1, 0, 0, 0, []) := rfl
theorem cd_32_36 : cd 32 36 = some (.iconst 1, 1, 0, 0, 0, []) := rfl
theorem cd_32_37 : cd 32 37 = some (.putfield 19, 3, 3, 2, 0, []) := rfl
theorem cd_32_40 : cd 32 40 = some (.aload_n 0, 1, 0, 0, 0, []) := rfl
theorem cd_32_41 : cd 32 41 = some (.iload_n 2, 1, 0, 0, 0, []) := rfl
theorem cd_32_42 : cd 32 42 = some (.invokevirtual 46, 3, 33, 2, 0, []) := rfl
theorem cd_32_45 : cd 32 45 = some (.goto 14, 3, 0, 0, 0, []) := rfl
theorem cd_32_48 : cd 32 48 = some (.iload_n 1, 1, 0, 0, 0, []) := rfl
theorem cd_32_49 : cd 32 49 = some (.bipush 58, 2, 0, 0, 0, []) := rfl
theorem cd_32_51 : cd 32 51 = some (.if_icmp .ne 8, 3, 0, 0, 0, []) := rfl
theorem cd_32_54 : cd 32 54 = some (.aload_n 0, 1, 0, 0, 0, []) := rfl
theorem cd_32_55 : cd 32 55 = some (.iconst 1, 1, 0, 0, 0, []) := rfl
theorem cd_32_56 : cd 32 56 = some (.putfield 19, 3, 3, 2, 0, []) := rfl
theorem cd_32_59 : cd 32 59 = some (.return_, 1, 0, 0, 0, []) := rfl
theorem cd_33_0 : cd 33 0 = some (.aload_n 0, 1, 0, 0, 0, []) := rfl
theorem cd_33_1 : cd 33 1 = some (.getfield 19, 3, 3, 2, 0, []) := rfl
theorem cd_33_4 : cd 33 4 = some (.ifCond .eq 16, 3, 0, 0, 0, []) := rfl
theorem cd_33_7 : cd 33 7 = some (.aload_n 0, 1, 0, 0, 0, []) := rfl
theorem cd_33_8 : cd 33 8 = some (.getfield 15, 3, 3, 1, 0, []) := rfl
theorem cd_33_11 : cd 33 11 = some (.ifCond .le 9, 3, 0, 0, 0, []) := rfl
theorem cd_33_14 : cd 33 14 = some (.aload_n 0, 1, 0, 0, 0, []) := rfl
theorem cd_33_15 : cd 33 15 = some (.bipush 32, 2, 0, 0, 0, []) := rfl
theorem cd_33_17 : cd 33 17 = some (.invokevirtual 52, 3, 34, 2, 0, []) := rfl
theorem cd_33_20 : cd 33 20 = some (.aload_n 0, 1, 0, 0, 0, []) := rfl
theorem cd_33_21 : cd 33 21 = some (.iconst 0, 1, 0, 0, 0, []) := rfl
theorem cd_33_22 : cd 33 22 = some (.putfield 19, 3, 3, 2, 0, []) := rfl
theorem cd_33_25 : cd 33 25 = some (.aload_n 0, 1, 0, 0, 0, []) := rfl
theorem cd_33_26 : cd 33 26 = some (.iload_n 1, 1, 0, 0, 0, []) := rfl
theorem cd_33_27 : cd 33 27 = some (.invokevirtual 52, 3, 34, 2, 0, []) := rfl
theorem cd_33_30 : cd 33 30 = some (.return_, 1, 0, 0, 0, []) := rfl
theorem cd_34_0 : cd 34 0 = some (.aload_n 0, 1, 0, 0, 0, []) := rfl
theorem cd_34_1 : cd 34 1 = some (.getfield 9, 3, 3, 0, 0, []) := rfl
theorem cd_34_4 : cd 34 4 = some (.aload_n 0, 1, 0, 0, 0, []) := rfl
theorem cd_34_5 : cd 34 5 = some (.getfield 15, 3, 3, 1, 0, []) := rfl
theorem cd_34_8 : cd 34 8 = some (.iload_n 1, 1, 0, 0, 0, []) := rfl
theorem cd_34_9 : cd 34 9 = some (.invokestatic 55, 3, 127, 3, 3, []) := rfl
theorem cd_34_12 : cd 34 12 = some (.aload_n 0, 1, 0, 0, 0, []) := rfl
theorem cd_34_13 : cd 34 13 = some (.dup, 1, 0, 0, 0, []) := rfl
theorem cd_34_14 : cd 34 14 = some (.getfield 15, 3, 3, 1, 0, []) := rfl
theorem cd_34_17 : cd 34 17 = some (.iconst 1, 1, 0, 0, 0, []) := rfl
theorem cd_34_18 : cd 34 18 = some (.iadd, 1, 0, 0, 0, []) := rfl
theorem cd_34_19 : cd 34 19 = some (.putfield 15, 3, 3, 1, 0, []) := rfl
theorem cd_34_22 : cd 34 22 = some (.return_, 1, 0, 0, 0, []) := rfl
theorem cd_35_0 : cd 35 0 = some (.iload_n 1, 1, 0, 0, 0, []) := rfl
theorem cd_35_1 : cd 35 1 = some (.aload_n 0, 1, 0, 0, 0, []) := rfl
theorem cd_35_2 : cd 35 2 = some (.getfield 15, 3, 3, 1, 0, []) := rfl
theorem cd_35_5 : cd 35 5 = some (.if_icmp .ge 14, 3, 0, 0, 0, []) := rfl
theorem cd_35_8 : cd 35 8 = some (.aload_n 0, 1, 0, 0, 0, []) := rfl
theorem cd_35_9 : cd 35 9 = some (.getfield 9, 3, 3, 0, 0, []) := rfl
theorem cd_35_12 : cd 35 12 = some (.iload_n 1, 1, 0, 0, 0, []) := rfl
theorem cd_35_13 : cd 35 13 = some (.invokestatic 59, 3, 125, 2, 3, []) := rfl
theorem cd_35_16 : cd 35 16 = some (.goto 4, 3, 0, 0, 0, []) := rfl
theorem cd_35_19 : cd 35 19 = some (.iconst (-1), 1, 0, 0, 0, []) := rfl
theorem cd_35_20 : cd 35 20 = some (.ireturn, 1, 0, 0, 0, []) := rfl
theorem cd_36_0 : cd 36 0 = some (.aload_n 0, 1, 0, 0, 0, []) := rfl
theorem cd_36_1 : cd 36 1 = some (.getfield 15, 3, 3, 1, 0, []) := rfl
theorem cd_36_4 : cd 36 4 = some (.aload_n 1, 1, 0, 0, 0, []) := rfl
theorem cd_36_5 : cd 36 5 = some (.getfield 15, 3, 3, 1, 0, []) := rfl
theorem cd_36_8 : cd 36 8 = some (.if_icmp .eq 5, 3, 0, 0, 0, []) := rfl
theorem cd_36_11 : cd 36 11 = some (.iconst 0, 1, 0, 0, 0, []) := rfl
theorem cd_36_12 : cd 36 12 = some (.ireturn, 1, 0, 0, 0, []) := rfl
theorem cd_36_13 : cd 36 13 = some (.iconst 0, 1, 0, 0, 0, []) := rfl
theorem cd_36_14 : cd 36 14 = some (.istore_n 2, 1, 0, 0, 0, []) := rfl
theorem cd_36_15 : cd 36 15 = some (.iload_n 2, 1, 0, 0, 0, []) := rfl
theorem cd_36_16 : cd 36 16 = some (.aload_n 0, 1, 0, 0, 0, []) := rfl
theorem cd_36_17 : cd 36 17 = some (.getfield 15, 3, 3, 1, 0, []) := rfl
theorem cd_36_20 : cd 36 20 = some (.if_icmp .ge 24, 3, 0, 0, 0, []) := rfl
theorem cd_36_23 : cd 36 23 = some (.aload_n 0, 1, 0, 0, 0, []) := rfl
theorem cd_36_24 : cd 36 24 = some (.iload_n 2, 1, 0, 0, 0, []) := rfl
theorem cd_36_25 : cd 36 25 = some (.invokevirtual 63, 3, 35, 2, 0, []) := rfl
theorem cd_36_28 : cd 36 28 = some (.aload_n 1, 1, 0, 0, 0, []) := rfl
theorem cd_36_29 : cd 36 29 = some (.iload_n 2, 1, 0, 0, 0, []) := rfl
theorem cd_36_30 : cd 36 30 = some (.invokevirtual 63, 3, 35, 2, 0, []) := rfl
theorem cd_36_33 : cd 36 33 = some (.if_icmp .eq 5, 3, 0, 0, 0, []) := rfl
theorem cd_36_36 : cd 36 36 = some (.iconst 0, 1, 0, 0, 0, []) := rfl
theorem cd_36_37 : cd 36 37 = some (.ireturn, 1, 0, 0, 0, []) := rfl
theorem cd_36_38 : cd 36 38 = some (.iinc 2 1, 3, 0, 0, 0, []) := rfl
theorem cd_36_41 : cd 36 41 = some (.goto (-26), 3, 0, 0, 0, []) := rfl
theorem cd_36_44 : cd 36 44 = some (.iconst 1, 1, 0, 0, 0, []) := rfl
theorem cd_36_45 : cd 36 45 = some (.ireturn, 1, 0, 0, 0, []) := rfl
theorem cd_37_0 : cd 37 0 = some (.iconst 0, 1, 0, 0, 0, []) := rfl
theorem cd_37_1 : cd 37 1 = some (.istore_n 2, 1, 0, 0, 0, []) := rfl
theorem cd_37_2 : cd 37 2 = some (.iconst 0, 1, 0, 0, 0, []) := rfl
theorem cd_37_3 : cd 37 3 = some (.istore_n 3, 1, 0, 0, 0, []) := rfl
theorem cd_37_4 : cd 37 4 = some (.iconst 0, 1, 0, 0, 0, []) := rfl
theorem cd_37_5 : cd 37 5 = some (.istore 4, 2, 0, 0, 0, []) := rfl
theorem cd_37_7 : cd 37 7 = some (.iconst 0, 1, 0, 0, 0, []) := rfl
theorem cd_37_8 : cd 37 8 = some (.istore 5, 2, 0, 0, 0, []) := rfl
theorem cd_37_10 : cd 37 10 = some (.iload 5, 2, 0, 0, 0, []) := rfl
theorem cd_37_12 : cd 37 12 = some (.aload_n 0, 1, 0, 0, 0, []) := rfl
theorem cd_37_13 : cd 37 13 = some (.getfield 15, 3, 3, 1, 0, []) := rfl
theorem cd_37_16 : cd 37 16 = some (.if_icmp .gt 75, 3, 0, 0, 0, []) := rfl
theorem cd_37_19 : cd 37 19 = some (.iload 5, 2, 0, 0, 0, []) := rfl
theorem cd_37_21 : cd 37 21 = some (.aload_n 0, 1, 0, 0, 0, []) := rfl
theorem cd_37_22 : cd 37 22 = some (.getfield 15, 3, 3, 1, 0, []) := rfl
theorem cd_37_25 : cd 37 25 = some (.if_icmp .eq 17, 3, 0, 0, 0, []) := rfl
theorem cd_37_28 : cd 37 28 = some (.aload_n 0, 1, 0, 0, 0, []) := rfl
theorem cd_37_29 : cd 37 29 = some (.getfield 9, 3, 3, 0, 0, []) := rfl
theorem cd_37_32 : cd 37 32 = some (.iload 5, 2, 0, 0, 0, []) := rfl
theorem cd_37_34 : cd 37 34 = some (.invokestatic 59, 3, 125, 2, 3, []) := rfl
theorem cd_37_37 : cd 37 37 = some (.bipush 32, 2, 0, 0, 0, []) := rfl
theorem cd_37_39 : cd 37 39 = some (.if_icmp .ne 46, 3, 0, 0, 0, []) := rfl
theorem cd_37_42 : cd 37 42 = some (.iload 5, 2, 0, 0, 0, []) := rfl
theorem cd_37_44 : cd 37 44 = some (.iload 4, 2, 0, 0, 0, []) := rfl
theorem cd_37_46 : cd 37 46 = some (.if_icmp .le 33, 3, 0, 0, 0, []) := rfl
theorem cd_37_49 : cd 37 49 = some (.iinc 2 1, 3, 0, 0, 0, []) := rfl
theorem cd_37_52 : cd 37 52 = some (.iload_n 3, 1, 0, 0, 0, []) := rfl
theorem cd_37_53 : cd 37 53 = some (.aload_n 1, 1, 0, 0, 0, []) := rfl
theorem cd_37_54 : cd 37 54 = some (.aload_n 0, 1, 0, 0, 0, []) := rfl
theorem cd_37_55 : cd 37 55 = some (.getfield 9, 3, 3, 0, 0, []) := rfl
theorem cd_37_58 : cd 37 58 = some (.iload 4, 2, 0, 0, 0, []) := rfl
theorem cd_37_60 : cd 37 60 = some (.iload 5, 2, 0, 0, 0, []) := rfl
theorem cd_37_62 : cd 37 62 = some (.iload 4, 2, 0, 0, 0, []) := rfl
theorem cd_37_64 : cd 37 64 = some (.isub, 1, 0, 0, 0, []) := rfl
theorem cd_37_65 : cd 37 65 = some (.invokevirtual 64, 3, 77, 4, 0, []) := rfl
theorem cd_37_68 : cd 37 68 = some (.iconst (-1), 1, 0, 0, 0, []) := rfl
theorem cd_37_69 : cd 37 69 = some (.if_icmp .eq 7, 3, 0, 0, 0, []) := rfl
theorem cd_37_72 : cd 37 72 = some (.iconst 1, 1, 0, 0, 0, []) := rfl
theorem cd_37_73 : cd 37 73 = some (.goto 4, 3, 0, 0, 0, []) := rfl
theorem cd_37_76 : cd 37 76 = some (.iconst 0, 1, 0, 0, 0, []) := rfl
theorem cd_37_77 : cd 37 77 = some (.iadd, 1, 0, 0, 0, []) := rfl
theorem cd_37_78 : cd 37 78 = some (.istore_n 3, 1, 0, 0, 0, []) := rfl
theorem cd_37_79 : cd 37 79 = some (.iload 5, 2, 0, 0, 0, []) := rfl
theorem cd_37_81 : cd 37 81 = some (.iconst 1, 1, 0, 0, 0, []) := rfl
theorem cd_37_82 : cd 37 82 = some (.iadd, 1, 0, 0, 0, []) := rfl
theorem cd_37_83 : cd 37 83 = some (.istore 4, 2, 0, 0, 0, []) := rfl
theorem cd_37_85 : cd 37 85 = some (.iinc 5 1, 3, 0, 0, 0, []) := rfl
theorem cd_37_88 : cd 37 88 = some (.goto (-78), 3, 0, 0, 0, []) := rfl
theorem cd_37_91 : cd 37 91 = some (.iload_n 2, 1, 0, 0, 0, []) := rfl
theorem cd_37_92 : cd 37 92 = some (.ifCond .le 12, 3, 0, 0, 0, []) := rfl
theorem cd_37_95 : cd 37 95 = some (.iload_n 3, 1, 0, 0, 0, []) := rfl
theorem cd_37_96 : cd 37 96 = some (.iload_n 2, 1, 0, 0, 0, []) := rfl
theorem cd_37_97 : cd 37 97 = some (.if_icmp .ne 7, 3, 0, 0, 0, []) := rfl
theorem cd_37_100 : cd 37 100 = some (.iload_n 3, 1, 0, 0, 0, []) := rfl
theorem cd_37_101 : cd 37 101 = some (.goto 6, 3, 0, 0, 0, []) := rfl
theorem cd_37_104 : cd 37 104 = some (.iconst (-1), 1, 0, 0, 0, []) := rfl
theorem cd_37_105 : cd 37 105 = some (.iload_n 3, 1, 0, 0, 0, []) := rfl
theorem cd_37_106 : cd 37 106 = some (.isub, 1, 0, 0, 0, []) := rfl
theorem cd_37_107 : cd 37 107 = some (.ireturn, 1, 0, 0, 0, []) := rfl
