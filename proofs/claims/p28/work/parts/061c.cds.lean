/-! ===== the code table, row by row: by program (wip/p28/gen4.py) ===== -/
theorem cd_80_0 : cd 80 0 = some (.aload_n 0, 1, 0, 0, 0, []) := rfl
theorem cd_80_1 : cd 80 1 = some (.invokespecial 3, 3, 0, 1, 6, []) := rfl
theorem cd_80_4 : cd 80 4 = some (.aload_n 0, 1, 0, 0, 0, []) := rfl
theorem cd_80_5 : cd 80 5 = some (.new 9, 3, 5, 0, 0, []) := rfl
theorem cd_80_8 : cd 80 8 = some (.dup, 1, 0, 0, 0, []) := rfl
theorem cd_80_9 : cd 80 9 = some (.invokespecial 11, 3, 46, 1, 4, []) := rfl
theorem cd_80_12 : cd 80 12 = some (.putfield 12, 3, 8, 0, 0, []) := rfl
theorem cd_80_15 : cd 80 15 = some (.aload_n 0, 1, 0, 0, 0, []) := rfl
theorem cd_80_16 : cd 80 16 = some (.new 16, 3, 7, 0, 0, []) := rfl
theorem cd_80_19 : cd 80 19 = some (.dup, 1, 0, 0, 0, []) := rfl
theorem cd_80_20 : cd 80 20 = some (.invokespecial 18, 3, 69, 1, 5, []) := rfl
theorem cd_80_23 : cd 80 23 = some (.putfield 19, 3, 8, 1, 0, []) := rfl
theorem cd_80_26 : cd 80 26 = some (.aload_n 0, 1, 0, 0, 0, []) := rfl
theorem cd_80_27 : cd 80 27 = some (.new 23, 3, 2, 0, 0, []) := rfl
theorem cd_80_30 : cd 80 30 = some (.dup, 1, 0, 0, 0, []) := rfl
theorem cd_80_31 : cd 80 31 = some (.invokespecial 25, 3, 25, 1, 4, []) := rfl
theorem cd_80_34 : cd 80 34 = some (.putfield 26, 3, 8, 2, 0, []) := rfl
theorem cd_80_37 : cd 80 37 = some (.aload_n 0, 1, 0, 0, 0, []) := rfl
theorem cd_80_38 : cd 80 38 = some (.new 30, 3, 0, 0, 0, []) := rfl
theorem cd_80_41 : cd 80 41 = some (.dup, 1, 0, 0, 0, []) := rfl
theorem cd_80_42 : cd 80 42 = some (.invokespecial 32, 3, 0, 1, 5, []) := rfl
theorem cd_80_45 : cd 80 45 = some (.putfield 33, 3, 8, 3, 0, []) := rfl
theorem cd_80_48 : cd 80 48 = some (.aload_n 0, 1, 0, 0, 0, []) := rfl
theorem cd_80_49 : cd 80 49 = some (.new 37, 3, 4, 0, 0, []) := rfl
theorem cd_80_52 : cd 80 52 = some (.dup, 1, 0, 0, 0, []) := rfl
theorem cd_80_53 : cd 80 53 = some (.invokespecial 39, 3, 38, 1, 5, []) := rfl
theorem cd_80_56 : cd 80 56 = some (.putfield 40, 3, 8, 4, 0, []) := rfl
theorem cd_80_59 : cd 80 59 = some (.aload_n 0, 1, 0, 0, 0, []) := rfl
theorem cd_80_60 : cd 80 60 = some (.new 44, 3, 3, 0, 0, []) := rfl
theorem cd_80_63 : cd 80 63 = some (.dup, 1, 0, 0, 0, []) := rfl
theorem cd_80_64 : cd 80 64 = some (.invokespecial 46, 3, 30, 1, 5, []) := rfl
theorem cd_80_67 : cd 80 67 = some (.putfield 47, 3, 8, 5, 0, []) := rfl
theorem cd_80_70 : cd 80 70 = some (.aload_n 0, 1, 0, 0, 0, []) := rfl
theorem cd_80_71 : cd 80 71 = some (.new 44, 3, 3, 0, 0, []) := rfl
theorem cd_80_74 : cd 80 74 = some (.dup, 1, 0, 0, 0, []) := rfl
theorem cd_80_75 : cd 80 75 = some (.invokespecial 46, 3, 30, 1, 5, []) := rfl
theorem cd_80_78 : cd 80 78 = some (.putfield 51, 3, 8, 6, 0, []) := rfl
theorem cd_80_81 : cd 80 81 = some (.aload_n 0, 1, 0, 0, 0, []) := rfl
theorem cd_80_82 : cd 80 82 = some (.new 54, 3, 6, 0, 0, []) := rfl
theorem cd_80_85 : cd 80 85 = some (.dup, 1, 0, 0, 0, []) := rfl
theorem cd_80_86 : cd 80 86 = some (.invokespecial 56, 3, 62, 1, 5, []) := rfl
theorem cd_80_89 : cd 80 89 = some (.putfield 57, 3, 8, 7, 0, []) := rfl
theorem cd_80_92 : cd 80 92 = some (.aload_n 0, 1, 0, 0, 0, []) := rfl
theorem cd_80_93 : cd 80 93 = some (.getfield 33, 3, 8, 3, 0, []) := rfl
theorem cd_80_96 : cd 80 96 = some (.aload_n 0, 1, 0, 0, 0, []) := rfl
theorem cd_80_97 : cd 80 97 = some (.getfield 12, 3, 8, 0, 0, []) := rfl
theorem cd_80_100 : cd 80 100 = some (.invokevirtual 61, 3, 1, 2, 0, []) := rfl
theorem cd_80_103 : cd 80 103 = some (.return_, 1, 0, 0, 0, []) := rfl
theorem cd_81_0 : cd 81 0 = some (.iload_n 1, 1, 0, 0, 0, []) := rfl
theorem cd_81_1 : cd 81 1 = some (.invokestatic 65, 3, 117, 1, 2, []) := rfl
theorem cd_81_4 : cd 81 4 = some (.ifCond .eq 10, 3, 0, 0, 0, []) := rfl
theorem cd_81_7 : cd 81 7 = some (.iload_n 2, 1, 0, 0, 0, []) := rfl
theorem cd_81_8 : cd 81 8 = some (.invokestatic 65, 3, 117, 1, 2, []) := rfl
theorem cd_81_11 : cd 81 11 = some (.ifCond .ne 13, 3, 0, 0, 0, []) := rfl
theorem cd_81_14 : cd 81 14 = some (.new 69, 3, 0, 0, 1, []) := rfl
theorem cd_81_24 : cd 81 24 = some (.aload_n 0, 1, 0, 0, 0, []) := rfl
theorem cd_81_25 : cd 81 25 = some (.invokevirtual 76, 3, 106, 1, 0, []) := rfl
theorem cd_81_28 : cd 81 28 = some (.aload_n 0, 1, 0, 0, 0, []) := rfl
theorem cd_81_29 : cd 81 29 = some (.getfield 12, 3, 8, 0, 0, []) := rfl
theorem cd_81_32 : cd 81 32 = some (.iload_n 1, 1, 0, 0, 0, []) := rfl
theorem cd_81_33 : cd 81 33 = some (.iload_n 2, 1, 0, 0, 0, []) := rfl
theorem cd_81_34 : cd 81 34 = some (.invokevirtual 79, 3, 47, 3, 0, []) := rfl
theorem cd_81_37 : cd 81 37 = some (.aload_n 0, 1, 0, 0, 0, []) := rfl
theorem cd_81_38 : cd 81 38 = some (.getfield 33, 3, 8, 3, 0, []) := rfl
theorem cd_81_41 : cd 81 41 = some (.aload_n 0, 1, 0, 0, 0, []) := rfl
theorem cd_81_42 : cd 81 42 = some (.getfield 12, 3, 8, 0, 0, []) := rfl
theorem cd_81_45 : cd 81 45 = some (.invokevirtual 61, 3, 1, 2, 0, []) := rfl
theorem cd_81_48 : cd 81 48 = some (.aload_n 0, 1, 0, 0, 0, []) := rfl
theorem cd_81_49 : cd 81 49 = some (.getfield 12, 3, 8, 0, 0, []) := rfl
theorem cd_81_52 : cd 81 52 = some (.invokevirtual 83, 3, 50, 1, 0, []) := rfl
theorem cd_81_55 : cd 81 55 = some (.ireturn, 1, 0, 0, 0, []) := rfl
theorem cd_82_0 : cd 82 0 = some (.aload_n 0, 1, 0, 0, 0, []) := rfl
theorem cd_82_1 : cd 82 1 = some (.getfield 12, 3, 8, 0, 0, []) := rfl
theorem cd_82_4 : cd 82 4 = some (.iload_n 1, 1, 0, 0, 0, []) := rfl
theorem cd_82_5 : cd 82 5 = some (.invokevirtual 87, 3, 51, 2, 0, []) := rfl
theorem cd_82_8 : cd 82 8 = some (.ifCond .ne 13, 3, 0, 0, 0, []) := rfl
theorem cd_82_11 : cd 82 11 = some (.new 90, 3, 1, 0, 1, []) := rfl
theorem cd_82_21 : cd 82 21 = some (.iload_n 2, 1, 0, 0, 0, []) := rfl
theorem cd_82_22 : cd 82 22 = some (.invokestatic 95, 3, 122, 1, 2, []) := rfl
theorem cd_82_25 : cd 82 25 = some (.ifCond .ne 13, 3, 0, 0, 0, []) := rfl
theorem cd_82_28 : cd 82 28 = some (.new 69, 3, 0, 0, 1, []) := rfl
theorem cd_82_38 : cd 82 38 = some (.aload_n 0, 1, 0, 0, 0, []) := rfl
theorem cd_82_39 : cd 82 39 = some (.invokevirtual 76, 3, 106, 1, 0, []) := rfl
theorem cd_82_42 : cd 82 42 = some (.aload_n 0, 1, 0, 0, 0, []) := rfl
theorem cd_82_43 : cd 82 43 = some (.getfield 12, 3, 8, 0, 0, []) := rfl
theorem cd_82_46 : cd 82 46 = some (.iload_n 1, 1, 0, 0, 0, []) := rfl
theorem cd_82_47 : cd 82 47 = some (.invokevirtual 100, 3, 53, 2, 0, []) := rfl
theorem cd_82_50 : cd 82 50 = some (.istore_n 3, 1, 0, 0, 0, []) := rfl
theorem cd_82_51 : cd 82 51 = some (.aload_n 0, 1, 0, 0, 0, []) := rfl
theorem cd_82_52 : cd 82 52 = some (.getfield 12, 3, 8, 0, 0, []) := rfl
theorem cd_82_55 : cd 82 55 = some (.iload_n 1, 1, 0, 0, 0, []) := rfl
theorem cd_82_56 : cd 82 56 = some (.iload_n 2, 1, 0, 0, 0, []) := rfl
theorem cd_82_57 : cd 82 57 = some (.invokevirtual 104, 3, 54, 3, 0, []) := rfl
theorem cd_82_60 : cd 82 60 = some (.aload_n 0, 1, 0, 0, 0, []) := rfl
theorem cd_82_61 : cd 82 61 = some (.getfield 33, 3, 8, 3, 0, []) := rfl
theorem cd_82_64 : cd 82 64 = some (.aload_n 0, 1, 0, 0, 0, []) := rfl
theorem cd_82_65 : cd 82 65 = some (.getfield 12, 3, 8, 0, 0, []) := rfl
theorem cd_82_68 : cd 82 68 = some (.invokevirtual 61, 3, 1, 2, 0, []) := rfl
theorem cd_82_71 : cd 82 71 = some (.iload_n 3, 1, 0, 0, 0, []) := rfl
theorem cd_82_72 : cd 82 72 = some (.ireturn, 1, 0, 0, 0, []) := rfl
theorem cd_83_0 : cd 83 0 = some (.aload_n 0, 1, 0, 0, 0, []) := rfl
theorem cd_83_1 : cd 83 1 = some (.invokevirtual 76, 3, 106, 1, 0, []) := rfl
theorem cd_83_4 : cd 83 4 = some (.aload_n 0, 1, 0, 0, 0, []) := rfl
theorem cd_83_5 : cd 83 5 = some (.getfield 12, 3, 8, 0, 0, []) := rfl
theorem cd_83_8 : cd 83 8 = some (.invokevirtual 107, 3, 55, 1, 0, []) := rfl
theorem cd_83_11 : cd 83 11 = some (.aload_n 0, 1, 0, 0, 0, []) := rfl
theorem cd_83_12 : cd 83 12 = some (.getfield 33, 3, 8, 3, 0, []) := rfl
theorem cd_83_15 : cd 83 15 = some (.aload_n 0, 1, 0, 0, 0, []) := rfl
theorem cd_83_16 : cd 83 16 = some (.getfield 12, 3, 8, 0, 0, []) := rfl
theorem cd_83_19 : cd 83 19 = some (.invokevirtual 61, 3, 1, 2, 0, []) := rfl
theorem cd_83_22 : cd 83 22 = some (.aload_n 0, 1, 0, 0, 0, []) := rfl
theorem cd_83_23 : cd 83 23 = some (.getfield 12, 3, 8, 0, 0, []) := rfl
theorem cd_83_26 : cd 83 26 = some (.invokevirtual 110, 3, 60, 1, 0, []) := rfl
theorem cd_83_29 : cd 83 29 = some (.ireturn, 1, 0, 0, 0, []) := rfl
theorem cd_84_0 : cd 84 0 = some (.aload_n 0, 1, 0, 0, 0, []) := rfl
theorem cd_84_1 : cd 84 1 = some (.invokevirtual 76, 3, 106, 1, 0, []) := rfl
theorem cd_84_4 : cd 84 4 = some (.aload_n 0, 1, 0, 0, 0, []) := rfl
theorem cd_84_5 : cd 84 5 = some (.getfield 12, 3, 8, 0, 0, []) := rfl
theorem cd_84_8 : cd 84 8 = some (.invokevirtual 113, 3, 56, 1, 0, []) := rfl
theorem cd_84_11 : cd 84 11 = some (.aload_n 0, 1, 0, 0, 0, []) := rfl
theorem cd_84_12 : cd 84 12 = some (.getfield 33, 3, 8, 3, 0, []) := rfl
theorem cd_84_15 : cd 84 15 = some (.aload_n 0, 1, 0, 0, 0, []) := rfl
theorem cd_84_16 : cd 84 16 = some (.getfield 12, 3, 8, 0, 0, []) := rfl
theorem cd_84_19 : cd 84 19 = some (.invokevirtual 61, 3, 1, 2, 0, []) := rfl
theorem cd_84_22 : cd 84 22 = some (.aload_n 0, 1, 0, 0, 0, []) := rfl
theorem cd_84_23 : cd 84 23 = some (.getfield 12, 3, 8, 0, 0, []) := rfl
theorem cd_84_26 : cd 84 26 = some (.invokevirtual 83, 3, 50, 1, 0, []) := rfl
theorem cd_84_29 : cd 84 29 = some (.ireturn, 1, 0, 0, 0, []) := rfl
theorem cd_85_0 : cd 85 0 = some (.aload_n 0, 1, 0, 0, 0, []) := rfl
theorem cd_85_1 : cd 85 1 = some (.getfield 57, 3, 8, 7, 0, []) := rfl
theorem cd_85_4 : cd 85 4 = some (.invokevirtual 116, 3, 65, 1, 0, []) := rfl
theorem cd_85_7 : cd 85 7 = some (.ifCond .eq 39, 3, 0, 0, 0, []) := rfl
theorem cd_85_10 : cd 85 10 = some (.aload_n 0, 1, 0, 0, 0, []) := rfl
theorem cd_85_11 : cd 85 11 = some (.getfield 19, 3, 8, 1, 0, []) := rfl
theorem cd_85_14 : cd 85 14 = some (.invokevirtual 120, 3, 72, 1, 0, []) := rfl
theorem cd_85_17 : cd 85 17 = some (.ifCond .ne 29, 3, 0, 0, 0, []) := rfl
theorem cd_85_20 : cd 85 20 = some (.aload_n 0, 1, 0, 0, 0, []) := rfl
theorem cd_85_21 : cd 85 21 = some (.getfield 19, 3, 8, 1, 0, []) := rfl
theorem cd_85_24 : cd 85 24 = some (.aload_n 0, 1, 0, 0, 0, []) := rfl
theorem cd_85_25 : cd 85 25 = some (.getfield 57, 3, 8, 7, 0, []) := rfl
theorem cd_85_28 : cd 85 28 = some (.getfield 123, 3, 6, 0, 1, []) := rfl
theorem cd_85_31 : cd 85 31 = some (.iconst 0, 1, 0, 0, 0, []) := rfl
theorem cd_85_32 : cd 85 32 = some (.aload_n 0, 1, 0, 0, 0, []) := rfl
theorem cd_85_33 : cd 85 33 = some (.getfield 57, 3, 8, 7, 0, []) := rfl
theorem cd_85_36 : cd 85 36 = some (.getfield 127, 3, 6, 1, 1, []) := rfl
theorem cd_85_39 : cd 85 39 = some (.invokevirtual 131, 3, 77, 4, 0, []) := rfl
theorem cd_85_42 : cd 85 42 = some (.iconst (-1), 1, 0, 0, 0, []) := rfl
theorem cd_85_43 : cd 85 43 = some (.if_icmp .eq 13, 3, 0, 0, 0, []) := rfl
theorem cd_85_46 : cd 85 46 = some (.new 135, 3, 2, 0, 1, []) := rfl
theorem cd_85_56 : cd 85 56 = some (.aload_n 0, 1, 0, 0, 0, []) := rfl
theorem cd_85_57 : cd 85 57 = some (.invokevirtual 76, 3, 106, 1, 0, []) := rfl
theorem cd_85_60 : cd 85 60 = some (.aload_n 0, 1, 0, 0, 0, []) := rfl
theorem cd_85_61 : cd 85 61 = some (.getfield 19, 3, 8, 1, 0, []) := rfl
theorem cd_85_64 : cd 85 64 = some (.aload_n 0, 1, 0, 0, 0, []) := rfl
theorem cd_85_65 : cd 85 65 = some (.getfield 57, 3, 8, 7, 0, []) := rfl
theorem cd_85_68 : cd 85 68 = some (.getfield 123, 3, 6, 0, 1, []) := rfl
theorem cd_85_71 : cd 85 71 = some (.aload_n 0, 1, 0, 0, 0, []) := rfl
theorem cd_85_72 : cd 85 72 = some (.getfield 57, 3, 8, 7, 0, []) := rfl
theorem cd_85_75 : cd 85 75 = some (.getfield 127, 3, 6, 1, 1, []) := rfl
theorem cd_85_78 : cd 85 78 = some (.invokevirtual 140, 3, 75, 3, 0, []) := rfl
theorem cd_85_81 : cd 85 81 = some (.ireturn, 1, 0, 0, 0, []) := rfl
theorem cd_86_0 : cd 86 0 = some (.aload_n 0, 1, 0, 0, 0, []) := rfl
theorem cd_86_1 : cd 86 1 = some (.getfield 19, 3, 8, 1, 0, []) := rfl
theorem cd_86_4 : cd 86 4 = some (.iload_n 1, 1, 0, 0, 0, []) := rfl
theorem cd_86_5 : cd 86 5 = some (.invokevirtual 144, 3, 71, 2, 0, []) := rfl
theorem cd_86_8 : cd 86 8 = some (.ifCond .ne 13, 3, 0, 0, 0, []) := rfl
theorem cd_86_11 : cd 86 11 = some (.new 90, 3, 1, 0, 1, []) := rfl
theorem cd_86_21 : cd 86 21 = some (.aload_n 0, 1, 0, 0, 0, []) := rfl
theorem cd_86_22 : cd 86 22 = some (.invokevirtual 76, 3, 106, 1, 0, []) := rfl
theorem cd_86_25 : cd 86 25 = some (.aload_n 0, 1, 0, 0, 0, []) := rfl
theorem cd_86_26 : cd 86 26 = some (.getfield 19, 3, 8, 1, 0, []) := rfl
theorem cd_86_29 : cd 86 29 = some (.iload_n 1, 1, 0, 0, 0, []) := rfl
theorem cd_86_30 : cd 86 30 = some (.invokevirtual 149, 3, 76, 2, 0, []) := rfl
theorem cd_86_33 : cd 86 33 = some (.aload_n 0, 1, 0, 0, 0, []) := rfl
theorem cd_86_34 : cd 86 34 = some (.getfield 19, 3, 8, 1, 0, []) := rfl
theorem cd_86_37 : cd 86 37 = some (.getfield 153, 3, 7, 0, 1, []) := rfl
theorem cd_86_40 : cd 86 40 = some (.ireturn, 1, 0, 0, 0, []) := rfl
theorem cd_87_0 : cd 87 0 = some (.aload_n 0, 1, 0, 0, 0, []) := rfl
theorem cd_87_1 : cd 87 1 = some (.getfield 12, 3, 8, 0, 0, []) := rfl
theorem cd_87_4 : cd 87 4 = some (.iload_n 1, 1, 0, 0, 0, []) := rfl
theorem cd_87_5 : cd 87 5 = some (.invokevirtual 87, 3, 51, 2, 0, []) := rfl
theorem cd_87_8 : cd 87 8 = some (.ifCond .ne 13, 3, 0, 0, 0, []) := rfl
theorem cd_87_11 : cd 87 11 = some (.new 90, 3, 1, 0, 1, []) := rfl
theorem cd_87_21 : cd 87 21 = some (.iload_n 2, 1, 0, 0, 0, []) := rfl
theorem cd_87_22 : cd 87 22 = some (.iconst 0, 1, 0, 0, 0, []) := rfl
theorem cd_87_23 : cd 87 23 = some (.iconst 4, 1, 0, 0, 0, []) := rfl
theorem cd_87_24 : cd 87 24 = some (.invokestatic 156, 3, 116, 3, 2, []) := rfl
theorem cd_87_27 : cd 87 27 = some (.ifCond .ne 13, 3, 0, 0, 0, []) := rfl
theorem cd_87_30 : cd 87 30 = some (.new 69, 3, 0, 0, 1, []) := rfl
theorem cd_87_40 : cd 87 40 = some (.aload_n 0, 1, 0, 0, 0, []) := rfl
theorem cd_87_41 : cd 87 41 = some (.iload_n 1, 1, 0, 0, 0, []) := rfl
theorem cd_87_42 : cd 87 42 = some (.iload_n 2, 1, 0, 0, 0, []) := rfl
theorem cd_87_43 : cd 87 43 = some (.invokevirtual 162, 3, 107, 3, 0, []) := rfl
theorem cd_87_46 : cd 87 46 = some (.ireturn, 1, 0, 0, 0, []) := rfl
theorem cd_88_0 : cd 88 0 = some (.iload_n 1, 1, 0, 0, 0, []) := rfl
theorem cd_88_1 : cd 88 1 = some (.iconst 0, 1, 0, 0, 0, []) := rfl
theorem cd_88_2 : cd 88 2 = some (.bipush 9, 2, 0, 0, 0, []) := rfl
theorem cd_88_4 : cd 88 4 = some (.invokestatic 156, 3, 116, 3, 2, []) := rfl
theorem cd_88_7 : cd 88 7 = some (.ifCond .ne 13, 3, 0, 0, 0, []) := rfl
theorem cd_88_10 : cd 88 10 = some (.new 69, 3, 0, 0, 1, []) := rfl
theorem cd_88_20 : cd 88 20 = some (.aload_n 0, 1, 0, 0, 0, []) := rfl
theorem cd_88_21 : cd 88 21 = some (.iload_n 1, 1, 0, 0, 0, []) := rfl
theorem cd_88_22 : cd 88 22 = some (.invokevirtual 166, 3, 108, 2, 0, []) := rfl
theorem cd_88_25 : cd 88 25 = some (.ireturn, 1, 0, 0, 0, []) := rfl
theorem cd_89_0 : cd 89 0 = some (.aload_n 0, 1, 0, 0, 0, []) := rfl
theorem cd_89_1 : cd 89 1 = some (.getfield 19, 3, 8, 1, 0, []) := rfl
theorem cd_89_4 : cd 89 4 = some (.iload_n 1, 1, 0, 0, 0, []) := rfl
theorem cd_89_5 : cd 89 5 = some (.invokevirtual 144, 3, 71, 2, 0, []) := rfl
theorem cd_89_8 : cd 89 8 = some (.ifCond .eq 7, 3, 0, 0, 0, []) := rfl
theorem cd_89_11 : cd 89 11 = some (.iload_n 2, 1, 0, 0, 0, []) := rfl
theorem cd_89_12 : cd 89 12 = some (.ifCond .ge 13, 3, 0, 0, 0, []) := rfl
theorem cd_89_15 : cd 89 15 = some (.new 90, 3, 1, 0, 1, []) := rfl
theorem cd_89_25 : cd 89 25 = some (.aload_n 0, 1, 0, 0, 0, []) := rfl
theorem cd_89_26 : cd 89 26 = some (.getfield 19, 3, 8, 1, 0, []) := rfl
theorem cd_89_29 : cd 89 29 = some (.iload_n 1, 1, 0, 0, 0, []) := rfl
theorem cd_89_30 : cd 89 30 = some (.iload_n 2, 1, 0, 0, 0, []) := rfl
theorem cd_89_31 : cd 89 31 = some (.invokevirtual 171, 3, 73, 3, 0, []) := rfl
theorem cd_89_34 : cd 89 34 = some (.ireturn, 1, 0, 0, 0, []) := rfl
theorem cd_90_0 : cd 90 0 = some (.aload_n 0, 1, 0, 0, 0, []) := rfl
theorem cd_90_1 : cd 90 1 = some (.getfield 12, 3, 8, 0, 0, []) := rfl
theorem cd_90_4 : cd 90 4 = some (.iload_n 1, 1, 0, 0, 0, []) := rfl
theorem cd_90_5 : cd 90 5 = some (.invokevirtual 174, 3, 52, 2, 0, []) := rfl
theorem cd_90_8 : cd 90 8 = some (.ifCond .ne 13, 3, 0, 0, 0, []) := rfl
theorem cd_90_11 : cd 90 11 = some (.new 90, 3, 1, 0, 1, []) := rfl
theorem cd_90_21 : cd 90 21 = some (.iload_n 2, 1, 0, 0, 0, []) := rfl
theorem cd_90_22 : cd 90 22 = some (.iconst 0, 1, 0, 0, 0, []) := rfl
theorem cd_90_23 : cd 90 23 = some (.bipush 6, 2, 0, 0, 0, []) := rfl
theorem cd_90_25 : cd 90 25 = some (.invokestatic 156, 3, 116, 3, 2, []) := rfl
theorem cd_90_28 : cd 90 28 = some (.ifCond .ne 13, 3, 0, 0, 0, []) := rfl
theorem cd_90_31 : cd 90 31 = some (.new 69, 3, 0, 0, 1, []) := rfl
theorem cd_90_41 : cd 90 41 = some (.aload_n 0, 1, 0, 0, 0, []) := rfl
theorem cd_90_42 : cd 90 42 = some (.iload_n 1, 1, 0, 0, 0, []) := rfl
theorem cd_90_43 : cd 90 43 = some (.iload_n 2, 1, 0, 0, 0, []) := rfl
theorem cd_90_44 : cd 90 44 = some (.invokevirtual 179, 3, 109, 3, 0, []) := rfl
theorem cd_90_47 : cd 90 47 = some (.ireturn, 1, 0, 0, 0, []) := rfl
theorem cd_91_0 : cd 91 0 = some (.aload_n 0, 1, 0, 0, 0, []) := rfl
theorem cd_91_1 : cd 91 1 = some (.getfield 12, 3, 8, 0, 0, []) := rfl
theorem cd_91_4 : cd 91 4 = some (.iload_n 1, 1, 0, 0, 0, []) := rfl
theorem cd_91_5 : cd 91 5 = some (.invokevirtual 174, 3, 52, 2, 0, []) := rfl
theorem cd_91_8 : cd 91 8 = some (.ifCond .eq 19, 3, 0, 0, 0, []) := rfl
theorem cd_91_11 : cd 91 11 = some (.iload_n 2, 1, 0, 0, 0, []) := rfl
theorem cd_91_12 : cd 91 12 = some (.ifCond .lt 15, 3, 0, 0, 0, []) := rfl
theorem cd_91_15 : cd 91 15 = some (.iload_n 2, 1, 0, 0, 0, []) := rfl
theorem cd_91_16 : cd 91 16 = some (.aload_n 0, 1, 0, 0, 0, []) := rfl
theorem cd_91_17 : cd 91 17 = some (.getfield 33, 3, 8, 3, 0, []) := rfl
theorem cd_91_20 : cd 91 20 = some (.iload_n 1, 1, 0, 0, 0, []) := rfl
theorem cd_91_21 : cd 91 21 = some (.invokevirtual 182, 3, 9, 2, 0, []) := rfl
theorem cd_91_24 : cd 91 24 = some (.if_icmp .lt 13, 3, 0, 0, 0, []) := rfl
theorem cd_91_27 : cd 91 27 = some (.new 90, 3, 1, 0, 1, []) := rfl
theorem cd_91_37 : cd 91 37 = some (.aload_n 0, 1, 0, 0, 0, []) := rfl
theorem cd_91_38 : cd 91 38 = some (.getfield 33, 3, 8, 3, 0, []) := rfl
theorem cd_91_41 : cd 91 41 = some (.iload_n 1, 1, 0, 0, 0, []) := rfl
theorem cd_91_42 : cd 91 42 = some (.iload_n 2, 1, 0, 0, 0, []) := rfl
theorem cd_91_43 : cd 91 43 = some (.invokevirtual 187, 3, 14, 3, 0, []) := rfl
theorem cd_91_46 : cd 91 46 = some (.ireturn, 1, 0, 0, 0, []) := rfl
theorem cd_92_0 : cd 92 0 = some (.aload_n 0, 1, 0, 0, 0, []) := rfl
theorem cd_92_1 : cd 92 1 = some (.getfield 12, 3, 8, 0, 0, []) := rfl
theorem cd_92_4 : cd 92 4 = some (.iload_n 1, 1, 0, 0, 0, []) := rfl
theorem cd_92_5 : cd 92 5 = some (.invokevirtual 174, 3, 52, 2, 0, []) := rfl
theorem cd_92_8 : cd 92 8 = some (.ifCond .eq 7, 3, 0, 0, 0, []) := rfl
theorem cd_92_11 : cd 92 11 = some (.iload_n 2, 1, 0, 0, 0, []) := rfl
theorem cd_92_12 : cd 92 12 = some (.ifCond .ge 13, 3, 0, 0, 0, []) := rfl
theorem cd_92_15 : cd 92 15 = some (.new 90, 3, 1, 0, 1, []) := rfl
theorem cd_92_25 : cd 92 25 = some (.aload_n 0, 1, 0, 0, 0, []) := rfl
theorem cd_92_26 : cd 92 26 = some (.getfield 47, 3, 8, 5, 0, []) := rfl
theorem cd_92_29 : cd 92 29 = some (.aload_n 0, 1, 0, 0, 0, []) := rfl
theorem cd_92_30 : cd 92 30 = some (.getfield 12, 3, 8, 0, 0, []) := rfl
theorem cd_92_33 : cd 92 33 = some (.aload_n 0, 1, 0, 0, 0, []) := rfl
theorem cd_92_34 : cd 92 34 = some (.getfield 33, 3, 8, 3, 0, []) := rfl
theorem cd_92_37 : cd 92 37 = some (.iload_n 1, 1, 0, 0, 0, []) := rfl
theorem cd_92_38 : cd 92 38 = some (.invokevirtual 192, 3, 31, 4, 0, []) := rfl
theorem cd_92_41 : cd 92 41 = some (.aload_n 0, 1, 0, 0, 0, []) := rfl
theorem cd_92_42 : cd 92 42 = some (.getfield 47, 3, 8, 5, 0, []) := rfl
theorem cd_92_45 : cd 92 45 = some (.iload_n 2, 1, 0, 0, 0, []) := rfl
theorem cd_92_46 : cd 92 46 = some (.invokevirtual 196, 3, 35, 2, 0, []) := rfl
theorem cd_92_49 : cd 92 49 = some (.ireturn, 1, 0, 0, 0, []) := rfl
theorem cd_93_0 : cd 93 0 = some (.aload_n 0, 1, 0, 0, 0, []) := rfl
theorem cd_93_1 : cd 93 1 = some (.getfield 12, 3, 8, 0, 0, []) := rfl
theorem cd_93_4 : cd 93 4 = some (.iload_n 1, 1, 0, 0, 0, []) := rfl
theorem cd_93_5 : cd 93 5 = some (.invokevirtual 174, 3, 52, 2, 0, []) := rfl
theorem cd_93_8 : cd 93 8 = some (.ifCond .ne 13, 3, 0, 0, 0, []) := rfl
theorem cd_93_11 : cd 93 11 = some (.new 90, 3, 1, 0, 1, []) := rfl
theorem cd_93_21 : cd 93 21 = some (.aload_n 0, 1, 0, 0, 0, []) := rfl
theorem cd_93_22 : cd 93 22 = some (.iload_n 1, 1, 0, 0, 0, []) := rfl
theorem cd_93_23 : cd 93 23 = some (.invokevirtual 197, 3, 110, 2, 0, []) := rfl
theorem cd_93_26 : cd 93 26 = some (.ireturn, 1, 0, 0, 0, []) := rfl
theorem cd_94_0 : cd 94 0 = some (.aload_n 0, 1, 0, 0, 0, []) := rfl
theorem cd_94_1 : cd 94 1 = some (.getfield 12, 3, 8, 0, 0, []) := rfl
theorem cd_94_4 : cd 94 4 = some (.iload_n 1, 1, 0, 0, 0, []) := rfl
theorem cd_94_5 : cd 94 5 = some (.invokevirtual 174, 3, 52, 2, 0, []) := rfl
theorem cd_94_8 : cd 94 8 = some (.ifCond .ne 13, 3, 0, 0, 0, []) := rfl
theorem cd_94_11 : cd 94 11 = some (.new 90, 3, 1, 0, 1, []) := rfl
theorem cd_94_21 : cd 94 21 = some (.aload_n 0, 1, 0, 0, 0, []) := rfl
theorem cd_94_22 : cd 94 22 = some (.getfield 33, 3, 8, 3, 0, []) := rfl
theorem cd_94_25 : cd 94 25 = some (.iload_n 1, 1, 0, 0, 0, []) := rfl
theorem cd_94_26 : cd 94 26 = some (.invokevirtual 200, 3, 8, 2, 0, []) := rfl
theorem cd_94_29 : cd 94 29 = some (.istore_n 2, 1, 0, 0, 0, []) := rfl
theorem cd_94_30 : cd 94 30 = some (.iload_n 2, 1, 0, 0, 0, []) := rfl
theorem cd_94_31 : cd 94 31 = some (.iconst (-1), 1, 0, 0, 0, []) := rfl
theorem cd_94_32 : cd 94 32 = some (.if_icmp .ne 5, 3, 0, 0, 0, []) := rfl
theorem cd_94_35 : cd 94 35 = some (.iconst 0, 1, 0, 0, 0, []) := rfl
theorem cd_94_36 : cd 94 36 = some (.ireturn, 1, 0, 0, 0, []) := rfl
theorem cd_94_37 : cd 94 37 = some (.aload_n 0, 1, 0, 0, 0, []) := rfl
theorem cd_94_38 : cd 94 38 = some (.getfield 47, 3, 8, 5, 0, []) := rfl
theorem cd_94_41 : cd 94 41 = some (.aload_n 0, 1, 0, 0, 0, []) := rfl
theorem cd_94_42 : cd 94 42 = some (.getfield 12, 3, 8, 0, 0, []) := rfl
theorem cd_94_45 : cd 94 45 = some (.aload_n 0, 1, 0, 0, 0, []) := rfl
theorem cd_94_46 : cd 94 46 = some (.getfield 33, 3, 8, 3, 0, []) := rfl
theorem cd_94_49 : cd 94 49 = some (.iload_n 1, 1, 0, 0, 0, []) := rfl
theorem cd_94_50 : cd 94 50 = some (.invokevirtual 192, 3, 31, 4, 0, []) := rfl
theorem cd_94_53 : cd 94 53 = some (.aload_n 0, 1, 0, 0, 0, []) := rfl
theorem cd_94_54 : cd 94 54 = some (.getfield 51, 3, 8, 6, 0, []) := rfl
theorem cd_94_57 : cd 94 57 = some (.aload_n 0, 1, 0, 0, 0, []) := rfl
theorem cd_94_58 : cd 94 58 = some (.getfield 12, 3, 8, 0, 0, []) := rfl
theorem cd_94_61 : cd 94 61 = some (.aload_n 0, 1, 0, 0, 0, []) := rfl
theorem cd_94_62 : cd 94 62 = some (.getfield 33, 3, 8, 3, 0, []) := rfl
theorem cd_94_65 : cd 94 65 = some (.iload_n 2, 1, 0, 0, 0, []) := rfl
theorem cd_94_66 : cd 94 66 = some (.invokevirtual 192, 3, 31, 4, 0, []) := rfl
theorem cd_94_69 : cd 94 69 = some (.aload_n 0, 1, 0, 0, 0, []) := rfl
theorem cd_94_70 : cd 94 70 = some (.getfield 47, 3, 8, 5, 0, []) := rfl
theorem cd_94_73 : cd 94 73 = some (.aload_n 0, 1, 0, 0, 0, []) := rfl
theorem cd_94_74 : cd 94 74 = some (.getfield 51, 3, 8, 6, 0, []) := rfl
theorem cd_94_77 : cd 94 77 = some (.invokevirtual 203, 3, 36, 2, 0, []) := rfl
theorem cd_94_80 : cd 94 80 = some (.ireturn, 1, 0, 0, 0, []) := rfl
theorem cd_95_0 : cd 95 0 = some (.iload_n 1, 1, 0, 0, 0, []) := rfl
theorem cd_95_1 : cd 95 1 = some (.iconst 1, 1, 0, 0, 0, []) := rfl
theorem cd_95_2 : cd 95 2 = some (.bipush 50, 2, 0, 0, 0, []) := rfl
theorem cd_95_4 : cd 95 4 = some (.invokestatic 156, 3, 116, 3, 2, []) := rfl
theorem cd_95_7 : cd 95 7 = some (.ifCond .ne 13, 3, 0, 0, 0, []) := rfl
theorem cd_95_10 : cd 95 10 = some (.new 69, 3, 0, 0, 1, []) := rfl
theorem cd_95_20 : cd 95 20 = some (.aload_n 0, 1, 0, 0, 0, []) := rfl
theorem cd_95_21 : cd 95 21 = some (.getfield 40, 3, 8, 4, 0, []) := rfl
theorem cd_95_24 : cd 95 24 = some (.aload_n 0, 1, 0, 0, 0, []) := rfl
theorem cd_95_25 : cd 95 25 = some (.getfield 12, 3, 8, 0, 0, []) := rfl
theorem cd_95_28 : cd 95 28 = some (.aload_n 0, 1, 0, 0, 0, []) := rfl
theorem cd_95_29 : cd 95 29 = some (.getfield 33, 3, 8, 3, 0, []) := rfl
theorem cd_95_32 : cd 95 32 = some (.iload_n 1, 1, 0, 0, 0, []) := rfl
theorem cd_95_33 : cd 95 33 = some (.invokevirtual 209, 3, 39, 4, 0, []) := rfl
theorem cd_95_36 : cd 95 36 = some (.aload_n 0, 1, 0, 0, 0, []) := rfl
theorem cd_95_37 : cd 95 37 = some (.getfield 40, 3, 8, 4, 0, []) := rfl
theorem cd_95_40 : cd 95 40 = some (.getfield 212, 3, 4, 8, 1, []) := rfl
theorem cd_95_43 : cd 95 43 = some (.ireturn, 1, 0, 0, 0, []) := rfl
theorem cd_96_0 : cd 96 0 = some (.iload_n 1, 1, 0, 0, 0, []) := rfl
theorem cd_96_1 : cd 96 1 = some (.iconst 1, 1, 0, 0, 0, []) := rfl
theorem cd_96_2 : cd 96 2 = some (.bipush 50, 2, 0, 0, 0, []) := rfl
theorem cd_96_4 : cd 96 4 = some (.invokestatic 156, 3, 116, 3, 2, []) := rfl
theorem cd_96_7 : cd 96 7 = some (.ifCond .ne 13, 3, 0, 0, 0, []) := rfl
theorem cd_96_10 : cd 96 10 = some (.new 69, 3, 0, 0, 1, []) := rfl
theorem cd_96_20 : cd 96 20 = some (.aload_n 0, 1, 0, 0, 0, []) := rfl
theorem cd_96_21 : cd 96 21 = some (.getfield 40, 3, 8, 4, 0, []) := rfl
theorem cd_96_24 : cd 96 24 = some (.aload_n 0, 1, 0, 0, 0, []) := rfl
theorem cd_96_25 : cd 96 25 = some (.getfield 12, 3, 8, 0, 0, []) := rfl
theorem cd_96_28 : cd 96 28 = some (.aload_n 0, 1, 0, 0, 0, []) := rfl
theorem cd_96_29 : cd 96 29 = some (.getfield 33, 3, 8, 3, 0, []) := rfl
theorem cd_96_32 : cd 96 32 = some (.iload_n 1, 1, 0, 0, 0, []) := rfl
theorem cd_96_33 : cd 96 33 = some (.invokevirtual 209, 3, 39, 4, 0, []) := rfl
theorem cd_96_36 : cd 96 36 = some (.aload_n 0, 1, 0, 0, 0, []) := rfl
theorem cd_96_37 : cd 96 37 = some (.getfield 40, 3, 8, 4, 0, []) := rfl
theorem cd_96_40 : cd 96 40 = some (.getfield 215, 3, 4, 11, 1, []) := rfl
theorem cd_96_43 : cd 96 43 = some (.ifCond .eq 9, 3, 0, 0, 0, []) := rfl
theorem cd_96_46 : cd 96 46 = some (.sipush (-2000), 3, 0, 0, 0, []) := rfl
theorem cd_96_49 : cd 96 49 = some (.goto 10, 3, 0, 0, 0, []) := rfl
theorem cd_96_52 : cd 96 52 = some (.aload_n 0, 1, 0, 0, 0, []) := rfl
theorem cd_96_53 : cd 96 53 = some (.getfield 40, 3, 8, 4, 0, []) := rfl
theorem cd_96_56 : cd 96 56 = some (.getfield 219, 3, 4, 7, 1, []) := rfl
theorem cd_96_59 : cd 96 59 = some (.ireturn, 1, 0, 0, 0, []) := rfl
theorem cd_97_0 : cd 97 0 = some (.iload_n 1, 1, 0, 0, 0, []) := rfl
theorem cd_97_1 : cd 97 1 = some (.ifCond .ge 13, 3, 0, 0, 0, []) := rfl
theorem cd_97_4 : cd 97 4 = some (.new 90, 3, 1, 0, 1, []) := rfl
theorem cd_97_14 : cd 97 14 = some (.aload_n 0, 1, 0, 0, 0, []) := rfl
theorem cd_97_15 : cd 97 15 = some (.getfield 40, 3, 8, 4, 0, []) := rfl
theorem cd_97_18 : cd 97 18 = some (.aload_n 0, 1, 0, 0, 0, []) := rfl
theorem cd_97_19 : cd 97 19 = some (.getfield 12, 3, 8, 0, 0, []) := rfl
theorem cd_97_22 : cd 97 22 = some (.aload_n 0, 1, 0, 0, 0, []) := rfl
theorem cd_97_23 : cd 97 23 = some (.getfield 33, 3, 8, 3, 0, []) := rfl
theorem cd_97_26 : cd 97 26 = some (.iconst 1, 1, 0, 0, 0, []) := rfl
theorem cd_97_27 : cd 97 27 = some (.invokevirtual 209, 3, 39, 4, 0, []) := rfl
theorem cd_97_30 : cd 97 30 = some (.aload_n 0, 1, 0, 0, 0, []) := rfl
theorem cd_97_31 : cd 97 31 = some (.getfield 40, 3, 8, 4, 0, []) := rfl
theorem cd_97_34 : cd 97 34 = some (.iload_n 1, 1, 0, 0, 0, []) := rfl
theorem cd_97_35 : cd 97 35 = some (.invokevirtual 224, 3, 45, 2, 0, []) := rfl
theorem cd_97_38 : cd 97 38 = some (.ireturn, 1, 0, 0, 0, []) := rfl
theorem cd_98_0 : cd 98 0 = some (.aload_n 0, 1, 0, 0, 0, []) := rfl
theorem cd_98_1 : cd 98 1 = some (.getfield 40, 3, 8, 4, 0, []) := rfl
theorem cd_98_4 : cd 98 4 = some (.aload_n 0, 1, 0, 0, 0, []) := rfl
theorem cd_98_5 : cd 98 5 = some (.getfield 12, 3, 8, 0, 0, []) := rfl
theorem cd_98_8 : cd 98 8 = some (.aload_n 0, 1, 0, 0, 0, []) := rfl
theorem cd_98_9 : cd 98 9 = some (.getfield 33, 3, 8, 3, 0, []) := rfl
theorem cd_98_12 : cd 98 12 = some (.bipush 50, 2, 0, 0, 0, []) := rfl
theorem cd_98_14 : cd 98 14 = some (.invokevirtual 209, 3, 39, 4, 0, []) := rfl
theorem cd_98_17 : cd 98 17 = some (.aload_n 0, 1, 0, 0, 0, []) := rfl
theorem cd_98_18 : cd 98 18 = some (.getfield 40, 3, 8, 4, 0, []) := rfl
theorem cd_98_21 : cd 98 21 = some (.getfield 227, 3, 4, 10, 1, []) := rfl
theorem cd_98_24 : cd 98 24 = some (.ireturn, 1, 0, 0, 0, []) := rfl
theorem cd_99_0 : cd 99 0 = some (.iconst (-1), 1, 0, 0, 0, []) := rfl
theorem cd_99_1 : cd 99 1 = some (.istore_n 1, 1, 0, 0, 0, []) := rfl
theorem cd_99_2 : cd 99 2 = some (.iconst 0, 1, 0, 0, 0, []) := rfl
theorem cd_99_3 : cd 99 3 = some (.istore_n 2, 1, 0, 0, 0, []) := rfl
theorem cd_99_4 : cd 99 4 = some (.iload_n 2, 1, 0, 0, 0, []) := rfl
theorem cd_99_5 : cd 99 5 = some (.aload_n 0, 1, 0, 0, 0, []) := rfl
theorem cd_99_6 : cd 99 6 = some (.getfield 12, 3, 8, 0, 0, []) := rfl
theorem cd_99_9 : cd 99 9 = some (.invokevirtual 230, 3, 49, 1, 0, []) := rfl
theorem cd_99_12 : cd 99 12 = some (.if_icmp .ge 33, 3, 0, 0, 0, []) := rfl
theorem cd_99_15 : cd 99 15 = some (.iload_n 1, 1, 0, 0, 0, []) := rfl
theorem cd_99_16 : cd 99 16 = some (.iconst (-1), 1, 0, 0, 0, []) := rfl
theorem cd_99_17 : cd 99 17 = some (.if_icmp .ne 28, 3, 0, 0, 0, []) := rfl
theorem cd_99_20 : cd 99 20 = some (.aload_n 0, 1, 0, 0, 0, []) := rfl
theorem cd_99_21 : cd 99 21 = some (.getfield 12, 3, 8, 0, 0, []) := rfl
theorem cd_99_24 : cd 99 24 = some (.iload_n 2, 1, 0, 0, 0, []) := rfl
theorem cd_99_25 : cd 99 25 = some (.invokevirtual 100, 3, 53, 2, 0, []) := rfl
theorem cd_99_28 : cd 99 28 = some (.bipush 35, 2, 0, 0, 0, []) := rfl
theorem cd_99_30 : cd 99 30 = some (.if_icmp .ne 9, 3, 0, 0, 0, []) := rfl
theorem cd_99_33 : cd 99 33 = some (.aload_n 0, 1, 0, 0, 0, []) := rfl
theorem cd_99_34 : cd 99 34 = some (.iload_n 2, 1, 0, 0, 0, []) := rfl
theorem cd_99_35 : cd 99 35 = some (.invokevirtual 233, 3, 111, 2, 0, []) := rfl
theorem cd_99_38 : cd 99 38 = some (.istore_n 1, 1, 0, 0, 0, []) := rfl
theorem cd_99_39 : cd 99 39 = some (.iinc 2 1, 3, 0, 0, 0, []) := rfl
theorem cd_99_42 : cd 99 42 = some (.goto (-38), 3, 0, 0, 0, []) := rfl
theorem cd_99_45 : cd 99 45 = some (.aload_n 0, 1, 0, 0, 0, []) := rfl
theorem cd_99_46 : cd 99 46 = some (.getfield 33, 3, 8, 3, 0, []) := rfl
theorem cd_99_49 : cd 99 49 = some (.aload_n 0, 1, 0, 0, 0, []) := rfl
theorem cd_99_50 : cd 99 50 = some (.getfield 12, 3, 8, 0, 0, []) := rfl
theorem cd_99_53 : cd 99 53 = some (.invokevirtual 61, 3, 1, 2, 0, []) := rfl
theorem cd_99_56 : cd 99 56 = some (.iload_n 1, 1, 0, 0, 0, []) := rfl
theorem cd_99_57 : cd 99 57 = some (.ireturn, 1, 0, 0, 0, []) := rfl
theorem cd_100_0 : cd 100 0 = some (.aload_n 0, 1, 0, 0, 0, []) := rfl
theorem cd_100_1 : cd 100 1 = some (.getfield 12, 3, 8, 0, 0, []) := rfl
theorem cd_100_4 : cd 100 4 = some (.invokevirtual 236, 3, 57, 1, 0, []) := rfl
theorem cd_100_7 : cd 100 7 = some (.lstore_n 1, 1, 0, 0, 0, []) := rfl
theorem cd_100_8 : cd 100 8 = some (.lload_n 1, 1, 0, 0, 0, []) := rfl
theorem cd_100_9 : cd 100 9 = some (.lconst 0, 1, 0, 0, 0, []) := rfl
theorem cd_100_10 : cd 100 10 = some (.lcmp, 1, 0, 0, 0, []) := rfl
theorem cd_100_11 : cd 100 11 = some (.ifCond .ne 5, 3, 0, 0, 0, []) := rfl
theorem cd_100_14 : cd 100 14 = some (.dconst 1, 1, 0, 0, 0, []) := rfl
theorem cd_100_15 : cd 100 15 = some (.dreturn, 1, 0, 0, 0, []) := rfl
theorem cd_100_16 : cd 100 16 = some (.lconst 0, 1, 0, 0, 0, []) := rfl
theorem cd_100_17 : cd 100 17 = some (.lstore_n 3, 1, 0, 0, 0, []) := rfl
theorem cd_100_18 : cd 100 18 = some (.iconst 0, 1, 0, 0, 0, []) := rfl
theorem cd_100_19 : cd 100 19 = some (.istore 5, 2, 0, 0, 0, []) := rfl
theorem cd_100_21 : cd 100 21 = some (.iload 5, 2, 0, 0, 0, [2, 4]) := rfl
theorem cd_100_23 : cd 100 23 = some (.aload_n 0, 1, 0, 0, 0, []) := rfl
theorem cd_100_24 : cd 100 24 = some (.getfield 12, 3, 8, 0, 0, []) := rfl
theorem cd_100_27 : cd 100 27 = some (.invokevirtual 83, 3, 50, 1, 0, []) := rfl
theorem cd_100_30 : cd 100 30 = some (.if_icmp .ge 30, 3, 0, 0, 0, []) := rfl
theorem cd_100_33 : cd 100 33 = some (.aload_n 0, 1, 0, 0, 0, []) := rfl
theorem cd_100_34 : cd 100 34 = some (.iload 5, 2, 0, 0, 0, []) := rfl
theorem cd_100_36 : cd 100 36 = some (.invokevirtual 197, 3, 110, 2, 0, []) := rfl
theorem cd_100_39 : cd 100 39 = some (.ifCond .lt 15, 3, 0, 0, 0, []) := rfl
theorem cd_100_42 : cd 100 42 = some (.lload_n 3, 1, 0, 0, 0, []) := rfl
theorem cd_100_43 : cd 100 43 = some (.aload_n 0, 1, 0, 0, 0, []) := rfl
theorem cd_100_44 : cd 100 44 = some (.getfield 33, 3, 8, 3, 0, []) := rfl
theorem cd_100_47 : cd 100 47 = some (.iload 5, 2, 0, 0, 0, []) := rfl
theorem cd_100_49 : cd 100 49 = some (.invokevirtual 240, 3, 13, 2, 0, []) := rfl
theorem cd_100_52 : cd 100 52 = some (.lor, 1, 0, 0, 0, []) := rfl
theorem cd_100_53 : cd 100 53 = some (.lstore_n 3, 1, 0, 0, 0, []) := rfl
theorem cd_100_54 : cd 100 54 = some (.iinc 5 1, 3, 0, 0, 0, []) := rfl
theorem cd_100_57 : cd 100 57 = some (.goto (-36), 3, 0, 0, 0, []) := rfl
theorem cd_100_60 : cd 100 60 = some (.lload_n 3, 1, 0, 0, 0, []) := rfl
theorem cd_100_61 : cd 100 61 = some (.lload_n 1, 1, 0, 0, 0, []) := rfl
theorem cd_100_62 : cd 100 62 = some (.land, 1, 0, 0, 0, []) := rfl
theorem cd_100_63 : cd 100 63 = some (.invokestatic 244, 3, 199, 1, 2, []) := rfl
theorem cd_100_66 : cd 100 66 = some (.i2d, 1, 0, 0, 0, []) := rfl
theorem cd_100_67 : cd 100 67 = some (.lload_n 1, 1, 0, 0, 0, []) := rfl
theorem cd_100_68 : cd 100 68 = some (.invokestatic 244, 3, 199, 1, 2, []) := rfl
theorem cd_100_71 : cd 100 71 = some (.i2d, 1, 0, 0, 0, []) := rfl
theorem cd_100_72 : cd 100 72 = some (.ddiv, 1, 0, 0, 0, []) := rfl
theorem cd_100_73 : cd 100 73 = some (.dreturn, 1, 0, 0, 0, []) := rfl
theorem cd_101_0 : cd 101 0 = some (.iload_n 1, 1, 0, 0, 0, []) := rfl
theorem cd_101_1 : cd 101 1 = some (.iconst 0, 1, 0, 0, 0, []) := rfl
theorem cd_101_2 : cd 101 2 = some (.bipush 127, 2, 0, 0, 0, []) := rfl
theorem cd_101_4 : cd 101 4 = some (.invokestatic 156, 3, 116, 3, 2, []) := rfl
theorem cd_101_7 : cd 101 7 = some (.ifCond .ne 13, 3, 0, 0, 0, []) := rfl
theorem cd_101_10 : cd 101 10 = some (.new 69, 3, 0, 0, 1, []) := rfl
theorem cd_101_20 : cd 101 20 = some (.aload_n 0, 1, 0, 0, 0, []) := rfl
theorem cd_101_21 : cd 101 21 = some (.getfield 57, 3, 8, 7, 0, []) := rfl
theorem cd_101_24 : cd 101 24 = some (.invokevirtual 252, 3, 63, 1, 0, []) := rfl
theorem cd_101_27 : cd 101 27 = some (.ifCond .eq 13, 3, 0, 0, 0, []) := rfl
theorem cd_101_30 : cd 101 30 = some (.new 135, 3, 2, 0, 1, []) := rfl
theorem cd_101_40 : cd 101 40 = some (.aload_n 0, 1, 0, 0, 0, []) := rfl
theorem cd_101_41 : cd 101 41 = some (.getfield 57, 3, 8, 7, 0, []) := rfl
theorem cd_101_44 : cd 101 44 = some (.iload_n 1, 1, 0, 0, 0, []) := rfl
theorem cd_101_45 : cd 101 45 = some (.invokevirtual 255, 3, 64, 2, 0, []) := rfl
theorem cd_101_48 : cd 101 48 = some (.aload_n 0, 1, 0, 0, 0, []) := rfl
theorem cd_101_49 : cd 101 49 = some (.getfield 57, 3, 8, 7, 0, []) := rfl
theorem cd_101_52 : cd 101 52 = some (.getfield 127, 3, 6, 1, 1, []) := rfl
theorem cd_101_55 : cd 101 55 = some (.ireturn, 1, 0, 0, 0, []) := rfl
theorem cd_102_0 : cd 102 0 = some (.aload_n 0, 1, 0, 0, 0, []) := rfl
theorem cd_102_1 : cd 102 1 = some (.getfield 57, 3, 8, 7, 0, []) := rfl
theorem cd_102_4 : cd 102 4 = some (.getfield 127, 3, 6, 1, 1, []) := rfl
theorem cd_102_7 : cd 102 7 = some (.istore_n 1, 1, 0, 0, 0, []) := rfl
theorem cd_102_8 : cd 102 8 = some (.aload_n 0, 1, 0, 0, 0, []) := rfl
theorem cd_102_9 : cd 102 9 = some (.getfield 57, 3, 8, 7, 0, []) := rfl
theorem cd_102_12 : cd 102 12 = some (.iconst 0, 1, 0, 0, 0, []) := rfl
theorem cd_102_13 : cd 102 13 = some (.putfield 127, 3, 6, 1, 1, []) := rfl
theorem cd_102_16 : cd 102 16 = some (.iload_n 1, 1, 0, 0, 0, []) := rfl
theorem cd_102_17 : cd 102 17 = some (.ireturn, 1, 0, 0, 0, []) := rfl
theorem cd_104_0 : cd 104 0 = some (.aload_n 0, 1, 0, 0, 0, []) := rfl
theorem cd_104_1 : cd 104 1 = some (.getfield 26, 3, 8, 2, 0, []) := rfl
theorem cd_104_4 : cd 104 4 = some (.getfield 266, 3, 2, 2, 1, []) := rfl
theorem cd_104_7 : cd 104 7 = some (.ifCond .ne 14, 3, 0, 0, 0, []) := rfl
theorem cd_104_10 : cd 104 10 = some (.new 135, 3, 2, 0, 1, []) := rfl
theorem cd_104_21 : cd 104 21 = some (.aload_n 0, 1, 0, 0, 0, []) := rfl
theorem cd_104_22 : cd 104 22 = some (.getfield 26, 3, 8, 2, 0, []) := rfl
theorem cd_104_25 : cd 104 25 = some (.aload_n 0, 1, 0, 0, 0, []) := rfl
theorem cd_104_26 : cd 104 26 = some (.getfield 12, 3, 8, 0, 0, []) := rfl
theorem cd_104_29 : cd 104 29 = some (.aload_n 0, 1, 0, 0, 0, []) := rfl
theorem cd_104_30 : cd 104 30 = some (.getfield 19, 3, 8, 1, 0, []) := rfl
theorem cd_104_33 : cd 104 33 = some (.invokevirtual 269, 3, 27, 3, 0, []) := rfl
theorem cd_104_36 : cd 104 36 = some (.aload_n 0, 1, 0, 0, 0, []) := rfl
theorem cd_104_37 : cd 104 37 = some (.getfield 33, 3, 8, 3, 0, []) := rfl
theorem cd_104_40 : cd 104 40 = some (.aload_n 0, 1, 0, 0, 0, []) := rfl
theorem cd_104_41 : cd 104 41 = some (.getfield 12, 3, 8, 0, 0, []) := rfl
theorem cd_104_44 : cd 104 44 = some (.invokevirtual 61, 3, 1, 2, 0, []) := rfl
theorem cd_104_47 : cd 104 47 = some (.aload_n 0, 1, 0, 0, 0, []) := rfl
theorem cd_104_48 : cd 104 48 = some (.getfield 26, 3, 8, 2, 0, []) := rfl
theorem cd_104_51 : cd 104 51 = some (.getfield 266, 3, 2, 2, 1, []) := rfl
theorem cd_104_54 : cd 104 54 = some (.ireturn, 1, 0, 0, 0, []) := rfl
theorem cd_106_0 : cd 106 0 = some (.aload_n 0, 1, 0, 0, 0, []) := rfl
theorem cd_106_1 : cd 106 1 = some (.getfield 26, 3, 8, 2, 0, []) := rfl
theorem cd_106_4 : cd 106 4 = some (.aload_n 0, 1, 0, 0, 0, []) := rfl
theorem cd_106_5 : cd 106 5 = some (.getfield 12, 3, 8, 0, 0, []) := rfl
theorem cd_106_8 : cd 106 8 = some (.aload_n 0, 1, 0, 0, 0, []) := rfl
theorem cd_106_9 : cd 106 9 = some (.getfield 19, 3, 8, 1, 0, []) := rfl
theorem cd_106_12 : cd 106 12 = some (.invokevirtual 289, 3, 26, 3, 0, []) := rfl
theorem cd_106_15 : cd 106 15 = some (.return_, 1, 0, 0, 0, []) := rfl
theorem cd_107_0 : cd 107 0 = some (.iload_n 2, 1, 0, 0, 0, []) := rfl
theorem cd_107_1 : cd 107 1 = some (.tableswitch 67 0 3 #[31, 40, 49, 58], 31, 0, 0, 0, []) := rfl
theorem cd_107_32 : cd 107 32 = some (.aload_n 0, 1, 0, 0, 0, []) := rfl
theorem cd_107_33 : cd 107 33 = some (.getfield 12, 3, 8, 0, 0, []) := rfl
theorem cd_107_36 : cd 107 36 = some (.iload_n 1, 1, 0, 0, 0, []) := rfl
theorem cd_107_37 : cd 107 37 = some (.invokevirtual 100, 3, 53, 2, 0, []) := rfl
theorem cd_107_40 : cd 107 40 = some (.ireturn, 1, 0, 0, 0, []) := rfl
theorem cd_107_41 : cd 107 41 = some (.aload_n 0, 1, 0, 0, 0, []) := rfl
theorem cd_107_42 : cd 107 42 = some (.getfield 33, 3, 8, 3, 0, []) := rfl
theorem cd_107_45 : cd 107 45 = some (.iload_n 1, 1, 0, 0, 0, []) := rfl
theorem cd_107_46 : cd 107 46 = some (.invokevirtual 292, 3, 15, 2, 0, []) := rfl
theorem cd_107_49 : cd 107 49 = some (.ireturn, 1, 0, 0, 0, []) := rfl
theorem cd_107_50 : cd 107 50 = some (.aload_n 0, 1, 0, 0, 0, []) := rfl
theorem cd_107_51 : cd 107 51 = some (.getfield 33, 3, 8, 3, 0, []) := rfl
theorem cd_107_54 : cd 107 54 = some (.iload_n 1, 1, 0, 0, 0, []) := rfl
theorem cd_107_55 : cd 107 55 = some (.invokevirtual 295, 3, 16, 2, 0, []) := rfl
theorem cd_107_58 : cd 107 58 = some (.ireturn, 1, 0, 0, 0, []) := rfl
theorem cd_107_59 : cd 107 59 = some (.aload_n 0, 1, 0, 0, 0, []) := rfl
theorem cd_107_60 : cd 107 60 = some (.getfield 33, 3, 8, 3, 0, []) := rfl
theorem cd_107_63 : cd 107 63 = some (.iload_n 1, 1, 0, 0, 0, []) := rfl
theorem cd_107_64 : cd 107 64 = some (.invokevirtual 298, 3, 17, 2, 0, []) := rfl
theorem cd_107_67 : cd 107 67 = some (.ireturn, 1, 0, 0, 0, []) := rfl
theorem cd_107_68 : cd 107 68 = some (.aload_n 0, 1, 0, 0, 0, []) := rfl
theorem cd_107_69 : cd 107 69 = some (.getfield 12, 3, 8, 0, 0, []) := rfl
theorem cd_107_72 : cd 107 72 = some (.iload_n 1, 1, 0, 0, 0, []) := rfl
theorem cd_107_73 : cd 107 73 = some (.invokevirtual 100, 3, 53, 2, 0, []) := rfl
theorem cd_107_76 : cd 107 76 = some (.invokestatic 301, 3, 123, 1, 2, []) := rfl
theorem cd_107_79 : cd 107 79 = some (.ireturn, 1, 0, 0, 0, []) := rfl
theorem cd_108_0 : cd 108 0 = some (.iload_n 1, 1, 0, 0, 0, []) := rfl
theorem cd_108_1 : cd 108 1 = some (.tableswitch 123 0 8 #[51, 59, 67, 75, 83, 91, 99, 107, 115], 51, 0, 0, 0, []) := rfl
theorem cd_108_52 : cd 108 52 = some (.aload_n 0, 1, 0, 0, 0, []) := rfl
theorem cd_108_53 : cd 108 53 = some (.getfield 12, 3, 8, 0, 0, []) := rfl
theorem cd_108_56 : cd 108 56 = some (.getfield 304, 3, 5, 0, 1, []) := rfl
theorem cd_108_59 : cd 108 59 = some (.ireturn, 1, 0, 0, 0, []) := rfl
theorem cd_108_60 : cd 108 60 = some (.aload_n 0, 1, 0, 0, 0, []) := rfl
theorem cd_108_61 : cd 108 61 = some (.getfield 12, 3, 8, 0, 0, []) := rfl
theorem cd_108_64 : cd 108 64 = some (.getfield 307, 3, 5, 1, 1, []) := rfl
theorem cd_108_67 : cd 108 67 = some (.ireturn, 1, 0, 0, 0, []) := rfl
theorem cd_108_68 : cd 108 68 = some (.aload_n 0, 1, 0, 0, 0, []) := rfl
theorem cd_108_69 : cd 108 69 = some (.getfield 12, 3, 8, 0, 0, []) := rfl
theorem cd_108_72 : cd 108 72 = some (.invokevirtual 263, 3, 58, 1, 0, []) := rfl
theorem cd_108_75 : cd 108 75 = some (.ireturn, 1, 0, 0, 0, []) := rfl
theorem cd_108_76 : cd 108 76 = some (.aload_n 0, 1, 0, 0, 0, []) := rfl
theorem cd_108_77 : cd 108 77 = some (.getfield 12, 3, 8, 0, 0, []) := rfl
theorem cd_108_80 : cd 108 80 = some (.invokevirtual 310, 3, 59, 1, 0, []) := rfl
theorem cd_108_83 : cd 108 83 = some (.ireturn, 1, 0, 0, 0, []) := rfl
theorem cd_108_84 : cd 108 84 = some (.aload_n 0, 1, 0, 0, 0, []) := rfl
theorem cd_108_85 : cd 108 85 = some (.getfield 12, 3, 8, 0, 0, []) := rfl
theorem cd_108_88 : cd 108 88 = some (.invokevirtual 110, 3, 60, 1, 0, []) := rfl
theorem cd_108_91 : cd 108 91 = some (.ireturn, 1, 0, 0, 0, []) := rfl
theorem cd_108_92 : cd 108 92 = some (.aload_n 0, 1, 0, 0, 0, []) := rfl
theorem cd_108_93 : cd 108 93 = some (.getfield 12, 3, 8, 0, 0, []) := rfl
theorem cd_108_96 : cd 108 96 = some (.invokevirtual 313, 3, 61, 1, 0, []) := rfl
theorem cd_108_99 : cd 108 99 = some (.ireturn, 1, 0, 0, 0, []) := rfl
theorem cd_108_100 : cd 108 100 = some (.aload_n 0, 1, 0, 0, 0, []) := rfl
theorem cd_108_101 : cd 108 101 = some (.getfield 12, 3, 8, 0, 0, []) := rfl
theorem cd_108_104 : cd 108 104 = some (.invokevirtual 83, 3, 50, 1, 0, []) := rfl
theorem cd_108_107 : cd 108 107 = some (.ireturn, 1, 0, 0, 0, []) := rfl
theorem cd_108_108 : cd 108 108 = some (.aload_n 0, 1, 0, 0, 0, []) := rfl
theorem cd_108_109 : cd 108 109 = some (.getfield 33, 3, 8, 3, 0, []) := rfl
theorem cd_108_112 : cd 108 112 = some (.getfield 316, 3, 0, 11, 1, []) := rfl
theorem cd_108_115 : cd 108 115 = some (.ireturn, 1, 0, 0, 0, []) := rfl
theorem cd_108_116 : cd 108 116 = some (.aload_n 0, 1, 0, 0, 0, []) := rfl
theorem cd_108_117 : cd 108 117 = some (.getfield 33, 3, 8, 3, 0, []) := rfl
theorem cd_108_120 : cd 108 120 = some (.getfield 317, 3, 0, 12, 1, []) := rfl
theorem cd_108_123 : cd 108 123 = some (.ireturn, 1, 0, 0, 0, []) := rfl
theorem cd_108_124 : cd 108 124 = some (.aload_n 0, 1, 0, 0, 0, []) := rfl
theorem cd_108_125 : cd 108 125 = some (.getfield 19, 3, 8, 1, 0, []) := rfl
theorem cd_108_128 : cd 108 128 = some (.getfield 153, 3, 7, 0, 1, []) := rfl
theorem cd_108_131 : cd 108 131 = some (.ireturn, 1, 0, 0, 0, []) := rfl
theorem cd_109_0 : cd 109 0 = some (.iload_n 2, 1, 0, 0, 0, []) := rfl
theorem cd_109_1 : cd 109 1 = some (.tableswitch 103 0 5 #[39, 48, 57, 76, 85, 94], 39, 0, 0, 0, []) := rfl
theorem cd_109_40 : cd 109 40 = some (.aload_n 0, 1, 0, 0, 0, []) := rfl
theorem cd_109_41 : cd 109 41 = some (.getfield 33, 3, 8, 3, 0, []) := rfl
theorem cd_109_44 : cd 109 44 = some (.iload_n 1, 1, 0, 0, 0, []) := rfl
theorem cd_109_45 : cd 109 45 = some (.invokevirtual 320, 3, 7, 2, 0, []) := rfl
theorem cd_109_48 : cd 109 48 = some (.ireturn, 1, 0, 0, 0, []) := rfl
theorem cd_109_49 : cd 109 49 = some (.aload_n 0, 1, 0, 0, 0, []) := rfl
theorem cd_109_50 : cd 109 50 = some (.getfield 33, 3, 8, 3, 0, []) := rfl
theorem cd_109_53 : cd 109 53 = some (.iload_n 1, 1, 0, 0, 0, []) := rfl
theorem cd_109_54 : cd 109 54 = some (.invokevirtual 200, 3, 8, 2, 0, []) := rfl
theorem cd_109_57 : cd 109 57 = some (.ireturn, 1, 0, 0, 0, []) := rfl
theorem cd_109_58 : cd 109 58 = some (.aload_n 0, 1, 0, 0, 0, []) := rfl
theorem cd_109_59 : cd 109 59 = some (.getfield 33, 3, 8, 3, 0, []) := rfl
theorem cd_109_62 : cd 109 62 = some (.iload_n 1, 1, 0, 0, 0, []) := rfl
theorem cd_109_63 : cd 109 63 = some (.aload_n 0, 1, 0, 0, 0, []) := rfl
theorem cd_109_64 : cd 109 64 = some (.getfield 33, 3, 8, 3, 0, []) := rfl
theorem cd_109_67 : cd 109 67 = some (.iload_n 1, 1, 0, 0, 0, []) := rfl
theorem cd_109_68 : cd 109 68 = some (.invokevirtual 182, 3, 9, 2, 0, []) := rfl
theorem cd_109_71 : cd 109 71 = some (.iconst 1, 1, 0, 0, 0, []) := rfl
theorem cd_109_72 : cd 109 72 = some (.isub, 1, 0, 0, 0, []) := rfl
theorem cd_109_73 : cd 109 73 = some (.invokevirtual 187, 3, 14, 3, 0, []) := rfl
theorem cd_109_76 : cd 109 76 = some (.ireturn, 1, 0, 0, 0, []) := rfl
theorem cd_109_77 : cd 109 77 = some (.aload_n 0, 1, 0, 0, 0, []) := rfl
theorem cd_109_78 : cd 109 78 = some (.getfield 33, 3, 8, 3, 0, []) := rfl
theorem cd_109_81 : cd 109 81 = some (.iload_n 1, 1, 0, 0, 0, []) := rfl
theorem cd_109_82 : cd 109 82 = some (.invokevirtual 182, 3, 9, 2, 0, []) := rfl
theorem cd_109_85 : cd 109 85 = some (.ireturn, 1, 0, 0, 0, []) := rfl
theorem cd_109_86 : cd 109 86 = some (.aload_n 0, 1, 0, 0, 0, []) := rfl
theorem cd_109_87 : cd 109 87 = some (.getfield 33, 3, 8, 3, 0, []) := rfl
theorem cd_109_90 : cd 109 90 = some (.iload_n 1, 1, 0, 0, 0, []) := rfl
theorem cd_109_91 : cd 109 91 = some (.invokevirtual 323, 3, 10, 2, 0, []) := rfl
theorem cd_109_94 : cd 109 94 = some (.ireturn, 1, 0, 0, 0, []) := rfl
theorem cd_109_95 : cd 109 95 = some (.aload_n 0, 1, 0, 0, 0, []) := rfl
theorem cd_109_96 : cd 109 96 = some (.getfield 33, 3, 8, 3, 0, []) := rfl
theorem cd_109_99 : cd 109 99 = some (.iload_n 1, 1, 0, 0, 0, []) := rfl
theorem cd_109_100 : cd 109 100 = some (.invokevirtual 326, 3, 11, 2, 0, []) := rfl
theorem cd_109_103 : cd 109 103 = some (.ireturn, 1, 0, 0, 0, []) := rfl
theorem cd_109_104 : cd 109 104 = some (.aload_n 0, 1, 0, 0, 0, []) := rfl
theorem cd_109_105 : cd 109 105 = some (.getfield 33, 3, 8, 3, 0, []) := rfl
theorem cd_109_108 : cd 109 108 = some (.iload_n 1, 1, 0, 0, 0, []) := rfl
theorem cd_109_109 : cd 109 109 = some (.invokevirtual 329, 3, 12, 2, 0, []) := rfl
theorem cd_109_112 : cd 109 112 = some (.ifCond .eq 7, 3, 0, 0, 0, []) := rfl
theorem cd_109_115 : cd 109 115 = some (.iconst 1, 1, 0, 0, 0, []) := rfl
theorem cd_109_116 : cd 109 116 = some (.goto 4, 3, 0, 0, 0, []) := rfl
theorem cd_109_119 : cd 109 119 = some (.iconst 0, 1, 0, 0, 0, []) := rfl
theorem cd_109_120 : cd 109 120 = some (.ireturn, 1, 0, 0, 0, []) := rfl
theorem cd_110_0 : cd 110 0 = some (.aload_n 0, 1, 0, 0, 0, []) := rfl
theorem cd_110_1 : cd 110 1 = some (.getfield 47, 3, 8, 5, 0, []) := rfl
theorem cd_110_4 : cd 110 4 = some (.aload_n 0, 1, 0, 0, 0, []) := rfl
theorem cd_110_5 : cd 110 5 = some (.getfield 12, 3, 8, 0, 0, []) := rfl
theorem cd_110_8 : cd 110 8 = some (.aload_n 0, 1, 0, 0, 0, []) := rfl
theorem cd_110_9 : cd 110 9 = some (.getfield 33, 3, 8, 3, 0, []) := rfl
theorem cd_110_12 : cd 110 12 = some (.iload_n 1, 1, 0, 0, 0, []) := rfl
theorem cd_110_13 : cd 110 13 = some (.invokevirtual 192, 3, 31, 4, 0, []) := rfl
theorem cd_110_16 : cd 110 16 = some (.aload_n 0, 1, 0, 0, 0, []) := rfl
theorem cd_110_17 : cd 110 17 = some (.getfield 47, 3, 8, 5, 0, []) := rfl
theorem cd_110_20 : cd 110 20 = some (.aload_n 0, 1, 0, 0, 0, []) := rfl
theorem cd_110_21 : cd 110 21 = some (.getfield 19, 3, 8, 1, 0, []) := rfl
theorem cd_110_24 : cd 110 24 = some (.invokevirtual 332, 3, 37, 2, 0, []) := rfl
theorem cd_110_27 : cd 110 27 = some (.ireturn, 1, 0, 0, 0, []) := rfl
theorem cd_111_0 : cd 111 0 = some (.iconst (-1), 1, 0, 0, 0, []) := rfl
theorem cd_111_1 : cd 111 1 = some (.istore_n 2, 1, 0, 0, 0, []) := rfl
theorem cd_111_2 : cd 111 2 = some (.aload_n 0, 1, 0, 0, 0, []) := rfl
theorem cd_111_3 : cd 111 3 = some (.iload_n 1, 1, 0, 0, 0, []) := rfl
theorem cd_111_4 : cd 111 4 = some (.bipush 47, 2, 0, 0, 0, []) := rfl
theorem cd_111_6 : cd 111 6 = some (.invokevirtual 336, 3, 112, 3, 0, []) := rfl
theorem cd_111_9 : cd 111 9 = some (.ifCond .eq 10, 3, 0, 0, 0, []) := rfl
theorem cd_111_12 : cd 111 12 = some (.iconst 2, 1, 0, 0, 0, []) := rfl
theorem cd_111_13 : cd 111 13 = some (.iload_n 1, 1, 0, 0, 0, []) := rfl
theorem cd_111_14 : cd 111 14 = some (.imul, 1, 0, 0, 0, []) := rfl
theorem cd_111_15 : cd 111 15 = some (.istore_n 2, 1, 0, 0, 0, []) := rfl
theorem cd_111_16 : cd 111 16 = some (.goto 19, 3, 0, 0, 0, []) := rfl
theorem cd_111_19 : cd 111 19 = some (.aload_n 0, 1, 0, 0, 0, []) := rfl
theorem cd_111_20 : cd 111 20 = some (.iload_n 1, 1, 0, 0, 0, []) := rfl
theorem cd_111_21 : cd 111 21 = some (.bipush 92, 2, 0, 0, 0, []) := rfl
theorem cd_111_23 : cd 111 23 = some (.invokevirtual 336, 3, 112, 3, 0, []) := rfl
theorem cd_111_26 : cd 111 26 = some (.ifCond .eq 9, 3, 0, 0, 0, []) := rfl
theorem cd_111_29 : cd 111 29 = some (.iconst 2, 1, 0, 0, 0, []) := rfl
theorem cd_111_30 : cd 111 30 = some (.iload_n 1, 1, 0, 0, 0, []) := rfl
theorem cd_111_31 : cd 111 31 = some (.imul, 1, 0, 0, 0, []) := rfl
theorem cd_111_32 : cd 111 32 = some (.iconst 1, 1, 0, 0, 0, []) := rfl
theorem cd_111_33 : cd 111 33 = some (.iadd, 1, 0, 0, 0, []) := rfl
theorem cd_111_34 : cd 111 34 = some (.istore_n 2, 1, 0, 0, 0, []) := rfl
theorem cd_111_35 : cd 111 35 = some (.aload_n 0, 1, 0, 0, 0, []) := rfl
theorem cd_111_36 : cd 111 36 = some (.getfield 12, 3, 8, 0, 0, []) := rfl
theorem cd_111_39 : cd 111 39 = some (.iload_n 1, 1, 0, 0, 0, []) := rfl
theorem cd_111_40 : cd 111 40 = some (.bipush 35, 2, 0, 0, 0, []) := rfl
theorem cd_111_42 : cd 111 42 = some (.invokevirtual 104, 3, 54, 3, 0, []) := rfl
theorem cd_111_45 : cd 111 45 = some (.iload_n 2, 1, 0, 0, 0, []) := rfl
theorem cd_111_46 : cd 111 46 = some (.ireturn, 1, 0, 0, 0, []) := rfl
theorem cd_112_0 : cd 112 0 = some (.aload_n 0, 1, 0, 0, 0, []) := rfl
theorem cd_112_1 : cd 112 1 = some (.getfield 12, 3, 8, 0, 0, []) := rfl
theorem cd_112_4 : cd 112 4 = some (.iload_n 1, 1, 0, 0, 0, []) := rfl
theorem cd_112_5 : cd 112 5 = some (.iload_n 2, 1, 0, 0, 0, []) := rfl
theorem cd_112_6 : cd 112 6 = some (.invokevirtual 104, 3, 54, 3, 0, []) := rfl
theorem cd_112_9 : cd 112 9 = some (.aload_n 0, 1, 0, 0, 0, []) := rfl
theorem cd_112_10 : cd 112 10 = some (.getfield 33, 3, 8, 3, 0, []) := rfl
theorem cd_112_13 : cd 112 13 = some (.aload_n 0, 1, 0, 0, 0, []) := rfl
theorem cd_112_14 : cd 112 14 = some (.getfield 12, 3, 8, 0, 0, []) := rfl
theorem cd_112_17 : cd 112 17 = some (.invokevirtual 61, 3, 1, 2, 0, []) := rfl
theorem cd_112_20 : cd 112 20 = some (.aload_n 0, 1, 0, 0, 0, []) := rfl
theorem cd_112_21 : cd 112 21 = some (.getfield 40, 3, 8, 4, 0, []) := rfl
theorem cd_112_24 : cd 112 24 = some (.aload_n 0, 1, 0, 0, 0, []) := rfl
theorem cd_112_25 : cd 112 25 = some (.getfield 12, 3, 8, 0, 0, []) := rfl
theorem cd_112_28 : cd 112 28 = some (.aload_n 0, 1, 0, 0, 0, []) := rfl
theorem cd_112_29 : cd 112 29 = some (.getfield 33, 3, 8, 3, 0, []) := rfl
theorem cd_112_32 : cd 112 32 = some (.iconst 1, 1, 0, 0, 0, []) := rfl
theorem cd_112_33 : cd 112 33 = some (.invokevirtual 209, 3, 39, 4, 0, []) := rfl
theorem cd_112_36 : cd 112 36 = some (.aload_n 0, 1, 0, 0, 0, []) := rfl
theorem cd_112_37 : cd 112 37 = some (.getfield 40, 3, 8, 4, 0, []) := rfl
theorem cd_112_40 : cd 112 40 = some (.getfield 212, 3, 4, 8, 1, []) := rfl
theorem cd_112_43 : cd 112 43 = some (.ifCond .le 7, 3, 0, 0, 0, []) := rfl
theorem cd_112_46 : cd 112 46 = some (.iconst 1, 1, 0, 0, 0, []) := rfl
theorem cd_112_47 : cd 112 47 = some (.goto 4, 3, 0, 0, 0, []) := rfl
theorem cd_112_50 : cd 112 50 = some (.iconst 0, 1, 0, 0, 0, []) := rfl
theorem cd_112_51 : cd 112 51 = some (.ireturn, 1, 0, 0, 0, []) := rfl
theorem cd_116_0 : cd 116 0 = some (.iload_n 0, 1, 0, 0, 0, []) := rfl
theorem cd_116_1 : cd 116 1 = some (.iload_n 1, 1, 0, 0, 0, []) := rfl
theorem cd_116_2 : cd 116 2 = some (.if_icmp .lt 12, 3, 0, 0, 0, []) := rfl
theorem cd_116_5 : cd 116 5 = some (.iload_n 0, 1, 0, 0, 0, []) := rfl
theorem cd_116_6 : cd 116 6 = some (.iload_n 2, 1, 0, 0, 0, []) := rfl
theorem cd_116_7 : cd 116 7 = some (.if_icmp .gt 7, 3, 0, 0, 0, []) := rfl
theorem cd_116_10 : cd 116 10 = some (.iconst 1, 1, 0, 0, 0, []) := rfl
theorem cd_116_11 : cd 116 11 = some (.goto 4, 3, 0, 0, 0, []) := rfl
theorem cd_116_14 : cd 116 14 = some (.iconst 0, 1, 0, 0, 0, []) := rfl
theorem cd_116_15 : cd 116 15 = some (.ireturn, 1, 0, 0, 0, []) := rfl
theorem cd_117_0 : cd 117 0 = some (.iload_n 0, 1, 0, 0, 0, []) := rfl
theorem cd_117_1 : cd 117 1 = some (.iconst 2, 1, 0, 0, 0, []) := rfl
theorem cd_117_2 : cd 117 2 = some (.bipush 7, 2, 0, 0, 0, []) := rfl
theorem cd_117_4 : cd 117 4 = some (.invokestatic 156, 3, 116, 3, 2, []) := rfl
theorem cd_117_7 : cd 117 7 = some (.ireturn, 1, 0, 0, 0, []) := rfl
theorem cd_118_0 : cd 118 0 = some (.iload_n 0, 1, 0, 0, 0, []) := rfl
theorem cd_118_1 : cd 118 1 = some (.bipush 97, 2, 0, 0, 0, []) := rfl
theorem cd_118_3 : cd 118 3 = some (.if_icmp .lt 13, 3, 0, 0, 0, []) := rfl
theorem cd_118_6 : cd 118 6 = some (.iload_n 0, 1, 0, 0, 0, []) := rfl
theorem cd_118_7 : cd 118 7 = some (.bipush 122, 2, 0, 0, 0, []) := rfl
theorem cd_118_9 : cd 118 9 = some (.if_icmp .gt 7, 3, 0, 0, 0, []) := rfl
theorem cd_118_12 : cd 118 12 = some (.iconst 1, 1, 0, 0, 0, []) := rfl
theorem cd_118_13 : cd 118 13 = some (.goto 4, 3, 0, 0, 0, []) := rfl
theorem cd_118_16 : cd 118 16 = some (.iconst 0, 1, 0, 0, 0, []) := rfl
theorem cd_118_17 : cd 118 17 = some (.ireturn, 1, 0, 0, 0, []) := rfl
theorem cd_119_0 : cd 119 0 = some (.iload_n 0, 1, 0, 0, 0, []) := rfl
theorem cd_119_1 : cd 119 1 = some (.bipush 65, 2, 0, 0, 0, []) := rfl
theorem cd_119_3 : cd 119 3 = some (.if_icmp .lt 13, 3, 0, 0, 0, []) := rfl
theorem cd_119_6 : cd 119 6 = some (.iload_n 0, 1, 0, 0, 0, []) := rfl
theorem cd_119_7 : cd 119 7 = some (.bipush 90, 2, 0, 0, 0, []) := rfl
theorem cd_119_9 : cd 119 9 = some (.if_icmp .gt 7, 3, 0, 0, 0, []) := rfl
theorem cd_119_12 : cd 119 12 = some (.iconst 1, 1, 0, 0, 0, []) := rfl
theorem cd_119_13 : cd 119 13 = some (.goto 4, 3, 0, 0, 0, []) := rfl
theorem cd_119_16 : cd 119 16 = some (.iconst 0, 1, 0, 0, 0, []) := rfl
theorem cd_119_17 : cd 119 17 = some (.ireturn, 1, 0, 0, 0, []) := rfl
theorem cd_120_0 : cd 120 0 = some (.iload_n 0, 1, 0, 0, 0, []) := rfl
theorem cd_120_1 : cd 120 1 = some (.invokestatic 343, 3, 118, 1, 2, []) := rfl
theorem cd_120_4 : cd 120 4 = some (.ifCond .ne 10, 3, 0, 0, 0, []) := rfl
theorem cd_120_7 : cd 120 7 = some (.iload_n 0, 1, 0, 0, 0, []) := rfl
theorem cd_120_8 : cd 120 8 = some (.invokestatic 346, 3, 119, 1, 2, []) := rfl
theorem cd_120_11 : cd 120 11 = some (.ifCond .eq 7, 3, 0, 0, 0, []) := rfl
theorem cd_120_14 : cd 120 14 = some (.iconst 1, 1, 0, 0, 0, []) := rfl
theorem cd_120_15 : cd 120 15 = some (.goto 4, 3, 0, 0, 0, []) := rfl
theorem cd_120_18 : cd 120 18 = some (.iconst 0, 1, 0, 0, 0, []) := rfl
theorem cd_120_19 : cd 120 19 = some (.ireturn, 1, 0, 0, 0, []) := rfl
theorem cd_121_0 : cd 121 0 = some (.iload_n 0, 1, 0, 0, 0, []) := rfl
theorem cd_121_1 : cd 121 1 = some (.bipush 47, 2, 0, 0, 0, []) := rfl
theorem cd_121_3 : cd 121 3 = some (.if_icmp .eq 9, 3, 0, 0, 0, []) := rfl
theorem cd_121_6 : cd 121 6 = some (.iload_n 0, 1, 0, 0, 0, []) := rfl
theorem cd_121_7 : cd 121 7 = some (.bipush 92, 2, 0, 0, 0, []) := rfl
theorem cd_121_9 : cd 121 9 = some (.if_icmp .ne 7, 3, 0, 0, 0, []) := rfl
theorem cd_121_12 : cd 121 12 = some (.iconst 1, 1, 0, 0, 0, []) := rfl
theorem cd_121_13 : cd 121 13 = some (.goto 4, 3, 0, 0, 0, []) := rfl
theorem cd_121_16 : cd 121 16 = some (.iconst 0, 1, 0, 0, 0, []) := rfl
theorem cd_121_17 : cd 121 17 = some (.ireturn, 1, 0, 0, 0, []) := rfl
theorem cd_122_0 : cd 122 0 = some (.iload_n 0, 1, 0, 0, 0, []) := rfl
theorem cd_122_1 : cd 122 1 = some (.invokestatic 349, 3, 120, 1, 2, []) := rfl
theorem cd_122_4 : cd 122 4 = some (.ifCond .ne 28, 3, 0, 0, 0, []) := rfl
theorem cd_122_7 : cd 122 7 = some (.iload_n 0, 1, 0, 0, 0, []) := rfl
theorem cd_122_8 : cd 122 8 = some (.invokestatic 352, 3, 121, 1, 2, []) := rfl
theorem cd_122_11 : cd 122 11 = some (.ifCond .ne 21, 3, 0, 0, 0, []) := rfl
theorem cd_122_14 : cd 122 14 = some (.iload_n 0, 1, 0, 0, 0, []) := rfl
theorem cd_122_15 : cd 122 15 = some (.bipush 46, 2, 0, 0, 0, []) := rfl
theorem cd_122_17 : cd 122 17 = some (.if_icmp .eq 15, 3, 0, 0, 0, []) := rfl
theorem cd_122_20 : cd 122 20 = some (.iload_n 0, 1, 0, 0, 0, []) := rfl
theorem cd_122_21 : cd 122 21 = some (.bipush 35, 2, 0, 0, 0, []) := rfl
theorem cd_122_23 : cd 122 23 = some (.if_icmp .eq 9, 3, 0, 0, 0, []) := rfl
theorem cd_122_26 : cd 122 26 = some (.iload_n 0, 1, 0, 0, 0, []) := rfl
theorem cd_122_27 : cd 122 27 = some (.bipush 58, 2, 0, 0, 0, []) := rfl
theorem cd_122_29 : cd 122 29 = some (.if_icmp .ne 7, 3, 0, 0, 0, []) := rfl
theorem cd_122_32 : cd 122 32 = some (.iconst 1, 1, 0, 0, 0, []) := rfl
theorem cd_122_33 : cd 122 33 = some (.goto 4, 3, 0, 0, 0, []) := rfl
theorem cd_122_36 : cd 122 36 = some (.iconst 0, 1, 0, 0, 0, []) := rfl
theorem cd_122_37 : cd 122 37 = some (.ireturn, 1, 0, 0, 0, []) := rfl
theorem cd_123_0 : cd 123 0 = some (.iload_n 0, 1, 0, 0, 0, []) := rfl
theorem cd_123_1 : cd 123 1 = some (.invokestatic 343, 3, 118, 1, 2, []) := rfl
theorem cd_123_4 : cd 123 4 = some (.ifCond .eq 8, 3, 0, 0, 0, []) := rfl
theorem cd_123_7 : cd 123 7 = some (.iload_n 0, 1, 0, 0, 0, []) := rfl
theorem cd_123_8 : cd 123 8 = some (.bipush 97, 2, 0, 0, 0, []) := rfl
theorem cd_123_10 : cd 123 10 = some (.isub, 1, 0, 0, 0, []) := rfl
theorem cd_123_11 : cd 123 11 = some (.ireturn, 1, 0, 0, 0, []) := rfl
theorem cd_123_12 : cd 123 12 = some (.iload_n 0, 1, 0, 0, 0, []) := rfl
theorem cd_123_13 : cd 123 13 = some (.invokestatic 346, 3, 119, 1, 2, []) := rfl
theorem cd_123_16 : cd 123 16 = some (.ifCond .eq 10, 3, 0, 0, 0, []) := rfl
theorem cd_123_19 : cd 123 19 = some (.iload_n 0, 1, 0, 0, 0, []) := rfl
theorem cd_123_20 : cd 123 20 = some (.bipush 65, 2, 0, 0, 0, []) := rfl
theorem cd_123_22 : cd 123 22 = some (.isub, 1, 0, 0, 0, []) := rfl
theorem cd_123_23 : cd 123 23 = some (.goto 4, 3, 0, 0, 0, []) := rfl
theorem cd_123_26 : cd 123 26 = some (.iconst (-1), 1, 0, 0, 0, []) := rfl
theorem cd_123_27 : cd 123 27 = some (.ireturn, 1, 0, 0, 0, []) := rfl
theorem cd_124_0 : cd 124 0 = some (.iload_n 0, 1, 0, 0, 0, []) := rfl
theorem cd_124_1 : cd 124 1 = some (.bipush 47, 2, 0, 0, 0, []) := rfl
theorem cd_124_3 : cd 124 3 = some (.if_icmp .ne 6, 3, 0, 0, 0, []) := rfl
theorem cd_124_6 : cd 124 6 = some (.bipush 92, 2, 0, 0, 0, []) := rfl
theorem cd_124_8 : cd 124 8 = some (.ireturn, 1, 0, 0, 0, []) := rfl
theorem cd_124_9 : cd 124 9 = some (.iload_n 0, 1, 0, 0, 0, []) := rfl
theorem cd_124_10 : cd 124 10 = some (.bipush 92, 2, 0, 0, 0, []) := rfl
theorem cd_124_12 : cd 124 12 = some (.if_icmp .ne 8, 3, 0, 0, 0, []) := rfl
theorem cd_124_15 : cd 124 15 = some (.bipush 47, 2, 0, 0, 0, []) := rfl
theorem cd_124_17 : cd 124 17 = some (.goto 4, 3, 0, 0, 0, []) := rfl
theorem cd_124_20 : cd 124 20 = some (.iload_n 0, 1, 0, 0, 0, []) := rfl
theorem cd_124_21 : cd 124 21 = some (.ireturn, 1, 0, 0, 0, []) := rfl
theorem cd_125_0 : cd 125 0 = some (.iload_n 1, 1, 0, 0, 0, []) := rfl
theorem cd_125_1 : cd 125 1 = some (.ifCond .lt 15, 3, 0, 0, 0, []) := rfl
theorem cd_125_4 : cd 125 4 = some (.iload_n 1, 1, 0, 0, 0, []) := rfl
theorem cd_125_5 : cd 125 5 = some (.aload_n 0, 1, 0, 0, 0, []) := rfl
theorem cd_125_6 : cd 125 6 = some (.arraylength, 1, 0, 0, 0, []) := rfl
theorem cd_125_7 : cd 125 7 = some (.if_icmp .ge 9, 3, 0, 0, 0, []) := rfl
theorem cd_125_10 : cd 125 10 = some (.aload_n 0, 1, 0, 0, 0, []) := rfl
theorem cd_125_11 : cd 125 11 = some (.iload_n 1, 1, 0, 0, 0, []) := rfl
theorem cd_125_12 : cd 125 12 = some (.iaload, 1, 0, 0, 0, []) := rfl
theorem cd_125_13 : cd 125 13 = some (.goto 4, 3, 0, 0, 0, []) := rfl
theorem cd_125_16 : cd 125 16 = some (.iconst 0, 1, 0, 0, 0, []) := rfl
theorem cd_125_17 : cd 125 17 = some (.ireturn, 1, 0, 0, 0, []) := rfl
theorem cd_126_0 : cd 126 0 = some (.iload_n 1, 1, 0, 0, 0, []) := rfl
theorem cd_126_1 : cd 126 1 = some (.ifCond .lt 15, 3, 0, 0, 0, []) := rfl
theorem cd_126_4 : cd 126 4 = some (.iload_n 1, 1, 0, 0, 0, []) := rfl
theorem cd_126_5 : cd 126 5 = some (.aload_n 0, 1, 0, 0, 0, []) := rfl
theorem cd_126_6 : cd 126 6 = some (.arraylength, 1, 0, 0, 0, []) := rfl
theorem cd_126_7 : cd 126 7 = some (.if_icmp .ge 9, 3, 0, 0, 0, []) := rfl
theorem cd_126_10 : cd 126 10 = some (.aload_n 0, 1, 0, 0, 0, []) := rfl
theorem cd_126_11 : cd 126 11 = some (.iload_n 1, 1, 0, 0, 0, []) := rfl
theorem cd_126_12 : cd 126 12 = some (.laload, 1, 0, 0, 0, []) := rfl
theorem cd_126_13 : cd 126 13 = some (.goto 4, 3, 0, 0, 0, []) := rfl
theorem cd_126_16 : cd 126 16 = some (.lconst 0, 1, 0, 0, 0, []) := rfl
theorem cd_126_17 : cd 126 17 = some (.lreturn, 1, 0, 0, 0, []) := rfl
theorem cd_127_0 : cd 127 0 = some (.iload_n 1, 1, 0, 0, 0, []) := rfl
theorem cd_127_1 : cd 127 1 = some (.ifCond .lt 13, 3, 0, 0, 0, []) := rfl
theorem cd_127_4 : cd 127 4 = some (.iload_n 1, 1, 0, 0, 0, []) := rfl
theorem cd_127_5 : cd 127 5 = some (.aload_n 0, 1, 0, 0, 0, []) := rfl
theorem cd_127_6 : cd 127 6 = some (.arraylength, 1, 0, 0, 0, []) := rfl
theorem cd_127_7 : cd 127 7 = some (.if_icmp .ge 7, 3, 0, 0, 0, []) := rfl
theorem cd_127_10 : cd 127 10 = some (.aload_n 0, 1, 0, 0, 0, []) := rfl
theorem cd_127_11 : cd 127 11 = some (.iload_n 1, 1, 0, 0, 0, []) := rfl
theorem cd_127_12 : cd 127 12 = some (.iload_n 2, 1, 0, 0, 0, []) := rfl
theorem cd_127_13 : cd 127 13 = some (.iastore, 1, 0, 0, 0, []) := rfl
theorem cd_127_14 : cd 127 14 = some (.return_, 1, 0, 0, 0, []) := rfl
theorem cd_128_0 : cd 128 0 = some (.iload_n 1, 1, 0, 0, 0, []) := rfl
theorem cd_128_1 : cd 128 1 = some (.ifCond .lt 13, 3, 0, 0, 0, []) := rfl
theorem cd_128_4 : cd 128 4 = some (.iload_n 1, 1, 0, 0, 0, []) := rfl
theorem cd_128_5 : cd 128 5 = some (.aload_n 0, 1, 0, 0, 0, []) := rfl
theorem cd_128_6 : cd 128 6 = some (.arraylength, 1, 0, 0, 0, []) := rfl
theorem cd_128_7 : cd 128 7 = some (.if_icmp .ge 7, 3, 0, 0, 0, []) := rfl
theorem cd_128_10 : cd 128 10 = some (.aload_n 0, 1, 0, 0, 0, []) := rfl
theorem cd_128_11 : cd 128 11 = some (.iload_n 1, 1, 0, 0, 0, []) := rfl
theorem cd_128_12 : cd 128 12 = some (.lload_n 2, 1, 0, 0, 0, []) := rfl
theorem cd_128_13 : cd 128 13 = some (.lastore, 1, 0, 0, 0, []) := rfl
theorem cd_128_14 : cd 128 14 = some (.return_, 1, 0, 0, 0, []) := rfl
theorem cd_129_0 : cd 129 0 = some (.iconst 0, 1, 0, 0, 0, []) := rfl
theorem cd_129_1 : cd 129 1 = some (.istore_n 2, 1, 0, 0, 0, []) := rfl
theorem cd_129_2 : cd 129 2 = some (.iload_n 2, 1, 0, 0, 0, []) := rfl
theorem cd_129_3 : cd 129 3 = some (.aload_n 0, 1, 0, 0, 0, []) := rfl
theorem cd_129_4 : cd 129 4 = some (.arraylength, 1, 0, 0, 0, []) := rfl
theorem cd_129_5 : cd 129 5 = some (.if_icmp .ge 21, 3, 0, 0, 0, []) := rfl
theorem cd_129_8 : cd 129 8 = some (.iload_n 2, 1, 0, 0, 0, []) := rfl
theorem cd_129_9 : cd 129 9 = some (.aload_n 1, 1, 0, 0, 0, []) := rfl
theorem cd_129_10 : cd 129 10 = some (.arraylength, 1, 0, 0, 0, []) := rfl
theorem cd_129_11 : cd 129 11 = some (.if_icmp .ge 15, 3, 0, 0, 0, []) := rfl
theorem cd_129_14 : cd 129 14 = some (.aload_n 1, 1, 0, 0, 0, []) := rfl
theorem cd_129_15 : cd 129 15 = some (.iload_n 2, 1, 0, 0, 0, []) := rfl
theorem cd_129_16 : cd 129 16 = some (.aload_n 0, 1, 0, 0, 0, []) := rfl
theorem cd_129_17 : cd 129 17 = some (.iload_n 2, 1, 0, 0, 0, []) := rfl
theorem cd_129_18 : cd 129 18 = some (.iaload, 1, 0, 0, 0, []) := rfl
theorem cd_129_19 : cd 129 19 = some (.iastore, 1, 0, 0, 0, []) := rfl
theorem cd_129_20 : cd 129 20 = some (.iinc 2 1, 3, 0, 0, 0, []) := rfl
theorem cd_129_23 : cd 129 23 = some (.goto (-21), 3, 0, 0, 0, []) := rfl
theorem cd_129_26 : cd 129 26 = some (.return_, 1, 0, 0, 0, []) := rfl
