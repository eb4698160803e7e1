theorem c159_1 : jm_code 159 1 = some (.istore_n 1, 1) := by decide +kernel
theorem c159_2 : jm_code 159 2 = some (.iload_n 1, 1) := by decide +kernel
theorem c159_3 : jm_code 159 3 = some (.iconst 4, 1) := by decide +kernel
theorem c159_4 : jm_code 159 4 = some (.if_icmp .ge 76, 3) := by decide +kernel
theorem c159_7 : jm_code 159 7 = some (.iconst 0, 1) := by decide +kernel
theorem c159_8 : jm_code 159 8 = some (.istore_n 2, 1) := by decide +kernel
theorem c159_9 : jm_code 159 9 = some (.iconst 0, 1) := by decide +kernel
theorem c159_10 : jm_code 159 10 = some (.istore_n 3, 1) := by decide +kernel
theorem c159_11 : jm_code 159 11 = some (.iload_n 3, 1) := by decide +kernel
theorem c159_12 : jm_code 159 12 = some (.aload_n 0, 1) := by decide +kernel
theorem c159_13 : jm_code 159 13 = some (.getfield 74, 3) := by decide +kernel
theorem c159_16 : jm_code 159 16 = some (.iload_n 1, 1) := by decide +kernel
theorem c159_17 : jm_code 159 17 = some (.iaload, 1) := by decide +kernel
theorem c159_18 : jm_code 159 18 = some (.if_icmp .ge 49, 3) := by decide +kernel
theorem c159_21 : jm_code 159 21 = some (.aload_n 0, 1) := by decide +kernel
theorem c159_22 : jm_code 159 22 = some (.getfield 71, 3) := by decide +kernel
theorem c159_25 : jm_code 159 25 = some (.bipush 12, 2) := by decide +kernel
theorem c159_27 : jm_code 159 27 = some (.iload_n 1, 1) := by decide +kernel
theorem c159_28 : jm_code 159 28 = some (.imul, 1) := by decide +kernel
theorem c159_29 : jm_code 159 29 = some (.iload_n 3, 1) := by decide +kernel
theorem c159_30 : jm_code 159 30 = some (.iadd, 1) := by decide +kernel
theorem c159_31 : jm_code 159 31 = some (.iaload, 1) := by decide +kernel
theorem c159_32 : jm_code 159 32 = some (.istore 4, 2) := by decide +kernel
theorem c159_34 : jm_code 159 34 = some (.aload_n 0, 1) := by decide +kernel
theorem c159_35 : jm_code 159 35 = some (.getfield 62, 3) := by decide +kernel
theorem c159_38 : jm_code 159 38 = some (.iload 4, 2) := by decide +kernel
theorem c159_40 : jm_code 159 40 = some (.iaload, 1) := by decide +kernel
theorem c159_41 : jm_code 159 41 = some (.iconst 1, 1) := by decide +kernel
theorem c159_42 : jm_code 159 42 = some (.if_icmp .eq 19, 3) := by decide +kernel
theorem c159_45 : jm_code 159 45 = some (.aload_n 0, 1) := by decide +kernel
theorem c159_46 : jm_code 159 46 = some (.getfield 71, 3) := by decide +kernel
theorem c159_49 : jm_code 159 49 = some (.bipush 12, 2) := by decide +kernel
theorem c159_51 : jm_code 159 51 = some (.iload_n 1, 1) := by decide +kernel
theorem c159_52 : jm_code 159 52 = some (.imul, 1) := by decide +kernel
theorem c159_53 : jm_code 159 53 = some (.iload_n 2, 1) := by decide +kernel
theorem c159_54 : jm_code 159 54 = some (.iadd, 1) := by decide +kernel
theorem c159_55 : jm_code 159 55 = some (.iload 4, 2) := by decide +kernel
theorem c159_57 : jm_code 159 57 = some (.iastore, 1) := by decide +kernel
theorem c159_58 : jm_code 159 58 = some (.iinc 2 1, 3) := by decide +kernel
theorem c159_61 : jm_code 159 61 = some (.iinc 3 1, 3) := by decide +kernel
theorem c159_64 : jm_code 159 64 = some (.goto (-53), 3) := by decide +kernel
theorem c159_67 : jm_code 159 67 = some (.aload_n 0, 1) := by decide +kernel
theorem c159_68 : jm_code 159 68 = some (.getfield 74, 3) := by decide +kernel
theorem c159_71 : jm_code 159 71 = some (.iload_n 1, 1) := by decide +kernel
theorem c159_72 : jm_code 159 72 = some (.iload_n 2, 1) := by decide +kernel
theorem c159_73 : jm_code 159 73 = some (.iastore, 1) := by decide +kernel
theorem c159_74 : jm_code 159 74 = some (.iinc 1 1, 3) := by decide +kernel
theorem c159_77 : jm_code 159 77 = some (.goto (-75), 3) := by decide +kernel
theorem c159_80 : jm_code 159 80 = some (.return_, 1) := by decide +kernel
theorem c160_0 : jm_code 160 0 = some (.iload_n 2, 1) := by decide +kernel
theorem c160_1 : jm_code 160 1 = some (.tableswitch 70 0 4 #[35, 42, 49, 56, 63], 35) := by decide +kernel
theorem c160_36 : jm_code 160 36 = some (.aload_n 0, 1) := by decide +kernel
theorem c160_37 : jm_code 160 37 = some (.getfield 53, 3) := by decide +kernel
theorem c160_40 : jm_code 160 40 = some (.iload_n 1, 1) := by decide +kernel
theorem c160_41 : jm_code 160 41 = some (.iaload, 1) := by decide +kernel
theorem c160_42 : jm_code 160 42 = some (.ireturn, 1) := by decide +kernel
theorem c160_43 : jm_code 160 43 = some (.aload_n 0, 1) := by decide +kernel
theorem c160_44 : jm_code 160 44 = some (.getfield 56, 3) := by decide +kernel
theorem c160_47 : jm_code 160 47 = some (.iload_n 1, 1) := by decide +kernel
theorem c160_48 : jm_code 160 48 = some (.iaload, 1) := by decide +kernel
theorem c160_49 : jm_code 160 49 = some (.ireturn, 1) := by decide +kernel
theorem c160_50 : jm_code 160 50 = some (.aload_n 0, 1) := by decide +kernel
theorem c160_51 : jm_code 160 51 = some (.getfield 59, 3) := by decide +kernel
theorem c160_54 : jm_code 160 54 = some (.iload_n 1, 1) := by decide +kernel
theorem c160_55 : jm_code 160 55 = some (.iaload, 1) := by decide +kernel
theorem c160_56 : jm_code 160 56 = some (.ireturn, 1) := by decide +kernel
theorem c160_57 : jm_code 160 57 = some (.aload_n 0, 1) := by decide +kernel
theorem c160_58 : jm_code 160 58 = some (.getfield 62, 3) := by decide +kernel
theorem c160_61 : jm_code 160 61 = some (.iload_n 1, 1) := by decide +kernel
theorem c160_62 : jm_code 160 62 = some (.iaload, 1) := by decide +kernel
theorem c160_63 : jm_code 160 63 = some (.ireturn, 1) := by decide +kernel
theorem c160_64 : jm_code 160 64 = some (.aload_n 0, 1) := by decide +kernel
theorem c160_65 : jm_code 160 65 = some (.getfield 65, 3) := by decide +kernel
theorem c160_68 : jm_code 160 68 = some (.iload_n 1, 1) := by decide +kernel
theorem c160_69 : jm_code 160 69 = some (.iaload, 1) := by decide +kernel
theorem c160_70 : jm_code 160 70 = some (.ireturn, 1) := by decide +kernel
theorem c160_71 : jm_code 160 71 = some (.aload_n 0, 1) := by decide +kernel
theorem c160_72 : jm_code 160 72 = some (.getfield 68, 3) := by decide +kernel
theorem c160_75 : jm_code 160 75 = some (.iload_n 1, 1) := by decide +kernel
theorem c160_76 : jm_code 160 76 = some (.iaload, 1) := by decide +kernel
theorem c160_77 : jm_code 160 77 = some (.ireturn, 1) := by decide +kernel
theorem c161_0 : jm_code 161 0 = some (.iload_n 1, 1) := by decide +kernel
theorem c161_1 : jm_code 161 1 = some (.i2l, 1) := by decide +kernel
theorem c161_2 : jm_code 161 2 = some (.lconst 0, 1) := by decide +kernel
theorem c161_3 : jm_code 161 3 = some (.ldc2_w 204, 3) := by decide +kernel
theorem c161_6 : jm_code 161 6 = some (.invokestatic 95, 3) := by decide +kernel
theorem c161_9 : jm_code 161 9 = some (.ifCond .ne 6, 3) := by decide +kernel
theorem c161_12 : jm_code 161 12 = some (.bipush (-2), 2) := by decide +kernel
theorem c161_14 : jm_code 161 14 = some (.ireturn, 1) := by decide +kernel
theorem c161_15 : jm_code 161 15 = some (.aload_n 0, 1) := by decide +kernel
theorem c161_16 : jm_code 161 16 = some (.invokevirtual 248, 3) := by decide +kernel
theorem c161_19 : jm_code 161 19 = some (.aload_n 0, 1) := by decide +kernel
theorem c161_20 : jm_code 161 20 = some (.iload_n 1, 1) := by decide +kernel
theorem c161_21 : jm_code 161 21 = some (.iconst 1, 1) := by decide +kernel
theorem c161_22 : jm_code 161 22 = some (.iadd, 1) := by decide +kernel
theorem c161_23 : jm_code 161 23 = some (.invokevirtual 251, 3) := by decide +kernel
theorem c161_26 : jm_code 161 26 = some (.iconst 0, 1) := by decide +kernel
theorem c161_27 : jm_code 161 27 = some (.istore_n 3, 1) := by decide +kernel
theorem c161_28 : jm_code 161 28 = some (.iconst 0, 1) := by decide +kernel
theorem c161_29 : jm_code 161 29 = some (.istore 4, 2) := by decide +kernel
theorem c161_31 : jm_code 161 31 = some (.iload 4, 2) := by decide +kernel
theorem c161_33 : jm_code 161 33 = some (.iload_n 1, 1) := by decide +kernel
theorem c161_34 : jm_code 161 34 = some (.if_icmp .gt 19, 3) := by decide +kernel
theorem c161_37 : jm_code 161 37 = some (.iload_n 3, 1) := by decide +kernel
theorem c161_38 : jm_code 161 38 = some (.aload_n 0, 1) := by decide +kernel
theorem c161_39 : jm_code 161 39 = some (.getfield 77, 3) := by decide +kernel
theorem c161_42 : jm_code 161 42 = some (.iload 4, 2) := by decide +kernel
theorem c161_44 : jm_code 161 44 = some (.iaload, 1) := by decide +kernel
theorem c161_45 : jm_code 161 45 = some (.iadd, 1) := by decide +kernel
theorem c161_46 : jm_code 161 46 = some (.istore_n 3, 1) := by decide +kernel
theorem c161_47 : jm_code 161 47 = some (.iinc 4 1, 3) := by decide +kernel
theorem c161_50 : jm_code 161 50 = some (.goto (-19), 3) := by decide +kernel
theorem c161_53 : jm_code 161 53 = some (.iload_n 2, 1) := by decide +kernel
theorem c161_54 : jm_code 161 54 = some (.ifCond .eq 7, 3) := by decide +kernel
theorem c161_57 : jm_code 161 57 = some (.iload_n 3, 1) := by decide +kernel
theorem c161_58 : jm_code 161 58 = some (.goto 9, 3) := by decide +kernel
theorem c161_61 : jm_code 161 61 = some (.aload_n 0, 1) := by decide +kernel
theorem c161_62 : jm_code 161 62 = some (.getfield 77, 3) := by decide +kernel
theorem c161_65 : jm_code 161 65 = some (.iload_n 1, 1) := by decide +kernel
theorem c161_66 : jm_code 161 66 = some (.iaload, 1) := by decide +kernel
theorem c161_67 : jm_code 161 67 = some (.ireturn, 1) := by decide +kernel
theorem c162_0 : jm_code 162 0 = some (.iload_n 1, 1) := by decide +kernel
theorem c162_1 : jm_code 162 1 = some (.invokestatic 279, 3) := by decide +kernel
theorem c162_4 : jm_code 162 4 = some (.ifCond .eq 24, 3) := by decide +kernel
theorem c162_7 : jm_code 162 7 = some (.iload_n 2, 1) := by decide +kernel
theorem c162_8 : jm_code 162 8 = some (.i2l, 1) := by decide +kernel
theorem c162_9 : jm_code 162 9 = some (.lconst 0, 1) := by decide +kernel
theorem c162_10 : jm_code 162 10 = some (.ldc2_w 150, 3) := by decide +kernel
theorem c162_13 : jm_code 162 13 = some (.invokestatic 95, 3) := by decide +kernel
theorem c162_16 : jm_code 162 16 = some (.ifCond .eq 12, 3) := by decide +kernel
theorem c162_19 : jm_code 162 19 = some (.aload_n 0, 1) := by decide +kernel
theorem c162_20 : jm_code 162 20 = some (.iload_n 1, 1) := by decide +kernel
theorem c162_21 : jm_code 162 21 = some (.iload_n 2, 1) := by decide +kernel
theorem c162_22 : jm_code 162 22 = some (.invokevirtual 282, 3) := by decide +kernel
theorem c162_25 : jm_code 162 25 = some (.goto 8, 3) := by decide +kernel
theorem c162_28 : jm_code 162 28 = some (.bipush (-2), 2) := by decide +kernel
theorem c162_30 : jm_code 162 30 = some (.invokestatic 270, 3) := by decide +kernel
theorem c162_33 : jm_code 162 33 = some (.ireturn, 1) := by decide +kernel
theorem c163_0 : jm_code 163 0 = some (.iload_n 0, 1) := by decide +kernel
theorem c163_1 : jm_code 163 1 = some (.i2l, 1) := by decide +kernel
theorem c163_2 : jm_code 163 2 = some (.lconst 0, 1) := by decide +kernel
theorem c163_3 : jm_code 163 3 = some (.ldc2_w 109, 3) := by decide +kernel
theorem c163_6 : jm_code 163 6 = some (.invokestatic 95, 3) := by decide +kernel
theorem c163_9 : jm_code 163 9 = some (.ireturn, 1) := by decide +kernel
theorem c164_0 : jm_code 164 0 = some (.aload_n 0, 1) := by decide +kernel
theorem c164_1 : jm_code 164 1 = some (.iload_n 1, 1) := by decide +kernel
theorem c164_2 : jm_code 164 2 = some (.iconst 1, 1) := by decide +kernel
theorem c164_3 : jm_code 164 3 = some (.iadd, 1) := by decide +kernel
theorem c164_4 : jm_code 164 4 = some (.invokevirtual 198, 3) := by decide +kernel
theorem c164_7 : jm_code 164 7 = some (.iconst (-1), 1) := by decide +kernel
theorem c164_8 : jm_code 164 8 = some (.if_icmp .eq 9, 3) := by decide +kernel
theorem c164_11 : jm_code 164 11 = some (.bipush (-3), 2) := by decide +kernel
theorem c164_13 : jm_code 164 13 = some (.invokestatic 270, 3) := by decide +kernel
theorem c164_16 : jm_code 164 16 = some (.ireturn, 1) := by decide +kernel
theorem c164_17 : jm_code 164 17 = some (.aload_n 0, 1) := by decide +kernel
theorem c164_18 : jm_code 164 18 = some (.invokevirtual 273, 3) := by decide +kernel
theorem c164_21 : jm_code 164 21 = some (.istore_n 3, 1) := by decide +kernel
theorem c164_22 : jm_code 164 22 = some (.iload_n 2, 1) := by decide +kernel
theorem c164_23 : jm_code 164 23 = some (.tableswitch 58 0 4 #[33, 35, 41, 46, 52], 33) := by decide +kernel
theorem c164_56 : jm_code 164 56 = some (.iload_n 3, 1) := by decide +kernel
theorem c164_57 : jm_code 164 57 = some (.ireturn, 1) := by decide +kernel
theorem c164_58 : jm_code 164 58 = some (.aload_n 0, 1) := by decide +kernel
theorem c164_59 : jm_code 164 59 = some (.iconst 0, 1) := by decide +kernel
theorem c164_60 : jm_code 164 60 = some (.invokevirtual 264, 3) := by decide +kernel
theorem c164_63 : jm_code 164 63 = some (.ireturn, 1) := by decide +kernel
theorem c164_64 : jm_code 164 64 = some (.aload_n 0, 1) := by decide +kernel
theorem c164_65 : jm_code 164 65 = some (.invokevirtual 261, 3) := by decide +kernel
theorem c164_68 : jm_code 164 68 = some (.ireturn, 1) := by decide +kernel
theorem c164_69 : jm_code 164 69 = some (.aload_n 0, 1) := by decide +kernel
theorem c164_70 : jm_code 164 70 = some (.iconst 2, 1) := by decide +kernel
theorem c164_71 : jm_code 164 71 = some (.invokevirtual 264, 3) := by decide +kernel
theorem c164_74 : jm_code 164 74 = some (.ireturn, 1) := by decide +kernel
theorem c164_75 : jm_code 164 75 = some (.aload_n 0, 1) := by decide +kernel
theorem c164_76 : jm_code 164 76 = some (.iload_n 3, 1) := by decide +kernel
theorem c164_77 : jm_code 164 77 = some (.invokevirtual 267, 3) := by decide +kernel
theorem c164_80 : jm_code 164 80 = some (.ireturn, 1) := by decide +kernel
theorem c164_81 : jm_code 164 81 = some (.aload_n 0, 1) := by decide +kernel
theorem c164_82 : jm_code 164 82 = some (.iload_n 3, 1) := by decide +kernel
theorem c164_83 : jm_code 164 83 = some (.invokevirtual 276, 3) := by decide +kernel
theorem c164_86 : jm_code 164 86 = some (.ireturn, 1) := by decide +kernel
theorem c165_0 : jm_code 165 0 = some (.ldc 94, 2) := by decide +kernel
theorem c165_2 : jm_code 165 2 = some (.iload_n 0, 1) := by decide +kernel
theorem c165_3 : jm_code 165 3 = some (.iadd, 1) := by decide +kernel
theorem c165_4 : jm_code 165 4 = some (.ireturn, 1) := by decide +kernel
theorem c166_0 : jm_code 166 0 = some (.aload_n 0, 1) := by decide +kernel
theorem c166_1 : jm_code 166 1 = some (.invokevirtual 248, 3) := by decide +kernel
theorem c166_4 : jm_code 166 4 = some (.aload_n 0, 1) := by decide +kernel
theorem c166_5 : jm_code 166 5 = some (.invokevirtual 240, 3) := by decide +kernel
theorem c166_8 : jm_code 166 8 = some (.iconst 0, 1) := by decide +kernel
theorem c166_9 : jm_code 166 9 = some (.istore_n 1, 1) := by decide +kernel
theorem c166_10 : jm_code 166 10 = some (.iconst 0, 1) := by decide +kernel
theorem c166_11 : jm_code 166 11 = some (.istore_n 2, 1) := by decide +kernel
theorem c166_12 : jm_code 166 12 = some (.iconst 0, 1) := by decide +kernel
theorem c166_13 : jm_code 166 13 = some (.istore_n 3, 1) := by decide +kernel
theorem c166_14 : jm_code 166 14 = some (.iconst 1, 1) := by decide +kernel
theorem c166_15 : jm_code 166 15 = some (.istore 4, 2) := by decide +kernel
theorem c166_17 : jm_code 166 17 = some (.iload 4, 2) := by decide +kernel
theorem c166_19 : jm_code 166 19 = some (.ifCond .eq 64, 3) := by decide +kernel
theorem c166_22 : jm_code 166 22 = some (.aload_n 0, 1) := by decide +kernel
theorem c166_23 : jm_code 166 23 = some (.iload_n 1, 1) := by decide +kernel
theorem c166_24 : jm_code 166 24 = some (.invokevirtual 243, 3) := by decide +kernel
theorem c166_27 : jm_code 166 27 = some (.iload_n 2, 1) := by decide +kernel
theorem c166_28 : jm_code 166 28 = some (.aload_n 0, 1) := by decide +kernel
theorem c166_29 : jm_code 166 29 = some (.getfield 77, 3) := by decide +kernel
theorem c166_32 : jm_code 166 32 = some (.iload_n 1, 1) := by decide +kernel
theorem c166_33 : jm_code 166 33 = some (.iaload, 1) := by decide +kernel
theorem c166_34 : jm_code 166 34 = some (.iadd, 1) := by decide +kernel
theorem c166_35 : jm_code 166 35 = some (.istore_n 2, 1) := by decide +kernel
theorem c166_36 : jm_code 166 36 = some (.aload_n 0, 1) := by decide +kernel
theorem c166_37 : jm_code 166 37 = some (.getfield 77, 3) := by decide +kernel
theorem c166_40 : jm_code 166 40 = some (.iload_n 1, 1) := by decide +kernel
theorem c166_41 : jm_code 166 41 = some (.iaload, 1) := by decide +kernel
theorem c166_42 : jm_code 166 42 = some (.ifCond .le 7, 3) := by decide +kernel
theorem c166_45 : jm_code 166 45 = some (.iconst 0, 1) := by decide +kernel
theorem c166_46 : jm_code 166 46 = some (.goto 6, 3) := by decide +kernel
theorem c166_49 : jm_code 166 49 = some (.iload_n 3, 1) := by decide +kernel
theorem c166_50 : jm_code 166 50 = some (.iconst 1, 1) := by decide +kernel
theorem c166_51 : jm_code 166 51 = some (.iadd, 1) := by decide +kernel
theorem c166_52 : jm_code 166 52 = some (.istore_n 3, 1) := by decide +kernel
theorem c166_53 : jm_code 166 53 = some (.iinc 1 1, 3) := by decide +kernel
theorem c166_56 : jm_code 166 56 = some (.iload_n 1, 1) := by decide +kernel
theorem c166_57 : jm_code 166 57 = some (.sipush 200, 3) := by decide +kernel
theorem c166_60 : jm_code 166 60 = some (.if_icmp .ge 17, 3) := by decide +kernel
theorem c166_63 : jm_code 166 63 = some (.aload_n 0, 1) := by decide +kernel
theorem c166_64 : jm_code 166 64 = some (.iload_n 1, 1) := by decide +kernel
theorem c166_65 : jm_code 166 65 = some (.iload_n 2, 1) := by decide +kernel
theorem c166_66 : jm_code 166 66 = some (.iload_n 3, 1) := by decide +kernel
theorem c166_67 : jm_code 166 67 = some (.invokevirtual 257, 3) := by decide +kernel
theorem c166_70 : jm_code 166 70 = some (.ifCond .ne 7, 3) := by decide +kernel
theorem c166_73 : jm_code 166 73 = some (.iconst 1, 1) := by decide +kernel
theorem c166_74 : jm_code 166 74 = some (.goto 4, 3) := by decide +kernel
theorem c166_77 : jm_code 166 77 = some (.iconst 0, 1) := by decide +kernel
theorem c166_78 : jm_code 166 78 = some (.istore 4, 2) := by decide +kernel
theorem c166_80 : jm_code 166 80 = some (.goto (-63), 3) := by decide +kernel
theorem c166_83 : jm_code 166 83 = some (.iload_n 1, 1) := by decide +kernel
theorem c166_84 : jm_code 166 84 = some (.ireturn, 1) := by decide +kernel
theorem c167_0 : jm_code 167 0 = some (.iconst 0, 1) := by decide +kernel
theorem c167_1 : jm_code 167 1 = some (.istore 4, 2) := by decide +kernel
theorem c167_3 : jm_code 167 3 = some (.iconst 0, 1) := by decide +kernel
theorem c167_4 : jm_code 167 4 = some (.istore 5, 2) := by decide +kernel
theorem c167_6 : jm_code 167 6 = some (.iload 5, 2) := by decide +kernel
theorem c167_8 : jm_code 167 8 = some (.aload_n 0, 1) := by decide +kernel
theorem c167_9 : jm_code 167 9 = some (.getfield 191, 3) := by decide +kernel
theorem c167_12 : jm_code 167 12 = some (.if_icmp .ge 82, 3) := by decide +kernel
theorem c167_15 : jm_code 167 15 = some (.aload_n 0, 1) := by decide +kernel
theorem c167_16 : jm_code 167 16 = some (.getfield 50, 3) := by decide +kernel
theorem c167_19 : jm_code 167 19 = some (.iload 5, 2) := by decide +kernel
theorem c167_21 : jm_code 167 21 = some (.iaload, 1) := by decide +kernel
theorem c167_22 : jm_code 167 22 = some (.istore 6, 2) := by decide +kernel
theorem c167_24 : jm_code 167 24 = some (.iload 4, 2) := by decide +kernel
theorem c167_26 : jm_code 167 26 = some (.ifCond .ne 55, 3) := by decide +kernel
theorem c167_29 : jm_code 167 29 = some (.aload_n 0, 1) := by decide +kernel
theorem c167_30 : jm_code 167 30 = some (.getfield 47, 3) := by decide +kernel
theorem c167_33 : jm_code 167 33 = some (.iload 5, 2) := by decide +kernel
theorem c167_35 : jm_code 167 35 = some (.iaload, 1) := by decide +kernel
theorem c167_36 : jm_code 167 36 = some (.bipush 116, 2) := by decide +kernel
theorem c167_38 : jm_code 167 38 = some (.if_icmp .ne 12, 3) := by decide +kernel
theorem c167_41 : jm_code 167 41 = some (.iload_n 1, 1) := by decide +kernel
theorem c167_42 : jm_code 167 42 = some (.iload 6, 2) := by decide +kernel
theorem c167_44 : jm_code 167 44 = some (.if_icmp .lt 41, 3) := by decide +kernel
theorem c167_47 : jm_code 167 47 = some (.goto 34, 3) := by decide +kernel
theorem c167_50 : jm_code 167 50 = some (.aload_n 0, 1) := by decide +kernel
theorem c167_51 : jm_code 167 51 = some (.getfield 47, 3) := by decide +kernel
theorem c167_54 : jm_code 167 54 = some (.iload 5, 2) := by decide +kernel
theorem c167_56 : jm_code 167 56 = some (.iaload, 1) := by decide +kernel
theorem c167_57 : jm_code 167 57 = some (.bipush 110, 2) := by decide +kernel
theorem c167_59 : jm_code 167 59 = some (.if_icmp .ne 12, 3) := by decide +kernel
theorem c167_62 : jm_code 167 62 = some (.iload_n 2, 1) := by decide +kernel
theorem c167_63 : jm_code 167 63 = some (.iload 6, 2) := by decide +kernel
theorem c167_65 : jm_code 167 65 = some (.if_icmp .lt 20, 3) := by decide +kernel
theorem c167_68 : jm_code 167 68 = some (.goto 13, 3) := by decide +kernel
theorem c167_71 : jm_code 167 71 = some (.iload_n 2, 1) := by decide +kernel
theorem c167_72 : jm_code 167 72 = some (.ifCond .le 13, 3) := by decide +kernel
theorem c167_75 : jm_code 167 75 = some (.iload_n 3, 1) := by decide +kernel
theorem c167_76 : jm_code 167 76 = some (.iload 6, 2) := by decide +kernel
theorem c167_78 : jm_code 167 78 = some (.if_icmp .lt 7, 3) := by decide +kernel
theorem c167_81 : jm_code 167 81 = some (.iconst 1, 1) := by decide +kernel
theorem c167_82 : jm_code 167 82 = some (.goto 4, 3) := by decide +kernel
theorem c167_85 : jm_code 167 85 = some (.iconst 0, 1) := by decide +kernel
theorem c167_86 : jm_code 167 86 = some (.istore 4, 2) := by decide +kernel
theorem c167_88 : jm_code 167 88 = some (.iinc 5 1, 3) := by decide +kernel
theorem c167_91 : jm_code 167 91 = some (.goto (-85), 3) := by decide +kernel
theorem c167_94 : jm_code 167 94 = some (.iload 4, 2) := by decide +kernel
theorem c167_96 : jm_code 167 96 = some (.ireturn, 1) := by decide +kernel
theorem c168_0 : jm_code 168 0 = some (.iconst 0, 1) := by decide +kernel
theorem c168_1 : jm_code 168 1 = some (.istore_n 2, 1) := by decide +kernel
theorem c168_2 : jm_code 168 2 = some (.iconst 0, 1) := by decide +kernel
theorem c168_3 : jm_code 168 3 = some (.istore_n 3, 1) := by decide +kernel
theorem c168_4 : jm_code 168 4 = some (.iload_n 3, 1) := by decide +kernel
theorem c168_5 : jm_code 168 5 = some (.aload_n 0, 1) := by decide +kernel
theorem c168_6 : jm_code 168 6 = some (.getfield 124, 3) := by decide +kernel
theorem c168_9 : jm_code 168 9 = some (.if_icmp .ge 35, 3) := by decide +kernel
theorem c168_12 : jm_code 168 12 = some (.iload_n 2, 1) := by decide +kernel
theorem c168_13 : jm_code 168 13 = some (.aload_n 0, 1) := by decide +kernel
theorem c168_14 : jm_code 168 14 = some (.iload_n 3, 1) := by decide +kernel
theorem c168_15 : jm_code 168 15 = some (.invokevirtual 221, 3) := by decide +kernel
theorem c168_18 : jm_code 168 18 = some (.ifCond .eq 17, 3) := by decide +kernel
theorem c168_21 : jm_code 168 21 = some (.aload_n 0, 1) := by decide +kernel
theorem c168_22 : jm_code 168 22 = some (.getfield 62, 3) := by decide +kernel
theorem c168_25 : jm_code 168 25 = some (.iload_n 3, 1) := by decide +kernel
theorem c168_26 : jm_code 168 26 = some (.iaload, 1) := by decide +kernel
theorem c168_27 : jm_code 168 27 = some (.iload_n 1, 1) := by decide +kernel
theorem c168_28 : jm_code 168 28 = some (.if_icmp .ne 7, 3) := by decide +kernel
theorem c168_31 : jm_code 168 31 = some (.iconst 1, 1) := by decide +kernel
theorem c168_32 : jm_code 168 32 = some (.goto 4, 3) := by decide +kernel
theorem c168_35 : jm_code 168 35 = some (.iconst 0, 1) := by decide +kernel
theorem c168_36 : jm_code 168 36 = some (.iadd, 1) := by decide +kernel
theorem c168_37 : jm_code 168 37 = some (.istore_n 2, 1) := by decide +kernel
theorem c168_38 : jm_code 168 38 = some (.iinc 3 1, 3) := by decide +kernel
theorem c168_41 : jm_code 168 41 = some (.goto (-37), 3) := by decide +kernel
theorem c168_44 : jm_code 168 44 = some (.iload_n 2, 1) := by decide +kernel
theorem c168_45 : jm_code 168 45 = some (.ireturn, 1) := by decide +kernel
theorem c169_0 : jm_code 169 0 = some (.iconst 0, 1) := by decide +kernel
theorem c169_1 : jm_code 169 1 = some (.istore_n 1, 1) := by decide +kernel
theorem c169_2 : jm_code 169 2 = some (.iconst 0, 1) := by decide +kernel
theorem c169_3 : jm_code 169 3 = some (.istore_n 2, 1) := by decide +kernel
theorem c169_4 : jm_code 169 4 = some (.iload_n 2, 1) := by decide +kernel
theorem c169_5 : jm_code 169 5 = some (.aload_n 0, 1) := by decide +kernel
theorem c169_6 : jm_code 169 6 = some (.getfield 124, 3) := by decide +kernel
theorem c169_9 : jm_code 169 9 = some (.if_icmp .ge 30, 3) := by decide +kernel
theorem c169_12 : jm_code 169 12 = some (.iload_n 1, 1) := by decide +kernel
theorem c169_13 : jm_code 169 13 = some (.aload_n 0, 1) := by decide +kernel
theorem c169_14 : jm_code 169 14 = some (.iload_n 2, 1) := by decide +kernel
theorem c169_15 : jm_code 169 15 = some (.invokevirtual 221, 3) := by decide +kernel
theorem c169_18 : jm_code 169 18 = some (.ifCond .eq 12, 3) := by decide +kernel
theorem c169_21 : jm_code 169 21 = some (.aload_n 0, 1) := by decide +kernel
theorem c169_22 : jm_code 169 22 = some (.getfield 68, 3) := by decide +kernel
theorem c169_25 : jm_code 169 25 = some (.iload_n 2, 1) := by decide +kernel
theorem c169_26 : jm_code 169 26 = some (.iaload, 1) := by decide +kernel
theorem c169_27 : jm_code 169 27 = some (.goto 4, 3) := by decide +kernel
theorem c169_30 : jm_code 169 30 = some (.iconst 0, 1) := by decide +kernel
theorem c169_31 : jm_code 169 31 = some (.iadd, 1) := by decide +kernel
theorem c169_32 : jm_code 169 32 = some (.istore_n 1, 1) := by decide +kernel
theorem c169_33 : jm_code 169 33 = some (.iinc 2 1, 3) := by decide +kernel
theorem c169_36 : jm_code 169 36 = some (.goto (-32), 3) := by decide +kernel
theorem c169_39 : jm_code 169 39 = some (.iload_n 1, 1) := by decide +kernel
theorem c169_40 : jm_code 169 40 = some (.ireturn, 1) := by decide +kernel
theorem c170_0 : jm_code 170 0 = some (.iconst 0, 1) := by decide +kernel
theorem c170_1 : jm_code 170 1 = some (.istore_n 2, 1) := by decide +kernel
theorem c170_2 : jm_code 170 2 = some (.iconst 0, 1) := by decide +kernel
theorem c170_3 : jm_code 170 3 = some (.istore_n 3, 1) := by decide +kernel
theorem c170_4 : jm_code 170 4 = some (.iload_n 3, 1) := by decide +kernel
theorem c170_5 : jm_code 170 5 = some (.aload_n 0, 1) := by decide +kernel
theorem c170_6 : jm_code 170 6 = some (.getfield 124, 3) := by decide +kernel
theorem c170_9 : jm_code 170 9 = some (.if_icmp .ge 44, 3) := by decide +kernel
theorem c170_12 : jm_code 170 12 = some (.iload_n 2, 1) := by decide +kernel
theorem c170_13 : jm_code 170 13 = some (.aload_n 0, 1) := by decide +kernel
theorem c170_14 : jm_code 170 14 = some (.getfield 62, 3) := by decide +kernel
theorem c170_17 : jm_code 170 17 = some (.iload_n 3, 1) := by decide +kernel
theorem c170_18 : jm_code 170 18 = some (.iaload, 1) := by decide +kernel
theorem c170_19 : jm_code 170 19 = some (.iconst 1, 1) := by decide +kernel
theorem c170_20 : jm_code 170 20 = some (.if_icmp .ne 24, 3) := by decide +kernel
theorem c170_23 : jm_code 170 23 = some (.iload_n 1, 1) := by decide +kernel
theorem c170_24 : jm_code 170 24 = some (.aload_n 0, 1) := by decide +kernel
theorem c170_25 : jm_code 170 25 = some (.getfield 65, 3) := by decide +kernel
theorem c170_28 : jm_code 170 28 = some (.iload_n 3, 1) := by decide +kernel
theorem c170_29 : jm_code 170 29 = some (.iaload, 1) := by decide +kernel
theorem c170_30 : jm_code 170 30 = some (.isub, 1) := by decide +kernel
theorem c170_31 : jm_code 170 31 = some (.aload_n 0, 1) := by decide +kernel
theorem c170_32 : jm_code 170 32 = some (.getfield 28, 3) := by decide +kernel
theorem c170_35 : jm_code 170 35 = some (.iconst 2, 1) := by decide +kernel
theorem c170_36 : jm_code 170 36 = some (.iaload, 1) := by decide +kernel
theorem c170_37 : jm_code 170 37 = some (.if_icmp .le 7, 3) := by decide +kernel
theorem c170_40 : jm_code 170 40 = some (.iconst 1, 1) := by decide +kernel
theorem c170_41 : jm_code 170 41 = some (.goto 4, 3) := by decide +kernel
theorem c170_44 : jm_code 170 44 = some (.iconst 0, 1) := by decide +kernel
theorem c170_45 : jm_code 170 45 = some (.iadd, 1) := by decide +kernel
theorem c170_46 : jm_code 170 46 = some (.istore_n 2, 1) := by decide +kernel
theorem c170_47 : jm_code 170 47 = some (.iinc 3 1, 3) := by decide +kernel
theorem c170_50 : jm_code 170 50 = some (.goto (-46), 3) := by decide +kernel
theorem c170_53 : jm_code 170 53 = some (.iload_n 2, 1) := by decide +kernel
theorem c170_54 : jm_code 170 54 = some (.ireturn, 1) := by decide +kernel
theorem c171_0 : jm_code 171 0 = some (.aload_n 0, 1) := by decide +kernel
theorem c171_1 : jm_code 171 1 = some (.getfield 28, 3) := by decide +kernel
theorem c171_4 : jm_code 171 4 = some (.iconst 3, 1) := by decide +kernel
theorem c171_5 : jm_code 171 5 = some (.iaload, 1) := by decide +kernel
theorem c171_6 : jm_code 171 6 = some (.aload_n 0, 1) := by decide +kernel
theorem c171_7 : jm_code 171 7 = some (.invokevirtual 261, 3) := by decide +kernel
theorem c171_10 : jm_code 171 10 = some (.imul, 1) := by decide +kernel
theorem c171_11 : jm_code 171 11 = some (.aload_n 0, 1) := by decide +kernel
theorem c171_12 : jm_code 171 12 = some (.getfield 28, 3) := by decide +kernel
theorem c171_15 : jm_code 171 15 = some (.iconst 4, 1) := by decide +kernel
theorem c171_16 : jm_code 171 16 = some (.iaload, 1) := by decide +kernel
theorem c171_17 : jm_code 171 17 = some (.aload_n 0, 1) := by decide +kernel
theorem c171_18 : jm_code 171 18 = some (.iconst 0, 1) := by decide +kernel
theorem c171_19 : jm_code 171 19 = some (.invokevirtual 264, 3) := by decide +kernel
theorem c171_22 : jm_code 171 22 = some (.imul, 1) := by decide +kernel
theorem c171_23 : jm_code 171 23 = some (.isub, 1) := by decide +kernel
theorem c171_24 : jm_code 171 24 = some (.aload_n 0, 1) := by decide +kernel
theorem c171_25 : jm_code 171 25 = some (.getfield 28, 3) := by decide +kernel
theorem c171_28 : jm_code 171 28 = some (.iconst 5, 1) := by decide +kernel
theorem c171_29 : jm_code 171 29 = some (.iaload, 1) := by decide +kernel
theorem c171_30 : jm_code 171 30 = some (.aload_n 0, 1) := by decide +kernel
theorem c171_31 : jm_code 171 31 = some (.iconst 2, 1) := by decide +kernel
theorem c171_32 : jm_code 171 32 = some (.invokevirtual 264, 3) := by decide +kernel
theorem c171_35 : jm_code 171 35 = some (.aload_n 0, 1) := by decide +kernel
theorem c171_36 : jm_code 171 36 = some (.iload_n 1, 1) := by decide +kernel
theorem c171_37 : jm_code 171 37 = some (.invokevirtual 267, 3) := by decide +kernel
theorem c171_40 : jm_code 171 40 = some (.iadd, 1) := by decide +kernel
theorem c171_41 : jm_code 171 41 = some (.imul, 1) := by decide +kernel
theorem c171_42 : jm_code 171 42 = some (.isub, 1) := by decide +kernel
theorem c171_43 : jm_code 171 43 = some (.ireturn, 1) := by decide +kernel
theorem c172_0 : jm_code 172 0 = some (.aload_n 0, 1) := by decide +kernel
theorem c172_1 : jm_code 172 1 = some (.invokevirtual 285, 3) := by decide +kernel
theorem c172_4 : jm_code 172 4 = some (.ireturn, 1) := by decide +kernel
theorem c173_0 : jm_code 173 0 = some (.iconst (-1), 1) := by decide +kernel
theorem c173_1 : jm_code 173 1 = some (.istore_n 1, 1) := by decide +kernel
theorem c173_2 : jm_code 173 2 = some (.iconst 0, 1) := by decide +kernel
theorem c173_3 : jm_code 173 3 = some (.istore_n 2, 1) := by decide +kernel
theorem c173_4 : jm_code 173 4 = some (.iconst 0, 1) := by decide +kernel
theorem c173_5 : jm_code 173 5 = some (.istore_n 3, 1) := by decide +kernel
theorem c173_6 : jm_code 173 6 = some (.iload_n 3, 1) := by decide +kernel
theorem c173_7 : jm_code 173 7 = some (.iconst 3, 1) := by decide +kernel
theorem c173_8 : jm_code 173 8 = some (.if_icmp .ge 46, 3) := by decide +kernel
theorem c173_11 : jm_code 173 11 = some (.aload_n 0, 1) := by decide +kernel
theorem c173_12 : jm_code 173 12 = some (.iload_n 3, 1) := by decide +kernel
theorem c173_13 : jm_code 173 13 = some (.iconst 1, 1) := by decide +kernel
theorem c173_14 : jm_code 173 14 = some (.iadd, 1) := by decide +kernel
theorem c173_15 : jm_code 173 15 = some (.invokevirtual 198, 3) := by decide +kernel
theorem c173_18 : jm_code 173 18 = some (.iconst (-1), 1) := by decide +kernel
theorem c173_19 : jm_code 173 19 = some (.if_icmp .ne 29, 3) := by decide +kernel
theorem c173_22 : jm_code 173 22 = some (.aload_n 0, 1) := by decide +kernel
theorem c173_23 : jm_code 173 23 = some (.aload_n 0, 1) := by decide +kernel
theorem c173_24 : jm_code 173 24 = some (.invokevirtual 273, 3) := by decide +kernel
theorem c173_27 : jm_code 173 27 = some (.invokevirtual 276, 3) := by decide +kernel
theorem c173_30 : jm_code 173 30 = some (.istore 4, 2) := by decide +kernel
theorem c173_32 : jm_code 173 32 = some (.iload_n 1, 1) := by decide +kernel
theorem c173_33 : jm_code 173 33 = some (.iconst (-1), 1) := by decide +kernel
theorem c173_34 : jm_code 173 34 = some (.if_icmp .eq 9, 3) := by decide +kernel
theorem c173_37 : jm_code 173 37 = some (.iload 4, 2) := by decide +kernel
theorem c173_39 : jm_code 173 39 = some (.iload_n 2, 1) := by decide +kernel
theorem c173_40 : jm_code 173 40 = some (.if_icmp .le 8, 3) := by decide +kernel
theorem c173_43 : jm_code 173 43 = some (.iload_n 3, 1) := by decide +kernel
theorem c173_44 : jm_code 173 44 = some (.istore_n 1, 1) := by decide +kernel
theorem c173_45 : jm_code 173 45 = some (.iload 4, 2) := by decide +kernel
theorem c173_47 : jm_code 173 47 = some (.istore_n 2, 1) := by decide +kernel
theorem c173_48 : jm_code 173 48 = some (.iinc 3 1, 3) := by decide +kernel
theorem c173_51 : jm_code 173 51 = some (.goto (-45), 3) := by decide +kernel
theorem c173_54 : jm_code 173 54 = some (.iload_n 1, 1) := by decide +kernel
theorem c173_55 : jm_code 173 55 = some (.ireturn, 1) := by decide +kernel
theorem c174_0 : jm_code 174 0 = some (.iload_n 1, 1) := by decide +kernel
theorem c174_1 : jm_code 174 1 = some (.invokestatic 291, 3) := by decide +kernel
theorem c174_4 : jm_code 174 4 = some (.ifCond .eq 24, 3) := by decide +kernel
theorem c174_7 : jm_code 174 7 = some (.iload_n 2, 1) := by decide +kernel
theorem c174_8 : jm_code 174 8 = some (.i2l, 1) := by decide +kernel
theorem c174_9 : jm_code 174 9 = some (.lconst 0, 1) := by decide +kernel
theorem c174_10 : jm_code 174 10 = some (.ldc2_w 109, 3) := by decide +kernel
theorem c174_13 : jm_code 174 13 = some (.invokestatic 95, 3) := by decide +kernel
theorem c174_16 : jm_code 174 16 = some (.ifCond .eq 12, 3) := by decide +kernel
theorem c174_19 : jm_code 174 19 = some (.aload_n 0, 1) := by decide +kernel
theorem c174_20 : jm_code 174 20 = some (.iload_n 1, 1) := by decide +kernel
theorem c174_21 : jm_code 174 21 = some (.iload_n 2, 1) := by decide +kernel
theorem c174_22 : jm_code 174 22 = some (.invokevirtual 294, 3) := by decide +kernel
theorem c174_25 : jm_code 174 25 = some (.goto 5, 3) := by decide +kernel
theorem c174_28 : jm_code 174 28 = some (.bipush (-2), 2) := by decide +kernel
theorem c174_30 : jm_code 174 30 = some (.ireturn, 1) := by decide +kernel
theorem c175_0 : jm_code 175 0 = some (.iload_n 0, 1) := by decide +kernel
theorem c175_1 : jm_code 175 1 = some (.i2l, 1) := by decide +kernel
theorem c175_2 : jm_code 175 2 = some (.lconst 1, 1) := by decide +kernel
theorem c175_3 : jm_code 175 3 = some (.ldc2_w 246, 3) := by decide +kernel
theorem c175_6 : jm_code 175 6 = some (.invokestatic 95, 3) := by decide +kernel
theorem c175_9 : jm_code 175 9 = some (.ireturn, 1) := by decide +kernel
theorem c176_0 : jm_code 176 0 = some (.aload_n 0, 1) := by decide +kernel
theorem c176_1 : jm_code 176 1 = some (.iload_n 1, 1) := by decide +kernel
theorem c176_2 : jm_code 176 2 = some (.invokevirtual 288, 3) := by decide +kernel
theorem c176_5 : jm_code 176 5 = some (.iconst 1, 1) := by decide +kernel
theorem c176_6 : jm_code 176 6 = some (.istore_n 3, 1) := by decide +kernel
theorem c176_7 : jm_code 176 7 = some (.iconst 2, 1) := by decide +kernel
theorem c176_8 : jm_code 176 8 = some (.istore 4, 2) := by decide +kernel
theorem c176_10 : jm_code 176 10 = some (.iload 4, 2) := by decide +kernel
theorem c176_12 : jm_code 176 12 = some (.bipush 100, 2) := by decide +kernel
theorem c176_14 : jm_code 176 14 = some (.if_icmp .ge 76, 3) := by decide +kernel
theorem c176_17 : jm_code 176 17 = some (.aload_n 0, 1) := by decide +kernel
theorem c176_18 : jm_code 176 18 = some (.getfield 80, 3) := by decide +kernel
theorem c176_21 : jm_code 176 21 = some (.iload 4, 2) := by decide +kernel
theorem c176_23 : jm_code 176 23 = some (.iaload, 1) := by decide +kernel
theorem c176_24 : jm_code 176 24 = some (.aload_n 0, 1) := by decide +kernel
theorem c176_25 : jm_code 176 25 = some (.getfield 80, 3) := by decide +kernel
theorem c176_28 : jm_code 176 28 = some (.iload_n 3, 1) := by decide +kernel
theorem c176_29 : jm_code 176 29 = some (.iaload, 1) := by decide +kernel
theorem c176_30 : jm_code 176 30 = some (.if_icmp .gt 35, 3) := by decide +kernel
theorem c176_33 : jm_code 176 33 = some (.aload_n 0, 1) := by decide +kernel
theorem c176_34 : jm_code 176 34 = some (.getfield 80, 3) := by decide +kernel
theorem c176_37 : jm_code 176 37 = some (.iload 4, 2) := by decide +kernel
theorem c176_39 : jm_code 176 39 = some (.iaload, 1) := by decide +kernel
theorem c176_40 : jm_code 176 40 = some (.aload_n 0, 1) := by decide +kernel
theorem c176_41 : jm_code 176 41 = some (.getfield 80, 3) := by decide +kernel
theorem c176_44 : jm_code 176 44 = some (.iload_n 3, 1) := by decide +kernel
theorem c176_45 : jm_code 176 45 = some (.iaload, 1) := by decide +kernel
theorem c176_46 : jm_code 176 46 = some (.if_icmp .ne 23, 3) := by decide +kernel
theorem c176_49 : jm_code 176 49 = some (.aload_n 0, 1) := by decide +kernel
theorem c176_50 : jm_code 176 50 = some (.getfield 83, 3) := by decide +kernel
theorem c176_53 : jm_code 176 53 = some (.iload 4, 2) := by decide +kernel
theorem c176_55 : jm_code 176 55 = some (.iaload, 1) := by decide +kernel
theorem c176_56 : jm_code 176 56 = some (.aload_n 0, 1) := by decide +kernel
theorem c176_57 : jm_code 176 57 = some (.getfield 83, 3) := by decide +kernel
theorem c176_60 : jm_code 176 60 = some (.iload_n 3, 1) := by decide +kernel
theorem c176_61 : jm_code 176 61 = some (.iaload, 1) := by decide +kernel
theorem c176_62 : jm_code 176 62 = some (.if_icmp .ge 7, 3) := by decide +kernel
theorem c176_65 : jm_code 176 65 = some (.iconst 1, 1) := by decide +kernel
theorem c176_66 : jm_code 176 66 = some (.goto 4, 3) := by decide +kernel
theorem c176_69 : jm_code 176 69 = some (.iconst 0, 1) := by decide +kernel
theorem c176_70 : jm_code 176 70 = some (.istore 5, 2) := by decide +kernel
theorem c176_72 : jm_code 176 72 = some (.iload 5, 2) := by decide +kernel
theorem c176_74 : jm_code 176 74 = some (.ifCond .eq 8, 3) := by decide +kernel
theorem c176_77 : jm_code 176 77 = some (.iload 4, 2) := by decide +kernel
theorem c176_79 : jm_code 176 79 = some (.goto 4, 3) := by decide +kernel
theorem c176_82 : jm_code 176 82 = some (.iload_n 3, 1) := by decide +kernel
theorem c176_83 : jm_code 176 83 = some (.istore_n 3, 1) := by decide +kernel
theorem c176_84 : jm_code 176 84 = some (.iinc 4 1, 3) := by decide +kernel
theorem c176_87 : jm_code 176 87 = some (.goto (-77), 3) := by decide +kernel
theorem c176_90 : jm_code 176 90 = some (.iload_n 2, 1) := by decide +kernel
theorem c176_91 : jm_code 176 91 = some (.ifCond .ne 7, 3) := by decide +kernel
theorem c176_94 : jm_code 176 94 = some (.iload_n 3, 1) := by decide +kernel
theorem c176_95 : jm_code 176 95 = some (.goto 23, 3) := by decide +kernel
theorem c176_98 : jm_code 176 98 = some (.iload_n 2, 1) := by decide +kernel
theorem c176_99 : jm_code 176 99 = some (.iconst 1, 1) := by decide +kernel
theorem c176_100 : jm_code 176 100 = some (.if_icmp .ne 12, 3) := by decide +kernel
theorem c176_103 : jm_code 176 103 = some (.aload_n 0, 1) := by decide +kernel
theorem c176_104 : jm_code 176 104 = some (.getfield 80, 3) := by decide +kernel
theorem c176_107 : jm_code 176 107 = some (.iload_n 3, 1) := by decide +kernel
theorem c176_108 : jm_code 176 108 = some (.iaload, 1) := by decide +kernel
theorem c176_109 : jm_code 176 109 = some (.goto 9, 3) := by decide +kernel
theorem c176_112 : jm_code 176 112 = some (.aload_n 0, 1) := by decide +kernel
theorem c176_113 : jm_code 176 113 = some (.getfield 83, 3) := by decide +kernel
theorem c176_116 : jm_code 176 116 = some (.iload_n 3, 1) := by decide +kernel
theorem c176_117 : jm_code 176 117 = some (.iaload, 1) := by decide +kernel
theorem c176_118 : jm_code 176 118 = some (.ireturn, 1) := by decide +kernel
theorem c177_0 : jm_code 177 0 = some (.aload_n 0, 1) := by decide +kernel
theorem c177_1 : jm_code 177 1 = some (.invokevirtual 248, 3) := by decide +kernel
theorem c177_4 : jm_code 177 4 = some (.iconst 1, 1) := by decide +kernel
theorem c177_5 : jm_code 177 5 = some (.istore_n 2, 1) := by decide +kernel
theorem c177_6 : jm_code 177 6 = some (.iload_n 2, 1) := by decide +kernel
theorem c177_7 : jm_code 177 7 = some (.bipush 100, 2) := by decide +kernel
theorem c177_9 : jm_code 177 9 = some (.if_icmp .ge 41, 3) := by decide +kernel
theorem c177_12 : jm_code 177 12 = some (.aload_n 0, 1) := by decide +kernel
theorem c177_13 : jm_code 177 13 = some (.iload_n 2, 1) := by decide +kernel
theorem c177_14 : jm_code 177 14 = some (.putfield 212, 3) := by decide +kernel
theorem c177_17 : jm_code 177 17 = some (.aload_n 0, 1) := by decide +kernel
theorem c177_18 : jm_code 177 18 = some (.iload_n 1, 1) := by decide +kernel
theorem c177_19 : jm_code 177 19 = some (.invokevirtual 251, 3) := by decide +kernel
theorem c177_22 : jm_code 177 22 = some (.aload_n 0, 1) := by decide +kernel
theorem c177_23 : jm_code 177 23 = some (.getfield 80, 3) := by decide +kernel
theorem c177_26 : jm_code 177 26 = some (.iload_n 2, 1) := by decide +kernel
theorem c177_27 : jm_code 177 27 = some (.aload_n 0, 1) := by decide +kernel
theorem c177_28 : jm_code 177 28 = some (.iconst 1, 1) := by decide +kernel
theorem c177_29 : jm_code 177 29 = some (.invokevirtual 264, 3) := by decide +kernel
theorem c177_32 : jm_code 177 32 = some (.iastore, 1) := by decide +kernel
theorem c177_33 : jm_code 177 33 = some (.aload_n 0, 1) := by decide +kernel
theorem c177_34 : jm_code 177 34 = some (.getfield 83, 3) := by decide +kernel
theorem c177_37 : jm_code 177 37 = some (.iload_n 2, 1) := by decide +kernel
theorem c177_38 : jm_code 177 38 = some (.aload_n 0, 1) := by decide +kernel
theorem c177_39 : jm_code 177 39 = some (.iconst 2, 1) := by decide +kernel
theorem c177_40 : jm_code 177 40 = some (.invokevirtual 264, 3) := by decide +kernel
theorem c177_43 : jm_code 177 43 = some (.iastore, 1) := by decide +kernel
theorem c177_44 : jm_code 177 44 = some (.iinc 2 1, 3) := by decide +kernel
theorem c177_47 : jm_code 177 47 = some (.goto (-41), 3) := by decide +kernel
theorem c177_50 : jm_code 177 50 = some (.return_, 1) := by decide +kernel
theorem c178_0 : jm_code 178 0 = some (.iload_n 1, 1) := by decide +kernel
theorem c178_1 : jm_code 178 1 = some (.invokestatic 291, 3) := by decide +kernel
theorem c178_4 : jm_code 178 4 = some (.ifCond .eq 8, 3) := by decide +kernel
theorem c178_7 : jm_code 178 7 = some (.iload_n 2, 1) := by decide +kernel
theorem c178_8 : jm_code 178 8 = some (.iconst (-1), 1) := by decide +kernel
theorem c178_9 : jm_code 178 9 = some (.if_icmp .ge 6, 3) := by decide +kernel
theorem c178_12 : jm_code 178 12 = some (.bipush (-2), 2) := by decide +kernel
theorem c178_14 : jm_code 178 14 = some (.ireturn, 1) := by decide +kernel
theorem c178_15 : jm_code 178 15 = some (.aload_n 0, 1) := by decide +kernel
theorem c178_16 : jm_code 178 16 = some (.iload_n 1, 1) := by decide +kernel
theorem c178_17 : jm_code 178 17 = some (.invokevirtual 288, 3) := by decide +kernel
theorem c178_20 : jm_code 178 20 = some (.iconst 0, 1) := by decide +kernel
theorem c178_21 : jm_code 178 21 = some (.istore_n 3, 1) := by decide +kernel
theorem c178_22 : jm_code 178 22 = some (.iconst 1, 1) := by decide +kernel
theorem c178_23 : jm_code 178 23 = some (.istore 4, 2) := by decide +kernel
theorem c178_25 : jm_code 178 25 = some (.iload 4, 2) := by decide +kernel
theorem c178_27 : jm_code 178 27 = some (.bipush 100, 2) := by decide +kernel
theorem c178_29 : jm_code 178 29 = some (.if_icmp .ge 136, 3) := by decide +kernel
theorem c178_32 : jm_code 178 32 = some (.iconst 1, 1) := by decide +kernel
theorem c178_33 : jm_code 178 33 = some (.istore 5, 2) := by decide +kernel
theorem c178_35 : jm_code 178 35 = some (.iconst 1, 1) := by decide +kernel
theorem c178_36 : jm_code 178 36 = some (.istore 6, 2) := by decide +kernel
theorem c178_38 : jm_code 178 38 = some (.iload 6, 2) := by decide +kernel
theorem c178_40 : jm_code 178 40 = some (.bipush 100, 2) := by decide +kernel
theorem c178_42 : jm_code 178 42 = some (.if_icmp .ge 101, 3) := by decide +kernel
theorem c178_45 : jm_code 178 45 = some (.iload 5, 2) := by decide +kernel
theorem c178_47 : jm_code 178 47 = some (.ifCond .eq 96, 3) := by decide +kernel
theorem c178_50 : jm_code 178 50 = some (.aload_n 0, 1) := by decide +kernel
theorem c178_51 : jm_code 178 51 = some (.getfield 80, 3) := by decide +kernel
theorem c178_54 : jm_code 178 54 = some (.iload 6, 2) := by decide +kernel
theorem c178_56 : jm_code 178 56 = some (.iaload, 1) := by decide +kernel
theorem c178_57 : jm_code 178 57 = some (.aload_n 0, 1) := by decide +kernel
theorem c178_58 : jm_code 178 58 = some (.getfield 80, 3) := by decide +kernel
theorem c178_61 : jm_code 178 61 = some (.iload 4, 2) := by decide +kernel
theorem c178_63 : jm_code 178 63 = some (.iaload, 1) := by decide +kernel
theorem c178_64 : jm_code 178 64 = some (.if_icmp .le 24, 3) := by decide +kernel
theorem c178_67 : jm_code 178 67 = some (.aload_n 0, 1) := by decide +kernel
theorem c178_68 : jm_code 178 68 = some (.getfield 83, 3) := by decide +kernel
theorem c178_71 : jm_code 178 71 = some (.iload 6, 2) := by decide +kernel
theorem c178_73 : jm_code 178 73 = some (.iaload, 1) := by decide +kernel
theorem c178_74 : jm_code 178 74 = some (.aload_n 0, 1) := by decide +kernel
theorem c178_75 : jm_code 178 75 = some (.getfield 83, 3) := by decide +kernel
theorem c178_78 : jm_code 178 78 = some (.iload 4, 2) := by decide +kernel
theorem c178_80 : jm_code 178 80 = some (.iaload, 1) := by decide +kernel
theorem c178_81 : jm_code 178 81 = some (.if_icmp .gt 7, 3) := by decide +kernel
theorem c178_84 : jm_code 178 84 = some (.iconst 1, 1) := by decide +kernel
theorem c178_85 : jm_code 178 85 = some (.goto 4, 3) := by decide +kernel
theorem c178_88 : jm_code 178 88 = some (.iconst 0, 1) := by decide +kernel
theorem c178_89 : jm_code 178 89 = some (.istore 7, 2) := by decide +kernel
theorem c178_91 : jm_code 178 91 = some (.iload 7, 2) := by decide +kernel
theorem c178_93 : jm_code 178 93 = some (.ifCond .ne 41, 3) := by decide +kernel
theorem c178_96 : jm_code 178 96 = some (.aload_n 0, 1) := by decide +kernel
theorem c178_97 : jm_code 178 97 = some (.getfield 80, 3) := by decide +kernel
theorem c178_100 : jm_code 178 100 = some (.iload 6, 2) := by decide +kernel
theorem c178_102 : jm_code 178 102 = some (.iaload, 1) := by decide +kernel
theorem c178_103 : jm_code 178 103 = some (.aload_n 0, 1) := by decide +kernel
theorem c178_104 : jm_code 178 104 = some (.getfield 80, 3) := by decide +kernel
theorem c178_107 : jm_code 178 107 = some (.iload 4, 2) := by decide +kernel
theorem c178_109 : jm_code 178 109 = some (.iaload, 1) := by decide +kernel
theorem c178_110 : jm_code 178 110 = some (.if_icmp .ne 20, 3) := by decide +kernel
theorem c178_113 : jm_code 178 113 = some (.aload_n 0, 1) := by decide +kernel
theorem c178_114 : jm_code 178 114 = some (.getfield 83, 3) := by decide +kernel
theorem c178_117 : jm_code 178 117 = some (.iload 6, 2) := by decide +kernel
theorem c178_119 : jm_code 178 119 = some (.iaload, 1) := by decide +kernel
theorem c178_120 : jm_code 178 120 = some (.aload_n 0, 1) := by decide +kernel
theorem c178_121 : jm_code 178 121 = some (.getfield 83, 3) := by decide +kernel
theorem c178_124 : jm_code 178 124 = some (.iload 4, 2) := by decide +kernel
theorem c178_126 : jm_code 178 126 = some (.iaload, 1) := by decide +kernel
theorem c178_127 : jm_code 178 127 = some (.if_icmp .lt 7, 3) := by decide +kernel
theorem c178_130 : jm_code 178 130 = some (.iconst 1, 1) := by decide +kernel
theorem c178_131 : jm_code 178 131 = some (.goto 4, 3) := by decide +kernel
theorem c178_134 : jm_code 178 134 = some (.iconst 0, 1) := by decide +kernel
theorem c178_135 : jm_code 178 135 = some (.istore 5, 2) := by decide +kernel
theorem c178_137 : jm_code 178 137 = some (.iinc 6 1, 3) := by decide +kernel
theorem c178_140 : jm_code 178 140 = some (.goto (-102), 3) := by decide +kernel
theorem c178_143 : jm_code 178 143 = some (.iload 5, 2) := by decide +kernel
theorem c178_145 : jm_code 178 145 = some (.ifCond .eq 14, 3) := by decide +kernel
theorem c178_148 : jm_code 178 148 = some (.iload_n 3, 1) := by decide +kernel
theorem c178_149 : jm_code 178 149 = some (.iload_n 2, 1) := by decide +kernel
theorem c178_150 : jm_code 178 150 = some (.if_icmp .ne 6, 3) := by decide +kernel
theorem c178_153 : jm_code 178 153 = some (.iload 4, 2) := by decide +kernel
theorem c178_155 : jm_code 178 155 = some (.ireturn, 1) := by decide +kernel
theorem c178_156 : jm_code 178 156 = some (.iinc 3 1, 3) := by decide +kernel
theorem c178_159 : jm_code 178 159 = some (.iinc 4 1, 3) := by decide +kernel
theorem c178_162 : jm_code 178 162 = some (.goto (-137), 3) := by decide +kernel
theorem c178_165 : jm_code 178 165 = some (.iload_n 2, 1) := by decide +kernel
theorem c178_166 : jm_code 178 166 = some (.iconst (-1), 1) := by decide +kernel
theorem c178_167 : jm_code 178 167 = some (.if_icmp .ne 7, 3) := by decide +kernel
theorem c178_170 : jm_code 178 170 = some (.iload_n 3, 1) := by decide +kernel
theorem c178_171 : jm_code 178 171 = some (.goto 4, 3) := by decide +kernel
theorem c178_174 : jm_code 178 174 = some (.iconst (-1), 1) := by decide +kernel
theorem c178_175 : jm_code 178 175 = some (.ireturn, 1) := by decide +kernel
theorem c179_0 : jm_code 179 0 = some (.iload_n 1, 1) := by decide +kernel
theorem c179_1 : jm_code 179 1 = some (.invokestatic 291, 3) := by decide +kernel
theorem c179_4 : jm_code 179 4 = some (.ifCond .eq 10, 3) := by decide +kernel
theorem c179_7 : jm_code 179 7 = some (.iload_n 2, 1) := by decide +kernel
theorem c179_8 : jm_code 179 8 = some (.invokestatic 297, 3) := by decide +kernel
theorem c179_11 : jm_code 179 11 = some (.ifCond .ne 6, 3) := by decide +kernel
theorem c179_14 : jm_code 179 14 = some (.bipush (-2), 2) := by decide +kernel
theorem c179_16 : jm_code 179 16 = some (.ireturn, 1) := by decide +kernel
theorem c179_17 : jm_code 179 17 = some (.aload_n 0, 1) := by decide +kernel
theorem c179_18 : jm_code 179 18 = some (.invokevirtual 248, 3) := by decide +kernel
theorem c179_21 : jm_code 179 21 = some (.iconst 0, 1) := by decide +kernel
theorem c179_22 : jm_code 179 22 = some (.istore_n 3, 1) := by decide +kernel
theorem c179_23 : jm_code 179 23 = some (.iconst (-1), 1) := by decide +kernel
theorem c179_24 : jm_code 179 24 = some (.istore 4, 2) := by decide +kernel
theorem c179_26 : jm_code 179 26 = some (.iconst 0, 1) := by decide +kernel
theorem c179_27 : jm_code 179 27 = some (.istore 5, 2) := by decide +kernel
theorem c179_29 : jm_code 179 29 = some (.iload 5, 2) := by decide +kernel
theorem c179_31 : jm_code 179 31 = some (.bipush 100, 2) := by decide +kernel
theorem c179_33 : jm_code 179 33 = some (.if_icmp .ge 56, 3) := by decide +kernel
theorem c179_36 : jm_code 179 36 = some (.aload_n 0, 1) := by decide +kernel
theorem c179_37 : jm_code 179 37 = some (.iload 5, 2) := by decide +kernel
theorem c179_39 : jm_code 179 39 = some (.putfield 206, 3) := by decide +kernel
theorem c179_42 : jm_code 179 42 = some (.aload_n 0, 1) := by decide +kernel
theorem c179_43 : jm_code 179 43 = some (.iload_n 1, 1) := by decide +kernel
theorem c179_44 : jm_code 179 44 = some (.invokevirtual 251, 3) := by decide +kernel
theorem c179_47 : jm_code 179 47 = some (.aload_n 0, 1) := by decide +kernel
theorem c179_48 : jm_code 179 48 = some (.invokevirtual 261, 3) := by decide +kernel
theorem c179_51 : jm_code 179 51 = some (.iload 4, 2) := by decide +kernel
theorem c179_53 : jm_code 179 53 = some (.if_icmp .le 8, 3) := by decide +kernel
theorem c179_56 : jm_code 179 56 = some (.iload 5, 2) := by decide +kernel
theorem c179_58 : jm_code 179 58 = some (.goto 4, 3) := by decide +kernel
theorem c179_61 : jm_code 179 61 = some (.iload_n 3, 1) := by decide +kernel
theorem c179_62 : jm_code 179 62 = some (.istore_n 3, 1) := by decide +kernel
theorem c179_63 : jm_code 179 63 = some (.aload_n 0, 1) := by decide +kernel
theorem c179_64 : jm_code 179 64 = some (.invokevirtual 261, 3) := by decide +kernel
theorem c179_67 : jm_code 179 67 = some (.iload 4, 2) := by decide +kernel
theorem c179_69 : jm_code 179 69 = some (.if_icmp .le 10, 3) := by decide +kernel
theorem c179_72 : jm_code 179 72 = some (.aload_n 0, 1) := by decide +kernel
theorem c179_73 : jm_code 179 73 = some (.invokevirtual 261, 3) := by decide +kernel
theorem c179_76 : jm_code 179 76 = some (.goto 5, 3) := by decide +kernel
theorem c179_79 : jm_code 179 79 = some (.iload 4, 2) := by decide +kernel
theorem c179_81 : jm_code 179 81 = some (.istore 4, 2) := by decide +kernel
theorem c179_83 : jm_code 179 83 = some (.iinc 5 1, 3) := by decide +kernel
theorem c179_86 : jm_code 179 86 = some (.goto (-57), 3) := by decide +kernel
theorem c179_89 : jm_code 179 89 = some (.iload_n 2, 1) := by decide +kernel
theorem c179_90 : jm_code 179 90 = some (.ifCond .ne 7, 3) := by decide +kernel
theorem c179_93 : jm_code 179 93 = some (.iload_n 3, 1) := by decide +kernel
theorem c179_94 : jm_code 179 94 = some (.goto 5, 3) := by decide +kernel
theorem c179_97 : jm_code 179 97 = some (.iload 4, 2) := by decide +kernel
theorem c179_99 : jm_code 179 99 = some (.ireturn, 1) := by decide +kernel
theorem c180_0 : jm_code 180 0 = some (.iload_n 0, 1) := by decide +kernel
theorem c180_1 : jm_code 180 1 = some (.i2l, 1) := by decide +kernel
theorem c180_2 : jm_code 180 2 = some (.lconst 0, 1) := by decide +kernel
theorem c180_3 : jm_code 180 3 = some (.lconst 1, 1) := by decide +kernel
theorem c180_4 : jm_code 180 4 = some (.invokestatic 95, 3) := by decide +kernel
theorem c180_7 : jm_code 180 7 = some (.ireturn, 1) := by decide +kernel
theorem c181_0 : jm_code 181 0 = some (.iload_n 1, 1) := by decide +kernel
theorem c181_1 : jm_code 181 1 = some (.invokestatic 291, 3) := by decide +kernel
theorem c181_4 : jm_code 181 4 = some (.ifCond .eq 10, 3) := by decide +kernel
theorem c181_7 : jm_code 181 7 = some (.iload_n 2, 1) := by decide +kernel
theorem c181_8 : jm_code 181 8 = some (.invokestatic 297, 3) := by decide +kernel
theorem c181_11 : jm_code 181 11 = some (.ifCond .ne 6, 3) := by decide +kernel
theorem c181_14 : jm_code 181 14 = some (.bipush (-2), 2) := by decide +kernel
theorem c181_16 : jm_code 181 16 = some (.ireturn, 1) := by decide +kernel
theorem c181_17 : jm_code 181 17 = some (.aload_n 0, 1) := by decide +kernel
theorem c181_18 : jm_code 181 18 = some (.invokevirtual 248, 3) := by decide +kernel
theorem c181_21 : jm_code 181 21 = some (.aload_n 0, 1) := by decide +kernel
theorem c181_22 : jm_code 181 22 = some (.iload_n 1, 1) := by decide +kernel
theorem c181_23 : jm_code 181 23 = some (.invokevirtual 251, 3) := by decide +kernel
theorem c181_26 : jm_code 181 26 = some (.iconst (-1), 1) := by decide +kernel
theorem c181_27 : jm_code 181 27 = some (.istore_n 3, 1) := by decide +kernel
theorem c181_28 : jm_code 181 28 = some (.aload_n 0, 1) := by decide +kernel
theorem c181_29 : jm_code 181 29 = some (.iconst 1, 1) := by decide +kernel
theorem c181_30 : jm_code 181 30 = some (.invokevirtual 264, 3) := by decide +kernel
theorem c181_33 : jm_code 181 33 = some (.istore 4, 2) := by decide +kernel
theorem c181_35 : jm_code 181 35 = some (.iconst 0, 1) := by decide +kernel
theorem c181_36 : jm_code 181 36 = some (.istore 5, 2) := by decide +kernel
theorem c181_38 : jm_code 181 38 = some (.iload 5, 2) := by decide +kernel
theorem c181_40 : jm_code 181 40 = some (.iload_n 1, 1) := by decide +kernel
theorem c181_41 : jm_code 181 41 = some (.if_icmp .ge 59, 3) := by decide +kernel
theorem c181_44 : jm_code 181 44 = some (.aload_n 0, 1) := by decide +kernel
theorem c181_45 : jm_code 181 45 = some (.iload 5, 2) := by decide +kernel
theorem c181_47 : jm_code 181 47 = some (.putfield 215, 3) := by decide +kernel
theorem c181_50 : jm_code 181 50 = some (.aload_n 0, 1) := by decide +kernel
theorem c181_51 : jm_code 181 51 = some (.iload_n 1, 1) := by decide +kernel
theorem c181_52 : jm_code 181 52 = some (.invokevirtual 251, 3) := by decide +kernel
theorem c181_55 : jm_code 181 55 = some (.aload_n 0, 1) := by decide +kernel
theorem c181_56 : jm_code 181 56 = some (.iconst 1, 1) := by decide +kernel
theorem c181_57 : jm_code 181 57 = some (.invokevirtual 264, 3) := by decide +kernel
theorem c181_60 : jm_code 181 60 = some (.iload 4, 2) := by decide +kernel
theorem c181_62 : jm_code 181 62 = some (.if_icmp .le 8, 3) := by decide +kernel
theorem c181_65 : jm_code 181 65 = some (.iload 5, 2) := by decide +kernel
theorem c181_67 : jm_code 181 67 = some (.goto 4, 3) := by decide +kernel
theorem c181_70 : jm_code 181 70 = some (.iload_n 3, 1) := by decide +kernel
theorem c181_71 : jm_code 181 71 = some (.istore_n 3, 1) := by decide +kernel
theorem c181_72 : jm_code 181 72 = some (.aload_n 0, 1) := by decide +kernel
theorem c181_73 : jm_code 181 73 = some (.iconst 1, 1) := by decide +kernel
theorem c181_74 : jm_code 181 74 = some (.invokevirtual 264, 3) := by decide +kernel
theorem c181_77 : jm_code 181 77 = some (.iload 4, 2) := by decide +kernel
theorem c181_79 : jm_code 181 79 = some (.if_icmp .le 11, 3) := by decide +kernel
theorem c181_82 : jm_code 181 82 = some (.aload_n 0, 1) := by decide +kernel
theorem c181_83 : jm_code 181 83 = some (.iconst 1, 1) := by decide +kernel
theorem c181_84 : jm_code 181 84 = some (.invokevirtual 264, 3) := by decide +kernel
theorem c181_87 : jm_code 181 87 = some (.goto 5, 3) := by decide +kernel
theorem c181_90 : jm_code 181 90 = some (.iload 4, 2) := by decide +kernel
theorem c181_92 : jm_code 181 92 = some (.istore 4, 2) := by decide +kernel
theorem c181_94 : jm_code 181 94 = some (.iinc 5 1, 3) := by decide +kernel
theorem c181_97 : jm_code 181 97 = some (.goto (-59), 3) := by decide +kernel
theorem c181_100 : jm_code 181 100 = some (.iload_n 2, 1) := by decide +kernel
theorem c181_101 : jm_code 181 101 = some (.ifCond .ne 7, 3) := by decide +kernel
theorem c181_104 : jm_code 181 104 = some (.iload_n 3, 1) := by decide +kernel
theorem c181_105 : jm_code 181 105 = some (.goto 5, 3) := by decide +kernel
theorem c181_108 : jm_code 181 108 = some (.iload 4, 2) := by decide +kernel
theorem c181_110 : jm_code 181 110 = some (.ireturn, 1) := by decide +kernel
theorem c182_0 : jm_code 182 0 = some (.aload_n 0, 1) := by decide +kernel
theorem c182_1 : jm_code 182 1 = some (.iload_n 1, 1) := by decide +kernel
theorem c182_2 : jm_code 182 2 = some (.invokevirtual 144, 3) := by decide +kernel
theorem c182_5 : jm_code 182 5 = some (.ifCond .ne 9, 3) := by decide +kernel
theorem c182_8 : jm_code 182 8 = some (.bipush (-2), 2) := by decide +kernel
theorem c182_10 : jm_code 182 10 = some (.invokestatic 270, 3) := by decide +kernel
theorem c182_13 : jm_code 182 13 = some (.ireturn, 1) := by decide +kernel
theorem c182_14 : jm_code 182 14 = some (.aload_n 0, 1) := by decide +kernel
theorem c182_15 : jm_code 182 15 = some (.invokevirtual 248, 3) := by decide +kernel
theorem c182_18 : jm_code 182 18 = some (.aload_n 0, 1) := by decide +kernel
theorem c182_19 : jm_code 182 19 = some (.sipush 200, 3) := by decide +kernel
theorem c182_22 : jm_code 182 22 = some (.invokevirtual 251, 3) := by decide +kernel
theorem c182_25 : jm_code 182 25 = some (.aload_n 0, 1) := by decide +kernel
theorem c182_26 : jm_code 182 26 = some (.getfield 65, 3) := by decide +kernel
theorem c182_29 : jm_code 182 29 = some (.iload_n 1, 1) := by decide +kernel
theorem c182_30 : jm_code 182 30 = some (.iaload, 1) := by decide +kernel
theorem c182_31 : jm_code 182 31 = some (.istore_n 2, 1) := by decide +kernel
theorem c182_32 : jm_code 182 32 = some (.aload_n 0, 1) := by decide +kernel
theorem c182_33 : jm_code 182 33 = some (.iconst 1, 1) := by decide +kernel
theorem c182_34 : jm_code 182 34 = some (.iload_n 1, 1) := by decide +kernel
theorem c182_35 : jm_code 182 35 = some (.ishl, 1) := by decide +kernel
theorem c182_36 : jm_code 182 36 = some (.putfield 218, 3) := by decide +kernel
theorem c182_39 : jm_code 182 39 = some (.aload_n 0, 1) := by decide +kernel
theorem c182_40 : jm_code 182 40 = some (.sipush 200, 3) := by decide +kernel
theorem c182_43 : jm_code 182 43 = some (.invokevirtual 251, 3) := by decide +kernel
theorem c182_46 : jm_code 182 46 = some (.iload_n 2, 1) := by decide +kernel
theorem c182_47 : jm_code 182 47 = some (.iconst (-1), 1) := by decide +kernel
theorem c182_48 : jm_code 182 48 = some (.if_icmp .eq 13, 3) := by decide +kernel
theorem c182_51 : jm_code 182 51 = some (.aload_n 0, 1) := by decide +kernel
theorem c182_52 : jm_code 182 52 = some (.getfield 65, 3) := by decide +kernel
theorem c182_55 : jm_code 182 55 = some (.iload_n 1, 1) := by decide +kernel
theorem c182_56 : jm_code 182 56 = some (.iaload, 1) := by decide +kernel
theorem c182_57 : jm_code 182 57 = some (.iconst (-1), 1) := by decide +kernel
theorem c182_58 : jm_code 182 58 = some (.if_icmp .ne 11, 3) := by decide +kernel
theorem c182_61 : jm_code 182 61 = some (.bipush (-3), 2) := by decide +kernel
theorem c182_63 : jm_code 182 63 = some (.invokestatic 270, 3) := by decide +kernel
theorem c182_66 : jm_code 182 66 = some (.goto 11, 3) := by decide +kernel
theorem c182_69 : jm_code 182 69 = some (.iload_n 2, 1) := by decide +kernel
theorem c182_70 : jm_code 182 70 = some (.aload_n 0, 1) := by decide +kernel
theorem c182_71 : jm_code 182 71 = some (.getfield 65, 3) := by decide +kernel
theorem c182_74 : jm_code 182 74 = some (.iload_n 1, 1) := by decide +kernel
theorem c182_75 : jm_code 182 75 = some (.iaload, 1) := by decide +kernel
theorem c182_76 : jm_code 182 76 = some (.isub, 1) := by decide +kernel
theorem c182_77 : jm_code 182 77 = some (.ireturn, 1) := by decide +kernel
theorem c183_0 : jm_code 183 0 = some (.iconst 2, 1) := by decide +kernel
theorem c183_1 : jm_code 183 1 = some (.iload_n 1, 1) := by decide +kernel
theorem c183_2 : jm_code 183 2 = some (.invokestatic 136, 3) := by decide +kernel
theorem c183_5 : jm_code 183 5 = some (.ifCond .eq 32, 3) := by decide +kernel
theorem c183_8 : jm_code 183 8 = some (.iload_n 2, 1) := by decide +kernel
theorem c183_9 : jm_code 183 9 = some (.invokestatic 291, 3) := by decide +kernel
theorem c183_12 : jm_code 183 12 = some (.ifCond .eq 25, 3) := by decide +kernel
theorem c183_15 : jm_code 183 15 = some (.iload_n 3, 1) := by decide +kernel
theorem c183_16 : jm_code 183 16 = some (.i2l, 1) := by decide +kernel
theorem c183_17 : jm_code 183 17 = some (.lconst 0, 1) := by decide +kernel
theorem c183_18 : jm_code 183 18 = some (.ldc2_w 103, 3) := by decide +kernel
theorem c183_21 : jm_code 183 21 = some (.invokestatic 95, 3) := by decide +kernel
theorem c183_24 : jm_code 183 24 = some (.ifCond .eq 13, 3) := by decide +kernel
theorem c183_27 : jm_code 183 27 = some (.aload_n 0, 1) := by decide +kernel
theorem c183_28 : jm_code 183 28 = some (.iload_n 1, 1) := by decide +kernel
theorem c183_29 : jm_code 183 29 = some (.iload_n 2, 1) := by decide +kernel
theorem c183_30 : jm_code 183 30 = some (.iload_n 3, 1) := by decide +kernel
theorem c183_31 : jm_code 183 31 = some (.invokevirtual 300, 3) := by decide +kernel
theorem c183_34 : jm_code 183 34 = some (.goto 5, 3) := by decide +kernel
theorem c183_37 : jm_code 183 37 = some (.bipush (-2), 2) := by decide +kernel
theorem c183_39 : jm_code 183 39 = some (.ireturn, 1) := by decide +kernel
theorem c184_0 : jm_code 184 0 = some (.aload_n 0, 1) := by decide +kernel
theorem c184_1 : jm_code 184 1 = some (.invokevirtual 248, 3) := by decide +kernel
theorem c184_4 : jm_code 184 4 = some (.iconst 0, 1) := by decide +kernel
theorem c184_5 : jm_code 184 5 = some (.istore 4, 2) := by decide +kernel
theorem c184_7 : jm_code 184 7 = some (.iload 4, 2) := by decide +kernel
theorem c184_9 : jm_code 184 9 = some (.aload_n 0, 1) := by decide +kernel
theorem c184_10 : jm_code 184 10 = some (.getfield 124, 3) := by decide +kernel
theorem c184_13 : jm_code 184 13 = some (.if_icmp .ge 43, 3) := by decide +kernel
theorem c184_16 : jm_code 184 16 = some (.aload_n 0, 1) := by decide +kernel
theorem c184_17 : jm_code 184 17 = some (.dup, 1) := by decide +kernel
theorem c184_18 : jm_code 184 18 = some (.getfield 218, 3) := by decide +kernel
theorem c184_21 : jm_code 184 21 = some (.aload_n 0, 1) := by decide +kernel
theorem c184_22 : jm_code 184 22 = some (.getfield 25, 3) := by decide +kernel
theorem c184_25 : jm_code 184 25 = some (.iconst 4, 1) := by decide +kernel
theorem c184_26 : jm_code 184 26 = some (.iload 4, 2) := by decide +kernel
theorem c184_28 : jm_code 184 28 = some (.imul, 1) := by decide +kernel
theorem c184_29 : jm_code 184 29 = some (.iconst 2, 1) := by decide +kernel
theorem c184_30 : jm_code 184 30 = some (.iadd, 1) := by decide +kernel
theorem c184_31 : jm_code 184 31 = some (.iaload, 1) := by decide +kernel
theorem c184_32 : jm_code 184 32 = some (.iload_n 1, 1) := by decide +kernel
theorem c184_33 : jm_code 184 33 = some (.if_icmp .ge 12, 3) := by decide +kernel
theorem c184_36 : jm_code 184 36 = some (.iconst 1, 1) := by decide +kernel
theorem c184_37 : jm_code 184 37 = some (.iload 4, 2) := by decide +kernel
theorem c184_39 : jm_code 184 39 = some (.ishl, 1) := by decide +kernel
theorem c184_40 : jm_code 184 40 = some (.iconst (-1), 1) := by decide +kernel
theorem c184_41 : jm_code 184 41 = some (.ixor, 1) := by decide +kernel
theorem c184_42 : jm_code 184 42 = some (.goto 4, 3) := by decide +kernel
theorem c184_45 : jm_code 184 45 = some (.iconst (-1), 1) := by decide +kernel
theorem c184_46 : jm_code 184 46 = some (.iand, 1) := by decide +kernel
theorem c184_47 : jm_code 184 47 = some (.putfield 218, 3) := by decide +kernel
theorem c184_50 : jm_code 184 50 = some (.iinc 4 1, 3) := by decide +kernel
theorem c184_53 : jm_code 184 53 = some (.goto (-46), 3) := by decide +kernel
theorem c184_56 : jm_code 184 56 = some (.aload_n 0, 1) := by decide +kernel
theorem c184_57 : jm_code 184 57 = some (.iload_n 2, 1) := by decide +kernel
theorem c184_58 : jm_code 184 58 = some (.invokevirtual 251, 3) := by decide +kernel
theorem c184_61 : jm_code 184 61 = some (.iload_n 3, 1) := by decide +kernel
theorem c184_62 : jm_code 184 62 = some (.ifCond .ne 11, 3) := by decide +kernel
theorem c184_65 : jm_code 184 65 = some (.aload_n 0, 1) := by decide +kernel
theorem c184_66 : jm_code 184 66 = some (.iconst 1, 1) := by decide +kernel
theorem c184_67 : jm_code 184 67 = some (.invokevirtual 264, 3) := by decide +kernel
theorem c184_70 : jm_code 184 70 = some (.goto 33, 3) := by decide +kernel
theorem c184_73 : jm_code 184 73 = some (.iload_n 3, 1) := by decide +kernel
theorem c184_74 : jm_code 184 74 = some (.iconst 1, 1) := by decide +kernel
theorem c184_75 : jm_code 184 75 = some (.if_icmp .ne 10, 3) := by decide +kernel
theorem c184_78 : jm_code 184 78 = some (.aload_n 0, 1) := by decide +kernel
theorem c184_79 : jm_code 184 79 = some (.invokevirtual 261, 3) := by decide +kernel
theorem c184_82 : jm_code 184 82 = some (.goto 21, 3) := by decide +kernel
theorem c184_85 : jm_code 184 85 = some (.iload_n 3, 1) := by decide +kernel
theorem c184_86 : jm_code 184 86 = some (.iconst 2, 1) := by decide +kernel
theorem c184_87 : jm_code 184 87 = some (.if_icmp .ne 11, 3) := by decide +kernel
theorem c184_90 : jm_code 184 90 = some (.aload_n 0, 1) := by decide +kernel
theorem c184_91 : jm_code 184 91 = some (.iconst 0, 1) := by decide +kernel
theorem c184_92 : jm_code 184 92 = some (.invokevirtual 264, 3) := by decide +kernel
theorem c184_95 : jm_code 184 95 = some (.goto 8, 3) := by decide +kernel
theorem c184_98 : jm_code 184 98 = some (.aload_n 0, 1) := by decide +kernel
theorem c184_99 : jm_code 184 99 = some (.iconst 2, 1) := by decide +kernel
theorem c184_100 : jm_code 184 100 = some (.invokevirtual 264, 3) := by decide +kernel
theorem c184_103 : jm_code 184 103 = some (.ireturn, 1) := by decide +kernel
theorem c185_0 : jm_code 185 0 = some (.iload_n 1, 1) := by decide +kernel
theorem c185_1 : jm_code 185 1 = some (.invokestatic 303, 3) := by decide +kernel
theorem c185_4 : jm_code 185 4 = some (.ifCond .eq 22, 3) := by decide +kernel
theorem c185_7 : jm_code 185 7 = some (.iload_n 2, 1) := by decide +kernel
theorem c185_8 : jm_code 185 8 = some (.invokestatic 303, 3) := by decide +kernel
theorem c185_11 : jm_code 185 11 = some (.ifCond .eq 15, 3) := by decide +kernel
theorem c185_14 : jm_code 185 14 = some (.iload_n 3, 1) := by decide +kernel
theorem c185_15 : jm_code 185 15 = some (.i2l, 1) := by decide +kernel
theorem c185_16 : jm_code 185 16 = some (.lconst 0, 1) := by decide +kernel
theorem c185_17 : jm_code 185 17 = some (.ldc2_w 306, 3) := by decide +kernel
theorem c185_20 : jm_code 185 20 = some (.invokestatic 95, 3) := by decide +kernel
theorem c185_23 : jm_code 185 23 = some (.ifCond .ne 6, 3) := by decide +kernel
theorem c185_26 : jm_code 185 26 = some (.bipush (-2), 2) := by decide +kernel
theorem c185_28 : jm_code 185 28 = some (.ireturn, 1) := by decide +kernel
theorem c185_29 : jm_code 185 29 = some (.iload_n 1, 1) := by decide +kernel
theorem c185_30 : jm_code 185 30 = some (.istore 4, 2) := by decide +kernel
theorem c185_32 : jm_code 185 32 = some (.iconst 0, 1) := by decide +kernel
theorem c185_33 : jm_code 185 33 = some (.istore 5, 2) := by decide +kernel
theorem c185_35 : jm_code 185 35 = some (.iload 5, 2) := by decide +kernel
theorem c185_37 : jm_code 185 37 = some (.iload_n 3, 1) := by decide +kernel
theorem c185_38 : jm_code 185 38 = some (.if_icmp .ge 17, 3) := by decide +kernel
theorem c185_41 : jm_code 185 41 = some (.iload 4, 2) := by decide +kernel
theorem c185_43 : jm_code 185 43 = some (.iload_n 2, 1) := by decide +kernel
theorem c185_44 : jm_code 185 44 = some (.invokestatic 308, 3) := by decide +kernel
theorem c185_47 : jm_code 185 47 = some (.istore 4, 2) := by decide +kernel
theorem c185_49 : jm_code 185 49 = some (.iinc 5 1, 3) := by decide +kernel
theorem c185_52 : jm_code 185 52 = some (.goto (-17), 3) := by decide +kernel
theorem c185_55 : jm_code 185 55 = some (.iload 4, 2) := by decide +kernel
theorem c185_57 : jm_code 185 57 = some (.ireturn, 1) := by decide +kernel
theorem c186_0 : jm_code 186 0 = some (.iload_n 0, 1) := by decide +kernel
theorem c186_1 : jm_code 186 1 = some (.i2l, 1) := by decide +kernel
theorem c186_2 : jm_code 186 2 = some (.lconst 0, 1) := by decide +kernel
theorem c186_3 : jm_code 186 3 = some (.ldc2_w 127, 3) := by decide +kernel
theorem c186_6 : jm_code 186 6 = some (.invokestatic 95, 3) := by decide +kernel
theorem c186_9 : jm_code 186 9 = some (.ireturn, 1) := by decide +kernel
theorem c187_0 : jm_code 187 0 = some (.iload_n 0, 1) := by decide +kernel
theorem c187_1 : jm_code 187 1 = some (.iload_n 1, 1) := by decide +kernel
theorem c187_2 : jm_code 187 2 = some (.if_icmp .ge 9, 3) := by decide +kernel
theorem c187_5 : jm_code 187 5 = some (.iload_n 1, 1) := by decide +kernel
theorem c187_6 : jm_code 187 6 = some (.iload_n 0, 1) := by decide +kernel
theorem c187_7 : jm_code 187 7 = some (.isub, 1) := by decide +kernel
theorem c187_8 : jm_code 187 8 = some (.goto 6, 3) := by decide +kernel
theorem c187_11 : jm_code 187 11 = some (.iload_n 0, 1) := by decide +kernel
theorem c187_12 : jm_code 187 12 = some (.iload_n 1, 1) := by decide +kernel
theorem c187_13 : jm_code 187 13 = some (.isub, 1) := by decide +kernel
theorem c187_14 : jm_code 187 14 = some (.istore_n 2, 1) := by decide +kernel
theorem c187_15 : jm_code 187 15 = some (.iload_n 2, 1) := by decide +kernel
theorem c187_16 : jm_code 187 16 = some (.iconst 3, 1) := by decide +kernel
theorem c187_17 : jm_code 187 17 = some (.iadd, 1) := by decide +kernel
theorem c187_18 : jm_code 187 18 = some (.iconst 4, 1) := by decide +kernel
theorem c187_19 : jm_code 187 19 = some (.idiv, 1) := by decide +kernel
theorem c187_20 : jm_code 187 20 = some (.istore_n 3, 1) := by decide +kernel
theorem c187_21 : jm_code 187 21 = some (.iload_n 0, 1) := by decide +kernel
theorem c187_22 : jm_code 187 22 = some (.iload_n 1, 1) := by decide +kernel
theorem c187_23 : jm_code 187 23 = some (.if_icmp .ge 9, 3) := by decide +kernel
theorem c187_26 : jm_code 187 26 = some (.iload_n 0, 1) := by decide +kernel
theorem c187_27 : jm_code 187 27 = some (.iload_n 3, 1) := by decide +kernel
theorem c187_28 : jm_code 187 28 = some (.iadd, 1) := by decide +kernel
theorem c187_29 : jm_code 187 29 = some (.goto 6, 3) := by decide +kernel
theorem c187_32 : jm_code 187 32 = some (.iload_n 0, 1) := by decide +kernel
theorem c187_33 : jm_code 187 33 = some (.iload_n 3, 1) := by decide +kernel
theorem c187_34 : jm_code 187 34 = some (.isub, 1) := by decide +kernel
theorem c187_35 : jm_code 187 35 = some (.ireturn, 1) := by decide +kernel
theorem c188_0 : jm_code 188 0 = some (.iload_n 1, 1) := by decide +kernel
theorem c188_1 : jm_code 188 1 = some (.invokestatic 303, 3) := by decide +kernel
theorem c188_4 : jm_code 188 4 = some (.ifCond .eq 30, 3) := by decide +kernel
theorem c188_7 : jm_code 188 7 = some (.iload_n 2, 1) := by decide +kernel
theorem c188_8 : jm_code 188 8 = some (.invokestatic 303, 3) := by decide +kernel
theorem c188_11 : jm_code 188 11 = some (.ifCond .eq 23, 3) := by decide +kernel
theorem c188_14 : jm_code 188 14 = some (.iload 4, 2) := by decide +kernel
theorem c188_16 : jm_code 188 16 = some (.invokestatic 303, 3) := by decide +kernel
theorem c188_19 : jm_code 188 19 = some (.ifCond .eq 15, 3) := by decide +kernel
theorem c188_22 : jm_code 188 22 = some (.iload_n 3, 1) := by decide +kernel
theorem c188_23 : jm_code 188 23 = some (.i2l, 1) := by decide +kernel
theorem c188_24 : jm_code 188 24 = some (.lconst 0, 1) := by decide +kernel
theorem c188_25 : jm_code 188 25 = some (.iload 4, 2) := by decide +kernel
theorem c188_27 : jm_code 188 27 = some (.i2l, 1) := by decide +kernel
theorem c188_28 : jm_code 188 28 = some (.invokestatic 95, 3) := by decide +kernel
theorem c188_31 : jm_code 188 31 = some (.ifCond .ne 6, 3) := by decide +kernel
theorem c188_34 : jm_code 188 34 = some (.bipush (-2), 2) := by decide +kernel
theorem c188_36 : jm_code 188 36 = some (.ireturn, 1) := by decide +kernel
theorem c188_37 : jm_code 188 37 = some (.iload_n 1, 1) := by decide +kernel
theorem c188_38 : jm_code 188 38 = some (.istore 5, 2) := by decide +kernel
theorem c188_40 : jm_code 188 40 = some (.iconst 0, 1) := by decide +kernel
theorem c188_41 : jm_code 188 41 = some (.istore 6, 2) := by decide +kernel
theorem c188_43 : jm_code 188 43 = some (.iload 6, 2) := by decide +kernel
theorem c188_45 : jm_code 188 45 = some (.bipush 60, 2) := by decide +kernel
theorem c188_47 : jm_code 188 47 = some (.if_icmp .gt 34, 3) := by decide +kernel
theorem c188_50 : jm_code 188 50 = some (.iload 5, 2) := by decide +kernel
theorem c188_52 : jm_code 188 52 = some (.i2l, 1) := by decide +kernel
theorem c188_53 : jm_code 188 53 = some (.iload_n 3, 1) := by decide +kernel
theorem c188_54 : jm_code 188 54 = some (.i2l, 1) := by decide +kernel
theorem c188_55 : jm_code 188 55 = some (.iload 4, 2) := by decide +kernel
theorem c188_57 : jm_code 188 57 = some (.i2l, 1) := by decide +kernel
theorem c188_58 : jm_code 188 58 = some (.invokestatic 95, 3) := by decide +kernel
theorem c188_61 : jm_code 188 61 = some (.ifCond .eq 6, 3) := by decide +kernel
theorem c188_64 : jm_code 188 64 = some (.iload 6, 2) := by decide +kernel
theorem c188_66 : jm_code 188 66 = some (.ireturn, 1) := by decide +kernel
theorem c188_67 : jm_code 188 67 = some (.iload 5, 2) := by decide +kernel
theorem c188_69 : jm_code 188 69 = some (.iload_n 2, 1) := by decide +kernel
theorem c188_70 : jm_code 188 70 = some (.invokestatic 308, 3) := by decide +kernel
theorem c188_73 : jm_code 188 73 = some (.istore 5, 2) := by decide +kernel
theorem c188_75 : jm_code 188 75 = some (.iinc 6 1, 3) := by decide +kernel
theorem c188_78 : jm_code 188 78 = some (.goto (-35), 3) := by decide +kernel
theorem c188_81 : jm_code 188 81 = some (.iconst (-1), 1) := by decide +kernel
theorem c188_82 : jm_code 188 82 = some (.ireturn, 1) := by decide +kernel
theorem c189_0 : jm_code 189 0 = some (.iload_n 1, 1) := by decide +kernel
theorem c189_1 : jm_code 189 1 = some (.i2l, 1) := by decide +kernel
theorem c189_2 : jm_code 189 2 = some (.lconst 1, 1) := by decide +kernel
theorem c189_3 : jm_code 189 3 = some (.ldc2_w 315, 3) := by decide +kernel
theorem c189_6 : jm_code 189 6 = some (.invokestatic 95, 3) := by decide +kernel
theorem c189_9 : jm_code 189 9 = some (.ifCond .eq 45, 3) := by decide +kernel
theorem c189_12 : jm_code 189 12 = some (.iload_n 2, 1) := by decide +kernel
theorem c189_13 : jm_code 189 13 = some (.i2l, 1) := by decide +kernel
theorem c189_14 : jm_code 189 14 = some (.lconst 0, 1) := by decide +kernel
theorem c189_15 : jm_code 189 15 = some (.iload_n 1, 1) := by decide +kernel
theorem c189_16 : jm_code 189 16 = some (.i2l, 1) := by decide +kernel
theorem c189_17 : jm_code 189 17 = some (.invokestatic 95, 3) := by decide +kernel
theorem c189_20 : jm_code 189 20 = some (.ifCond .eq 34, 3) := by decide +kernel
theorem c189_23 : jm_code 189 23 = some (.iload_n 3, 1) := by decide +kernel
theorem c189_24 : jm_code 189 24 = some (.i2l, 1) := by decide +kernel
theorem c189_25 : jm_code 189 25 = some (.lconst 0, 1) := by decide +kernel
theorem c189_26 : jm_code 189 26 = some (.iload_n 1, 1) := by decide +kernel
theorem c189_27 : jm_code 189 27 = some (.i2l, 1) := by decide +kernel
theorem c189_28 : jm_code 189 28 = some (.invokestatic 95, 3) := by decide +kernel
theorem c189_31 : jm_code 189 31 = some (.ifCond .eq 23, 3) := by decide +kernel
theorem c189_34 : jm_code 189 34 = some (.iload 4, 2) := by decide +kernel
theorem c189_36 : jm_code 189 36 = some (.i2l, 1) := by decide +kernel
theorem c189_37 : jm_code 189 37 = some (.lconst 0, 1) := by decide +kernel
theorem c189_38 : jm_code 189 38 = some (.iload_n 3, 1) := by decide +kernel
theorem c189_39 : jm_code 189 39 = some (.i2l, 1) := by decide +kernel
theorem c189_40 : jm_code 189 40 = some (.invokestatic 95, 3) := by decide +kernel
theorem c189_43 : jm_code 189 43 = some (.ifCond .eq 11, 3) := by decide +kernel
theorem c189_46 : jm_code 189 46 = some (.iload 5, 2) := by decide +kernel
theorem c189_48 : jm_code 189 48 = some (.invokestatic 297, 3) := by decide +kernel
theorem c189_51 : jm_code 189 51 = some (.ifCond .ne 9, 3) := by decide +kernel
theorem c189_54 : jm_code 189 54 = some (.bipush (-2), 2) := by decide +kernel
theorem c189_56 : jm_code 189 56 = some (.invokestatic 317, 3) := by decide +kernel
theorem c189_59 : jm_code 189 59 = some (.lreturn, 1) := by decide +kernel
theorem c189_60 : jm_code 189 60 = some (.iload_n 1, 1) := by decide +kernel
theorem c189_61 : jm_code 189 61 = some (.iload_n 2, 1) := by decide +kernel
theorem c189_62 : jm_code 189 62 = some (.iload_n 3, 1) := by decide +kernel
theorem c189_63 : jm_code 189 63 = some (.iload 4, 2) := by decide +kernel
theorem c189_65 : jm_code 189 65 = some (.invokestatic 321, 3) := by decide +kernel
theorem c189_68 : jm_code 189 68 = some (.lstore 6, 2) := by decide +kernel
theorem c189_70 : jm_code 189 70 = some (.iload_n 1, 1) := by decide +kernel
theorem c189_71 : jm_code 189 71 = some (.iload_n 3, 1) := by decide +kernel
theorem c189_72 : jm_code 189 72 = some (.invokestatic 311, 3) := by decide +kernel
theorem c189_75 : jm_code 189 75 = some (.lstore 8, 2) := by decide +kernel
theorem c189_77 : jm_code 189 77 = some (.lload 6, 2) := by decide +kernel
theorem c189_79 : jm_code 189 79 = some (.lstore 10, 2) := by decide +kernel
theorem c189_81 : jm_code 189 81 = some (.lload 8, 2) := by decide +kernel
theorem c189_83 : jm_code 189 83 = some (.lstore 12, 2) := by decide +kernel
theorem c189_85 : jm_code 189 85 = some (.lload 12, 2) := by decide +kernel
theorem c189_87 : jm_code 189 87 = some (.lconst 0, 1) := by decide +kernel
theorem c189_88 : jm_code 189 88 = some (.lcmp, 1) := by decide +kernel
theorem c189_89 : jm_code 189 89 = some (.ifCond .eq 21, 3) := by decide +kernel
theorem c189_92 : jm_code 189 92 = some (.lload 10, 2) := by decide +kernel
theorem c189_94 : jm_code 189 94 = some (.lload 12, 2) := by decide +kernel
theorem c189_96 : jm_code 189 96 = some (.lrem, 1) := by decide +kernel
theorem c189_97 : jm_code 189 97 = some (.lstore 14, 2) := by decide +kernel
theorem c189_99 : jm_code 189 99 = some (.lload 12, 2) := by decide +kernel
theorem c189_101 : jm_code 189 101 = some (.lstore 10, 2) := by decide +kernel
theorem c189_103 : jm_code 189 103 = some (.lload 14, 2) := by decide +kernel
theorem c189_105 : jm_code 189 105 = some (.lstore 12, 2) := by decide +kernel
theorem c189_107 : jm_code 189 107 = some (.goto (-22), 3) := by decide +kernel
theorem c189_110 : jm_code 189 110 = some (.iload 5, 2) := by decide +kernel
theorem c189_112 : jm_code 189 112 = some (.ifCond .ne 8, 3) := by decide +kernel
theorem c189_115 : jm_code 189 115 = some (.lload 6, 2) := by decide +kernel
theorem c189_117 : jm_code 189 117 = some (.goto 5, 3) := by decide +kernel
theorem c189_120 : jm_code 189 120 = some (.lload 8, 2) := by decide +kernel
theorem c189_122 : jm_code 189 122 = some (.lload 10, 2) := by decide +kernel
theorem c189_124 : jm_code 189 124 = some (.ldiv, 1) := by decide +kernel
theorem c189_125 : jm_code 189 125 = some (.lreturn, 1) := by decide +kernel
theorem c190_0 : jm_code 190 0 = some (.ldc2_w 92, 3) := by decide +kernel
theorem c190_3 : jm_code 190 3 = some (.iload_n 0, 1) := by decide +kernel
theorem c190_4 : jm_code 190 4 = some (.i2l, 1) := by decide +kernel
theorem c190_5 : jm_code 190 5 = some (.lsub, 1) := by decide +kernel
theorem c190_6 : jm_code 190 6 = some (.lreturn, 1) := by decide +kernel
theorem c191_0 : jm_code 191 0 = some (.iload_n 1, 1) := by decide +kernel
theorem c191_1 : jm_code 191 1 = some (.iload_n 3, 1) := by decide +kernel
theorem c191_2 : jm_code 191 2 = some (.invokestatic 311, 3) := by decide +kernel
theorem c191_5 : jm_code 191 5 = some (.iload_n 0, 1) := by decide +kernel
theorem c191_6 : jm_code 191 6 = some (.iload_n 1, 1) := by decide +kernel
theorem c191_7 : jm_code 191 7 = some (.isub, 1) := by decide +kernel
theorem c191_8 : jm_code 191 8 = some (.iload_n 2, 1) := by decide +kernel
theorem c191_9 : jm_code 191 9 = some (.iload_n 3, 1) := by decide +kernel
theorem c191_10 : jm_code 191 10 = some (.isub, 1) := by decide +kernel
theorem c191_11 : jm_code 191 11 = some (.invokestatic 311, 3) := by decide +kernel
theorem c191_14 : jm_code 191 14 = some (.lmul, 1) := by decide +kernel
theorem c191_15 : jm_code 191 15 = some (.lreturn, 1) := by decide +kernel
theorem c192_0 : jm_code 192 0 = some (.iload_n 1, 1) := by decide +kernel
theorem c192_1 : jm_code 192 1 = some (.ifCond .lt 8, 3) := by decide +kernel
theorem c192_4 : jm_code 192 4 = some (.iload_n 1, 1) := by decide +kernel
theorem c192_5 : jm_code 192 5 = some (.iload_n 0, 1) := by decide +kernel
theorem c192_6 : jm_code 192 6 = some (.if_icmp .le 5, 3) := by decide +kernel
theorem c192_9 : jm_code 192 9 = some (.lconst 0, 1) := by decide +kernel
theorem c192_10 : jm_code 192 10 = some (.lreturn, 1) := by decide +kernel
theorem c192_11 : jm_code 192 11 = some (.lconst 1, 1) := by decide +kernel
theorem c192_12 : jm_code 192 12 = some (.lstore_n 2, 1) := by decide +kernel
theorem c192_13 : jm_code 192 13 = some (.iconst 0, 1) := by decide +kernel
theorem c192_14 : jm_code 192 14 = some (.istore 4, 2) := by decide +kernel
theorem c192_16 : jm_code 192 16 = some (.iload 4, 2) := by decide +kernel
theorem c192_18 : jm_code 192 18 = some (.iload_n 1, 1) := by decide +kernel
theorem c192_19 : jm_code 192 19 = some (.if_icmp .ge 23, 3) := by decide +kernel
theorem c192_22 : jm_code 192 22 = some (.lload_n 2, 1) := by decide +kernel
theorem c192_23 : jm_code 192 23 = some (.iload_n 0, 1) := by decide +kernel
theorem c192_24 : jm_code 192 24 = some (.iload 4, 2) := by decide +kernel
theorem c192_26 : jm_code 192 26 = some (.isub, 1) := by decide +kernel
theorem c192_27 : jm_code 192 27 = some (.i2l, 1) := by decide +kernel
theorem c192_28 : jm_code 192 28 = some (.lmul, 1) := by decide +kernel
theorem c192_29 : jm_code 192 29 = some (.iload 4, 2) := by decide +kernel
theorem c192_31 : jm_code 192 31 = some (.iconst 1, 1) := by decide +kernel
theorem c192_32 : jm_code 192 32 = some (.iadd, 1) := by decide +kernel
theorem c192_33 : jm_code 192 33 = some (.i2l, 1) := by decide +kernel
theorem c192_34 : jm_code 192 34 = some (.ldiv, 1) := by decide +kernel
theorem c192_35 : jm_code 192 35 = some (.lstore_n 2, 1) := by decide +kernel
theorem c192_36 : jm_code 192 36 = some (.iinc 4 1, 3) := by decide +kernel
theorem c192_39 : jm_code 192 39 = some (.goto (-23), 3) := by decide +kernel
theorem c192_42 : jm_code 192 42 = some (.lload_n 2, 1) := by decide +kernel
theorem c192_43 : jm_code 192 43 = some (.lreturn, 1) := by decide +kernel
theorem c193_0 : jm_code 193 0 = some (.iload_n 1, 1) := by decide +kernel
theorem c193_1 : jm_code 193 1 = some (.i2l, 1) := by decide +kernel
theorem c193_2 : jm_code 193 2 = some (.lconst 1, 1) := by decide +kernel
theorem c193_3 : jm_code 193 3 = some (.ldc2_w 315, 3) := by decide +kernel
theorem c193_6 : jm_code 193 6 = some (.invokestatic 95, 3) := by decide +kernel
theorem c193_9 : jm_code 193 9 = some (.ifCond .eq 46, 3) := by decide +kernel
theorem c193_12 : jm_code 193 12 = some (.iload_n 2, 1) := by decide +kernel
theorem c193_13 : jm_code 193 13 = some (.i2l, 1) := by decide +kernel
theorem c193_14 : jm_code 193 14 = some (.lconst 0, 1) := by decide +kernel
theorem c193_15 : jm_code 193 15 = some (.iload_n 1, 1) := by decide +kernel
theorem c193_16 : jm_code 193 16 = some (.i2l, 1) := by decide +kernel
theorem c193_17 : jm_code 193 17 = some (.invokestatic 95, 3) := by decide +kernel
theorem c193_20 : jm_code 193 20 = some (.ifCond .eq 35, 3) := by decide +kernel
theorem c193_23 : jm_code 193 23 = some (.iload_n 3, 1) := by decide +kernel
theorem c193_24 : jm_code 193 24 = some (.i2l, 1) := by decide +kernel
theorem c193_25 : jm_code 193 25 = some (.lconst 0, 1) := by decide +kernel
theorem c193_26 : jm_code 193 26 = some (.iload_n 2, 1) := by decide +kernel
theorem c193_27 : jm_code 193 27 = some (.i2l, 1) := by decide +kernel
theorem c193_28 : jm_code 193 28 = some (.invokestatic 95, 3) := by decide +kernel
theorem c193_31 : jm_code 193 31 = some (.ifCond .eq 24, 3) := by decide +kernel
theorem c193_34 : jm_code 193 34 = some (.iload 4, 2) := by decide +kernel
theorem c193_36 : jm_code 193 36 = some (.i2l, 1) := by decide +kernel
theorem c193_37 : jm_code 193 37 = some (.lconst 0, 1) := by decide +kernel
theorem c193_38 : jm_code 193 38 = some (.ldc2_w 157, 3) := by decide +kernel
theorem c193_41 : jm_code 193 41 = some (.invokestatic 95, 3) := by decide +kernel
theorem c193_44 : jm_code 193 44 = some (.ifCond .eq 11, 3) := by decide +kernel
theorem c193_47 : jm_code 193 47 = some (.iload 5, 2) := by decide +kernel
theorem c193_49 : jm_code 193 49 = some (.invokestatic 297, 3) := by decide +kernel
theorem c193_52 : jm_code 193 52 = some (.ifCond .ne 6, 3) := by decide +kernel
theorem c193_55 : jm_code 193 55 = some (.bipush (-2), 2) := by decide +kernel
theorem c193_57 : jm_code 193 57 = some (.ireturn, 1) := by decide +kernel
theorem c193_58 : jm_code 193 58 = some (.iload_n 1, 1) := by decide +kernel
theorem c193_59 : jm_code 193 59 = some (.iload_n 2, 1) := by decide +kernel
theorem c193_60 : jm_code 193 60 = some (.invokestatic 311, 3) := by decide +kernel
theorem c193_63 : jm_code 193 63 = some (.lstore 6, 2) := by decide +kernel
theorem c193_65 : jm_code 193 65 = some (.iconst (-1), 1) := by decide +kernel
theorem c193_66 : jm_code 193 66 = some (.istore 8, 2) := by decide +kernel
theorem c193_68 : jm_code 193 68 = some (.iconst 0, 1) := by decide +kernel
theorem c193_69 : jm_code 193 69 = some (.istore 9, 2) := by decide +kernel
theorem c193_71 : jm_code 193 71 = some (.iload 9, 2) := by decide +kernel
theorem c193_73 : jm_code 193 73 = some (.iload_n 1, 1) := by decide +kernel
theorem c193_74 : jm_code 193 74 = some (.if_icmp .gt 114, 3) := by decide +kernel
theorem c193_77 : jm_code 193 77 = some (.lconst 0, 1) := by decide +kernel
theorem c193_78 : jm_code 193 78 = some (.lstore 10, 2) := by decide +kernel
theorem c193_80 : jm_code 193 80 = some (.iconst 0, 1) := by decide +kernel
theorem c193_81 : jm_code 193 81 = some (.istore 12, 2) := by decide +kernel
theorem c193_83 : jm_code 193 83 = some (.iload 12, 2) := by decide +kernel
theorem c193_85 : jm_code 193 85 = some (.iload_n 2, 1) := by decide +kernel
theorem c193_86 : jm_code 193 86 = some (.if_icmp .gt 47, 3) := by decide +kernel
theorem c193_89 : jm_code 193 89 = some (.lload 10, 2) := by decide +kernel
theorem c193_91 : jm_code 193 91 = some (.iload 5, 2) := by decide +kernel
theorem c193_93 : jm_code 193 93 = some (.ifCond .ne 12, 3) := by decide +kernel
theorem c193_96 : jm_code 193 96 = some (.iload 12, 2) := by decide +kernel
theorem c193_98 : jm_code 193 98 = some (.iload_n 3, 1) := by decide +kernel
theorem c193_99 : jm_code 193 99 = some (.if_icmp .lt 24, 3) := by decide +kernel
theorem c193_102 : jm_code 193 102 = some (.goto 9, 3) := by decide +kernel
theorem c193_105 : jm_code 193 105 = some (.iload 12, 2) := by decide +kernel
theorem c193_107 : jm_code 193 107 = some (.iload_n 3, 1) := by decide +kernel
theorem c193_108 : jm_code 193 108 = some (.if_icmp .gt 15, 3) := by decide +kernel
theorem c193_111 : jm_code 193 111 = some (.iload_n 1, 1) := by decide +kernel
theorem c193_112 : jm_code 193 112 = some (.iload 9, 2) := by decide +kernel
theorem c193_114 : jm_code 193 114 = some (.iload_n 2, 1) := by decide +kernel
theorem c193_115 : jm_code 193 115 = some (.iload 12, 2) := by decide +kernel
theorem c193_117 : jm_code 193 117 = some (.invokestatic 321, 3) := by decide +kernel
theorem c193_120 : jm_code 193 120 = some (.goto 4, 3) := by decide +kernel
theorem c193_123 : jm_code 193 123 = some (.lconst 0, 1) := by decide +kernel
theorem c193_124 : jm_code 193 124 = some (.ladd, 1) := by decide +kernel
theorem c193_125 : jm_code 193 125 = some (.lstore 10, 2) := by decide +kernel
theorem c193_127 : jm_code 193 127 = some (.iinc 12 1, 3) := by decide +kernel
theorem c193_130 : jm_code 193 130 = some (.goto (-47), 3) := by decide +kernel
theorem c193_133 : jm_code 193 133 = some (.lload 10, 2) := by decide +kernel
theorem c193_135 : jm_code 193 135 = some (.ldc2_w 325, 3) := by decide +kernel
theorem c193_138 : jm_code 193 138 = some (.lmul, 1) := by decide +kernel
theorem c193_139 : jm_code 193 139 = some (.iload 4, 2) := by decide +kernel
theorem c193_141 : jm_code 193 141 = some (.i2l, 1) := by decide +kernel
theorem c193_142 : jm_code 193 142 = some (.lload 6, 2) := by decide +kernel
theorem c193_144 : jm_code 193 144 = some (.lmul, 1) := by decide +kernel
theorem c193_145 : jm_code 193 145 = some (.lcmp, 1) := by decide +kernel
theorem c193_146 : jm_code 193 146 = some (.ifCond .le 7, 3) := by decide +kernel
theorem c193_149 : jm_code 193 149 = some (.iconst 1, 1) := by decide +kernel
theorem c193_150 : jm_code 193 150 = some (.goto 4, 3) := by decide +kernel
theorem c193_153 : jm_code 193 153 = some (.iconst 0, 1) := by decide +kernel
theorem c193_154 : jm_code 193 154 = some (.istore 12, 2) := by decide +kernel
theorem c193_156 : jm_code 193 156 = some (.iload 12, 2) := by decide +kernel
theorem c193_158 : jm_code 193 158 = some (.ifCond .eq 20, 3) := by decide +kernel
theorem c193_161 : jm_code 193 161 = some (.iload 5, 2) := by decide +kernel
theorem c193_163 : jm_code 193 163 = some (.iconst 1, 1) := by decide +kernel
theorem c193_164 : jm_code 193 164 = some (.if_icmp .eq 9, 3) := by decide +kernel
theorem c193_167 : jm_code 193 167 = some (.iload 8, 2) := by decide +kernel
theorem c193_169 : jm_code 193 169 = some (.iconst (-1), 1) := by decide +kernel
theorem c193_170 : jm_code 193 170 = some (.if_icmp .ne 8, 3) := by decide +kernel
theorem c193_173 : jm_code 193 173 = some (.iload 9, 2) := by decide +kernel
theorem c193_175 : jm_code 193 175 = some (.goto 5, 3) := by decide +kernel
theorem c193_178 : jm_code 193 178 = some (.iload 8, 2) := by decide +kernel
theorem c193_180 : jm_code 193 180 = some (.istore 8, 2) := by decide +kernel
theorem c193_182 : jm_code 193 182 = some (.iinc 9 1, 3) := by decide +kernel
theorem c193_185 : jm_code 193 185 = some (.goto (-114), 3) := by decide +kernel
theorem c193_188 : jm_code 193 188 = some (.iload 8, 2) := by decide +kernel
theorem c193_190 : jm_code 193 190 = some (.ireturn, 1) := by decide +kernel
theorem c194_0 : jm_code 194 0 = some (.aload_n 0, 1) := by decide +kernel
theorem c194_1 : jm_code 194 1 = some (.iload_n 1, 1) := by decide +kernel
theorem c194_2 : jm_code 194 2 = some (.invokevirtual 144, 3) := by decide +kernel
theorem c194_5 : jm_code 194 5 = some (.ifCond .eq 15, 3) := by decide +kernel
theorem c194_8 : jm_code 194 8 = some (.iload_n 2, 1) := by decide +kernel
theorem c194_9 : jm_code 194 9 = some (.i2l, 1) := by decide +kernel
theorem c194_10 : jm_code 194 10 = some (.lconst 0, 1) := by decide +kernel
theorem c194_11 : jm_code 194 11 = some (.ldc2_w 204, 3) := by decide +kernel
theorem c194_14 : jm_code 194 14 = some (.invokestatic 95, 3) := by decide +kernel
theorem c194_17 : jm_code 194 17 = some (.ifCond .ne 6, 3) := by decide +kernel
theorem c194_20 : jm_code 194 20 = some (.bipush (-2), 2) := by decide +kernel
theorem c194_22 : jm_code 194 22 = some (.ireturn, 1) := by decide +kernel
theorem c194_23 : jm_code 194 23 = some (.aload_n 0, 1) := by decide +kernel
theorem c194_24 : jm_code 194 24 = some (.getfield 147, 3) := by decide +kernel
theorem c194_27 : jm_code 194 27 = some (.bipush 12, 2) := by decide +kernel
theorem c194_29 : jm_code 194 29 = some (.if_icmp .ne 6, 3) := by decide +kernel
theorem c194_32 : jm_code 194 32 = some (.bipush (-4), 2) := by decide +kernel
theorem c194_34 : jm_code 194 34 = some (.ireturn, 1) := by decide +kernel
theorem c194_35 : jm_code 194 35 = some (.aload_n 0, 1) := by decide +kernel
theorem c194_36 : jm_code 194 36 = some (.getfield 86, 3) := by decide +kernel
theorem c194_39 : jm_code 194 39 = some (.aload_n 0, 1) := by decide +kernel
theorem c194_40 : jm_code 194 40 = some (.getfield 147, 3) := by decide +kernel
theorem c194_43 : jm_code 194 43 = some (.iload_n 1, 1) := by decide +kernel
theorem c194_44 : jm_code 194 44 = some (.iastore, 1) := by decide +kernel
theorem c194_45 : jm_code 194 45 = some (.aload_n 0, 1) := by decide +kernel
theorem c194_46 : jm_code 194 46 = some (.getfield 89, 3) := by decide +kernel
theorem c194_49 : jm_code 194 49 = some (.aload_n 0, 1) := by decide +kernel
theorem c194_50 : jm_code 194 50 = some (.getfield 147, 3) := by decide +kernel
theorem c194_53 : jm_code 194 53 = some (.iload_n 2, 1) := by decide +kernel
theorem c194_54 : jm_code 194 54 = some (.iastore, 1) := by decide +kernel
theorem c194_55 : jm_code 194 55 = some (.aload_n 0, 1) := by decide +kernel
theorem c194_56 : jm_code 194 56 = some (.dup, 1) := by decide +kernel
theorem c194_57 : jm_code 194 57 = some (.getfield 147, 3) := by decide +kernel
theorem c194_60 : jm_code 194 60 = some (.iconst 1, 1) := by decide +kernel
theorem c194_61 : jm_code 194 61 = some (.iadd, 1) := by decide +kernel
theorem c194_62 : jm_code 194 62 = some (.putfield 147, 3) := by decide +kernel
theorem c194_65 : jm_code 194 65 = some (.aload_n 0, 1) := by decide +kernel
theorem c194_66 : jm_code 194 66 = some (.getfield 147, 3) := by decide +kernel
theorem c194_69 : jm_code 194 69 = some (.ireturn, 1) := by decide +kernel
theorem c195_0 : jm_code 195 0 = some (.iload_n 1, 1) := by decide +kernel
theorem c195_1 : jm_code 195 1 = some (.i2l, 1) := by decide +kernel
theorem c195_2 : jm_code 195 2 = some (.lconst 0, 1) := by decide +kernel
theorem c195_3 : jm_code 195 3 = some (.ldc2_w 330, 3) := by decide +kernel
theorem c195_6 : jm_code 195 6 = some (.invokestatic 95, 3) := by decide +kernel
theorem c195_9 : jm_code 195 9 = some (.ifCond .eq 11, 3) := by decide +kernel
theorem c195_12 : jm_code 195 12 = some (.aload_n 0, 1) := by decide +kernel
theorem c195_13 : jm_code 195 13 = some (.iload_n 1, 1) := by decide +kernel
theorem c195_14 : jm_code 195 14 = some (.invokevirtual 332, 3) := by decide +kernel
theorem c195_17 : jm_code 195 17 = some (.goto 5, 3) := by decide +kernel
theorem c195_20 : jm_code 195 20 = some (.bipush (-2), 2) := by decide +kernel
theorem c195_22 : jm_code 195 22 = some (.ireturn, 1) := by decide +kernel
theorem c196_0 : jm_code 196 0 = some (.aload_n 0, 1) := by decide +kernel
theorem c196_1 : jm_code 196 1 = some (.getfield 147, 3) := by decide +kernel
theorem c196_4 : jm_code 196 4 = some (.ifCond .ne 6, 3) := by decide +kernel
theorem c196_7 : jm_code 196 7 = some (.bipush (-3), 2) := by decide +kernel
theorem c196_9 : jm_code 196 9 = some (.ireturn, 1) := by decide +kernel
theorem c196_10 : jm_code 196 10 = some (.aload_n 0, 1) := by decide +kernel
theorem c196_11 : jm_code 196 11 = some (.invokevirtual 248, 3) := by decide +kernel
theorem c196_14 : jm_code 196 14 = some (.iconst (-1), 1) := by decide +kernel
theorem c196_15 : jm_code 196 15 = some (.istore_n 2, 1) := by decide +kernel
theorem c196_16 : jm_code 196 16 = some (.iconst (-1), 1) := by decide +kernel
theorem c196_17 : jm_code 196 17 = some (.istore_n 3, 1) := by decide +kernel
theorem c196_18 : jm_code 196 18 = some (.iconst 0, 1) := by decide +kernel
theorem c196_19 : jm_code 196 19 = some (.istore 4, 2) := by decide +kernel
theorem c196_21 : jm_code 196 21 = some (.iconst (-1), 1) := by decide +kernel
theorem c196_22 : jm_code 196 22 = some (.istore 5, 2) := by decide +kernel
theorem c196_24 : jm_code 196 24 = some (.iconst 0, 1) := by decide +kernel
theorem c196_25 : jm_code 196 25 = some (.istore 6, 2) := by decide +kernel
theorem c196_27 : jm_code 196 27 = some (.iconst 5, 1) := by decide +kernel
theorem c196_28 : jm_code 196 28 = some (.istore 7, 2) := by decide +kernel
theorem c196_30 : jm_code 196 30 = some (.iload 7, 2) := by decide +kernel
theorem c196_32 : jm_code 196 32 = some (.bipush 16, 2) := by decide +kernel
theorem c196_34 : jm_code 196 34 = some (.if_icmp .ge 82, 3) := by decide +kernel
theorem c196_37 : jm_code 196 37 = some (.aload_n 0, 1) := by decide +kernel
theorem c196_38 : jm_code 196 38 = some (.iload 7, 2) := by decide +kernel
theorem c196_40 : jm_code 196 40 = some (.invokevirtual 327, 3) := by decide +kernel
theorem c196_43 : jm_code 196 43 = some (.istore 8, 2) := by decide +kernel
theorem c196_45 : jm_code 196 45 = some (.iload 8, 2) := by decide +kernel
theorem c196_47 : jm_code 196 47 = some (.ifCond .ne 13, 3) := by decide +kernel
theorem c196_50 : jm_code 196 50 = some (.iload_n 2, 1) := by decide +kernel
theorem c196_51 : jm_code 196 51 = some (.iconst (-1), 1) := by decide +kernel
theorem c196_52 : jm_code 196 52 = some (.if_icmp .ne 8, 3) := by decide +kernel
theorem c196_55 : jm_code 196 55 = some (.iload 7, 2) := by decide +kernel
theorem c196_57 : jm_code 196 57 = some (.goto 4, 3) := by decide +kernel
theorem c196_60 : jm_code 196 60 = some (.iload_n 2, 1) := by decide +kernel
theorem c196_61 : jm_code 196 61 = some (.istore_n 2, 1) := by decide +kernel
theorem c196_62 : jm_code 196 62 = some (.iload 8, 2) := by decide +kernel
theorem c196_64 : jm_code 196 64 = some (.ifCond .ne 8, 3) := by decide +kernel
theorem c196_67 : jm_code 196 67 = some (.iload 7, 2) := by decide +kernel
theorem c196_69 : jm_code 196 69 = some (.goto 4, 3) := by decide +kernel
theorem c196_72 : jm_code 196 72 = some (.iload_n 3, 1) := by decide +kernel
theorem c196_73 : jm_code 196 73 = some (.istore_n 3, 1) := by decide +kernel
theorem c196_74 : jm_code 196 74 = some (.iload 4, 2) := by decide +kernel
theorem c196_76 : jm_code 196 76 = some (.iload 8, 2) := by decide +kernel
theorem c196_78 : jm_code 196 78 = some (.ifCond .ne 7, 3) := by decide +kernel
theorem c196_81 : jm_code 196 81 = some (.iconst 1, 1) := by decide +kernel
theorem c196_82 : jm_code 196 82 = some (.goto 4, 3) := by decide +kernel
theorem c196_85 : jm_code 196 85 = some (.iconst 0, 1) := by decide +kernel
theorem c196_86 : jm_code 196 86 = some (.iadd, 1) := by decide +kernel
theorem c196_87 : jm_code 196 87 = some (.istore 4, 2) := by decide +kernel
theorem c196_89 : jm_code 196 89 = some (.iload 5, 2) := by decide +kernel
theorem c196_91 : jm_code 196 91 = some (.iconst (-1), 1) := by decide +kernel
theorem c196_92 : jm_code 196 92 = some (.if_icmp .eq 10, 3) := by decide +kernel
theorem c196_95 : jm_code 196 95 = some (.iload 8, 2) := by decide +kernel
theorem c196_97 : jm_code 196 97 = some (.iload 6, 2) := by decide +kernel
theorem c196_99 : jm_code 196 99 = some (.if_icmp .ge 11, 3) := by decide +kernel
theorem c196_102 : jm_code 196 102 = some (.iload 7, 2) := by decide +kernel
theorem c196_104 : jm_code 196 104 = some (.istore 5, 2) := by decide +kernel
theorem c196_106 : jm_code 196 106 = some (.iload 8, 2) := by decide +kernel
theorem c196_108 : jm_code 196 108 = some (.istore 6, 2) := by decide +kernel
theorem c196_110 : jm_code 196 110 = some (.iinc 7 1, 3) := by decide +kernel
theorem c196_113 : jm_code 196 113 = some (.goto (-83), 3) := by decide +kernel
theorem c196_116 : jm_code 196 116 = some (.iload_n 1, 1) := by decide +kernel
theorem c196_117 : jm_code 196 117 = some (.tableswitch 41 0 3 #[31, 33, 35, 38], 31) := by decide +kernel
theorem c196_148 : jm_code 196 148 = some (.iload_n 2, 1) := by decide +kernel
theorem c196_149 : jm_code 196 149 = some (.ireturn, 1) := by decide +kernel
theorem c196_150 : jm_code 196 150 = some (.iload_n 3, 1) := by decide +kernel
theorem c196_151 : jm_code 196 151 = some (.ireturn, 1) := by decide +kernel
theorem c196_152 : jm_code 196 152 = some (.iload 4, 2) := by decide +kernel
theorem c196_154 : jm_code 196 154 = some (.ireturn, 1) := by decide +kernel
theorem c196_155 : jm_code 196 155 = some (.iload 5, 2) := by decide +kernel
theorem c196_157 : jm_code 196 157 = some (.ireturn, 1) := by decide +kernel
theorem c196_158 : jm_code 196 158 = some (.iload 6, 2) := by decide +kernel
theorem c196_160 : jm_code 196 160 = some (.ireturn, 1) := by decide +kernel
theorem c197_0 : jm_code 197 0 = some (.aload_n 0, 1) := by decide +kernel
theorem c197_1 : jm_code 197 1 = some (.iload_n 1, 1) := by decide +kernel
theorem c197_2 : jm_code 197 2 = some (.putfield 209, 3) := by decide +kernel
theorem c197_5 : jm_code 197 5 = some (.aload_n 0, 1) := by decide +kernel
theorem c197_6 : jm_code 197 6 = some (.sipush 200, 3) := by decide +kernel
theorem c197_9 : jm_code 197 9 = some (.invokevirtual 251, 3) := by decide +kernel
theorem c197_12 : jm_code 197 12 = some (.iconst 0, 1) := by decide +kernel
theorem c197_13 : jm_code 197 13 = some (.istore_n 2, 1) := by decide +kernel
theorem c197_14 : jm_code 197 14 = some (.iconst 0, 1) := by decide +kernel
theorem c197_15 : jm_code 197 15 = some (.istore_n 3, 1) := by decide +kernel
theorem c197_16 : jm_code 197 16 = some (.iload_n 3, 1) := by decide +kernel
theorem c197_17 : jm_code 197 17 = some (.aload_n 0, 1) := by decide +kernel
theorem c197_18 : jm_code 197 18 = some (.getfield 147, 3) := by decide +kernel
theorem c197_21 : jm_code 197 21 = some (.if_icmp .ge 73, 3) := by decide +kernel
theorem c197_24 : jm_code 197 24 = some (.aload_n 0, 1) := by decide +kernel
theorem c197_25 : jm_code 197 25 = some (.getfield 65, 3) := by decide +kernel
theorem c197_28 : jm_code 197 28 = some (.aload_n 0, 1) := by decide +kernel
theorem c197_29 : jm_code 197 29 = some (.getfield 86, 3) := by decide +kernel
theorem c197_32 : jm_code 197 32 = some (.iload_n 3, 1) := by decide +kernel
theorem c197_33 : jm_code 197 33 = some (.iaload, 1) := by decide +kernel
theorem c197_34 : jm_code 197 34 = some (.iaload, 1) := by decide +kernel
theorem c197_35 : jm_code 197 35 = some (.istore 4, 2) := by decide +kernel
theorem c197_37 : jm_code 197 37 = some (.iload 4, 2) := by decide +kernel
theorem c197_39 : jm_code 197 39 = some (.aload_n 0, 1) := by decide +kernel
theorem c197_40 : jm_code 197 40 = some (.getfield 89, 3) := by decide +kernel
theorem c197_43 : jm_code 197 43 = some (.iload_n 3, 1) := by decide +kernel
theorem c197_44 : jm_code 197 44 = some (.iaload, 1) := by decide +kernel
theorem c197_45 : jm_code 197 45 = some (.if_icmp .ge 15, 3) := by decide +kernel
theorem c197_48 : jm_code 197 48 = some (.aload_n 0, 1) := by decide +kernel
theorem c197_49 : jm_code 197 49 = some (.getfield 89, 3) := by decide +kernel
theorem c197_52 : jm_code 197 52 = some (.iload_n 3, 1) := by decide +kernel
theorem c197_53 : jm_code 197 53 = some (.iaload, 1) := by decide +kernel
theorem c197_54 : jm_code 197 54 = some (.iload 4, 2) := by decide +kernel
theorem c197_56 : jm_code 197 56 = some (.isub, 1) := by decide +kernel
theorem c197_57 : jm_code 197 57 = some (.goto 12, 3) := by decide +kernel
theorem c197_60 : jm_code 197 60 = some (.iload 4, 2) := by decide +kernel
theorem c197_62 : jm_code 197 62 = some (.aload_n 0, 1) := by decide +kernel
theorem c197_63 : jm_code 197 63 = some (.getfield 89, 3) := by decide +kernel
theorem c197_66 : jm_code 197 66 = some (.iload_n 3, 1) := by decide +kernel
theorem c197_67 : jm_code 197 67 = some (.iaload, 1) := by decide +kernel
theorem c197_68 : jm_code 197 68 = some (.isub, 1) := by decide +kernel
theorem c197_69 : jm_code 197 69 = some (.istore 5, 2) := by decide +kernel
theorem c197_71 : jm_code 197 71 = some (.iload_n 2, 1) := by decide +kernel
theorem c197_72 : jm_code 197 72 = some (.iload 4, 2) := by decide +kernel
theorem c197_74 : jm_code 197 74 = some (.iconst (-1), 1) := by decide +kernel
theorem c197_75 : jm_code 197 75 = some (.if_icmp .ne 9, 3) := by decide +kernel
theorem c197_78 : jm_code 197 78 = some (.sipush 200, 3) := by decide +kernel
theorem c197_81 : jm_code 197 81 = some (.goto 5, 3) := by decide +kernel
theorem c197_84 : jm_code 197 84 = some (.iload 5, 2) := by decide +kernel
theorem c197_86 : jm_code 197 86 = some (.iadd, 1) := by decide +kernel
theorem c197_87 : jm_code 197 87 = some (.istore_n 2, 1) := by decide +kernel
theorem c197_88 : jm_code 197 88 = some (.iinc 3 1, 3) := by decide +kernel
theorem c197_91 : jm_code 197 91 = some (.goto (-75), 3) := by decide +kernel
theorem c197_94 : jm_code 197 94 = some (.iload_n 2, 1) := by decide +kernel
theorem c197_95 : jm_code 197 95 = some (.ireturn, 1) := by decide +kernel
theorem c198_0 : jm_code 198 0 = some (.iload_n 1, 1) := by decide +kernel
theorem c198_1 : jm_code 198 1 = some (.i2l, 1) := by decide +kernel
theorem c198_2 : jm_code 198 2 = some (.lconst 0, 1) := by decide +kernel
theorem c198_3 : jm_code 198 3 = some (.ldc2_w 204, 3) := by decide +kernel
theorem c198_6 : jm_code 198 6 = some (.invokestatic 95, 3) := by decide +kernel
theorem c198_9 : jm_code 198 9 = some (.ifCond .eq 10, 3) := by decide +kernel
theorem c198_12 : jm_code 198 12 = some (.iload_n 2, 1) := by decide +kernel
theorem c198_13 : jm_code 198 13 = some (.invokestatic 105, 3) := by decide +kernel
theorem c198_16 : jm_code 198 16 = some (.ifCond .ne 6, 3) := by decide +kernel
theorem c198_19 : jm_code 198 19 = some (.bipush (-2), 2) := by decide +kernel
theorem c198_21 : jm_code 198 21 = some (.ireturn, 1) := by decide +kernel
theorem c198_22 : jm_code 198 22 = some (.aload_n 0, 1) := by decide +kernel
theorem c198_23 : jm_code 198 23 = some (.getfield 7, 3) := by decide +kernel
theorem c198_26 : jm_code 198 26 = some (.iload_n 2, 1) := by decide +kernel
theorem c198_27 : jm_code 198 27 = some (.iaload, 1) := by decide +kernel
theorem c198_28 : jm_code 198 28 = some (.ifCond .ge 9, 3) := by decide +kernel
theorem c198_31 : jm_code 198 31 = some (.aload_n 0, 1) := by decide +kernel
theorem c198_32 : jm_code 198 32 = some (.iconst 1, 1) := by decide +kernel
theorem c198_33 : jm_code 198 33 = some (.invokevirtual 111, 3) := by decide +kernel
theorem c198_36 : jm_code 198 36 = some (.ireturn, 1) := by decide +kernel
theorem c198_37 : jm_code 198 37 = some (.aload_n 0, 1) := by decide +kernel
theorem c198_38 : jm_code 198 38 = some (.invokevirtual 248, 3) := by decide +kernel
theorem c198_41 : jm_code 198 41 = some (.aload_n 0, 1) := by decide +kernel
theorem c198_42 : jm_code 198 42 = some (.sipush 200, 3) := by decide +kernel
theorem c198_45 : jm_code 198 45 = some (.invokevirtual 251, 3) := by decide +kernel
theorem c198_48 : jm_code 198 48 = some (.aload_n 0, 1) := by decide +kernel
theorem c198_49 : jm_code 198 49 = some (.getfield 13, 3) := by decide +kernel
theorem c198_52 : jm_code 198 52 = some (.iload_n 2, 1) := by decide +kernel
theorem c198_53 : jm_code 198 53 = some (.iaload, 1) := by decide +kernel
theorem c198_54 : jm_code 198 54 = some (.sipush 200, 3) := by decide +kernel
theorem c198_57 : jm_code 198 57 = some (.iload_n 1, 1) := by decide +kernel
theorem c198_58 : jm_code 198 58 = some (.isub, 1) := by decide +kernel
theorem c198_59 : jm_code 198 59 = some (.if_icmp .ge 12, 3) := by decide +kernel
theorem c198_62 : jm_code 198 62 = some (.aload_n 0, 1) := by decide +kernel
theorem c198_63 : jm_code 198 63 = some (.getfield 13, 3) := by decide +kernel
theorem c198_66 : jm_code 198 66 = some (.iload_n 2, 1) := by decide +kernel
theorem c198_67 : jm_code 198 67 = some (.iaload, 1) := by decide +kernel
theorem c198_68 : jm_code 198 68 = some (.goto 8, 3) := by decide +kernel
theorem c198_71 : jm_code 198 71 = some (.sipush 200, 3) := by decide +kernel
theorem c198_74 : jm_code 198 74 = some (.iload_n 1, 1) := by decide +kernel
theorem c198_75 : jm_code 198 75 = some (.isub, 1) := by decide +kernel
theorem c198_76 : jm_code 198 76 = some (.istore_n 3, 1) := by decide +kernel
theorem c198_77 : jm_code 198 77 = some (.iconst 0, 1) := by decide +kernel
theorem c198_78 : jm_code 198 78 = some (.istore 4, 2) := by decide +kernel
theorem c198_80 : jm_code 198 80 = some (.iload 4, 2) := by decide +kernel
theorem c198_82 : jm_code 198 82 = some (.iload_n 3, 1) := by decide +kernel
theorem c198_83 : jm_code 198 83 = some (.if_icmp .ge 39, 3) := by decide +kernel
theorem c198_86 : jm_code 198 86 = some (.aload_n 0, 1) := by decide +kernel
theorem c198_87 : jm_code 198 87 = some (.getfield 16, 3) := by decide +kernel
theorem c198_90 : jm_code 198 90 = some (.bipush 60, 2) := by decide +kernel
theorem c198_92 : jm_code 198 92 = some (.iload_n 2, 1) := by decide +kernel
theorem c198_93 : jm_code 198 93 = some (.imul, 1) := by decide +kernel
theorem c198_94 : jm_code 198 94 = some (.iload 4, 2) := by decide +kernel
theorem c198_96 : jm_code 198 96 = some (.iadd, 1) := by decide +kernel
theorem c198_97 : jm_code 198 97 = some (.aload_n 0, 1) := by decide +kernel
theorem c198_98 : jm_code 198 98 = some (.getfield 7, 3) := by decide +kernel
theorem c198_101 : jm_code 198 101 = some (.iload_n 2, 1) := by decide +kernel
theorem c198_102 : jm_code 198 102 = some (.iaload, 1) := by decide +kernel
theorem c198_103 : jm_code 198 103 = some (.aload_n 0, 1) := by decide +kernel
theorem c198_104 : jm_code 198 104 = some (.getfield 77, 3) := by decide +kernel
theorem c198_107 : jm_code 198 107 = some (.iload_n 1, 1) := by decide +kernel
theorem c198_108 : jm_code 198 108 = some (.iload 4, 2) := by decide +kernel
theorem c198_110 : jm_code 198 110 = some (.iadd, 1) := by decide +kernel
theorem c198_111 : jm_code 198 111 = some (.iaload, 1) := by decide +kernel
theorem c198_112 : jm_code 198 112 = some (.invokestatic 119, 3) := by decide +kernel
theorem c198_115 : jm_code 198 115 = some (.iastore, 1) := by decide +kernel
theorem c198_116 : jm_code 198 116 = some (.iinc 4 1, 3) := by decide +kernel
theorem c198_119 : jm_code 198 119 = some (.goto (-39), 3) := by decide +kernel
theorem c198_122 : jm_code 198 122 = some (.iload_n 3, 1) := by decide +kernel
theorem c198_123 : jm_code 198 123 = some (.ireturn, 1) := by decide +kernel
theorem c199_0 : jm_code 199 0 = some (.iconst 0, 1) := by decide +kernel
theorem c199_1 : jm_code 199 1 = some (.istore_n 2, 1) := by decide +kernel
theorem c199_2 : jm_code 199 2 = some (.iload_n 1, 1) := by decide +kernel
theorem c199_3 : jm_code 199 3 = some (.tableswitch 112 0 8 #[49, 54, 54, 54, 54, 63, 73, 78, 107], 49) := by decide +kernel
theorem c199_52 : jm_code 199 52 = some (.aload_n 0, 1) := by decide +kernel
theorem c199_53 : jm_code 199 53 = some (.getfield 124, 3) := by decide +kernel
theorem c199_56 : jm_code 199 56 = some (.ireturn, 1) := by decide +kernel
theorem c199_57 : jm_code 199 57 = some (.aload_n 0, 1) := by decide +kernel
theorem c199_58 : jm_code 199 58 = some (.getfield 34, 3) := by decide +kernel
theorem c199_61 : jm_code 199 61 = some (.iload_n 1, 1) := by decide +kernel
theorem c199_62 : jm_code 199 62 = some (.iconst 1, 1) := by decide +kernel
theorem c199_63 : jm_code 199 63 = some (.isub, 1) := by decide +kernel
theorem c199_64 : jm_code 199 64 = some (.iaload, 1) := by decide +kernel
theorem c199_65 : jm_code 199 65 = some (.ireturn, 1) := by decide +kernel
theorem c199_66 : jm_code 199 66 = some (.aload_n 0, 1) := by decide +kernel
theorem c199_67 : jm_code 199 67 = some (.invokevirtual 194, 3) := by decide +kernel
theorem c199_70 : jm_code 199 70 = some (.pop, 1) := by decide +kernel
theorem c199_71 : jm_code 199 71 = some (.aload_n 0, 1) := by decide +kernel
theorem c199_72 : jm_code 199 72 = some (.getfield 169, 3) := by decide +kernel
theorem c199_75 : jm_code 199 75 = some (.ireturn, 1) := by decide +kernel
theorem c199_76 : jm_code 199 76 = some (.aload_n 0, 1) := by decide +kernel
theorem c199_77 : jm_code 199 77 = some (.getfield 147, 3) := by decide +kernel
theorem c199_80 : jm_code 199 80 = some (.ireturn, 1) := by decide +kernel
theorem c199_81 : jm_code 199 81 = some (.iconst 0, 1) := by decide +kernel
theorem c199_82 : jm_code 199 82 = some (.istore_n 3, 1) := by decide +kernel
theorem c199_83 : jm_code 199 83 = some (.iload_n 3, 1) := by decide +kernel
theorem c199_84 : jm_code 199 84 = some (.aload_n 0, 1) := by decide +kernel
theorem c199_85 : jm_code 199 85 = some (.getfield 124, 3) := by decide +kernel
theorem c199_88 : jm_code 199 88 = some (.if_icmp .ge 20, 3) := by decide +kernel
theorem c199_91 : jm_code 199 91 = some (.iload_n 2, 1) := by decide +kernel
theorem c199_92 : jm_code 199 92 = some (.aload_n 0, 1) := by decide +kernel
theorem c199_93 : jm_code 199 93 = some (.getfield 25, 3) := by decide +kernel
theorem c199_96 : jm_code 199 96 = some (.iconst 4, 1) := by decide +kernel
theorem c199_97 : jm_code 199 97 = some (.iload_n 3, 1) := by decide +kernel
theorem c199_98 : jm_code 199 98 = some (.imul, 1) := by decide +kernel
theorem c199_99 : jm_code 199 99 = some (.iaload, 1) := by decide +kernel
theorem c199_100 : jm_code 199 100 = some (.iadd, 1) := by decide +kernel
theorem c199_101 : jm_code 199 101 = some (.istore_n 2, 1) := by decide +kernel
theorem c199_102 : jm_code 199 102 = some (.iinc 3 1, 3) := by decide +kernel
theorem c199_105 : jm_code 199 105 = some (.goto (-22), 3) := by decide +kernel
theorem c199_108 : jm_code 199 108 = some (.iload_n 2, 1) := by decide +kernel
theorem c199_109 : jm_code 199 109 = some (.ireturn, 1) := by decide +kernel
theorem c199_110 : jm_code 199 110 = some (.aload_n 0, 1) := by decide +kernel
theorem c199_111 : jm_code 199 111 = some (.getfield 99, 3) := by decide +kernel
theorem c199_114 : jm_code 199 114 = some (.ireturn, 1) := by decide +kernel
theorem c199_115 : jm_code 199 115 = some (.bipush (-2), 2) := by decide +kernel
theorem c199_117 : jm_code 199 117 = some (.ireturn, 1) := by decide +kernel
theorem c200_0 : jm_code 200 0 = some (.ldc2_w 335, 3) := by decide +kernel
theorem c200_3 : jm_code 200 3 = some (.lstore_n 1, 1) := by decide +kernel
theorem c200_4 : jm_code 200 4 = some (.iconst 0, 1) := by decide +kernel
theorem c200_5 : jm_code 200 5 = some (.istore_n 3, 1) := by decide +kernel
theorem c200_6 : jm_code 200 6 = some (.iload_n 3, 1) := by decide +kernel
theorem c200_7 : jm_code 200 7 = some (.bipush 8, 2) := by decide +kernel
theorem c200_9 : jm_code 200 9 = some (.if_icmp .ge 22, 3) := by decide +kernel
theorem c200_12 : jm_code 200 12 = some (.ldc2_w 337, 3) := by decide +kernel
theorem c200_15 : jm_code 200 15 = some (.lload_n 1, 1) := by decide +kernel
theorem c200_16 : jm_code 200 16 = some (.lmul, 1) := by decide +kernel
theorem c200_17 : jm_code 200 17 = some (.aload_n 0, 1) := by decide +kernel
theorem c200_18 : jm_code 200 18 = some (.iload_n 3, 1) := by decide +kernel
theorem c200_19 : jm_code 200 19 = some (.invokevirtual 339, 3) := by decide +kernel
theorem c200_22 : jm_code 200 22 = some (.i2l, 1) := by decide +kernel
theorem c200_23 : jm_code 200 23 = some (.ladd, 1) := by decide +kernel
theorem c200_24 : jm_code 200 24 = some (.lstore_n 1, 1) := by decide +kernel
theorem c200_25 : jm_code 200 25 = some (.iinc 3 1, 3) := by decide +kernel
theorem c200_28 : jm_code 200 28 = some (.goto (-22), 3) := by decide +kernel
theorem c200_31 : jm_code 200 31 = some (.iconst 0, 1) := by decide +kernel
theorem c200_32 : jm_code 200 32 = some (.istore_n 3, 1) := by decide +kernel
theorem c200_33 : jm_code 200 33 = some (.iload_n 3, 1) := by decide +kernel
theorem c200_34 : jm_code 200 34 = some (.iconst 4, 1) := by decide +kernel
theorem c200_35 : jm_code 200 35 = some (.if_icmp .ge 22, 3) := by decide +kernel
theorem c200_38 : jm_code 200 38 = some (.ldc2_w 337, 3) := by decide +kernel
theorem c200_41 : jm_code 200 41 = some (.lload_n 1, 1) := by decide +kernel
theorem c200_42 : jm_code 200 42 = some (.lmul, 1) := by decide +kernel
theorem c200_43 : jm_code 200 43 = some (.aload_n 0, 1) := by decide +kernel
theorem c200_44 : jm_code 200 44 = some (.iload_n 3, 1) := by decide +kernel
theorem c200_45 : jm_code 200 45 = some (.invokevirtual 201, 3) := by decide +kernel
theorem c200_48 : jm_code 200 48 = some (.i2l, 1) := by decide +kernel
theorem c200_49 : jm_code 200 49 = some (.ladd, 1) := by decide +kernel
theorem c200_50 : jm_code 200 50 = some (.lstore_n 1, 1) := by decide +kernel
theorem c200_51 : jm_code 200 51 = some (.iinc 3 1, 3) := by decide +kernel
theorem c200_54 : jm_code 200 54 = some (.goto (-21), 3) := by decide +kernel
theorem c200_57 : jm_code 200 57 = some (.aload_n 0, 1) := by decide +kernel
theorem c200_58 : jm_code 200 58 = some (.invokevirtual 248, 3) := by decide +kernel
theorem c200_61 : jm_code 200 61 = some (.aload_n 0, 1) := by decide +kernel
theorem c200_62 : jm_code 200 62 = some (.bipush 100, 2) := by decide +kernel
theorem c200_64 : jm_code 200 64 = some (.invokevirtual 251, 3) := by decide +kernel
theorem c200_67 : jm_code 200 67 = some (.iconst 0, 1) := by decide +kernel
theorem c200_68 : jm_code 200 68 = some (.istore_n 3, 1) := by decide +kernel
theorem c200_69 : jm_code 200 69 = some (.iload_n 3, 1) := by decide +kernel
theorem c200_70 : jm_code 200 70 = some (.aload_n 0, 1) := by decide +kernel
theorem c200_71 : jm_code 200 71 = some (.getfield 124, 3) := by decide +kernel
theorem c200_74 : jm_code 200 74 = some (.if_icmp .ge 40, 3) := by decide +kernel
theorem c200_77 : jm_code 200 77 = some (.iconst 0, 1) := by decide +kernel
theorem c200_78 : jm_code 200 78 = some (.istore 4, 2) := by decide +kernel
theorem c200_80 : jm_code 200 80 = some (.iload 4, 2) := by decide +kernel
theorem c200_82 : jm_code 200 82 = some (.bipush 6, 2) := by decide +kernel
theorem c200_84 : jm_code 200 84 = some (.if_icmp .ge 24, 3) := by decide +kernel
theorem c200_87 : jm_code 200 87 = some (.ldc2_w 337, 3) := by decide +kernel
theorem c200_90 : jm_code 200 90 = some (.lload_n 1, 1) := by decide +kernel
theorem c200_91 : jm_code 200 91 = some (.lmul, 1) := by decide +kernel
theorem c200_92 : jm_code 200 92 = some (.aload_n 0, 1) := by decide +kernel
theorem c200_93 : jm_code 200 93 = some (.iload_n 3, 1) := by decide +kernel
theorem c200_94 : jm_code 200 94 = some (.iload 4, 2) := by decide +kernel
theorem c200_96 : jm_code 200 96 = some (.invokevirtual 254, 3) := by decide +kernel
theorem c200_99 : jm_code 200 99 = some (.i2l, 1) := by decide +kernel
theorem c200_100 : jm_code 200 100 = some (.ladd, 1) := by decide +kernel
theorem c200_101 : jm_code 200 101 = some (.lstore_n 1, 1) := by decide +kernel
theorem c200_102 : jm_code 200 102 = some (.iinc 4 1, 3) := by decide +kernel
theorem c200_105 : jm_code 200 105 = some (.goto (-25), 3) := by decide +kernel
theorem c200_108 : jm_code 200 108 = some (.iinc 3 1, 3) := by decide +kernel
theorem c200_111 : jm_code 200 111 = some (.goto (-42), 3) := by decide +kernel
theorem c200_114 : jm_code 200 114 = some (.iconst 0, 1) := by decide +kernel
theorem c200_115 : jm_code 200 115 = some (.istore_n 3, 1) := by decide +kernel
theorem c200_116 : jm_code 200 116 = some (.iload_n 3, 1) := by decide +kernel
theorem c200_117 : jm_code 200 117 = some (.iconst 3, 1) := by decide +kernel
theorem c200_118 : jm_code 200 118 = some (.if_icmp .ge 40, 3) := by decide +kernel
theorem c200_121 : jm_code 200 121 = some (.iconst 0, 1) := by decide +kernel
theorem c200_122 : jm_code 200 122 = some (.istore 4, 2) := by decide +kernel
theorem c200_124 : jm_code 200 124 = some (.iload 4, 2) := by decide +kernel
theorem c200_126 : jm_code 200 126 = some (.bipush 6, 2) := by decide +kernel
theorem c200_128 : jm_code 200 128 = some (.if_icmp .ge 24, 3) := by decide +kernel
theorem c200_131 : jm_code 200 131 = some (.ldc2_w 337, 3) := by decide +kernel
theorem c200_134 : jm_code 200 134 = some (.lload_n 1, 1) := by decide +kernel
theorem c200_135 : jm_code 200 135 = some (.lmul, 1) := by decide +kernel
theorem c200_136 : jm_code 200 136 = some (.aload_n 0, 1) := by decide +kernel
theorem c200_137 : jm_code 200 137 = some (.iload_n 3, 1) := by decide +kernel
theorem c200_138 : jm_code 200 138 = some (.iload 4, 2) := by decide +kernel
theorem c200_140 : jm_code 200 140 = some (.invokevirtual 282, 3) := by decide +kernel
theorem c200_143 : jm_code 200 143 = some (.i2l, 1) := by decide +kernel
theorem c200_144 : jm_code 200 144 = some (.ladd, 1) := by decide +kernel
theorem c200_145 : jm_code 200 145 = some (.lstore_n 1, 1) := by decide +kernel
theorem c200_146 : jm_code 200 146 = some (.iinc 4 1, 3) := by decide +kernel
theorem c200_149 : jm_code 200 149 = some (.goto (-25), 3) := by decide +kernel
theorem c200_152 : jm_code 200 152 = some (.iinc 3 1, 3) := by decide +kernel
theorem c200_155 : jm_code 200 155 = some (.goto (-39), 3) := by decide +kernel
theorem c200_158 : jm_code 200 158 = some (.ldc2_w 337, 3) := by decide +kernel
theorem c200_161 : jm_code 200 161 = some (.lload_n 1, 1) := by decide +kernel
theorem c200_162 : jm_code 200 162 = some (.lmul, 1) := by decide +kernel
theorem c200_163 : jm_code 200 163 = some (.aload_n 0, 1) := by decide +kernel
theorem c200_164 : jm_code 200 164 = some (.invokevirtual 285, 3) := by decide +kernel
theorem c200_167 : jm_code 200 167 = some (.i2l, 1) := by decide +kernel
theorem c200_168 : jm_code 200 168 = some (.ladd, 1) := by decide +kernel
theorem c200_169 : jm_code 200 169 = some (.lstore_n 1, 1) := by decide +kernel
theorem c200_170 : jm_code 200 170 = some (.iconst 0, 1) := by decide +kernel
theorem c200_171 : jm_code 200 171 = some (.istore_n 3, 1) := by decide +kernel
theorem c200_172 : jm_code 200 172 = some (.iload_n 3, 1) := by decide +kernel
theorem c200_173 : jm_code 200 173 = some (.iconst 3, 1) := by decide +kernel
theorem c200_174 : jm_code 200 174 = some (.if_icmp .ge 24, 3) := by decide +kernel
theorem c200_177 : jm_code 200 177 = some (.ldc2_w 337, 3) := by decide +kernel
theorem c200_180 : jm_code 200 180 = some (.lload_n 1, 1) := by decide +kernel
theorem c200_181 : jm_code 200 181 = some (.lmul, 1) := by decide +kernel
theorem c200_182 : jm_code 200 182 = some (.aload_n 0, 1) := by decide +kernel
theorem c200_183 : jm_code 200 183 = some (.bipush 60, 2) := by decide +kernel
theorem c200_185 : jm_code 200 185 = some (.iload_n 3, 1) := by decide +kernel
theorem c200_186 : jm_code 200 186 = some (.invokevirtual 294, 3) := by decide +kernel
theorem c200_189 : jm_code 200 189 = some (.i2l, 1) := by decide +kernel
theorem c200_190 : jm_code 200 190 = some (.ladd, 1) := by decide +kernel
theorem c200_191 : jm_code 200 191 = some (.lstore_n 1, 1) := by decide +kernel
theorem c200_192 : jm_code 200 192 = some (.iinc 3 1, 3) := by decide +kernel
theorem c200_195 : jm_code 200 195 = some (.goto (-23), 3) := by decide +kernel
theorem c200_198 : jm_code 200 198 = some (.iconst 0, 1) := by decide +kernel
theorem c200_199 : jm_code 200 199 = some (.istore_n 3, 1) := by decide +kernel
theorem c200_200 : jm_code 200 200 = some (.iload_n 3, 1) := by decide +kernel
theorem c200_201 : jm_code 200 201 = some (.iconst 4, 1) := by decide +kernel
theorem c200_202 : jm_code 200 202 = some (.if_icmp .ge 25, 3) := by decide +kernel
theorem c200_205 : jm_code 200 205 = some (.ldc2_w 337, 3) := by decide +kernel
theorem c200_208 : jm_code 200 208 = some (.lload_n 1, 1) := by decide +kernel
theorem c200_209 : jm_code 200 209 = some (.lmul, 1) := by decide +kernel
theorem c200_210 : jm_code 200 210 = some (.aload_n 0, 1) := by decide +kernel
theorem c200_211 : jm_code 200 211 = some (.iconst 3, 1) := by decide +kernel
theorem c200_212 : jm_code 200 212 = some (.bipush 100, 2) := by decide +kernel
theorem c200_214 : jm_code 200 214 = some (.iload_n 3, 1) := by decide +kernel
theorem c200_215 : jm_code 200 215 = some (.invokevirtual 300, 3) := by decide +kernel
theorem c200_218 : jm_code 200 218 = some (.i2l, 1) := by decide +kernel
theorem c200_219 : jm_code 200 219 = some (.ladd, 1) := by decide +kernel
theorem c200_220 : jm_code 200 220 = some (.lstore_n 1, 1) := by decide +kernel
theorem c200_221 : jm_code 200 221 = some (.iinc 3 1, 3) := by decide +kernel
theorem c200_224 : jm_code 200 224 = some (.goto (-24), 3) := by decide +kernel
theorem c200_227 : jm_code 200 227 = some (.iconst 0, 1) := by decide +kernel
theorem c200_228 : jm_code 200 228 = some (.istore_n 3, 1) := by decide +kernel
theorem c200_229 : jm_code 200 229 = some (.iload_n 3, 1) := by decide +kernel
theorem c200_230 : jm_code 200 230 = some (.iconst 5, 1) := by decide +kernel
theorem c200_231 : jm_code 200 231 = some (.if_icmp .ge 22, 3) := by decide +kernel
theorem c200_234 : jm_code 200 234 = some (.ldc2_w 337, 3) := by decide +kernel
theorem c200_237 : jm_code 200 237 = some (.lload_n 1, 1) := by decide +kernel
theorem c200_238 : jm_code 200 238 = some (.lmul, 1) := by decide +kernel
theorem c200_239 : jm_code 200 239 = some (.aload_n 0, 1) := by decide +kernel
theorem c200_240 : jm_code 200 240 = some (.iload_n 3, 1) := by decide +kernel
theorem c200_241 : jm_code 200 241 = some (.invokevirtual 332, 3) := by decide +kernel
theorem c200_244 : jm_code 200 244 = some (.i2l, 1) := by decide +kernel
theorem c200_245 : jm_code 200 245 = some (.ladd, 1) := by decide +kernel
theorem c200_246 : jm_code 200 246 = some (.lstore_n 1, 1) := by decide +kernel
theorem c200_247 : jm_code 200 247 = some (.iinc 3 1, 3) := by decide +kernel
theorem c200_250 : jm_code 200 250 = some (.goto (-21), 3) := by decide +kernel
theorem c200_253 : jm_code 200 253 = some (.lload_n 1, 1) := by decide +kernel
theorem c200_254 : jm_code 200 254 = some (.lreturn, 1) := by decide +kernel
theorem c201_18 : jm_code 201 18 = some (.iload_n 3, 1) := by decide +kernel
theorem c201_19 : jm_code 201 19 = some (.aload_n 0, 1) := by decide +kernel
theorem c201_20 : jm_code 201 20 = some (.arraylength, 1) := by decide +kernel
theorem c201_21 : jm_code 201 21 = some (.bipush 6, 2) := by decide +kernel
theorem c201_23 : jm_code 201 23 = some (.isub, 1) := by decide +kernel
theorem c201_24 : jm_code 201 24 = some (.if_icmp .gt 1369, 3) := by decide +kernel
theorem c201_27 : jm_code 201 27 = some (.aload_n 0, 1) := by decide +kernel
theorem c201_28 : jm_code 201 28 = some (.iload_n 3, 1) := by decide +kernel
theorem c201_29 : jm_code 201 29 = some (.iaload, 1) := by decide +kernel
theorem c201_30 : jm_code 201 30 = some (.bipush 63, 2) := by decide +kernel
theorem c201_32 : jm_code 201 32 = some (.iand, 1) := by decide +kernel
theorem c201_33 : jm_code 201 33 = some (.tableswitch 1354 0 32 #[147, 210, 243, 286, 299, 332, 365, 388, 411, 444, 487, 536, 569, 582, 615, 648, 681, 714, 737, 780, 823, 876, 940, 1003, 1036, 1059, 1102, 1125, 1178, 1221, 1284, 1317, 1340], 147) := by decide +kernel
theorem c201_180 : jm_code 201 180 = some (.aload_n 1, 1) := by decide +kernel
theorem c201_181 : jm_code 201 181 = some (.aload_n 0, 1) := by decide +kernel
theorem c201_182 : jm_code 201 182 = some (.iload_n 3, 1) := by decide +kernel
theorem c201_183 : jm_code 201 183 = some (.iconst 1, 1) := by decide +kernel
theorem c201_184 : jm_code 201 184 = some (.iadd, 1) := by decide +kernel
theorem c201_185 : jm_code 201 185 = some (.iaload, 1) := by decide +kernel
theorem c201_186 : jm_code 201 186 = some (.aload_n 0, 1) := by decide +kernel
theorem c201_187 : jm_code 201 187 = some (.iload_n 3, 1) := by decide +kernel
theorem c201_188 : jm_code 201 188 = some (.iconst 2, 1) := by decide +kernel
theorem c201_189 : jm_code 201 189 = some (.iadd, 1) := by decide +kernel
theorem c201_190 : jm_code 201 190 = some (.iaload, 1) := by decide +kernel
theorem c201_191 : jm_code 201 191 = some (.aload_n 0, 1) := by decide +kernel
theorem c201_192 : jm_code 201 192 = some (.iload_n 3, 1) := by decide +kernel
theorem c201_193 : jm_code 201 193 = some (.iconst 3, 1) := by decide +kernel
theorem c201_194 : jm_code 201 194 = some (.iadd, 1) := by decide +kernel
theorem c201_195 : jm_code 201 195 = some (.iaload, 1) := by decide +kernel
theorem c201_196 : jm_code 201 196 = some (.aload_n 0, 1) := by decide +kernel
theorem c201_197 : jm_code 201 197 = some (.iload_n 3, 1) := by decide +kernel
theorem c201_198 : jm_code 201 198 = some (.iconst 4, 1) := by decide +kernel
theorem c201_199 : jm_code 201 199 = some (.iadd, 1) := by decide +kernel
theorem c201_200 : jm_code 201 200 = some (.iaload, 1) := by decide +kernel
theorem c201_201 : jm_code 201 201 = some (.aload_n 0, 1) := by decide +kernel
theorem c201_202 : jm_code 201 202 = some (.iload_n 3, 1) := by decide +kernel
theorem c201_203 : jm_code 201 203 = some (.iconst 5, 1) := by decide +kernel
theorem c201_204 : jm_code 201 204 = some (.iadd, 1) := by decide +kernel
theorem c201_205 : jm_code 201 205 = some (.iaload, 1) := by decide +kernel
theorem c201_206 : jm_code 201 206 = some (.invokevirtual 13, 3) := by decide +kernel
theorem c201_209 : jm_code 201 209 = some (.aload_n 2, 1) := by decide +kernel
theorem c201_210 : jm_code 201 210 = some (.aload_n 0, 1) := by decide +kernel
theorem c201_211 : jm_code 201 211 = some (.iload_n 3, 1) := by decide +kernel
theorem c201_212 : jm_code 201 212 = some (.iconst 1, 1) := by decide +kernel
theorem c201_213 : jm_code 201 213 = some (.iadd, 1) := by decide +kernel
theorem c201_214 : jm_code 201 214 = some (.iaload, 1) := by decide +kernel
theorem c201_215 : jm_code 201 215 = some (.aload_n 0, 1) := by decide +kernel
theorem c201_216 : jm_code 201 216 = some (.iload_n 3, 1) := by decide +kernel
theorem c201_217 : jm_code 201 217 = some (.iconst 2, 1) := by decide +kernel
theorem c201_218 : jm_code 201 218 = some (.iadd, 1) := by decide +kernel
theorem c201_219 : jm_code 201 219 = some (.iaload, 1) := by decide +kernel
theorem c201_220 : jm_code 201 220 = some (.aload_n 0, 1) := by decide +kernel
theorem c201_221 : jm_code 201 221 = some (.iload_n 3, 1) := by decide +kernel
theorem c201_222 : jm_code 201 222 = some (.iconst 3, 1) := by decide +kernel
theorem c201_223 : jm_code 201 223 = some (.iadd, 1) := by decide +kernel
theorem c201_224 : jm_code 201 224 = some (.iaload, 1) := by decide +kernel
theorem c201_225 : jm_code 201 225 = some (.aload_n 0, 1) := by decide +kernel
theorem c201_226 : jm_code 201 226 = some (.iload_n 3, 1) := by decide +kernel
theorem c201_227 : jm_code 201 227 = some (.iconst 4, 1) := by decide +kernel
theorem c201_228 : jm_code 201 228 = some (.iadd, 1) := by decide +kernel
theorem c201_229 : jm_code 201 229 = some (.iaload, 1) := by decide +kernel
theorem c201_230 : jm_code 201 230 = some (.aload_n 0, 1) := by decide +kernel
theorem c201_231 : jm_code 201 231 = some (.iload_n 3, 1) := by decide +kernel
theorem c201_232 : jm_code 201 232 = some (.iconst 5, 1) := by decide +kernel
theorem c201_233 : jm_code 201 233 = some (.iadd, 1) := by decide +kernel
theorem c201_234 : jm_code 201 234 = some (.iaload, 1) := by decide +kernel
theorem c201_235 : jm_code 201 235 = some (.invokevirtual 17, 3) := by decide +kernel
theorem c201_238 : jm_code 201 238 = some (.if_icmp .eq 1149, 3) := by decide +kernel
theorem c201_241 : jm_code 201 241 = some (.iconst 0, 1) := by decide +kernel
theorem c201_242 : jm_code 201 242 = some (.ireturn, 1) := by decide +kernel
theorem c201_243 : jm_code 201 243 = some (.aload_n 1, 1) := by decide +kernel
theorem c201_244 : jm_code 201 244 = some (.aload_n 0, 1) := by decide +kernel
theorem c201_245 : jm_code 201 245 = some (.iload_n 3, 1) := by decide +kernel
theorem c201_246 : jm_code 201 246 = some (.iconst 1, 1) := by decide +kernel
theorem c201_247 : jm_code 201 247 = some (.iadd, 1) := by decide +kernel
theorem c201_248 : jm_code 201 248 = some (.iaload, 1) := by decide +kernel
theorem c201_249 : jm_code 201 249 = some (.aload_n 0, 1) := by decide +kernel
theorem c201_250 : jm_code 201 250 = some (.iload_n 3, 1) := by decide +kernel
theorem c201_251 : jm_code 201 251 = some (.iconst 2, 1) := by decide +kernel
theorem c201_252 : jm_code 201 252 = some (.iadd, 1) := by decide +kernel
theorem c201_253 : jm_code 201 253 = some (.iaload, 1) := by decide +kernel
theorem c201_254 : jm_code 201 254 = some (.invokevirtual 18, 3) := by decide +kernel
theorem c201_257 : jm_code 201 257 = some (.aload_n 2, 1) := by decide +kernel
theorem c201_258 : jm_code 201 258 = some (.aload_n 0, 1) := by decide +kernel
theorem c201_259 : jm_code 201 259 = some (.iload_n 3, 1) := by decide +kernel
theorem c201_260 : jm_code 201 260 = some (.iconst 1, 1) := by decide +kernel
theorem c201_261 : jm_code 201 261 = some (.iadd, 1) := by decide +kernel
theorem c201_262 : jm_code 201 262 = some (.iaload, 1) := by decide +kernel
theorem c201_263 : jm_code 201 263 = some (.aload_n 0, 1) := by decide +kernel
theorem c201_264 : jm_code 201 264 = some (.iload_n 3, 1) := by decide +kernel
theorem c201_265 : jm_code 201 265 = some (.iconst 2, 1) := by decide +kernel
theorem c201_266 : jm_code 201 266 = some (.iadd, 1) := by decide +kernel
theorem c201_267 : jm_code 201 267 = some (.iaload, 1) := by decide +kernel
theorem c201_268 : jm_code 201 268 = some (.invokevirtual 22, 3) := by decide +kernel
theorem c201_271 : jm_code 201 271 = some (.if_icmp .eq 1116, 3) := by decide +kernel
theorem c201_274 : jm_code 201 274 = some (.iconst 0, 1) := by decide +kernel
theorem c201_275 : jm_code 201 275 = some (.ireturn, 1) := by decide +kernel
theorem c201_276 : jm_code 201 276 = some (.aload_n 1, 1) := by decide +kernel
theorem c201_277 : jm_code 201 277 = some (.aload_n 0, 1) := by decide +kernel
theorem c201_278 : jm_code 201 278 = some (.iload_n 3, 1) := by decide +kernel
theorem c201_279 : jm_code 201 279 = some (.iconst 1, 1) := by decide +kernel
theorem c201_280 : jm_code 201 280 = some (.iadd, 1) := by decide +kernel
theorem c201_281 : jm_code 201 281 = some (.iaload, 1) := by decide +kernel
theorem c201_282 : jm_code 201 282 = some (.aload_n 0, 1) := by decide +kernel
theorem c201_283 : jm_code 201 283 = some (.iload_n 3, 1) := by decide +kernel
theorem c201_284 : jm_code 201 284 = some (.iconst 2, 1) := by decide +kernel
theorem c201_285 : jm_code 201 285 = some (.iadd, 1) := by decide +kernel
theorem c201_286 : jm_code 201 286 = some (.iaload, 1) := by decide +kernel
theorem c201_287 : jm_code 201 287 = some (.aload_n 0, 1) := by decide +kernel
theorem c201_288 : jm_code 201 288 = some (.iload_n 3, 1) := by decide +kernel
theorem c201_289 : jm_code 201 289 = some (.iconst 3, 1) := by decide +kernel
theorem c201_290 : jm_code 201 290 = some (.iadd, 1) := by decide +kernel
theorem c201_291 : jm_code 201 291 = some (.iaload, 1) := by decide +kernel
theorem c201_292 : jm_code 201 292 = some (.invokevirtual 23, 3) := by decide +kernel
theorem c201_295 : jm_code 201 295 = some (.aload_n 2, 1) := by decide +kernel
theorem c201_296 : jm_code 201 296 = some (.aload_n 0, 1) := by decide +kernel
theorem c201_297 : jm_code 201 297 = some (.iload_n 3, 1) := by decide +kernel
theorem c201_298 : jm_code 201 298 = some (.iconst 1, 1) := by decide +kernel
theorem c201_299 : jm_code 201 299 = some (.iadd, 1) := by decide +kernel
theorem c201_300 : jm_code 201 300 = some (.iaload, 1) := by decide +kernel
theorem c201_301 : jm_code 201 301 = some (.aload_n 0, 1) := by decide +kernel
theorem c201_302 : jm_code 201 302 = some (.iload_n 3, 1) := by decide +kernel
theorem c201_303 : jm_code 201 303 = some (.iconst 2, 1) := by decide +kernel
theorem c201_304 : jm_code 201 304 = some (.iadd, 1) := by decide +kernel
theorem c201_305 : jm_code 201 305 = some (.iaload, 1) := by decide +kernel
theorem c201_306 : jm_code 201 306 = some (.aload_n 0, 1) := by decide +kernel
theorem c201_307 : jm_code 201 307 = some (.iload_n 3, 1) := by decide +kernel
theorem c201_308 : jm_code 201 308 = some (.iconst 3, 1) := by decide +kernel
theorem c201_309 : jm_code 201 309 = some (.iadd, 1) := by decide +kernel
theorem c201_310 : jm_code 201 310 = some (.iaload, 1) := by decide +kernel
theorem c201_311 : jm_code 201 311 = some (.invokevirtual 27, 3) := by decide +kernel
theorem c201_314 : jm_code 201 314 = some (.if_icmp .eq 1073, 3) := by decide +kernel
theorem c201_317 : jm_code 201 317 = some (.iconst 0, 1) := by decide +kernel
theorem c201_318 : jm_code 201 318 = some (.ireturn, 1) := by decide +kernel
theorem c201_319 : jm_code 201 319 = some (.aload_n 1, 1) := by decide +kernel
theorem c201_320 : jm_code 201 320 = some (.invokevirtual 28, 3) := by decide +kernel
theorem c201_323 : jm_code 201 323 = some (.aload_n 2, 1) := by decide +kernel
theorem c201_324 : jm_code 201 324 = some (.invokevirtual 32, 3) := by decide +kernel
theorem c201_327 : jm_code 201 327 = some (.if_icmp .eq 1060, 3) := by decide +kernel
theorem c201_330 : jm_code 201 330 = some (.iconst 0, 1) := by decide +kernel
theorem c201_331 : jm_code 201 331 = some (.ireturn, 1) := by decide +kernel
theorem c201_332 : jm_code 201 332 = some (.aload_n 1, 1) := by decide +kernel
theorem c201_333 : jm_code 201 333 = some (.aload_n 0, 1) := by decide +kernel
theorem c201_334 : jm_code 201 334 = some (.iload_n 3, 1) := by decide +kernel
theorem c201_335 : jm_code 201 335 = some (.iconst 1, 1) := by decide +kernel
theorem c201_336 : jm_code 201 336 = some (.iadd, 1) := by decide +kernel
theorem c201_337 : jm_code 201 337 = some (.iaload, 1) := by decide +kernel
theorem c201_338 : jm_code 201 338 = some (.aload_n 0, 1) := by decide +kernel
theorem c201_339 : jm_code 201 339 = some (.iload_n 3, 1) := by decide +kernel
theorem c201_340 : jm_code 201 340 = some (.iconst 2, 1) := by decide +kernel
theorem c201_341 : jm_code 201 341 = some (.iadd, 1) := by decide +kernel
theorem c201_342 : jm_code 201 342 = some (.iaload, 1) := by decide +kernel
theorem c201_343 : jm_code 201 343 = some (.invokevirtual 33, 3) := by decide +kernel
theorem c201_346 : jm_code 201 346 = some (.aload_n 2, 1) := by decide +kernel
theorem c201_347 : jm_code 201 347 = some (.aload_n 0, 1) := by decide +kernel
theorem c201_348 : jm_code 201 348 = some (.iload_n 3, 1) := by decide +kernel
theorem c201_349 : jm_code 201 349 = some (.iconst 1, 1) := by decide +kernel
theorem c201_350 : jm_code 201 350 = some (.iadd, 1) := by decide +kernel
theorem c201_351 : jm_code 201 351 = some (.iaload, 1) := by decide +kernel
theorem c201_352 : jm_code 201 352 = some (.aload_n 0, 1) := by decide +kernel
theorem c201_353 : jm_code 201 353 = some (.iload_n 3, 1) := by decide +kernel
theorem c201_354 : jm_code 201 354 = some (.iconst 2, 1) := by decide +kernel
theorem c201_355 : jm_code 201 355 = some (.iadd, 1) := by decide +kernel
theorem c201_356 : jm_code 201 356 = some (.iaload, 1) := by decide +kernel
theorem c201_357 : jm_code 201 357 = some (.invokevirtual 36, 3) := by decide +kernel
theorem c201_360 : jm_code 201 360 = some (.if_icmp .eq 1027, 3) := by decide +kernel
theorem c201_363 : jm_code 201 363 = some (.iconst 0, 1) := by decide +kernel
theorem c201_364 : jm_code 201 364 = some (.ireturn, 1) := by decide +kernel
theorem c201_365 : jm_code 201 365 = some (.aload_n 1, 1) := by decide +kernel
theorem c201_366 : jm_code 201 366 = some (.aload_n 0, 1) := by decide +kernel
theorem c201_367 : jm_code 201 367 = some (.iload_n 3, 1) := by decide +kernel
theorem c201_368 : jm_code 201 368 = some (.iconst 1, 1) := by decide +kernel
theorem c201_369 : jm_code 201 369 = some (.iadd, 1) := by decide +kernel
theorem c201_370 : jm_code 201 370 = some (.iaload, 1) := by decide +kernel
theorem c201_371 : jm_code 201 371 = some (.aload_n 0, 1) := by decide +kernel
theorem c201_372 : jm_code 201 372 = some (.iload_n 3, 1) := by decide +kernel
theorem c201_373 : jm_code 201 373 = some (.iconst 2, 1) := by decide +kernel
theorem c201_374 : jm_code 201 374 = some (.iadd, 1) := by decide +kernel
theorem c201_375 : jm_code 201 375 = some (.iaload, 1) := by decide +kernel
theorem c201_376 : jm_code 201 376 = some (.invokevirtual 37, 3) := by decide +kernel
theorem c201_379 : jm_code 201 379 = some (.aload_n 2, 1) := by decide +kernel
theorem c201_380 : jm_code 201 380 = some (.aload_n 0, 1) := by decide +kernel
theorem c201_381 : jm_code 201 381 = some (.iload_n 3, 1) := by decide +kernel
theorem c201_382 : jm_code 201 382 = some (.iconst 1, 1) := by decide +kernel
theorem c201_383 : jm_code 201 383 = some (.iadd, 1) := by decide +kernel
theorem c201_384 : jm_code 201 384 = some (.iaload, 1) := by decide +kernel
theorem c201_385 : jm_code 201 385 = some (.aload_n 0, 1) := by decide +kernel
theorem c201_386 : jm_code 201 386 = some (.iload_n 3, 1) := by decide +kernel
theorem c201_387 : jm_code 201 387 = some (.iconst 2, 1) := by decide +kernel
theorem c201_388 : jm_code 201 388 = some (.iadd, 1) := by decide +kernel
theorem c201_389 : jm_code 201 389 = some (.iaload, 1) := by decide +kernel
theorem c201_390 : jm_code 201 390 = some (.invokevirtual 40, 3) := by decide +kernel
theorem c201_393 : jm_code 201 393 = some (.if_icmp .eq 994, 3) := by decide +kernel
theorem c201_396 : jm_code 201 396 = some (.iconst 0, 1) := by decide +kernel
theorem c201_397 : jm_code 201 397 = some (.ireturn, 1) := by decide +kernel
theorem c201_398 : jm_code 201 398 = some (.aload_n 1, 1) := by decide +kernel
theorem c201_399 : jm_code 201 399 = some (.aload_n 0, 1) := by decide +kernel
theorem c201_400 : jm_code 201 400 = some (.iload_n 3, 1) := by decide +kernel
theorem c201_401 : jm_code 201 401 = some (.iconst 1, 1) := by decide +kernel
theorem c201_402 : jm_code 201 402 = some (.iadd, 1) := by decide +kernel
theorem c201_403 : jm_code 201 403 = some (.iaload, 1) := by decide +kernel
theorem c201_404 : jm_code 201 404 = some (.invokevirtual 41, 3) := by decide +kernel
theorem c201_407 : jm_code 201 407 = some (.aload_n 2, 1) := by decide +kernel
theorem c201_408 : jm_code 201 408 = some (.aload_n 0, 1) := by decide +kernel
theorem c201_409 : jm_code 201 409 = some (.iload_n 3, 1) := by decide +kernel
theorem c201_410 : jm_code 201 410 = some (.iconst 1, 1) := by decide +kernel
theorem c201_411 : jm_code 201 411 = some (.iadd, 1) := by decide +kernel
theorem c201_412 : jm_code 201 412 = some (.iaload, 1) := by decide +kernel
theorem c201_413 : jm_code 201 413 = some (.invokevirtual 45, 3) := by decide +kernel
theorem c201_416 : jm_code 201 416 = some (.if_icmp .eq 971, 3) := by decide +kernel
theorem c201_419 : jm_code 201 419 = some (.iconst 0, 1) := by decide +kernel
theorem c201_420 : jm_code 201 420 = some (.ireturn, 1) := by decide +kernel
theorem c201_421 : jm_code 201 421 = some (.aload_n 1, 1) := by decide +kernel
theorem c201_422 : jm_code 201 422 = some (.aload_n 0, 1) := by decide +kernel
theorem c201_423 : jm_code 201 423 = some (.iload_n 3, 1) := by decide +kernel
theorem c201_424 : jm_code 201 424 = some (.iconst 1, 1) := by decide +kernel
theorem c201_425 : jm_code 201 425 = some (.iadd, 1) := by decide +kernel
theorem c201_426 : jm_code 201 426 = some (.iaload, 1) := by decide +kernel
theorem c201_427 : jm_code 201 427 = some (.invokevirtual 46, 3) := by decide +kernel
theorem c201_430 : jm_code 201 430 = some (.aload_n 2, 1) := by decide +kernel
theorem c201_431 : jm_code 201 431 = some (.aload_n 0, 1) := by decide +kernel
theorem c201_432 : jm_code 201 432 = some (.iload_n 3, 1) := by decide +kernel
theorem c201_433 : jm_code 201 433 = some (.iconst 1, 1) := by decide +kernel
theorem c201_434 : jm_code 201 434 = some (.iadd, 1) := by decide +kernel
theorem c201_435 : jm_code 201 435 = some (.iaload, 1) := by decide +kernel
theorem c201_436 : jm_code 201 436 = some (.invokevirtual 49, 3) := by decide +kernel
theorem c201_439 : jm_code 201 439 = some (.if_icmp .eq 948, 3) := by decide +kernel
theorem c201_442 : jm_code 201 442 = some (.iconst 0, 1) := by decide +kernel
theorem c201_443 : jm_code 201 443 = some (.ireturn, 1) := by decide +kernel
theorem c201_444 : jm_code 201 444 = some (.aload_n 1, 1) := by decide +kernel
theorem c201_445 : jm_code 201 445 = some (.aload_n 0, 1) := by decide +kernel
theorem c201_446 : jm_code 201 446 = some (.iload_n 3, 1) := by decide +kernel
theorem c201_447 : jm_code 201 447 = some (.iconst 1, 1) := by decide +kernel
theorem c201_448 : jm_code 201 448 = some (.iadd, 1) := by decide +kernel
theorem c201_449 : jm_code 201 449 = some (.iaload, 1) := by decide +kernel
theorem c201_450 : jm_code 201 450 = some (.aload_n 0, 1) := by decide +kernel
theorem c201_451 : jm_code 201 451 = some (.iload_n 3, 1) := by decide +kernel
theorem c201_452 : jm_code 201 452 = some (.iconst 2, 1) := by decide +kernel
theorem c201_453 : jm_code 201 453 = some (.iadd, 1) := by decide +kernel
theorem c201_454 : jm_code 201 454 = some (.iaload, 1) := by decide +kernel
theorem c201_455 : jm_code 201 455 = some (.invokevirtual 50, 3) := by decide +kernel
theorem c201_458 : jm_code 201 458 = some (.aload_n 2, 1) := by decide +kernel
theorem c201_459 : jm_code 201 459 = some (.aload_n 0, 1) := by decide +kernel
theorem c201_460 : jm_code 201 460 = some (.iload_n 3, 1) := by decide +kernel
theorem c201_461 : jm_code 201 461 = some (.iconst 1, 1) := by decide +kernel
theorem c201_462 : jm_code 201 462 = some (.iadd, 1) := by decide +kernel
theorem c201_463 : jm_code 201 463 = some (.iaload, 1) := by decide +kernel
theorem c201_464 : jm_code 201 464 = some (.aload_n 0, 1) := by decide +kernel
theorem c201_465 : jm_code 201 465 = some (.iload_n 3, 1) := by decide +kernel
theorem c201_466 : jm_code 201 466 = some (.iconst 2, 1) := by decide +kernel
theorem c201_467 : jm_code 201 467 = some (.iadd, 1) := by decide +kernel
theorem c201_468 : jm_code 201 468 = some (.iaload, 1) := by decide +kernel
theorem c201_469 : jm_code 201 469 = some (.invokevirtual 53, 3) := by decide +kernel
theorem c201_472 : jm_code 201 472 = some (.if_icmp .eq 915, 3) := by decide +kernel
theorem c201_475 : jm_code 201 475 = some (.iconst 0, 1) := by decide +kernel
theorem c201_476 : jm_code 201 476 = some (.ireturn, 1) := by decide +kernel
theorem c201_477 : jm_code 201 477 = some (.aload_n 1, 1) := by decide +kernel
theorem c201_478 : jm_code 201 478 = some (.aload_n 0, 1) := by decide +kernel
theorem c201_479 : jm_code 201 479 = some (.iload_n 3, 1) := by decide +kernel
theorem c201_480 : jm_code 201 480 = some (.iconst 1, 1) := by decide +kernel
theorem c201_481 : jm_code 201 481 = some (.iadd, 1) := by decide +kernel
theorem c201_482 : jm_code 201 482 = some (.iaload, 1) := by decide +kernel
theorem c201_483 : jm_code 201 483 = some (.aload_n 0, 1) := by decide +kernel
theorem c201_484 : jm_code 201 484 = some (.iload_n 3, 1) := by decide +kernel
theorem c201_485 : jm_code 201 485 = some (.iconst 2, 1) := by decide +kernel
theorem c201_486 : jm_code 201 486 = some (.iadd, 1) := by decide +kernel
theorem c201_487 : jm_code 201 487 = some (.iaload, 1) := by decide +kernel
theorem c201_488 : jm_code 201 488 = some (.aload_n 0, 1) := by decide +kernel
theorem c201_489 : jm_code 201 489 = some (.iload_n 3, 1) := by decide +kernel
theorem c201_490 : jm_code 201 490 = some (.iconst 3, 1) := by decide +kernel
theorem c201_491 : jm_code 201 491 = some (.iadd, 1) := by decide +kernel
theorem c201_492 : jm_code 201 492 = some (.iaload, 1) := by decide +kernel
theorem c201_493 : jm_code 201 493 = some (.invokevirtual 54, 3) := by decide +kernel
theorem c201_496 : jm_code 201 496 = some (.aload_n 2, 1) := by decide +kernel
theorem c201_497 : jm_code 201 497 = some (.aload_n 0, 1) := by decide +kernel
theorem c201_498 : jm_code 201 498 = some (.iload_n 3, 1) := by decide +kernel
theorem c201_499 : jm_code 201 499 = some (.iconst 1, 1) := by decide +kernel
theorem c201_500 : jm_code 201 500 = some (.iadd, 1) := by decide +kernel
theorem c201_501 : jm_code 201 501 = some (.iaload, 1) := by decide +kernel
theorem c201_502 : jm_code 201 502 = some (.aload_n 0, 1) := by decide +kernel
theorem c201_503 : jm_code 201 503 = some (.iload_n 3, 1) := by decide +kernel
theorem c201_504 : jm_code 201 504 = some (.iconst 2, 1) := by decide +kernel
theorem c201_505 : jm_code 201 505 = some (.iadd, 1) := by decide +kernel
theorem c201_506 : jm_code 201 506 = some (.iaload, 1) := by decide +kernel
theorem c201_507 : jm_code 201 507 = some (.aload_n 0, 1) := by decide +kernel
theorem c201_508 : jm_code 201 508 = some (.iload_n 3, 1) := by decide +kernel
theorem c201_509 : jm_code 201 509 = some (.iconst 3, 1) := by decide +kernel
theorem c201_510 : jm_code 201 510 = some (.iadd, 1) := by decide +kernel
theorem c201_511 : jm_code 201 511 = some (.iaload, 1) := by decide +kernel
theorem c201_512 : jm_code 201 512 = some (.invokevirtual 57, 3) := by decide +kernel
theorem c201_515 : jm_code 201 515 = some (.if_icmp .eq 872, 3) := by decide +kernel
theorem c201_518 : jm_code 201 518 = some (.iconst 0, 1) := by decide +kernel
theorem c201_519 : jm_code 201 519 = some (.ireturn, 1) := by decide +kernel
theorem c201_520 : jm_code 201 520 = some (.aload_n 1, 1) := by decide +kernel
theorem c201_521 : jm_code 201 521 = some (.aload_n 0, 1) := by decide +kernel
theorem c201_522 : jm_code 201 522 = some (.iload_n 3, 1) := by decide +kernel
theorem c201_523 : jm_code 201 523 = some (.iconst 1, 1) := by decide +kernel
theorem c201_524 : jm_code 201 524 = some (.iadd, 1) := by decide +kernel
theorem c201_525 : jm_code 201 525 = some (.iaload, 1) := by decide +kernel
theorem c201_526 : jm_code 201 526 = some (.aload_n 0, 1) := by decide +kernel
theorem c201_527 : jm_code 201 527 = some (.iload_n 3, 1) := by decide +kernel
theorem c201_528 : jm_code 201 528 = some (.iconst 2, 1) := by decide +kernel
theorem c201_529 : jm_code 201 529 = some (.iadd, 1) := by decide +kernel
theorem c201_530 : jm_code 201 530 = some (.iaload, 1) := by decide +kernel
theorem c201_531 : jm_code 201 531 = some (.ifCond .eq 7, 3) := by decide +kernel
theorem c201_534 : jm_code 201 534 = some (.iconst 1, 1) := by decide +kernel
theorem c201_535 : jm_code 201 535 = some (.goto 4, 3) := by decide +kernel
theorem c201_538 : jm_code 201 538 = some (.iconst 0, 1) := by decide +kernel
theorem c201_539 : jm_code 201 539 = some (.invokevirtual 58, 3) := by decide +kernel
theorem c201_542 : jm_code 201 542 = some (.aload_n 2, 1) := by decide +kernel
theorem c201_543 : jm_code 201 543 = some (.aload_n 0, 1) := by decide +kernel
theorem c201_544 : jm_code 201 544 = some (.iload_n 3, 1) := by decide +kernel
theorem c201_545 : jm_code 201 545 = some (.iconst 1, 1) := by decide +kernel
theorem c201_546 : jm_code 201 546 = some (.iadd, 1) := by decide +kernel
theorem c201_547 : jm_code 201 547 = some (.iaload, 1) := by decide +kernel
theorem c201_548 : jm_code 201 548 = some (.aload_n 0, 1) := by decide +kernel
theorem c201_549 : jm_code 201 549 = some (.iload_n 3, 1) := by decide +kernel
theorem c201_550 : jm_code 201 550 = some (.iconst 2, 1) := by decide +kernel
theorem c201_551 : jm_code 201 551 = some (.iadd, 1) := by decide +kernel
theorem c201_552 : jm_code 201 552 = some (.iaload, 1) := by decide +kernel
theorem c201_553 : jm_code 201 553 = some (.ifCond .eq 7, 3) := by decide +kernel
theorem c201_556 : jm_code 201 556 = some (.iconst 1, 1) := by decide +kernel
theorem c201_557 : jm_code 201 557 = some (.goto 4, 3) := by decide +kernel
theorem c201_560 : jm_code 201 560 = some (.iconst 0, 1) := by decide +kernel
theorem c201_561 : jm_code 201 561 = some (.invokevirtual 62, 3) := by decide +kernel
theorem c201_564 : jm_code 201 564 = some (.if_icmp .eq 823, 3) := by decide +kernel
theorem c201_567 : jm_code 201 567 = some (.iconst 0, 1) := by decide +kernel
theorem c201_568 : jm_code 201 568 = some (.ireturn, 1) := by decide +kernel
theorem c201_569 : jm_code 201 569 = some (.aload_n 1, 1) := by decide +kernel
theorem c201_570 : jm_code 201 570 = some (.aload_n 0, 1) := by decide +kernel
theorem c201_571 : jm_code 201 571 = some (.iload_n 3, 1) := by decide +kernel
theorem c201_572 : jm_code 201 572 = some (.iconst 1, 1) := by decide +kernel
theorem c201_573 : jm_code 201 573 = some (.iadd, 1) := by decide +kernel
theorem c201_574 : jm_code 201 574 = some (.iaload, 1) := by decide +kernel
theorem c201_575 : jm_code 201 575 = some (.aload_n 0, 1) := by decide +kernel
theorem c201_576 : jm_code 201 576 = some (.iload_n 3, 1) := by decide +kernel
theorem c201_577 : jm_code 201 577 = some (.iconst 2, 1) := by decide +kernel
theorem c201_578 : jm_code 201 578 = some (.iadd, 1) := by decide +kernel
theorem c201_579 : jm_code 201 579 = some (.iaload, 1) := by decide +kernel
theorem c201_580 : jm_code 201 580 = some (.invokevirtual 63, 3) := by decide +kernel
theorem c201_583 : jm_code 201 583 = some (.aload_n 2, 1) := by decide +kernel
theorem c201_584 : jm_code 201 584 = some (.aload_n 0, 1) := by decide +kernel
theorem c201_585 : jm_code 201 585 = some (.iload_n 3, 1) := by decide +kernel
theorem c201_586 : jm_code 201 586 = some (.iconst 1, 1) := by decide +kernel
theorem c201_587 : jm_code 201 587 = some (.iadd, 1) := by decide +kernel
theorem c201_588 : jm_code 201 588 = some (.iaload, 1) := by decide +kernel
theorem c201_589 : jm_code 201 589 = some (.aload_n 0, 1) := by decide +kernel
theorem c201_590 : jm_code 201 590 = some (.iload_n 3, 1) := by decide +kernel
theorem c201_591 : jm_code 201 591 = some (.iconst 2, 1) := by decide +kernel
theorem c201_592 : jm_code 201 592 = some (.iadd, 1) := by decide +kernel
theorem c201_593 : jm_code 201 593 = some (.iaload, 1) := by decide +kernel
theorem c201_594 : jm_code 201 594 = some (.invokevirtual 66, 3) := by decide +kernel
theorem c201_597 : jm_code 201 597 = some (.if_icmp .eq 790, 3) := by decide +kernel
theorem c201_600 : jm_code 201 600 = some (.iconst 0, 1) := by decide +kernel
theorem c201_601 : jm_code 201 601 = some (.ireturn, 1) := by decide +kernel
theorem c201_602 : jm_code 201 602 = some (.aload_n 1, 1) := by decide +kernel
theorem c201_603 : jm_code 201 603 = some (.invokevirtual 67, 3) := by decide +kernel
theorem c201_606 : jm_code 201 606 = some (.aload_n 2, 1) := by decide +kernel
theorem c201_607 : jm_code 201 607 = some (.invokevirtual 70, 3) := by decide +kernel
theorem c201_610 : jm_code 201 610 = some (.if_icmp .eq 777, 3) := by decide +kernel
theorem c201_613 : jm_code 201 613 = some (.iconst 0, 1) := by decide +kernel
theorem c201_614 : jm_code 201 614 = some (.ireturn, 1) := by decide +kernel
theorem c201_615 : jm_code 201 615 = some (.aload_n 1, 1) := by decide +kernel
theorem c201_616 : jm_code 201 616 = some (.aload_n 0, 1) := by decide +kernel
theorem c201_617 : jm_code 201 617 = some (.iload_n 3, 1) := by decide +kernel
theorem c201_618 : jm_code 201 618 = some (.iconst 1, 1) := by decide +kernel
theorem c201_619 : jm_code 201 619 = some (.iadd, 1) := by decide +kernel
theorem c201_620 : jm_code 201 620 = some (.iaload, 1) := by decide +kernel
theorem c201_621 : jm_code 201 621 = some (.aload_n 0, 1) := by decide +kernel
theorem c201_622 : jm_code 201 622 = some (.iload_n 3, 1) := by decide +kernel
theorem c201_623 : jm_code 201 623 = some (.iconst 2, 1) := by decide +kernel
theorem c201_624 : jm_code 201 624 = some (.iadd, 1) := by decide +kernel
theorem c201_625 : jm_code 201 625 = some (.iaload, 1) := by decide +kernel
theorem c201_626 : jm_code 201 626 = some (.invokevirtual 71, 3) := by decide +kernel
theorem c201_629 : jm_code 201 629 = some (.aload_n 2, 1) := by decide +kernel
theorem c201_630 : jm_code 201 630 = some (.aload_n 0, 1) := by decide +kernel
theorem c201_631 : jm_code 201 631 = some (.iload_n 3, 1) := by decide +kernel
theorem c201_632 : jm_code 201 632 = some (.iconst 1, 1) := by decide +kernel
theorem c201_633 : jm_code 201 633 = some (.iadd, 1) := by decide +kernel
theorem c201_634 : jm_code 201 634 = some (.iaload, 1) := by decide +kernel
theorem c201_635 : jm_code 201 635 = some (.aload_n 0, 1) := by decide +kernel
theorem c201_636 : jm_code 201 636 = some (.iload_n 3, 1) := by decide +kernel
theorem c201_637 : jm_code 201 637 = some (.iconst 2, 1) := by decide +kernel
theorem c201_638 : jm_code 201 638 = some (.iadd, 1) := by decide +kernel
theorem c201_639 : jm_code 201 639 = some (.iaload, 1) := by decide +kernel
theorem c201_640 : jm_code 201 640 = some (.invokevirtual 74, 3) := by decide +kernel
theorem c201_643 : jm_code 201 643 = some (.if_icmp .eq 744, 3) := by decide +kernel
theorem c201_646 : jm_code 201 646 = some (.iconst 0, 1) := by decide +kernel
theorem c201_647 : jm_code 201 647 = some (.ireturn, 1) := by decide +kernel
theorem c201_648 : jm_code 201 648 = some (.aload_n 1, 1) := by decide +kernel
theorem c201_649 : jm_code 201 649 = some (.aload_n 0, 1) := by decide +kernel
theorem c201_650 : jm_code 201 650 = some (.iload_n 3, 1) := by decide +kernel
theorem c201_651 : jm_code 201 651 = some (.iconst 1, 1) := by decide +kernel
theorem c201_652 : jm_code 201 652 = some (.iadd, 1) := by decide +kernel
theorem c201_653 : jm_code 201 653 = some (.iaload, 1) := by decide +kernel
theorem c201_654 : jm_code 201 654 = some (.aload_n 0, 1) := by decide +kernel
theorem c201_655 : jm_code 201 655 = some (.iload_n 3, 1) := by decide +kernel
theorem c201_656 : jm_code 201 656 = some (.iconst 2, 1) := by decide +kernel
theorem c201_657 : jm_code 201 657 = some (.iadd, 1) := by decide +kernel
theorem c201_658 : jm_code 201 658 = some (.iaload, 1) := by decide +kernel
theorem c201_659 : jm_code 201 659 = some (.invokevirtual 75, 3) := by decide +kernel
theorem c201_662 : jm_code 201 662 = some (.aload_n 2, 1) := by decide +kernel
theorem c201_663 : jm_code 201 663 = some (.aload_n 0, 1) := by decide +kernel
theorem c201_664 : jm_code 201 664 = some (.iload_n 3, 1) := by decide +kernel
theorem c201_665 : jm_code 201 665 = some (.iconst 1, 1) := by decide +kernel
theorem c201_666 : jm_code 201 666 = some (.iadd, 1) := by decide +kernel
theorem c201_667 : jm_code 201 667 = some (.iaload, 1) := by decide +kernel
theorem c201_668 : jm_code 201 668 = some (.aload_n 0, 1) := by decide +kernel
theorem c201_669 : jm_code 201 669 = some (.iload_n 3, 1) := by decide +kernel
theorem c201_670 : jm_code 201 670 = some (.iconst 2, 1) := by decide +kernel
theorem c201_671 : jm_code 201 671 = some (.iadd, 1) := by decide +kernel
theorem c201_672 : jm_code 201 672 = some (.iaload, 1) := by decide +kernel
theorem c201_673 : jm_code 201 673 = some (.invokevirtual 78, 3) := by decide +kernel
theorem c201_676 : jm_code 201 676 = some (.if_icmp .eq 711, 3) := by decide +kernel
theorem c201_679 : jm_code 201 679 = some (.iconst 0, 1) := by decide +kernel
theorem c201_680 : jm_code 201 680 = some (.ireturn, 1) := by decide +kernel
theorem c201_681 : jm_code 201 681 = some (.aload_n 1, 1) := by decide +kernel
theorem c201_682 : jm_code 201 682 = some (.aload_n 0, 1) := by decide +kernel
theorem c201_683 : jm_code 201 683 = some (.iload_n 3, 1) := by decide +kernel
theorem c201_684 : jm_code 201 684 = some (.iconst 1, 1) := by decide +kernel
theorem c201_685 : jm_code 201 685 = some (.iadd, 1) := by decide +kernel
theorem c201_686 : jm_code 201 686 = some (.iaload, 1) := by decide +kernel
theorem c201_687 : jm_code 201 687 = some (.aload_n 0, 1) := by decide +kernel
theorem c201_688 : jm_code 201 688 = some (.iload_n 3, 1) := by decide +kernel
theorem c201_689 : jm_code 201 689 = some (.iconst 2, 1) := by decide +kernel
theorem c201_690 : jm_code 201 690 = some (.iadd, 1) := by decide +kernel
theorem c201_691 : jm_code 201 691 = some (.iaload, 1) := by decide +kernel
theorem c201_692 : jm_code 201 692 = some (.invokevirtual 79, 3) := by decide +kernel
theorem c201_695 : jm_code 201 695 = some (.aload_n 2, 1) := by decide +kernel
theorem c201_696 : jm_code 201 696 = some (.aload_n 0, 1) := by decide +kernel
theorem c201_697 : jm_code 201 697 = some (.iload_n 3, 1) := by decide +kernel
theorem c201_698 : jm_code 201 698 = some (.iconst 1, 1) := by decide +kernel
theorem c201_699 : jm_code 201 699 = some (.iadd, 1) := by decide +kernel
theorem c201_700 : jm_code 201 700 = some (.iaload, 1) := by decide +kernel
theorem c201_701 : jm_code 201 701 = some (.aload_n 0, 1) := by decide +kernel
theorem c201_702 : jm_code 201 702 = some (.iload_n 3, 1) := by decide +kernel
theorem c201_703 : jm_code 201 703 = some (.iconst 2, 1) := by decide +kernel
theorem c201_704 : jm_code 201 704 = some (.iadd, 1) := by decide +kernel
theorem c201_705 : jm_code 201 705 = some (.iaload, 1) := by decide +kernel
theorem c201_706 : jm_code 201 706 = some (.invokevirtual 82, 3) := by decide +kernel
theorem c201_709 : jm_code 201 709 = some (.if_icmp .eq 678, 3) := by decide +kernel
theorem c201_712 : jm_code 201 712 = some (.iconst 0, 1) := by decide +kernel
theorem c201_713 : jm_code 201 713 = some (.ireturn, 1) := by decide +kernel
theorem c201_714 : jm_code 201 714 = some (.aload_n 1, 1) := by decide +kernel
theorem c201_715 : jm_code 201 715 = some (.aload_n 0, 1) := by decide +kernel
theorem c201_716 : jm_code 201 716 = some (.iload_n 3, 1) := by decide +kernel
theorem c201_717 : jm_code 201 717 = some (.iconst 1, 1) := by decide +kernel
theorem c201_718 : jm_code 201 718 = some (.iadd, 1) := by decide +kernel
theorem c201_719 : jm_code 201 719 = some (.iaload, 1) := by decide +kernel
theorem c201_720 : jm_code 201 720 = some (.aload_n 0, 1) := by decide +kernel
theorem c201_721 : jm_code 201 721 = some (.iload_n 3, 1) := by decide +kernel
theorem c201_722 : jm_code 201 722 = some (.iconst 2, 1) := by decide +kernel
theorem c201_723 : jm_code 201 723 = some (.iadd, 1) := by decide +kernel
theorem c201_724 : jm_code 201 724 = some (.iaload, 1) := by decide +kernel
theorem c201_725 : jm_code 201 725 = some (.invokevirtual 83, 3) := by decide +kernel
theorem c201_728 : jm_code 201 728 = some (.aload_n 2, 1) := by decide +kernel
theorem c201_729 : jm_code 201 729 = some (.aload_n 0, 1) := by decide +kernel
theorem c201_730 : jm_code 201 730 = some (.iload_n 3, 1) := by decide +kernel
theorem c201_731 : jm_code 201 731 = some (.iconst 1, 1) := by decide +kernel
theorem c201_732 : jm_code 201 732 = some (.iadd, 1) := by decide +kernel
theorem c201_733 : jm_code 201 733 = some (.iaload, 1) := by decide +kernel
theorem c201_734 : jm_code 201 734 = some (.aload_n 0, 1) := by decide +kernel
theorem c201_735 : jm_code 201 735 = some (.iload_n 3, 1) := by decide +kernel
theorem c201_736 : jm_code 201 736 = some (.iconst 2, 1) := by decide +kernel
theorem c201_737 : jm_code 201 737 = some (.iadd, 1) := by decide +kernel
theorem c201_738 : jm_code 201 738 = some (.iaload, 1) := by decide +kernel
theorem c201_739 : jm_code 201 739 = some (.invokevirtual 86, 3) := by decide +kernel
theorem c201_742 : jm_code 201 742 = some (.if_icmp .eq 645, 3) := by decide +kernel
theorem c201_745 : jm_code 201 745 = some (.iconst 0, 1) := by decide +kernel
theorem c201_746 : jm_code 201 746 = some (.ireturn, 1) := by decide +kernel
theorem c201_747 : jm_code 201 747 = some (.aload_n 1, 1) := by decide +kernel
theorem c201_748 : jm_code 201 748 = some (.aload_n 0, 1) := by decide +kernel
theorem c201_749 : jm_code 201 749 = some (.iload_n 3, 1) := by decide +kernel
theorem c201_750 : jm_code 201 750 = some (.iconst 1, 1) := by decide +kernel
theorem c201_751 : jm_code 201 751 = some (.iadd, 1) := by decide +kernel
theorem c201_752 : jm_code 201 752 = some (.iaload, 1) := by decide +kernel
theorem c201_753 : jm_code 201 753 = some (.invokevirtual 87, 3) := by decide +kernel
theorem c201_756 : jm_code 201 756 = some (.aload_n 2, 1) := by decide +kernel
theorem c201_757 : jm_code 201 757 = some (.aload_n 0, 1) := by decide +kernel
theorem c201_758 : jm_code 201 758 = some (.iload_n 3, 1) := by decide +kernel
theorem c201_759 : jm_code 201 759 = some (.iconst 1, 1) := by decide +kernel
theorem c201_760 : jm_code 201 760 = some (.iadd, 1) := by decide +kernel
theorem c201_761 : jm_code 201 761 = some (.iaload, 1) := by decide +kernel
theorem c201_762 : jm_code 201 762 = some (.invokevirtual 90, 3) := by decide +kernel
theorem c201_765 : jm_code 201 765 = some (.if_icmp .eq 622, 3) := by decide +kernel
theorem c201_768 : jm_code 201 768 = some (.iconst 0, 1) := by decide +kernel
theorem c201_769 : jm_code 201 769 = some (.ireturn, 1) := by decide +kernel
theorem c201_770 : jm_code 201 770 = some (.aload_n 1, 1) := by decide +kernel
theorem c201_771 : jm_code 201 771 = some (.aload_n 0, 1) := by decide +kernel
theorem c201_772 : jm_code 201 772 = some (.iload_n 3, 1) := by decide +kernel
theorem c201_773 : jm_code 201 773 = some (.iconst 1, 1) := by decide +kernel
theorem c201_774 : jm_code 201 774 = some (.iadd, 1) := by decide +kernel
theorem c201_775 : jm_code 201 775 = some (.iaload, 1) := by decide +kernel
theorem c201_776 : jm_code 201 776 = some (.aload_n 0, 1) := by decide +kernel
theorem c201_777 : jm_code 201 777 = some (.iload_n 3, 1) := by decide +kernel
theorem c201_778 : jm_code 201 778 = some (.iconst 2, 1) := by decide +kernel
theorem c201_779 : jm_code 201 779 = some (.iadd, 1) := by decide +kernel
theorem c201_780 : jm_code 201 780 = some (.iaload, 1) := by decide +kernel
theorem c201_781 : jm_code 201 781 = some (.aload_n 0, 1) := by decide +kernel
theorem c201_782 : jm_code 201 782 = some (.iload_n 3, 1) := by decide +kernel
theorem c201_783 : jm_code 201 783 = some (.iconst 3, 1) := by decide +kernel
theorem c201_784 : jm_code 201 784 = some (.iadd, 1) := by decide +kernel
theorem c201_785 : jm_code 201 785 = some (.iaload, 1) := by decide +kernel
theorem c201_786 : jm_code 201 786 = some (.invokevirtual 91, 3) := by decide +kernel
theorem c201_789 : jm_code 201 789 = some (.aload_n 2, 1) := by decide +kernel
theorem c201_790 : jm_code 201 790 = some (.aload_n 0, 1) := by decide +kernel
theorem c201_791 : jm_code 201 791 = some (.iload_n 3, 1) := by decide +kernel
theorem c201_792 : jm_code 201 792 = some (.iconst 1, 1) := by decide +kernel
theorem c201_793 : jm_code 201 793 = some (.iadd, 1) := by decide +kernel
theorem c201_794 : jm_code 201 794 = some (.iaload, 1) := by decide +kernel
theorem c201_795 : jm_code 201 795 = some (.aload_n 0, 1) := by decide +kernel
theorem c201_796 : jm_code 201 796 = some (.iload_n 3, 1) := by decide +kernel
theorem c201_797 : jm_code 201 797 = some (.iconst 2, 1) := by decide +kernel
theorem c201_798 : jm_code 201 798 = some (.iadd, 1) := by decide +kernel
theorem c201_799 : jm_code 201 799 = some (.iaload, 1) := by decide +kernel
theorem c201_800 : jm_code 201 800 = some (.aload_n 0, 1) := by decide +kernel
theorem c201_801 : jm_code 201 801 = some (.iload_n 3, 1) := by decide +kernel
theorem c201_802 : jm_code 201 802 = some (.iconst 3, 1) := by decide +kernel
theorem c201_803 : jm_code 201 803 = some (.iadd, 1) := by decide +kernel
theorem c201_804 : jm_code 201 804 = some (.iaload, 1) := by decide +kernel
theorem c201_805 : jm_code 201 805 = some (.invokevirtual 94, 3) := by decide +kernel
theorem c201_808 : jm_code 201 808 = some (.if_icmp .eq 579, 3) := by decide +kernel
theorem c201_811 : jm_code 201 811 = some (.iconst 0, 1) := by decide +kernel
theorem c201_812 : jm_code 201 812 = some (.ireturn, 1) := by decide +kernel
theorem c201_813 : jm_code 201 813 = some (.aload_n 1, 1) := by decide +kernel
theorem c201_814 : jm_code 201 814 = some (.aload_n 0, 1) := by decide +kernel
theorem c201_815 : jm_code 201 815 = some (.iload_n 3, 1) := by decide +kernel
theorem c201_816 : jm_code 201 816 = some (.iconst 1, 1) := by decide +kernel
theorem c201_817 : jm_code 201 817 = some (.iadd, 1) := by decide +kernel
theorem c201_818 : jm_code 201 818 = some (.iaload, 1) := by decide +kernel
theorem c201_819 : jm_code 201 819 = some (.aload_n 0, 1) := by decide +kernel
theorem c201_820 : jm_code 201 820 = some (.iload_n 3, 1) := by decide +kernel
theorem c201_821 : jm_code 201 821 = some (.iconst 2, 1) := by decide +kernel
theorem c201_822 : jm_code 201 822 = some (.iadd, 1) := by decide +kernel
theorem c201_823 : jm_code 201 823 = some (.iaload, 1) := by decide +kernel
theorem c201_824 : jm_code 201 824 = some (.aload_n 0, 1) := by decide +kernel
theorem c201_825 : jm_code 201 825 = some (.iload_n 3, 1) := by decide +kernel
theorem c201_826 : jm_code 201 826 = some (.iconst 3, 1) := by decide +kernel
theorem c201_827 : jm_code 201 827 = some (.iadd, 1) := by decide +kernel
theorem c201_828 : jm_code 201 828 = some (.iaload, 1) := by decide +kernel
theorem c201_829 : jm_code 201 829 = some (.invokevirtual 95, 3) := by decide +kernel
theorem c201_832 : jm_code 201 832 = some (.aload_n 2, 1) := by decide +kernel
theorem c201_833 : jm_code 201 833 = some (.aload_n 0, 1) := by decide +kernel
theorem c201_834 : jm_code 201 834 = some (.iload_n 3, 1) := by decide +kernel
theorem c201_835 : jm_code 201 835 = some (.iconst 1, 1) := by decide +kernel
theorem c201_836 : jm_code 201 836 = some (.iadd, 1) := by decide +kernel
theorem c201_837 : jm_code 201 837 = some (.iaload, 1) := by decide +kernel
theorem c201_838 : jm_code 201 838 = some (.aload_n 0, 1) := by decide +kernel
theorem c201_839 : jm_code 201 839 = some (.iload_n 3, 1) := by decide +kernel
theorem c201_840 : jm_code 201 840 = some (.iconst 2, 1) := by decide +kernel
theorem c201_841 : jm_code 201 841 = some (.iadd, 1) := by decide +kernel
theorem c201_842 : jm_code 201 842 = some (.iaload, 1) := by decide +kernel
theorem c201_843 : jm_code 201 843 = some (.aload_n 0, 1) := by decide +kernel
theorem c201_844 : jm_code 201 844 = some (.iload_n 3, 1) := by decide +kernel
theorem c201_845 : jm_code 201 845 = some (.iconst 3, 1) := by decide +kernel
theorem c201_846 : jm_code 201 846 = some (.iadd, 1) := by decide +kernel
theorem c201_847 : jm_code 201 847 = some (.iaload, 1) := by decide +kernel
theorem c201_848 : jm_code 201 848 = some (.invokevirtual 98, 3) := by decide +kernel
theorem c201_851 : jm_code 201 851 = some (.if_icmp .eq 536, 3) := by decide +kernel
theorem c201_854 : jm_code 201 854 = some (.iconst 0, 1) := by decide +kernel
theorem c201_855 : jm_code 201 855 = some (.ireturn, 1) := by decide +kernel
theorem c201_856 : jm_code 201 856 = some (.aload_n 1, 1) := by decide +kernel
theorem c201_857 : jm_code 201 857 = some (.aload_n 0, 1) := by decide +kernel
theorem c201_858 : jm_code 201 858 = some (.iload_n 3, 1) := by decide +kernel
theorem c201_859 : jm_code 201 859 = some (.iconst 1, 1) := by decide +kernel
theorem c201_860 : jm_code 201 860 = some (.iadd, 1) := by decide +kernel
theorem c201_861 : jm_code 201 861 = some (.iaload, 1) := by decide +kernel
theorem c201_862 : jm_code 201 862 = some (.aload_n 0, 1) := by decide +kernel
theorem c201_863 : jm_code 201 863 = some (.iload_n 3, 1) := by decide +kernel
theorem c201_864 : jm_code 201 864 = some (.iconst 2, 1) := by decide +kernel
theorem c201_865 : jm_code 201 865 = some (.iadd, 1) := by decide +kernel
theorem c201_866 : jm_code 201 866 = some (.iaload, 1) := by decide +kernel
theorem c201_867 : jm_code 201 867 = some (.aload_n 0, 1) := by decide +kernel
theorem c201_868 : jm_code 201 868 = some (.iload_n 3, 1) := by decide +kernel
theorem c201_869 : jm_code 201 869 = some (.iconst 3, 1) := by decide +kernel
theorem c201_870 : jm_code 201 870 = some (.iadd, 1) := by decide +kernel
theorem c201_871 : jm_code 201 871 = some (.iaload, 1) := by decide +kernel
theorem c201_872 : jm_code 201 872 = some (.aload_n 0, 1) := by decide +kernel
theorem c201_873 : jm_code 201 873 = some (.iload_n 3, 1) := by decide +kernel
theorem c201_874 : jm_code 201 874 = some (.iconst 4, 1) := by decide +kernel
theorem c201_875 : jm_code 201 875 = some (.iadd, 1) := by decide +kernel
theorem c201_876 : jm_code 201 876 = some (.iaload, 1) := by decide +kernel
theorem c201_877 : jm_code 201 877 = some (.invokevirtual 99, 3) := by decide +kernel
theorem c201_880 : jm_code 201 880 = some (.aload_n 2, 1) := by decide +kernel
theorem c201_881 : jm_code 201 881 = some (.aload_n 0, 1) := by decide +kernel
theorem c201_882 : jm_code 201 882 = some (.iload_n 3, 1) := by decide +kernel
theorem c201_883 : jm_code 201 883 = some (.iconst 1, 1) := by decide +kernel
theorem c201_884 : jm_code 201 884 = some (.iadd, 1) := by decide +kernel
theorem c201_885 : jm_code 201 885 = some (.iaload, 1) := by decide +kernel
theorem c201_886 : jm_code 201 886 = some (.aload_n 0, 1) := by decide +kernel
theorem c201_887 : jm_code 201 887 = some (.iload_n 3, 1) := by decide +kernel
theorem c201_888 : jm_code 201 888 = some (.iconst 2, 1) := by decide +kernel
theorem c201_889 : jm_code 201 889 = some (.iadd, 1) := by decide +kernel
theorem c201_890 : jm_code 201 890 = some (.iaload, 1) := by decide +kernel
theorem c201_891 : jm_code 201 891 = some (.aload_n 0, 1) := by decide +kernel
theorem c201_892 : jm_code 201 892 = some (.iload_n 3, 1) := by decide +kernel
theorem c201_893 : jm_code 201 893 = some (.iconst 3, 1) := by decide +kernel
theorem c201_894 : jm_code 201 894 = some (.iadd, 1) := by decide +kernel
theorem c201_895 : jm_code 201 895 = some (.iaload, 1) := by decide +kernel
theorem c201_896 : jm_code 201 896 = some (.aload_n 0, 1) := by decide +kernel
theorem c201_897 : jm_code 201 897 = some (.iload_n 3, 1) := by decide +kernel
theorem c201_898 : jm_code 201 898 = some (.iconst 4, 1) := by decide +kernel
theorem c201_899 : jm_code 201 899 = some (.iadd, 1) := by decide +kernel
theorem c201_900 : jm_code 201 900 = some (.iaload, 1) := by decide +kernel
theorem c201_901 : jm_code 201 901 = some (.invokevirtual 103, 3) := by decide +kernel
theorem c201_904 : jm_code 201 904 = some (.if_icmp .eq 483, 3) := by decide +kernel
theorem c201_907 : jm_code 201 907 = some (.iconst 0, 1) := by decide +kernel
theorem c201_908 : jm_code 201 908 = some (.ireturn, 1) := by decide +kernel
theorem c201_909 : jm_code 201 909 = some (.aload_n 1, 1) := by decide +kernel
theorem c201_910 : jm_code 201 910 = some (.aload_n 0, 1) := by decide +kernel
theorem c201_911 : jm_code 201 911 = some (.iload_n 3, 1) := by decide +kernel
theorem c201_912 : jm_code 201 912 = some (.iconst 1, 1) := by decide +kernel
theorem c201_913 : jm_code 201 913 = some (.iadd, 1) := by decide +kernel
theorem c201_914 : jm_code 201 914 = some (.iaload, 1) := by decide +kernel
theorem c201_915 : jm_code 201 915 = some (.aload_n 0, 1) := by decide +kernel
theorem c201_916 : jm_code 201 916 = some (.iload_n 3, 1) := by decide +kernel
theorem c201_917 : jm_code 201 917 = some (.iconst 2, 1) := by decide +kernel
theorem c201_918 : jm_code 201 918 = some (.iadd, 1) := by decide +kernel
theorem c201_919 : jm_code 201 919 = some (.iaload, 1) := by decide +kernel
theorem c201_920 : jm_code 201 920 = some (.aload_n 0, 1) := by decide +kernel
theorem c201_921 : jm_code 201 921 = some (.iload_n 3, 1) := by decide +kernel
theorem c201_922 : jm_code 201 922 = some (.iconst 3, 1) := by decide +kernel
theorem c201_923 : jm_code 201 923 = some (.iadd, 1) := by decide +kernel
theorem c201_924 : jm_code 201 924 = some (.iaload, 1) := by decide +kernel
theorem c201_925 : jm_code 201 925 = some (.aload_n 0, 1) := by decide +kernel
theorem c201_926 : jm_code 201 926 = some (.iload_n 3, 1) := by decide +kernel
theorem c201_927 : jm_code 201 927 = some (.iconst 4, 1) := by decide +kernel
theorem c201_928 : jm_code 201 928 = some (.iadd, 1) := by decide +kernel
theorem c201_929 : jm_code 201 929 = some (.iaload, 1) := by decide +kernel
theorem c201_930 : jm_code 201 930 = some (.aload_n 0, 1) := by decide +kernel
theorem c201_931 : jm_code 201 931 = some (.iload_n 3, 1) := by decide +kernel
theorem c201_932 : jm_code 201 932 = some (.iconst 5, 1) := by decide +kernel
theorem c201_933 : jm_code 201 933 = some (.iadd, 1) := by decide +kernel
theorem c201_934 : jm_code 201 934 = some (.iaload, 1) := by decide +kernel
theorem c201_935 : jm_code 201 935 = some (.invokevirtual 104, 3) := by decide +kernel
theorem c201_938 : jm_code 201 938 = some (.aload_n 2, 1) := by decide +kernel
theorem c201_939 : jm_code 201 939 = some (.aload_n 0, 1) := by decide +kernel
theorem c201_940 : jm_code 201 940 = some (.iload_n 3, 1) := by decide +kernel
theorem c201_941 : jm_code 201 941 = some (.iconst 1, 1) := by decide +kernel
theorem c201_942 : jm_code 201 942 = some (.iadd, 1) := by decide +kernel
theorem c201_943 : jm_code 201 943 = some (.iaload, 1) := by decide +kernel
theorem c201_944 : jm_code 201 944 = some (.aload_n 0, 1) := by decide +kernel
theorem c201_945 : jm_code 201 945 = some (.iload_n 3, 1) := by decide +kernel
theorem c201_946 : jm_code 201 946 = some (.iconst 2, 1) := by decide +kernel
theorem c201_947 : jm_code 201 947 = some (.iadd, 1) := by decide +kernel
theorem c201_948 : jm_code 201 948 = some (.iaload, 1) := by decide +kernel
theorem c201_949 : jm_code 201 949 = some (.aload_n 0, 1) := by decide +kernel
theorem c201_950 : jm_code 201 950 = some (.iload_n 3, 1) := by decide +kernel
theorem c201_951 : jm_code 201 951 = some (.iconst 3, 1) := by decide +kernel
theorem c201_952 : jm_code 201 952 = some (.iadd, 1) := by decide +kernel
theorem c201_953 : jm_code 201 953 = some (.iaload, 1) := by decide +kernel
theorem c201_954 : jm_code 201 954 = some (.aload_n 0, 1) := by decide +kernel
theorem c201_955 : jm_code 201 955 = some (.iload_n 3, 1) := by decide +kernel
theorem c201_956 : jm_code 201 956 = some (.iconst 4, 1) := by decide +kernel
theorem c201_957 : jm_code 201 957 = some (.iadd, 1) := by decide +kernel
theorem c201_958 : jm_code 201 958 = some (.iaload, 1) := by decide +kernel
theorem c201_959 : jm_code 201 959 = some (.aload_n 0, 1) := by decide +kernel
theorem c201_960 : jm_code 201 960 = some (.iload_n 3, 1) := by decide +kernel
theorem c201_961 : jm_code 201 961 = some (.iconst 5, 1) := by decide +kernel
theorem c201_962 : jm_code 201 962 = some (.iadd, 1) := by decide +kernel
theorem c201_963 : jm_code 201 963 = some (.iaload, 1) := by decide +kernel
theorem c201_964 : jm_code 201 964 = some (.invokevirtual 108, 3) := by decide +kernel
theorem c201_967 : jm_code 201 967 = some (.lcmp, 1) := by decide +kernel
theorem c201_968 : jm_code 201 968 = some (.ifCond .eq 419, 3) := by decide +kernel
theorem c201_971 : jm_code 201 971 = some (.iconst 0, 1) := by decide +kernel
theorem c201_972 : jm_code 201 972 = some (.ireturn, 1) := by decide +kernel
theorem c201_973 : jm_code 201 973 = some (.aload_n 1, 1) := by decide +kernel
theorem c201_974 : jm_code 201 974 = some (.aload_n 0, 1) := by decide +kernel
theorem c201_975 : jm_code 201 975 = some (.iload_n 3, 1) := by decide +kernel
theorem c201_976 : jm_code 201 976 = some (.iconst 1, 1) := by decide +kernel
theorem c201_977 : jm_code 201 977 = some (.iadd, 1) := by decide +kernel
theorem c201_978 : jm_code 201 978 = some (.iaload, 1) := by decide +kernel
theorem c201_979 : jm_code 201 979 = some (.aload_n 0, 1) := by decide +kernel
theorem c201_980 : jm_code 201 980 = some (.iload_n 3, 1) := by decide +kernel
theorem c201_981 : jm_code 201 981 = some (.iconst 2, 1) := by decide +kernel
theorem c201_982 : jm_code 201 982 = some (.iadd, 1) := by decide +kernel
theorem c201_983 : jm_code 201 983 = some (.iaload, 1) := by decide +kernel
theorem c201_984 : jm_code 201 984 = some (.aload_n 0, 1) := by decide +kernel
theorem c201_985 : jm_code 201 985 = some (.iload_n 3, 1) := by decide +kernel
theorem c201_986 : jm_code 201 986 = some (.iconst 3, 1) := by decide +kernel
theorem c201_987 : jm_code 201 987 = some (.iadd, 1) := by decide +kernel
theorem c201_988 : jm_code 201 988 = some (.iaload, 1) := by decide +kernel
theorem c201_989 : jm_code 201 989 = some (.aload_n 0, 1) := by decide +kernel
theorem c201_990 : jm_code 201 990 = some (.iload_n 3, 1) := by decide +kernel
theorem c201_991 : jm_code 201 991 = some (.iconst 4, 1) := by decide +kernel
theorem c201_992 : jm_code 201 992 = some (.iadd, 1) := by decide +kernel
theorem c201_993 : jm_code 201 993 = some (.iaload, 1) := by decide +kernel
theorem c201_994 : jm_code 201 994 = some (.aload_n 0, 1) := by decide +kernel
theorem c201_995 : jm_code 201 995 = some (.iload_n 3, 1) := by decide +kernel
theorem c201_996 : jm_code 201 996 = some (.iconst 5, 1) := by decide +kernel
theorem c201_997 : jm_code 201 997 = some (.iadd, 1) := by decide +kernel
theorem c201_998 : jm_code 201 998 = some (.iaload, 1) := by decide +kernel
theorem c201_999 : jm_code 201 999 = some (.invokevirtual 109, 3) := by decide +kernel
theorem c201_1002 : jm_code 201 1002 = some (.aload_n 2, 1) := by decide +kernel
theorem c201_1003 : jm_code 201 1003 = some (.aload_n 0, 1) := by decide +kernel
theorem c201_1004 : jm_code 201 1004 = some (.iload_n 3, 1) := by decide +kernel
theorem c201_1005 : jm_code 201 1005 = some (.iconst 1, 1) := by decide +kernel
theorem c201_1006 : jm_code 201 1006 = some (.iadd, 1) := by decide +kernel
theorem c201_1007 : jm_code 201 1007 = some (.iaload, 1) := by decide +kernel
theorem c201_1008 : jm_code 201 1008 = some (.aload_n 0, 1) := by decide +kernel
theorem c201_1009 : jm_code 201 1009 = some (.iload_n 3, 1) := by decide +kernel
theorem c201_1010 : jm_code 201 1010 = some (.iconst 2, 1) := by decide +kernel
theorem c201_1011 : jm_code 201 1011 = some (.iadd, 1) := by decide +kernel
theorem c201_1012 : jm_code 201 1012 = some (.iaload, 1) := by decide +kernel
theorem c201_1013 : jm_code 201 1013 = some (.aload_n 0, 1) := by decide +kernel
theorem c201_1014 : jm_code 201 1014 = some (.iload_n 3, 1) := by decide +kernel
theorem c201_1015 : jm_code 201 1015 = some (.iconst 3, 1) := by decide +kernel
theorem c201_1016 : jm_code 201 1016 = some (.iadd, 1) := by decide +kernel
theorem c201_1017 : jm_code 201 1017 = some (.iaload, 1) := by decide +kernel
theorem c201_1018 : jm_code 201 1018 = some (.aload_n 0, 1) := by decide +kernel
theorem c201_1019 : jm_code 201 1019 = some (.iload_n 3, 1) := by decide +kernel
theorem c201_1020 : jm_code 201 1020 = some (.iconst 4, 1) := by decide +kernel
theorem c201_1021 : jm_code 201 1021 = some (.iadd, 1) := by decide +kernel
theorem c201_1022 : jm_code 201 1022 = some (.iaload, 1) := by decide +kernel
theorem c201_1023 : jm_code 201 1023 = some (.aload_n 0, 1) := by decide +kernel
theorem c201_1024 : jm_code 201 1024 = some (.iload_n 3, 1) := by decide +kernel
theorem c201_1025 : jm_code 201 1025 = some (.iconst 5, 1) := by decide +kernel
theorem c201_1026 : jm_code 201 1026 = some (.iadd, 1) := by decide +kernel
theorem c201_1027 : jm_code 201 1027 = some (.iaload, 1) := by decide +kernel
theorem c201_1028 : jm_code 201 1028 = some (.invokevirtual 112, 3) := by decide +kernel
theorem c201_1031 : jm_code 201 1031 = some (.if_icmp .eq 356, 3) := by decide +kernel
theorem c201_1034 : jm_code 201 1034 = some (.iconst 0, 1) := by decide +kernel
theorem c201_1035 : jm_code 201 1035 = some (.ireturn, 1) := by decide +kernel
theorem c201_1036 : jm_code 201 1036 = some (.aload_n 1, 1) := by decide +kernel
theorem c201_1037 : jm_code 201 1037 = some (.aload_n 0, 1) := by decide +kernel
theorem c201_1038 : jm_code 201 1038 = some (.iload_n 3, 1) := by decide +kernel
theorem c201_1039 : jm_code 201 1039 = some (.iconst 1, 1) := by decide +kernel
theorem c201_1040 : jm_code 201 1040 = some (.iadd, 1) := by decide +kernel
theorem c201_1041 : jm_code 201 1041 = some (.iaload, 1) := by decide +kernel
theorem c201_1042 : jm_code 201 1042 = some (.aload_n 0, 1) := by decide +kernel
theorem c201_1043 : jm_code 201 1043 = some (.iload_n 3, 1) := by decide +kernel
theorem c201_1044 : jm_code 201 1044 = some (.iconst 2, 1) := by decide +kernel
theorem c201_1045 : jm_code 201 1045 = some (.iadd, 1) := by decide +kernel
theorem c201_1046 : jm_code 201 1046 = some (.iaload, 1) := by decide +kernel
theorem c201_1047 : jm_code 201 1047 = some (.invokevirtual 113, 3) := by decide +kernel
theorem c201_1050 : jm_code 201 1050 = some (.aload_n 2, 1) := by decide +kernel
theorem c201_1051 : jm_code 201 1051 = some (.aload_n 0, 1) := by decide +kernel
theorem c201_1052 : jm_code 201 1052 = some (.iload_n 3, 1) := by decide +kernel
theorem c201_1053 : jm_code 201 1053 = some (.iconst 1, 1) := by decide +kernel
theorem c201_1054 : jm_code 201 1054 = some (.iadd, 1) := by decide +kernel
theorem c201_1055 : jm_code 201 1055 = some (.iaload, 1) := by decide +kernel
theorem c201_1056 : jm_code 201 1056 = some (.aload_n 0, 1) := by decide +kernel
theorem c201_1057 : jm_code 201 1057 = some (.iload_n 3, 1) := by decide +kernel
theorem c201_1058 : jm_code 201 1058 = some (.iconst 2, 1) := by decide +kernel
theorem c201_1059 : jm_code 201 1059 = some (.iadd, 1) := by decide +kernel
theorem c201_1060 : jm_code 201 1060 = some (.iaload, 1) := by decide +kernel
theorem c201_1061 : jm_code 201 1061 = some (.invokevirtual 116, 3) := by decide +kernel
theorem c201_1064 : jm_code 201 1064 = some (.if_icmp .eq 323, 3) := by decide +kernel
theorem c201_1067 : jm_code 201 1067 = some (.iconst 0, 1) := by decide +kernel
theorem c201_1068 : jm_code 201 1068 = some (.ireturn, 1) := by decide +kernel
theorem c201_1069 : jm_code 201 1069 = some (.aload_n 1, 1) := by decide +kernel
theorem c201_1070 : jm_code 201 1070 = some (.aload_n 0, 1) := by decide +kernel
theorem c201_1071 : jm_code 201 1071 = some (.iload_n 3, 1) := by decide +kernel
theorem c201_1072 : jm_code 201 1072 = some (.iconst 1, 1) := by decide +kernel
theorem c201_1073 : jm_code 201 1073 = some (.iadd, 1) := by decide +kernel
theorem c201_1074 : jm_code 201 1074 = some (.iaload, 1) := by decide +kernel
theorem c201_1075 : jm_code 201 1075 = some (.invokevirtual 117, 3) := by decide +kernel
theorem c201_1078 : jm_code 201 1078 = some (.aload_n 2, 1) := by decide +kernel
theorem c201_1079 : jm_code 201 1079 = some (.aload_n 0, 1) := by decide +kernel
theorem c201_1080 : jm_code 201 1080 = some (.iload_n 3, 1) := by decide +kernel
theorem c201_1081 : jm_code 201 1081 = some (.iconst 1, 1) := by decide +kernel
theorem c201_1082 : jm_code 201 1082 = some (.iadd, 1) := by decide +kernel
theorem c201_1083 : jm_code 201 1083 = some (.iaload, 1) := by decide +kernel
theorem c201_1084 : jm_code 201 1084 = some (.invokevirtual 120, 3) := by decide +kernel
theorem c201_1087 : jm_code 201 1087 = some (.if_icmp .eq 300, 3) := by decide +kernel
theorem c201_1090 : jm_code 201 1090 = some (.iconst 0, 1) := by decide +kernel
theorem c201_1091 : jm_code 201 1091 = some (.ireturn, 1) := by decide +kernel
theorem c201_1092 : jm_code 201 1092 = some (.aload_n 1, 1) := by decide +kernel
theorem c201_1093 : jm_code 201 1093 = some (.aload_n 0, 1) := by decide +kernel
theorem c201_1094 : jm_code 201 1094 = some (.iload_n 3, 1) := by decide +kernel
theorem c201_1095 : jm_code 201 1095 = some (.iconst 1, 1) := by decide +kernel
theorem c201_1096 : jm_code 201 1096 = some (.iadd, 1) := by decide +kernel
theorem c201_1097 : jm_code 201 1097 = some (.iaload, 1) := by decide +kernel
theorem c201_1098 : jm_code 201 1098 = some (.aload_n 0, 1) := by decide +kernel
theorem c201_1099 : jm_code 201 1099 = some (.iload_n 3, 1) := by decide +kernel
theorem c201_1100 : jm_code 201 1100 = some (.iconst 2, 1) := by decide +kernel
theorem c201_1101 : jm_code 201 1101 = some (.iadd, 1) := by decide +kernel
theorem c201_1102 : jm_code 201 1102 = some (.iaload, 1) := by decide +kernel
theorem c201_1103 : jm_code 201 1103 = some (.aload_n 0, 1) := by decide +kernel
theorem c201_1104 : jm_code 201 1104 = some (.iload_n 3, 1) := by decide +kernel
theorem c201_1105 : jm_code 201 1105 = some (.iconst 3, 1) := by decide +kernel
theorem c201_1106 : jm_code 201 1106 = some (.iadd, 1) := by decide +kernel
theorem c201_1107 : jm_code 201 1107 = some (.iaload, 1) := by decide +kernel
theorem c201_1108 : jm_code 201 1108 = some (.invokevirtual 121, 3) := by decide +kernel
theorem c201_1111 : jm_code 201 1111 = some (.aload_n 2, 1) := by decide +kernel
theorem c201_1112 : jm_code 201 1112 = some (.aload_n 0, 1) := by decide +kernel
theorem c201_1113 : jm_code 201 1113 = some (.iload_n 3, 1) := by decide +kernel
theorem c201_1114 : jm_code 201 1114 = some (.iconst 1, 1) := by decide +kernel
theorem c201_1115 : jm_code 201 1115 = some (.iadd, 1) := by decide +kernel
theorem c201_1116 : jm_code 201 1116 = some (.iaload, 1) := by decide +kernel
theorem c201_1117 : jm_code 201 1117 = some (.aload_n 0, 1) := by decide +kernel
theorem c201_1118 : jm_code 201 1118 = some (.iload_n 3, 1) := by decide +kernel
theorem c201_1119 : jm_code 201 1119 = some (.iconst 2, 1) := by decide +kernel
theorem c201_1120 : jm_code 201 1120 = some (.iadd, 1) := by decide +kernel
theorem c201_1121 : jm_code 201 1121 = some (.iaload, 1) := by decide +kernel
theorem c201_1122 : jm_code 201 1122 = some (.aload_n 0, 1) := by decide +kernel
theorem c201_1123 : jm_code 201 1123 = some (.iload_n 3, 1) := by decide +kernel
theorem c201_1124 : jm_code 201 1124 = some (.iconst 3, 1) := by decide +kernel
theorem c201_1125 : jm_code 201 1125 = some (.iadd, 1) := by decide +kernel
theorem c201_1126 : jm_code 201 1126 = some (.iaload, 1) := by decide +kernel
theorem c201_1127 : jm_code 201 1127 = some (.invokevirtual 124, 3) := by decide +kernel
theorem c201_1130 : jm_code 201 1130 = some (.if_icmp .eq 257, 3) := by decide +kernel
theorem c201_1133 : jm_code 201 1133 = some (.iconst 0, 1) := by decide +kernel
theorem c201_1134 : jm_code 201 1134 = some (.ireturn, 1) := by decide +kernel
theorem c201_1135 : jm_code 201 1135 = some (.aload_n 1, 1) := by decide +kernel
theorem c201_1136 : jm_code 201 1136 = some (.aload_n 0, 1) := by decide +kernel
theorem c201_1137 : jm_code 201 1137 = some (.iload_n 3, 1) := by decide +kernel
theorem c201_1138 : jm_code 201 1138 = some (.iconst 1, 1) := by decide +kernel
theorem c201_1139 : jm_code 201 1139 = some (.iadd, 1) := by decide +kernel
theorem c201_1140 : jm_code 201 1140 = some (.iaload, 1) := by decide +kernel
theorem c201_1141 : jm_code 201 1141 = some (.invokevirtual 125, 3) := by decide +kernel
theorem c201_1144 : jm_code 201 1144 = some (.aload_n 2, 1) := by decide +kernel
theorem c201_1145 : jm_code 201 1145 = some (.aload_n 0, 1) := by decide +kernel
theorem c201_1146 : jm_code 201 1146 = some (.iload_n 3, 1) := by decide +kernel
theorem c201_1147 : jm_code 201 1147 = some (.iconst 1, 1) := by decide +kernel
theorem c201_1148 : jm_code 201 1148 = some (.iadd, 1) := by decide +kernel
theorem c201_1149 : jm_code 201 1149 = some (.iaload, 1) := by decide +kernel
theorem c201_1150 : jm_code 201 1150 = some (.invokevirtual 128, 3) := by decide +kernel
theorem c201_1153 : jm_code 201 1153 = some (.if_icmp .eq 234, 3) := by decide +kernel
theorem c201_1156 : jm_code 201 1156 = some (.iconst 0, 1) := by decide +kernel
theorem c201_1157 : jm_code 201 1157 = some (.ireturn, 1) := by decide +kernel
theorem c201_1158 : jm_code 201 1158 = some (.aload_n 1, 1) := by decide +kernel
theorem c201_1159 : jm_code 201 1159 = some (.aload_n 0, 1) := by decide +kernel
theorem c201_1160 : jm_code 201 1160 = some (.iload_n 3, 1) := by decide +kernel
theorem c201_1161 : jm_code 201 1161 = some (.iconst 1, 1) := by decide +kernel
theorem c201_1162 : jm_code 201 1162 = some (.iadd, 1) := by decide +kernel
theorem c201_1163 : jm_code 201 1163 = some (.iaload, 1) := by decide +kernel
theorem c201_1164 : jm_code 201 1164 = some (.aload_n 0, 1) := by decide +kernel
theorem c201_1165 : jm_code 201 1165 = some (.iload_n 3, 1) := by decide +kernel
theorem c201_1166 : jm_code 201 1166 = some (.iconst 2, 1) := by decide +kernel
theorem c201_1167 : jm_code 201 1167 = some (.iadd, 1) := by decide +kernel
theorem c201_1168 : jm_code 201 1168 = some (.iaload, 1) := by decide +kernel
theorem c201_1169 : jm_code 201 1169 = some (.aload_n 0, 1) := by decide +kernel
theorem c201_1170 : jm_code 201 1170 = some (.iload_n 3, 1) := by decide +kernel
theorem c201_1171 : jm_code 201 1171 = some (.iconst 3, 1) := by decide +kernel
theorem c201_1172 : jm_code 201 1172 = some (.iadd, 1) := by decide +kernel
theorem c201_1173 : jm_code 201 1173 = some (.iaload, 1) := by decide +kernel
theorem c201_1174 : jm_code 201 1174 = some (.aload_n 0, 1) := by decide +kernel
theorem c201_1175 : jm_code 201 1175 = some (.iload_n 3, 1) := by decide +kernel
theorem c201_1176 : jm_code 201 1176 = some (.iconst 4, 1) := by decide +kernel
theorem c201_1177 : jm_code 201 1177 = some (.iadd, 1) := by decide +kernel
theorem c201_1178 : jm_code 201 1178 = some (.iaload, 1) := by decide +kernel
theorem c201_1179 : jm_code 201 1179 = some (.invokevirtual 129, 3) := by decide +kernel
theorem c201_1182 : jm_code 201 1182 = some (.aload_n 2, 1) := by decide +kernel
theorem c201_1183 : jm_code 201 1183 = some (.aload_n 0, 1) := by decide +kernel
theorem c201_1184 : jm_code 201 1184 = some (.iload_n 3, 1) := by decide +kernel
theorem c201_1185 : jm_code 201 1185 = some (.iconst 1, 1) := by decide +kernel
theorem c201_1186 : jm_code 201 1186 = some (.iadd, 1) := by decide +kernel
theorem c201_1187 : jm_code 201 1187 = some (.iaload, 1) := by decide +kernel
theorem c201_1188 : jm_code 201 1188 = some (.aload_n 0, 1) := by decide +kernel
theorem c201_1189 : jm_code 201 1189 = some (.iload_n 3, 1) := by decide +kernel
theorem c201_1190 : jm_code 201 1190 = some (.iconst 2, 1) := by decide +kernel
theorem c201_1191 : jm_code 201 1191 = some (.iadd, 1) := by decide +kernel
theorem c201_1192 : jm_code 201 1192 = some (.iaload, 1) := by decide +kernel
theorem c201_1193 : jm_code 201 1193 = some (.aload_n 0, 1) := by decide +kernel
theorem c201_1194 : jm_code 201 1194 = some (.iload_n 3, 1) := by decide +kernel
theorem c201_1195 : jm_code 201 1195 = some (.iconst 3, 1) := by decide +kernel
theorem c201_1196 : jm_code 201 1196 = some (.iadd, 1) := by decide +kernel
theorem c201_1197 : jm_code 201 1197 = some (.iaload, 1) := by decide +kernel
theorem c201_1198 : jm_code 201 1198 = some (.aload_n 0, 1) := by decide +kernel
theorem c201_1199 : jm_code 201 1199 = some (.iload_n 3, 1) := by decide +kernel
theorem c201_1200 : jm_code 201 1200 = some (.iconst 4, 1) := by decide +kernel
theorem c201_1201 : jm_code 201 1201 = some (.iadd, 1) := by decide +kernel
theorem c201_1202 : jm_code 201 1202 = some (.iaload, 1) := by decide +kernel
theorem c201_1203 : jm_code 201 1203 = some (.invokevirtual 132, 3) := by decide +kernel
theorem c201_1206 : jm_code 201 1206 = some (.if_icmp .eq 181, 3) := by decide +kernel
theorem c201_1209 : jm_code 201 1209 = some (.iconst 0, 1) := by decide +kernel
theorem c201_1210 : jm_code 201 1210 = some (.ireturn, 1) := by decide +kernel
theorem c201_1211 : jm_code 201 1211 = some (.aload_n 1, 1) := by decide +kernel
theorem c201_1212 : jm_code 201 1212 = some (.aload_n 0, 1) := by decide +kernel
theorem c201_1213 : jm_code 201 1213 = some (.iload_n 3, 1) := by decide +kernel
theorem c201_1214 : jm_code 201 1214 = some (.iconst 1, 1) := by decide +kernel
theorem c201_1215 : jm_code 201 1215 = some (.iadd, 1) := by decide +kernel
theorem c201_1216 : jm_code 201 1216 = some (.iaload, 1) := by decide +kernel
theorem c201_1217 : jm_code 201 1217 = some (.aload_n 0, 1) := by decide +kernel
theorem c201_1218 : jm_code 201 1218 = some (.iload_n 3, 1) := by decide +kernel
theorem c201_1219 : jm_code 201 1219 = some (.iconst 2, 1) := by decide +kernel
theorem c201_1220 : jm_code 201 1220 = some (.iadd, 1) := by decide +kernel
theorem c201_1221 : jm_code 201 1221 = some (.iaload, 1) := by decide +kernel
theorem c201_1222 : jm_code 201 1222 = some (.aload_n 0, 1) := by decide +kernel
theorem c201_1223 : jm_code 201 1223 = some (.iload_n 3, 1) := by decide +kernel
theorem c201_1224 : jm_code 201 1224 = some (.iconst 3, 1) := by decide +kernel
theorem c201_1225 : jm_code 201 1225 = some (.iadd, 1) := by decide +kernel
theorem c201_1226 : jm_code 201 1226 = some (.iaload, 1) := by decide +kernel
theorem c201_1227 : jm_code 201 1227 = some (.invokevirtual 133, 3) := by decide +kernel
theorem c201_1230 : jm_code 201 1230 = some (.aload_n 2, 1) := by decide +kernel
theorem c201_1231 : jm_code 201 1231 = some (.aload_n 0, 1) := by decide +kernel
theorem c201_1232 : jm_code 201 1232 = some (.iload_n 3, 1) := by decide +kernel
theorem c201_1233 : jm_code 201 1233 = some (.iconst 1, 1) := by decide +kernel
theorem c201_1234 : jm_code 201 1234 = some (.iadd, 1) := by decide +kernel
theorem c201_1235 : jm_code 201 1235 = some (.iaload, 1) := by decide +kernel
theorem c201_1236 : jm_code 201 1236 = some (.aload_n 0, 1) := by decide +kernel
theorem c201_1237 : jm_code 201 1237 = some (.iload_n 3, 1) := by decide +kernel
theorem c201_1238 : jm_code 201 1238 = some (.iconst 2, 1) := by decide +kernel
theorem c201_1239 : jm_code 201 1239 = some (.iadd, 1) := by decide +kernel
theorem c201_1240 : jm_code 201 1240 = some (.iaload, 1) := by decide +kernel
theorem c201_1241 : jm_code 201 1241 = some (.aload_n 0, 1) := by decide +kernel
theorem c201_1242 : jm_code 201 1242 = some (.iload_n 3, 1) := by decide +kernel
theorem c201_1243 : jm_code 201 1243 = some (.iconst 3, 1) := by decide +kernel
theorem c201_1244 : jm_code 201 1244 = some (.iadd, 1) := by decide +kernel
theorem c201_1245 : jm_code 201 1245 = some (.iaload, 1) := by decide +kernel
theorem c201_1246 : jm_code 201 1246 = some (.invokevirtual 136, 3) := by decide +kernel
theorem c201_1249 : jm_code 201 1249 = some (.if_icmp .eq 138, 3) := by decide +kernel
theorem c201_1252 : jm_code 201 1252 = some (.iconst 0, 1) := by decide +kernel
theorem c201_1253 : jm_code 201 1253 = some (.ireturn, 1) := by decide +kernel
theorem c201_1254 : jm_code 201 1254 = some (.aload_n 1, 1) := by decide +kernel
theorem c201_1255 : jm_code 201 1255 = some (.aload_n 0, 1) := by decide +kernel
theorem c201_1256 : jm_code 201 1256 = some (.iload_n 3, 1) := by decide +kernel
theorem c201_1257 : jm_code 201 1257 = some (.iconst 1, 1) := by decide +kernel
theorem c201_1258 : jm_code 201 1258 = some (.iadd, 1) := by decide +kernel
theorem c201_1259 : jm_code 201 1259 = some (.iaload, 1) := by decide +kernel
theorem c201_1260 : jm_code 201 1260 = some (.aload_n 0, 1) := by decide +kernel
theorem c201_1261 : jm_code 201 1261 = some (.iload_n 3, 1) := by decide +kernel
theorem c201_1262 : jm_code 201 1262 = some (.iconst 2, 1) := by decide +kernel
theorem c201_1263 : jm_code 201 1263 = some (.iadd, 1) := by decide +kernel
theorem c201_1264 : jm_code 201 1264 = some (.iaload, 1) := by decide +kernel
theorem c201_1265 : jm_code 201 1265 = some (.aload_n 0, 1) := by decide +kernel
theorem c201_1266 : jm_code 201 1266 = some (.iload_n 3, 1) := by decide +kernel
theorem c201_1267 : jm_code 201 1267 = some (.iconst 3, 1) := by decide +kernel
theorem c201_1268 : jm_code 201 1268 = some (.iadd, 1) := by decide +kernel
theorem c201_1269 : jm_code 201 1269 = some (.iaload, 1) := by decide +kernel
theorem c201_1270 : jm_code 201 1270 = some (.aload_n 0, 1) := by decide +kernel
theorem c201_1271 : jm_code 201 1271 = some (.iload_n 3, 1) := by decide +kernel
theorem c201_1272 : jm_code 201 1272 = some (.iconst 4, 1) := by decide +kernel
theorem c201_1273 : jm_code 201 1273 = some (.iadd, 1) := by decide +kernel
theorem c201_1274 : jm_code 201 1274 = some (.iaload, 1) := by decide +kernel
theorem c201_1275 : jm_code 201 1275 = some (.aload_n 0, 1) := by decide +kernel
theorem c201_1276 : jm_code 201 1276 = some (.iload_n 3, 1) := by decide +kernel
theorem c201_1277 : jm_code 201 1277 = some (.iconst 5, 1) := by decide +kernel
theorem c201_1278 : jm_code 201 1278 = some (.iadd, 1) := by decide +kernel
theorem c201_1279 : jm_code 201 1279 = some (.iaload, 1) := by decide +kernel
theorem c201_1280 : jm_code 201 1280 = some (.invokevirtual 137, 3) := by decide +kernel
theorem c201_1283 : jm_code 201 1283 = some (.aload_n 2, 1) := by decide +kernel
theorem c201_1284 : jm_code 201 1284 = some (.aload_n 0, 1) := by decide +kernel
theorem c201_1285 : jm_code 201 1285 = some (.iload_n 3, 1) := by decide +kernel
theorem c201_1286 : jm_code 201 1286 = some (.iconst 1, 1) := by decide +kernel
theorem c201_1287 : jm_code 201 1287 = some (.iadd, 1) := by decide +kernel
theorem c201_1288 : jm_code 201 1288 = some (.iaload, 1) := by decide +kernel
theorem c201_1289 : jm_code 201 1289 = some (.aload_n 0, 1) := by decide +kernel
theorem c201_1290 : jm_code 201 1290 = some (.iload_n 3, 1) := by decide +kernel
theorem c201_1291 : jm_code 201 1291 = some (.iconst 2, 1) := by decide +kernel
theorem c201_1292 : jm_code 201 1292 = some (.iadd, 1) := by decide +kernel
theorem c201_1293 : jm_code 201 1293 = some (.iaload, 1) := by decide +kernel
theorem c201_1294 : jm_code 201 1294 = some (.aload_n 0, 1) := by decide +kernel
theorem c201_1295 : jm_code 201 1295 = some (.iload_n 3, 1) := by decide +kernel
theorem c201_1296 : jm_code 201 1296 = some (.iconst 3, 1) := by decide +kernel
theorem c201_1297 : jm_code 201 1297 = some (.iadd, 1) := by decide +kernel
theorem c201_1298 : jm_code 201 1298 = some (.iaload, 1) := by decide +kernel
theorem c201_1299 : jm_code 201 1299 = some (.aload_n 0, 1) := by decide +kernel
theorem c201_1300 : jm_code 201 1300 = some (.iload_n 3, 1) := by decide +kernel
theorem c201_1301 : jm_code 201 1301 = some (.iconst 4, 1) := by decide +kernel
theorem c201_1302 : jm_code 201 1302 = some (.iadd, 1) := by decide +kernel
theorem c201_1303 : jm_code 201 1303 = some (.iaload, 1) := by decide +kernel
theorem c201_1304 : jm_code 201 1304 = some (.aload_n 0, 1) := by decide +kernel
theorem c201_1305 : jm_code 201 1305 = some (.iload_n 3, 1) := by decide +kernel
theorem c201_1306 : jm_code 201 1306 = some (.iconst 5, 1) := by decide +kernel
theorem c201_1307 : jm_code 201 1307 = some (.iadd, 1) := by decide +kernel
theorem c201_1308 : jm_code 201 1308 = some (.iaload, 1) := by decide +kernel
theorem c201_1309 : jm_code 201 1309 = some (.invokevirtual 140, 3) := by decide +kernel
theorem c201_1312 : jm_code 201 1312 = some (.if_icmp .eq 75, 3) := by decide +kernel
theorem c201_1315 : jm_code 201 1315 = some (.iconst 0, 1) := by decide +kernel
theorem c201_1316 : jm_code 201 1316 = some (.ireturn, 1) := by decide +kernel
theorem c201_1317 : jm_code 201 1317 = some (.aload_n 1, 1) := by decide +kernel
theorem c201_1318 : jm_code 201 1318 = some (.aload_n 0, 1) := by decide +kernel
theorem c201_1319 : jm_code 201 1319 = some (.iload_n 3, 1) := by decide +kernel
theorem c201_1320 : jm_code 201 1320 = some (.iconst 1, 1) := by decide +kernel
theorem c201_1321 : jm_code 201 1321 = some (.iadd, 1) := by decide +kernel
theorem c201_1322 : jm_code 201 1322 = some (.iaload, 1) := by decide +kernel
theorem c201_1323 : jm_code 201 1323 = some (.aload_n 0, 1) := by decide +kernel
theorem c201_1324 : jm_code 201 1324 = some (.iload_n 3, 1) := by decide +kernel
theorem c201_1325 : jm_code 201 1325 = some (.iconst 2, 1) := by decide +kernel
theorem c201_1326 : jm_code 201 1326 = some (.iadd, 1) := by decide +kernel
theorem c201_1327 : jm_code 201 1327 = some (.iaload, 1) := by decide +kernel
theorem c201_1328 : jm_code 201 1328 = some (.invokevirtual 141, 3) := by decide +kernel
theorem c201_1331 : jm_code 201 1331 = some (.aload_n 2, 1) := by decide +kernel
theorem c201_1332 : jm_code 201 1332 = some (.aload_n 0, 1) := by decide +kernel
theorem c201_1333 : jm_code 201 1333 = some (.iload_n 3, 1) := by decide +kernel
theorem c201_1334 : jm_code 201 1334 = some (.iconst 1, 1) := by decide +kernel
theorem c201_1335 : jm_code 201 1335 = some (.iadd, 1) := by decide +kernel
theorem c201_1336 : jm_code 201 1336 = some (.iaload, 1) := by decide +kernel
theorem c201_1337 : jm_code 201 1337 = some (.aload_n 0, 1) := by decide +kernel
theorem c201_1338 : jm_code 201 1338 = some (.iload_n 3, 1) := by decide +kernel
theorem c201_1339 : jm_code 201 1339 = some (.iconst 2, 1) := by decide +kernel
theorem c201_1340 : jm_code 201 1340 = some (.iadd, 1) := by decide +kernel
theorem c201_1341 : jm_code 201 1341 = some (.iaload, 1) := by decide +kernel
theorem c201_1342 : jm_code 201 1342 = some (.invokevirtual 144, 3) := by decide +kernel
theorem c201_1345 : jm_code 201 1345 = some (.if_icmp .eq 42, 3) := by decide +kernel
theorem c201_1348 : jm_code 201 1348 = some (.iconst 0, 1) := by decide +kernel
theorem c201_1349 : jm_code 201 1349 = some (.ireturn, 1) := by decide +kernel
theorem c201_1350 : jm_code 201 1350 = some (.aload_n 1, 1) := by decide +kernel
theorem c201_1351 : jm_code 201 1351 = some (.aload_n 0, 1) := by decide +kernel
theorem c201_1352 : jm_code 201 1352 = some (.iload_n 3, 1) := by decide +kernel
theorem c201_1353 : jm_code 201 1353 = some (.iconst 1, 1) := by decide +kernel
theorem c201_1354 : jm_code 201 1354 = some (.iadd, 1) := by decide +kernel
theorem c201_1355 : jm_code 201 1355 = some (.iaload, 1) := by decide +kernel
theorem c201_1356 : jm_code 201 1356 = some (.invokevirtual 145, 3) := by decide +kernel
theorem c201_1359 : jm_code 201 1359 = some (.aload_n 2, 1) := by decide +kernel
theorem c201_1360 : jm_code 201 1360 = some (.aload_n 0, 1) := by decide +kernel
theorem c201_1361 : jm_code 201 1361 = some (.iload_n 3, 1) := by decide +kernel
theorem c201_1362 : jm_code 201 1362 = some (.iconst 1, 1) := by decide +kernel
theorem c201_1363 : jm_code 201 1363 = some (.iadd, 1) := by decide +kernel
theorem c201_1364 : jm_code 201 1364 = some (.iaload, 1) := by decide +kernel
theorem c201_1365 : jm_code 201 1365 = some (.invokevirtual 148, 3) := by decide +kernel
theorem c201_1368 : jm_code 201 1368 = some (.if_icmp .eq 19, 3) := by decide +kernel
theorem c201_1371 : jm_code 201 1371 = some (.iconst 0, 1) := by decide +kernel
theorem c201_1372 : jm_code 201 1372 = some (.ireturn, 1) := by decide +kernel
theorem c201_1373 : jm_code 201 1373 = some (.aload_n 1, 1) := by decide +kernel
theorem c201_1374 : jm_code 201 1374 = some (.invokevirtual 149, 3) := by decide +kernel
theorem c201_1377 : jm_code 201 1377 = some (.aload_n 2, 1) := by decide +kernel
theorem c201_1378 : jm_code 201 1378 = some (.invokevirtual 153, 3) := by decide +kernel
theorem c201_1381 : jm_code 201 1381 = some (.lcmp, 1) := by decide +kernel
theorem c201_1382 : jm_code 201 1382 = some (.ifCond .eq 5, 3) := by decide +kernel
theorem c201_1385 : jm_code 201 1385 = some (.iconst 0, 1) := by decide +kernel
theorem c201_1386 : jm_code 201 1386 = some (.ireturn, 1) := by decide +kernel
theorem c201_1387 : jm_code 201 1387 = some (.iinc 3 6, 3) := by decide +kernel
theorem c201_1390 : jm_code 201 1390 = some (.goto (-1372), 3) := by decide +kernel
theorem c201_1393 : jm_code 201 1393 = some (.iconst 1, 1) := by decide +kernel
theorem c201_1394 : jm_code 201 1394 = some (.ireturn, 1) := by decide +kernel
