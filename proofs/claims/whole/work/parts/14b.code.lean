theorem c86_12 : jm_code 86 12 = some (.iload_n 1, 1) := by decide +kernel
theorem c86_13 : jm_code 86 13 = some (.invokestatic 86, 3) := by decide +kernel
theorem c86_16 : jm_code 86 16 = some (.ifCond .ne 13, 3) := by decide +kernel
theorem c86_19 : jm_code 86 19 = some (.iload 5, 2) := by decide +kernel
theorem c86_21 : jm_code 86 21 = some (.iconst 0, 1) := by decide +kernel
theorem c86_22 : jm_code 86 22 = some (.iconst 1, 1) := by decide +kernel
theorem c86_23 : jm_code 86 23 = some (.invokestatic 86, 3) := by decide +kernel
theorem c86_26 : jm_code 86 26 = some (.ifCond .eq 7, 3) := by decide +kernel
theorem c86_29 : jm_code 86 29 = some (.ldc2_w 246, 3) := by decide +kernel
theorem c86_32 : jm_code 86 32 = some (.lreturn, 1) := by decide +kernel
theorem c86_33 : jm_code 86 33 = some (.iload_n 1, 1) := by decide +kernel
theorem c86_34 : jm_code 86 34 = some (.iload_n 2, 1) := by decide +kernel
theorem c86_35 : jm_code 86 35 = some (.iload_n 3, 1) := by decide +kernel
theorem c86_36 : jm_code 86 36 = some (.iload 4, 2) := by decide +kernel
theorem c86_38 : jm_code 86 38 = some (.invokestatic 248, 3) := by decide +kernel
theorem c86_41 : jm_code 86 41 = some (.lstore 6, 2) := by decide +kernel
theorem c86_43 : jm_code 86 43 = some (.iload_n 1, 1) := by decide +kernel
theorem c86_44 : jm_code 86 44 = some (.iload_n 3, 1) := by decide +kernel
theorem c86_45 : jm_code 86 45 = some (.invokestatic 252, 3) := by decide +kernel
theorem c86_48 : jm_code 86 48 = some (.lstore 8, 2) := by decide +kernel
theorem c86_50 : jm_code 86 50 = some (.lconst 1, 1) := by decide +kernel
theorem c86_51 : jm_code 86 51 = some (.lload 6, 2) := by decide +kernel
theorem c86_53 : jm_code 86 53 = some (.lload 8, 2) := by decide +kernel
theorem c86_55 : jm_code 86 55 = some (.invokestatic 256, 3) := by decide +kernel
theorem c86_58 : jm_code 86 58 = some (.invokestatic 260, 3) := by decide +kernel
theorem c86_61 : jm_code 86 61 = some (.lstore 10, 2) := by decide +kernel
theorem c86_63 : jm_code 86 63 = some (.iload 5, 2) := by decide +kernel
theorem c86_65 : jm_code 86 65 = some (.ifCond .ne 11, 3) := by decide +kernel
theorem c86_68 : jm_code 86 68 = some (.lload 6, 2) := by decide +kernel
theorem c86_70 : jm_code 86 70 = some (.lload 10, 2) := by decide +kernel
theorem c86_72 : jm_code 86 72 = some (.ldiv, 1) := by decide +kernel
theorem c86_73 : jm_code 86 73 = some (.goto 8, 3) := by decide +kernel
theorem c86_76 : jm_code 86 76 = some (.lload 8, 2) := by decide +kernel
theorem c86_78 : jm_code 86 78 = some (.lload 10, 2) := by decide +kernel
theorem c86_80 : jm_code 86 80 = some (.ldiv, 1) := by decide +kernel
theorem c86_81 : jm_code 86 81 = some (.lreturn, 1) := by decide +kernel
theorem c87_0 : jm_code 87 0 = some (.iload_n 0, 1) := by decide +kernel
theorem c87_1 : jm_code 87 1 = some (.iconst 1, 1) := by decide +kernel
theorem c87_2 : jm_code 87 2 = some (.bipush 30, 2) := by decide +kernel
theorem c87_4 : jm_code 87 4 = some (.invokestatic 86, 3) := by decide +kernel
theorem c87_7 : jm_code 87 7 = some (.ifCond .ne 21, 3) := by decide +kernel
theorem c87_10 : jm_code 87 10 = some (.iload_n 1, 1) := by decide +kernel
theorem c87_11 : jm_code 87 11 = some (.iconst 0, 1) := by decide +kernel
theorem c87_12 : jm_code 87 12 = some (.iload_n 0, 1) := by decide +kernel
theorem c87_13 : jm_code 87 13 = some (.invokestatic 86, 3) := by decide +kernel
theorem c87_16 : jm_code 87 16 = some (.ifCond .ne 12, 3) := by decide +kernel
theorem c87_19 : jm_code 87 19 = some (.iload_n 2, 1) := by decide +kernel
theorem c87_20 : jm_code 87 20 = some (.iconst 0, 1) := by decide +kernel
theorem c87_21 : jm_code 87 21 = some (.iload_n 1, 1) := by decide +kernel
theorem c87_22 : jm_code 87 22 = some (.invokestatic 86, 3) := by decide +kernel
theorem c87_25 : jm_code 87 25 = some (.ifCond .eq 7, 3) := by decide +kernel
theorem c87_28 : jm_code 87 28 = some (.iconst 1, 1) := by decide +kernel
theorem c87_29 : jm_code 87 29 = some (.goto 4, 3) := by decide +kernel
theorem c87_32 : jm_code 87 32 = some (.iconst 0, 1) := by decide +kernel
theorem c87_33 : jm_code 87 33 = some (.ireturn, 1) := by decide +kernel
theorem c88_0 : jm_code 88 0 = some (.iload_n 1, 1) := by decide +kernel
theorem c88_1 : jm_code 88 1 = some (.iload_n 3, 1) := by decide +kernel
theorem c88_2 : jm_code 88 2 = some (.invokestatic 252, 3) := by decide +kernel
theorem c88_5 : jm_code 88 5 = some (.iload_n 0, 1) := by decide +kernel
theorem c88_6 : jm_code 88 6 = some (.iload_n 1, 1) := by decide +kernel
theorem c88_7 : jm_code 88 7 = some (.isub, 1) := by decide +kernel
theorem c88_8 : jm_code 88 8 = some (.iload_n 2, 1) := by decide +kernel
theorem c88_9 : jm_code 88 9 = some (.iload_n 3, 1) := by decide +kernel
theorem c88_10 : jm_code 88 10 = some (.isub, 1) := by decide +kernel
theorem c88_11 : jm_code 88 11 = some (.invokestatic 252, 3) := by decide +kernel
theorem c88_14 : jm_code 88 14 = some (.lmul, 1) := by decide +kernel
theorem c88_15 : jm_code 88 15 = some (.lreturn, 1) := by decide +kernel
theorem c89_0 : jm_code 89 0 = some (.iload_n 1, 1) := by decide +kernel
theorem c89_1 : jm_code 89 1 = some (.ifCond .lt 8, 3) := by decide +kernel
theorem c89_4 : jm_code 89 4 = some (.iload_n 1, 1) := by decide +kernel
theorem c89_5 : jm_code 89 5 = some (.iload_n 0, 1) := by decide +kernel
theorem c89_6 : jm_code 89 6 = some (.if_icmp .le 5, 3) := by decide +kernel
theorem c89_9 : jm_code 89 9 = some (.lconst 0, 1) := by decide +kernel
theorem c89_10 : jm_code 89 10 = some (.lreturn, 1) := by decide +kernel
theorem c89_11 : jm_code 89 11 = some (.lconst 1, 1) := by decide +kernel
theorem c89_12 : jm_code 89 12 = some (.lstore_n 2, 1) := by decide +kernel
theorem c89_13 : jm_code 89 13 = some (.iconst 1, 1) := by decide +kernel
theorem c89_14 : jm_code 89 14 = some (.istore 4, 2) := by decide +kernel
theorem c89_16 : jm_code 89 16 = some (.iload 4, 2) := by decide +kernel
theorem c89_18 : jm_code 89 18 = some (.iload_n 1, 1) := by decide +kernel
theorem c89_19 : jm_code 89 19 = some (.if_icmp .gt 23, 3) := by decide +kernel
theorem c89_22 : jm_code 89 22 = some (.lload_n 2, 1) := by decide +kernel
theorem c89_23 : jm_code 89 23 = some (.iload_n 0, 1) := by decide +kernel
theorem c89_24 : jm_code 89 24 = some (.iload_n 1, 1) := by decide +kernel
theorem c89_25 : jm_code 89 25 = some (.isub, 1) := by decide +kernel
theorem c89_26 : jm_code 89 26 = some (.iload 4, 2) := by decide +kernel
theorem c89_28 : jm_code 89 28 = some (.iadd, 1) := by decide +kernel
theorem c89_29 : jm_code 89 29 = some (.i2l, 1) := by decide +kernel
theorem c89_30 : jm_code 89 30 = some (.lmul, 1) := by decide +kernel
theorem c89_31 : jm_code 89 31 = some (.iload 4, 2) := by decide +kernel
theorem c89_33 : jm_code 89 33 = some (.i2l, 1) := by decide +kernel
theorem c89_34 : jm_code 89 34 = some (.ldiv, 1) := by decide +kernel
theorem c89_35 : jm_code 89 35 = some (.lstore_n 2, 1) := by decide +kernel
theorem c89_36 : jm_code 89 36 = some (.iinc 4 1, 3) := by decide +kernel
theorem c89_39 : jm_code 89 39 = some (.goto (-23), 3) := by decide +kernel
theorem c89_42 : jm_code 89 42 = some (.lload_n 2, 1) := by decide +kernel
theorem c89_43 : jm_code 89 43 = some (.lreturn, 1) := by decide +kernel
theorem c90_0 : jm_code 90 0 = some (.lload_n 0, 1) := by decide +kernel
theorem c90_1 : jm_code 90 1 = some (.lstore 4, 2) := by decide +kernel
theorem c90_3 : jm_code 90 3 = some (.lload_n 2, 1) := by decide +kernel
theorem c90_4 : jm_code 90 4 = some (.lstore 6, 2) := by decide +kernel
theorem c90_6 : jm_code 90 6 = some (.iconst 0, 1) := by decide +kernel
theorem c90_7 : jm_code 90 7 = some (.istore 8, 2) := by decide +kernel
theorem c90_9 : jm_code 90 9 = some (.iload 8, 2) := by decide +kernel
theorem c90_11 : jm_code 90 11 = some (.bipush 100, 2) := by decide +kernel
theorem c90_13 : jm_code 90 13 = some (.if_icmp .ge 31, 3) := by decide +kernel
theorem c90_16 : jm_code 90 16 = some (.lload 6, 2) := by decide +kernel
theorem c90_18 : jm_code 90 18 = some (.lconst 0, 1) := by decide +kernel
theorem c90_19 : jm_code 90 19 = some (.lcmp, 1) := by decide +kernel
theorem c90_20 : jm_code 90 20 = some (.ifCond .eq 24, 3) := by decide +kernel
theorem c90_23 : jm_code 90 23 = some (.lload 4, 2) := by decide +kernel
theorem c90_25 : jm_code 90 25 = some (.lload 6, 2) := by decide +kernel
theorem c90_27 : jm_code 90 27 = some (.lrem, 1) := by decide +kernel
theorem c90_28 : jm_code 90 28 = some (.lstore 9, 2) := by decide +kernel
theorem c90_30 : jm_code 90 30 = some (.lload 6, 2) := by decide +kernel
theorem c90_32 : jm_code 90 32 = some (.lstore 4, 2) := by decide +kernel
theorem c90_34 : jm_code 90 34 = some (.lload 9, 2) := by decide +kernel
theorem c90_36 : jm_code 90 36 = some (.lstore 6, 2) := by decide +kernel
theorem c90_38 : jm_code 90 38 = some (.iinc 8 1, 3) := by decide +kernel
theorem c90_41 : jm_code 90 41 = some (.goto (-32), 3) := by decide +kernel
theorem c90_44 : jm_code 90 44 = some (.lload 4, 2) := by decide +kernel
theorem c90_46 : jm_code 90 46 = some (.lreturn, 1) := by decide +kernel
theorem c91_0 : jm_code 91 0 = some (.iload_n 1, 1) := by decide +kernel
theorem c91_1 : jm_code 91 1 = some (.iload_n 2, 1) := by decide +kernel
theorem c91_2 : jm_code 91 2 = some (.iload_n 3, 1) := by decide +kernel
theorem c91_3 : jm_code 91 3 = some (.invokestatic 243, 3) := by decide +kernel
theorem c91_6 : jm_code 91 6 = some (.ifCond .ne 25, 3) := by decide +kernel
theorem c91_9 : jm_code 91 9 = some (.iload 4, 2) := by decide +kernel
theorem c91_11 : jm_code 91 11 = some (.iconst 0, 1) := by decide +kernel
theorem c91_12 : jm_code 91 12 = some (.sipush 255, 3) := by decide +kernel
theorem c91_15 : jm_code 91 15 = some (.invokestatic 86, 3) := by decide +kernel
theorem c91_18 : jm_code 91 18 = some (.ifCond .ne 13, 3) := by decide +kernel
theorem c91_21 : jm_code 91 21 = some (.iload 5, 2) := by decide +kernel
theorem c91_23 : jm_code 91 23 = some (.iconst 0, 1) := by decide +kernel
theorem c91_24 : jm_code 91 24 = some (.iconst 1, 1) := by decide +kernel
theorem c91_25 : jm_code 91 25 = some (.invokestatic 86, 3) := by decide +kernel
theorem c91_28 : jm_code 91 28 = some (.ifCond .eq 6, 3) := by decide +kernel
theorem c91_31 : jm_code 91 31 = some (.bipush (-2), 2) := by decide +kernel
theorem c91_33 : jm_code 91 33 = some (.ireturn, 1) := by decide +kernel
theorem c91_34 : jm_code 91 34 = some (.iconst 0, 1) := by decide +kernel
theorem c91_35 : jm_code 91 35 = some (.istore 6, 2) := by decide +kernel
theorem c91_37 : jm_code 91 37 = some (.iload 6, 2) := by decide +kernel
theorem c91_39 : jm_code 91 39 = some (.iload_n 1, 1) := by decide +kernel
theorem c91_40 : jm_code 91 40 = some (.if_icmp .gt 75, 3) := by decide +kernel
theorem c91_43 : jm_code 91 43 = some (.iload 5, 2) := by decide +kernel
theorem c91_45 : jm_code 91 45 = some (.ifCond .ne 8, 3) := by decide +kernel
theorem c91_48 : jm_code 91 48 = some (.iload 6, 2) := by decide +kernel
theorem c91_50 : jm_code 91 50 = some (.goto 7, 3) := by decide +kernel
theorem c91_53 : jm_code 91 53 = some (.iload_n 1, 1) := by decide +kernel
theorem c91_54 : jm_code 91 54 = some (.iload 6, 2) := by decide +kernel
theorem c91_56 : jm_code 91 56 = some (.isub, 1) := by decide +kernel
theorem c91_57 : jm_code 91 57 = some (.istore 7, 2) := by decide +kernel
theorem c91_59 : jm_code 91 59 = some (.iload 5, 2) := by decide +kernel
theorem c91_61 : jm_code 91 61 = some (.ifCond .ne 15, 3) := by decide +kernel
theorem c91_64 : jm_code 91 64 = some (.iload_n 1, 1) := by decide +kernel
theorem c91_65 : jm_code 91 65 = some (.iload 7, 2) := by decide +kernel
theorem c91_67 : jm_code 91 67 = some (.iload_n 2, 1) := by decide +kernel
theorem c91_68 : jm_code 91 68 = some (.iload_n 3, 1) := by decide +kernel
theorem c91_69 : jm_code 91 69 = some (.iload_n 2, 1) := by decide +kernel
theorem c91_70 : jm_code 91 70 = some (.invokestatic 265, 3) := by decide +kernel
theorem c91_73 : jm_code 91 73 = some (.goto 12, 3) := by decide +kernel
theorem c91_76 : jm_code 91 76 = some (.iload_n 1, 1) := by decide +kernel
theorem c91_77 : jm_code 91 77 = some (.iload 7, 2) := by decide +kernel
theorem c91_79 : jm_code 91 79 = some (.iload_n 2, 1) := by decide +kernel
theorem c91_80 : jm_code 91 80 = some (.iconst 0, 1) := by decide +kernel
theorem c91_81 : jm_code 91 81 = some (.iload_n 3, 1) := by decide +kernel
theorem c91_82 : jm_code 91 82 = some (.invokestatic 265, 3) := by decide +kernel
theorem c91_85 : jm_code 91 85 = some (.lstore 8, 2) := by decide +kernel
theorem c91_87 : jm_code 91 87 = some (.lload 8, 2) := by decide +kernel
theorem c91_89 : jm_code 91 89 = some (.ldc2_w 269, 3) := by decide +kernel
theorem c91_92 : jm_code 91 92 = some (.lmul, 1) := by decide +kernel
theorem c91_93 : jm_code 91 93 = some (.iload 4, 2) := by decide +kernel
theorem c91_95 : jm_code 91 95 = some (.i2l, 1) := by decide +kernel
theorem c91_96 : jm_code 91 96 = some (.iload_n 1, 1) := by decide +kernel
theorem c91_97 : jm_code 91 97 = some (.iload_n 2, 1) := by decide +kernel
theorem c91_98 : jm_code 91 98 = some (.invokestatic 252, 3) := by decide +kernel
theorem c91_101 : jm_code 91 101 = some (.lmul, 1) := by decide +kernel
theorem c91_102 : jm_code 91 102 = some (.lcmp, 1) := by decide +kernel
theorem c91_103 : jm_code 91 103 = some (.ifCond .le 6, 3) := by decide +kernel
theorem c91_106 : jm_code 91 106 = some (.iload 7, 2) := by decide +kernel
theorem c91_108 : jm_code 91 108 = some (.ireturn, 1) := by decide +kernel
theorem c91_109 : jm_code 91 109 = some (.iinc 6 1, 3) := by decide +kernel
theorem c91_112 : jm_code 91 112 = some (.goto (-75), 3) := by decide +kernel
theorem c91_115 : jm_code 91 115 = some (.iconst (-1), 1) := by decide +kernel
theorem c91_116 : jm_code 91 116 = some (.ireturn, 1) := by decide +kernel
theorem c92_0 : jm_code 92 0 = some (.lconst 0, 1) := by decide +kernel
theorem c92_1 : jm_code 92 1 = some (.lstore 5, 2) := by decide +kernel
theorem c92_3 : jm_code 92 3 = some (.iload_n 3, 1) := by decide +kernel
theorem c92_4 : jm_code 92 4 = some (.istore 7, 2) := by decide +kernel
theorem c92_6 : jm_code 92 6 = some (.iload 7, 2) := by decide +kernel
theorem c92_8 : jm_code 92 8 = some (.iload 4, 2) := by decide +kernel
theorem c92_10 : jm_code 92 10 = some (.if_icmp .gt 22, 3) := by decide +kernel
theorem c92_13 : jm_code 92 13 = some (.lload 5, 2) := by decide +kernel
theorem c92_15 : jm_code 92 15 = some (.iload_n 0, 1) := by decide +kernel
theorem c92_16 : jm_code 92 16 = some (.iload_n 1, 1) := by decide +kernel
theorem c92_17 : jm_code 92 17 = some (.iload_n 2, 1) := by decide +kernel
theorem c92_18 : jm_code 92 18 = some (.iload 7, 2) := by decide +kernel
theorem c92_20 : jm_code 92 20 = some (.invokestatic 248, 3) := by decide +kernel
theorem c92_23 : jm_code 92 23 = some (.ladd, 1) := by decide +kernel
theorem c92_24 : jm_code 92 24 = some (.lstore 5, 2) := by decide +kernel
theorem c92_26 : jm_code 92 26 = some (.iinc 7 1, 3) := by decide +kernel
theorem c92_29 : jm_code 92 29 = some (.goto (-23), 3) := by decide +kernel
theorem c92_32 : jm_code 92 32 = some (.lload 5, 2) := by decide +kernel
theorem c92_34 : jm_code 92 34 = some (.lreturn, 1) := by decide +kernel
theorem c93_0 : jm_code 93 0 = some (.aload_n 0, 1) := by decide +kernel
theorem c93_1 : jm_code 93 1 = some (.getfield 10, 3) := by decide +kernel
theorem c93_4 : jm_code 93 4 = some (.iload_n 1, 1) := by decide +kernel
theorem c93_5 : jm_code 93 5 = some (.invokevirtual 115, 3) := by decide +kernel
theorem c93_8 : jm_code 93 8 = some (.ifCond .eq 14, 3) := by decide +kernel
theorem c93_11 : jm_code 93 11 = some (.iload_n 2, 1) := by decide +kernel
theorem c93_12 : jm_code 93 12 = some (.iconst 0, 1) := by decide +kernel
theorem c93_13 : jm_code 93 13 = some (.sipush 199, 3) := by decide +kernel
theorem c93_16 : jm_code 93 16 = some (.invokestatic 86, 3) := by decide +kernel
theorem c93_19 : jm_code 93 19 = some (.ifCond .eq 6, 3) := by decide +kernel
theorem c93_22 : jm_code 93 22 = some (.bipush (-2), 2) := by decide +kernel
theorem c93_24 : jm_code 93 24 = some (.ireturn, 1) := by decide +kernel
theorem c93_25 : jm_code 93 25 = some (.aload_n 0, 1) := by decide +kernel
theorem c93_26 : jm_code 93 26 = some (.getfield 67, 3) := by decide +kernel
theorem c93_29 : jm_code 93 29 = some (.invokevirtual 271, 3) := by decide +kernel
theorem c93_32 : jm_code 93 32 = some (.ifCond .eq 6, 3) := by decide +kernel
theorem c93_35 : jm_code 93 35 = some (.bipush (-4), 2) := by decide +kernel
theorem c93_37 : jm_code 93 37 = some (.ireturn, 1) := by decide +kernel
theorem c93_38 : jm_code 93 38 = some (.aload_n 0, 1) := by decide +kernel
theorem c93_39 : jm_code 93 39 = some (.getfield 67, 3) := by decide +kernel
theorem c93_42 : jm_code 93 42 = some (.iload_n 1, 1) := by decide +kernel
theorem c93_43 : jm_code 93 43 = some (.iload_n 2, 1) := by decide +kernel
theorem c93_44 : jm_code 93 44 = some (.invokevirtual 272, 3) := by decide +kernel
theorem c93_47 : jm_code 93 47 = some (.aload_n 0, 1) := by decide +kernel
theorem c93_48 : jm_code 93 48 = some (.getfield 67, 3) := by decide +kernel
theorem c93_51 : jm_code 93 51 = some (.getfield 134, 3) := by decide +kernel
theorem c93_54 : jm_code 93 54 = some (.ireturn, 1) := by decide +kernel
theorem c94_0 : jm_code 94 0 = some (.aload_n 0, 1) := by decide +kernel
theorem c94_1 : jm_code 94 1 = some (.getfield 18, 3) := by decide +kernel
theorem c94_4 : jm_code 94 4 = some (.bipush 12, 2) := by decide +kernel
theorem c94_6 : jm_code 94 6 = some (.if_icmp .lt 7, 3) := by decide +kernel
theorem c94_9 : jm_code 94 9 = some (.iconst 1, 1) := by decide +kernel
theorem c94_10 : jm_code 94 10 = some (.goto 4, 3) := by decide +kernel
theorem c94_13 : jm_code 94 13 = some (.iconst 0, 1) := by decide +kernel
theorem c94_14 : jm_code 94 14 = some (.ireturn, 1) := by decide +kernel
theorem c95_0 : jm_code 95 0 = some (.aload_n 0, 1) := by decide +kernel
theorem c95_1 : jm_code 95 1 = some (.getfield 9, 3) := by decide +kernel
theorem c95_4 : jm_code 95 4 = some (.aload_n 0, 1) := by decide +kernel
theorem c95_5 : jm_code 95 5 = some (.getfield 18, 3) := by decide +kernel
theorem c95_8 : jm_code 95 8 = some (.iload_n 1, 1) := by decide +kernel
theorem c95_9 : jm_code 95 9 = some (.iastore, 1) := by decide +kernel
theorem c95_10 : jm_code 95 10 = some (.aload_n 0, 1) := by decide +kernel
theorem c95_11 : jm_code 95 11 = some (.getfield 15, 3) := by decide +kernel
theorem c95_14 : jm_code 95 14 = some (.aload_n 0, 1) := by decide +kernel
theorem c95_15 : jm_code 95 15 = some (.getfield 18, 3) := by decide +kernel
theorem c95_18 : jm_code 95 18 = some (.iload_n 2, 1) := by decide +kernel
theorem c95_19 : jm_code 95 19 = some (.iastore, 1) := by decide +kernel
theorem c95_20 : jm_code 95 20 = some (.aload_n 0, 1) := by decide +kernel
theorem c95_21 : jm_code 95 21 = some (.dup, 1) := by decide +kernel
theorem c95_22 : jm_code 95 22 = some (.getfield 18, 3) := by decide +kernel
theorem c95_25 : jm_code 95 25 = some (.iconst 1, 1) := by decide +kernel
theorem c95_26 : jm_code 95 26 = some (.iadd, 1) := by decide +kernel
theorem c95_27 : jm_code 95 27 = some (.putfield 18, 3) := by decide +kernel
theorem c95_30 : jm_code 95 30 = some (.return_, 1) := by decide +kernel
theorem c96_0 : jm_code 96 0 = some (.iload_n 1, 1) := by decide +kernel
theorem c96_1 : jm_code 96 1 = some (.iconst 0, 1) := by decide +kernel
theorem c96_2 : jm_code 96 2 = some (.iconst 4, 1) := by decide +kernel
theorem c96_3 : jm_code 96 3 = some (.invokestatic 86, 3) := by decide +kernel
theorem c96_6 : jm_code 96 6 = some (.ifCond .eq 6, 3) := by decide +kernel
theorem c96_9 : jm_code 96 9 = some (.bipush (-2), 2) := by decide +kernel
theorem c96_11 : jm_code 96 11 = some (.ireturn, 1) := by decide +kernel
theorem c96_12 : jm_code 96 12 = some (.aload_n 0, 1) := by decide +kernel
theorem c96_13 : jm_code 96 13 = some (.getfield 67, 3) := by decide +kernel
theorem c96_16 : jm_code 96 16 = some (.getfield 134, 3) := by decide +kernel
theorem c96_19 : jm_code 96 19 = some (.ifCond .ne 6, 3) := by decide +kernel
theorem c96_22 : jm_code 96 22 = some (.bipush (-3), 2) := by decide +kernel
theorem c96_24 : jm_code 96 24 = some (.ireturn, 1) := by decide +kernel
theorem c96_25 : jm_code 96 25 = some (.aload_n 0, 1) := by decide +kernel
theorem c96_26 : jm_code 96 26 = some (.invokevirtual 274, 3) := by decide +kernel
theorem c96_29 : jm_code 96 29 = some (.aload_n 0, 1) := by decide +kernel
theorem c96_30 : jm_code 96 30 = some (.getfield 67, 3) := by decide +kernel
theorem c96_33 : jm_code 96 33 = some (.iload_n 1, 1) := by decide +kernel
theorem c96_34 : jm_code 96 34 = some (.invokevirtual 277, 3) := by decide +kernel
theorem c96_37 : jm_code 96 37 = some (.ireturn, 1) := by decide +kernel
theorem c97_0 : jm_code 97 0 = some (.aload_n 0, 1) := by decide +kernel
theorem c97_1 : jm_code 97 1 = some (.getfield 67, 3) := by decide +kernel
theorem c97_4 : jm_code 97 4 = some (.invokevirtual 356, 3) := by decide +kernel
theorem c97_7 : jm_code 97 7 = some (.getstatic 135, 3) := by decide +kernel
theorem c97_10 : jm_code 97 10 = some (.iconst 1, 1) := by decide +kernel
theorem c97_11 : jm_code 97 11 = some (.iaload, 1) := by decide +kernel
theorem c97_12 : jm_code 97 12 = some (.istore_n 1, 1) := by decide +kernel
theorem c97_13 : jm_code 97 13 = some (.iload_n 1, 1) := by decide +kernel
theorem c97_14 : jm_code 97 14 = some (.getstatic 138, 3) := by decide +kernel
theorem c97_17 : jm_code 97 17 = some (.iconst 1, 1) := by decide +kernel
theorem c97_18 : jm_code 97 18 = some (.iaload, 1) := by decide +kernel
theorem c97_19 : jm_code 97 19 = some (.if_icmp .gt 53, 3) := by decide +kernel
theorem c97_22 : jm_code 97 22 = some (.aload_n 0, 1) := by decide +kernel
theorem c97_23 : jm_code 97 23 = some (.getfield 50, 3) := by decide +kernel
theorem c97_26 : jm_code 97 26 = some (.aload_n 0, 1) := by decide +kernel
theorem c97_27 : jm_code 97 27 = some (.getfield 10, 3) := by decide +kernel
theorem c97_30 : jm_code 97 30 = some (.iload_n 1, 1) := by decide +kernel
theorem c97_31 : jm_code 97 31 = some (.aload_n 0, 1) := by decide +kernel
theorem c97_32 : jm_code 97 32 = some (.getfield 25, 3) := by decide +kernel
theorem c97_35 : jm_code 97 35 = some (.iconst 0, 1) := by decide +kernel
theorem c97_36 : jm_code 97 36 = some (.iaload, 1) := by decide +kernel
theorem c97_37 : jm_code 97 37 = some (.invokevirtual 199, 3) := by decide +kernel
theorem c97_40 : jm_code 97 40 = some (.aload_n 0, 1) := by decide +kernel
theorem c97_41 : jm_code 97 41 = some (.getfield 50, 3) := by decide +kernel
theorem c97_44 : jm_code 97 44 = some (.aload_n 0, 1) := by decide +kernel
theorem c97_45 : jm_code 97 45 = some (.getfield 37, 3) := by decide +kernel
theorem c97_48 : jm_code 97 48 = some (.sipush 200, 3) := by decide +kernel
theorem c97_51 : jm_code 97 51 = some (.invokevirtual 203, 3) := by decide +kernel
theorem c97_54 : jm_code 97 54 = some (.aload_n 0, 1) := by decide +kernel
theorem c97_55 : jm_code 97 55 = some (.getfield 67, 3) := by decide +kernel
theorem c97_58 : jm_code 97 58 = some (.iload_n 1, 1) := by decide +kernel
theorem c97_59 : jm_code 97 59 = some (.aload_n 0, 1) := by decide +kernel
theorem c97_60 : jm_code 97 60 = some (.getfield 50, 3) := by decide +kernel
theorem c97_63 : jm_code 97 63 = some (.invokevirtual 359, 3) := by decide +kernel
theorem c97_66 : jm_code 97 66 = some (.iinc 1 1, 3) := by decide +kernel
theorem c97_69 : jm_code 97 69 = some (.goto (-56), 3) := by decide +kernel
theorem c97_72 : jm_code 97 72 = some (.return_, 1) := by decide +kernel
theorem c98_0 : jm_code 98 0 = some (.aload_n 0, 1) := by decide +kernel
theorem c98_1 : jm_code 98 1 = some (.iconst (-1), 1) := by decide +kernel
theorem c98_2 : jm_code 98 2 = some (.putfield 22, 3) := by decide +kernel
theorem c98_5 : jm_code 98 5 = some (.aload_n 0, 1) := by decide +kernel
theorem c98_6 : jm_code 98 6 = some (.iconst (-1), 1) := by decide +kernel
theorem c98_7 : jm_code 98 7 = some (.putfield 25, 3) := by decide +kernel
theorem c98_10 : jm_code 98 10 = some (.aload_n 0, 1) := by decide +kernel
theorem c98_11 : jm_code 98 11 = some (.iconst 0, 1) := by decide +kernel
theorem c98_12 : jm_code 98 12 = some (.putfield 28, 3) := by decide +kernel
theorem c98_15 : jm_code 98 15 = some (.aload_n 0, 1) := by decide +kernel
theorem c98_16 : jm_code 98 16 = some (.iconst (-1), 1) := by decide +kernel
theorem c98_17 : jm_code 98 17 = some (.putfield 31, 3) := by decide +kernel
theorem c98_20 : jm_code 98 20 = some (.return_, 1) := by decide +kernel
theorem c99_0 : jm_code 99 0 = some (.aload_n 0, 1) := by decide +kernel
theorem c99_1 : jm_code 99 1 = some (.aload_n 2, 1) := by decide +kernel
theorem c99_2 : jm_code 99 2 = some (.invokevirtual 37, 3) := by decide +kernel
theorem c99_5 : jm_code 99 5 = some (.istore_n 3, 1) := by decide +kernel
theorem c99_6 : jm_code 99 6 = some (.iload_n 3, 1) := by decide +kernel
theorem c99_7 : jm_code 99 7 = some (.ifCond .ne 38, 3) := by decide +kernel
theorem c99_10 : jm_code 99 10 = some (.aload_n 0, 1) := by decide +kernel
theorem c99_11 : jm_code 99 11 = some (.aload_n 0, 1) := by decide +kernel
theorem c99_12 : jm_code 99 12 = some (.getfield 22, 3) := by decide +kernel
theorem c99_15 : jm_code 99 15 = some (.iconst (-1), 1) := by decide +kernel
theorem c99_16 : jm_code 99 16 = some (.if_icmp .ne 7, 3) := by decide +kernel
theorem c99_19 : jm_code 99 19 = some (.iload_n 1, 1) := by decide +kernel
theorem c99_20 : jm_code 99 20 = some (.goto 7, 3) := by decide +kernel
theorem c99_23 : jm_code 99 23 = some (.aload_n 0, 1) := by decide +kernel
theorem c99_24 : jm_code 99 24 = some (.getfield 22, 3) := by decide +kernel
theorem c99_27 : jm_code 99 27 = some (.putfield 22, 3) := by decide +kernel
theorem c99_30 : jm_code 99 30 = some (.aload_n 0, 1) := by decide +kernel
theorem c99_31 : jm_code 99 31 = some (.iload_n 1, 1) := by decide +kernel
theorem c99_32 : jm_code 99 32 = some (.putfield 25, 3) := by decide +kernel
theorem c99_35 : jm_code 99 35 = some (.aload_n 0, 1) := by decide +kernel
theorem c99_36 : jm_code 99 36 = some (.dup, 1) := by decide +kernel
theorem c99_37 : jm_code 99 37 = some (.getfield 28, 3) := by decide +kernel
theorem c99_40 : jm_code 99 40 = some (.iconst 1, 1) := by decide +kernel
theorem c99_41 : jm_code 99 41 = some (.iadd, 1) := by decide +kernel
theorem c99_42 : jm_code 99 42 = some (.putfield 28, 3) := by decide +kernel
theorem c99_45 : jm_code 99 45 = some (.aload_n 0, 1) := by decide +kernel
theorem c99_46 : jm_code 99 46 = some (.getfield 31, 3) := by decide +kernel
theorem c99_49 : jm_code 99 49 = some (.iconst (-1), 1) := by decide +kernel
theorem c99_50 : jm_code 99 50 = some (.if_icmp .eq 11, 3) := by decide +kernel
theorem c99_53 : jm_code 99 53 = some (.iload_n 3, 1) := by decide +kernel
theorem c99_54 : jm_code 99 54 = some (.aload_n 0, 1) := by decide +kernel
theorem c99_55 : jm_code 99 55 = some (.getfield 34, 3) := by decide +kernel
theorem c99_58 : jm_code 99 58 = some (.if_icmp .ge 13, 3) := by decide +kernel
theorem c99_61 : jm_code 99 61 = some (.aload_n 0, 1) := by decide +kernel
theorem c99_62 : jm_code 99 62 = some (.iload_n 1, 1) := by decide +kernel
theorem c99_63 : jm_code 99 63 = some (.putfield 31, 3) := by decide +kernel
theorem c99_66 : jm_code 99 66 = some (.aload_n 0, 1) := by decide +kernel
theorem c99_67 : jm_code 99 67 = some (.iload_n 3, 1) := by decide +kernel
theorem c99_68 : jm_code 99 68 = some (.putfield 34, 3) := by decide +kernel
theorem c99_71 : jm_code 99 71 = some (.return_, 1) := by decide +kernel
theorem c100_0 : jm_code 100 0 = some (.iconst 0, 1) := by decide +kernel
theorem c100_1 : jm_code 100 1 = some (.istore_n 2, 1) := by decide +kernel
theorem c100_2 : jm_code 100 2 = some (.iconst 0, 1) := by decide +kernel
theorem c100_3 : jm_code 100 3 = some (.istore_n 3, 1) := by decide +kernel
theorem c100_4 : jm_code 100 4 = some (.iload_n 3, 1) := by decide +kernel
theorem c100_5 : jm_code 100 5 = some (.aload_n 0, 1) := by decide +kernel
theorem c100_6 : jm_code 100 6 = some (.getfield 18, 3) := by decide +kernel
theorem c100_9 : jm_code 100 9 = some (.if_icmp .ge 49, 3) := by decide +kernel
theorem c100_12 : jm_code 100 12 = some (.aload_n 1, 1) := by decide +kernel
theorem c100_13 : jm_code 100 13 = some (.aload_n 0, 1) := by decide +kernel
theorem c100_14 : jm_code 100 14 = some (.getfield 9, 3) := by decide +kernel
theorem c100_17 : jm_code 100 17 = some (.iload_n 3, 1) := by decide +kernel
theorem c100_18 : jm_code 100 18 = some (.iaload, 1) := by decide +kernel
theorem c100_19 : jm_code 100 19 = some (.iconst 4, 1) := by decide +kernel
theorem c100_20 : jm_code 100 20 = some (.invokevirtual 41, 3) := by decide +kernel
theorem c100_23 : jm_code 100 23 = some (.istore 4, 2) := by decide +kernel
theorem c100_25 : jm_code 100 25 = some (.iload_n 2, 1) := by decide +kernel
theorem c100_26 : jm_code 100 26 = some (.iload 4, 2) := by decide +kernel
theorem c100_28 : jm_code 100 28 = some (.iconst (-1), 1) := by decide +kernel
theorem c100_29 : jm_code 100 29 = some (.if_icmp .ne 9, 3) := by decide +kernel
theorem c100_32 : jm_code 100 32 = some (.sipush 200, 3) := by decide +kernel
theorem c100_35 : jm_code 100 35 = some (.goto 15, 3) := by decide +kernel
theorem c100_38 : jm_code 100 38 = some (.iload 4, 2) := by decide +kernel
theorem c100_40 : jm_code 100 40 = some (.aload_n 0, 1) := by decide +kernel
theorem c100_41 : jm_code 100 41 = some (.getfield 15, 3) := by decide +kernel
theorem c100_44 : jm_code 100 44 = some (.iload_n 3, 1) := by decide +kernel
theorem c100_45 : jm_code 100 45 = some (.iaload, 1) := by decide +kernel
theorem c100_46 : jm_code 100 46 = some (.isub, 1) := by decide +kernel
theorem c100_47 : jm_code 100 47 = some (.invokestatic 47, 3) := by decide +kernel
theorem c100_50 : jm_code 100 50 = some (.iadd, 1) := by decide +kernel
theorem c100_51 : jm_code 100 51 = some (.istore_n 2, 1) := by decide +kernel
theorem c100_52 : jm_code 100 52 = some (.iinc 3 1, 3) := by decide +kernel
theorem c100_55 : jm_code 100 55 = some (.goto (-51), 3) := by decide +kernel
theorem c100_58 : jm_code 100 58 = some (.iload_n 2, 1) := by decide +kernel
theorem c100_59 : jm_code 100 59 = some (.ireturn, 1) := by decide +kernel
theorem c101_0 : jm_code 101 0 = some (.iload_n 1, 1) := by decide +kernel
theorem c101_1 : jm_code 101 1 = some (.tableswitch 51 0 3 #[31, 36, 41, 46], 31) := by decide +kernel
theorem c101_32 : jm_code 101 32 = some (.aload_n 0, 1) := by decide +kernel
theorem c101_33 : jm_code 101 33 = some (.getfield 22, 3) := by decide +kernel
theorem c101_36 : jm_code 101 36 = some (.ireturn, 1) := by decide +kernel
theorem c101_37 : jm_code 101 37 = some (.aload_n 0, 1) := by decide +kernel
theorem c101_38 : jm_code 101 38 = some (.getfield 25, 3) := by decide +kernel
theorem c101_41 : jm_code 101 41 = some (.ireturn, 1) := by decide +kernel
theorem c101_42 : jm_code 101 42 = some (.aload_n 0, 1) := by decide +kernel
theorem c101_43 : jm_code 101 43 = some (.getfield 28, 3) := by decide +kernel
theorem c101_46 : jm_code 101 46 = some (.ireturn, 1) := by decide +kernel
theorem c101_47 : jm_code 101 47 = some (.aload_n 0, 1) := by decide +kernel
theorem c101_48 : jm_code 101 48 = some (.getfield 31, 3) := by decide +kernel
theorem c101_51 : jm_code 101 51 = some (.ireturn, 1) := by decide +kernel
theorem c101_52 : jm_code 101 52 = some (.aload_n 0, 1) := by decide +kernel
theorem c101_53 : jm_code 101 53 = some (.getfield 34, 3) := by decide +kernel
theorem c101_56 : jm_code 101 56 = some (.ireturn, 1) := by decide +kernel
theorem c102_0 : jm_code 102 0 = some (.iload_n 1, 1) := by decide +kernel
theorem c102_1 : jm_code 102 1 = some (.iconst 0, 1) := by decide +kernel
theorem c102_2 : jm_code 102 2 = some (.iconst 3, 1) := by decide +kernel
theorem c102_3 : jm_code 102 3 = some (.invokestatic 86, 3) := by decide +kernel
theorem c102_6 : jm_code 102 6 = some (.ifCond .ne 18, 3) := by decide +kernel
theorem c102_9 : jm_code 102 9 = some (.iload_n 2, 1) := by decide +kernel
theorem c102_10 : jm_code 102 10 = some (.iconst 0, 1) := by decide +kernel
theorem c102_11 : jm_code 102 11 = some (.iconst 2, 1) := by decide +kernel
theorem c102_12 : jm_code 102 12 = some (.invokestatic 86, 3) := by decide +kernel
theorem c102_15 : jm_code 102 15 = some (.ifCond .ne 9, 3) := by decide +kernel
theorem c102_18 : jm_code 102 18 = some (.iload_n 3, 1) := by decide +kernel
theorem c102_19 : jm_code 102 19 = some (.bipush 60, 2) := by decide +kernel
theorem c102_21 : jm_code 102 21 = some (.if_icmp .le 6, 3) := by decide +kernel
theorem c102_24 : jm_code 102 24 = some (.bipush (-2), 2) := by decide +kernel
theorem c102_26 : jm_code 102 26 = some (.ireturn, 1) := by decide +kernel
theorem c102_27 : jm_code 102 27 = some (.iload_n 3, 1) := by decide +kernel
theorem c102_28 : jm_code 102 28 = some (.ifCond .ge 9, 3) := by decide +kernel
theorem c102_31 : jm_code 102 31 = some (.aload_n 0, 1) := by decide +kernel
theorem c102_32 : jm_code 102 32 = some (.iconst 5, 1) := by decide +kernel
theorem c102_33 : jm_code 102 33 = some (.invokevirtual 105, 3) := by decide +kernel
theorem c102_36 : jm_code 102 36 = some (.ireturn, 1) := by decide +kernel
theorem c102_37 : jm_code 102 37 = some (.aload_n 0, 1) := by decide +kernel
theorem c102_38 : jm_code 102 38 = some (.getfield 73, 3) := by decide +kernel
theorem c102_41 : jm_code 102 41 = some (.iload_n 1, 1) := by decide +kernel
theorem c102_42 : jm_code 102 42 = some (.aaload, 1) := by decide +kernel
theorem c102_43 : jm_code 102 43 = some (.iload_n 2, 1) := by decide +kernel
theorem c102_44 : jm_code 102 44 = some (.iload_n 3, 1) := by decide +kernel
theorem c102_45 : jm_code 102 45 = some (.invokevirtual 278, 3) := by decide +kernel
theorem c102_48 : jm_code 102 48 = some (.iload_n 3, 1) := by decide +kernel
theorem c102_49 : jm_code 102 49 = some (.ireturn, 1) := by decide +kernel
theorem c103_0 : jm_code 103 0 = some (.aload_n 0, 1) := by decide +kernel
theorem c103_1 : jm_code 103 1 = some (.iload_n 1, 1) := by decide +kernel
theorem c103_2 : jm_code 103 2 = some (.putfield 15, 3) := by decide +kernel
theorem c103_5 : jm_code 103 5 = some (.aload_n 0, 1) := by decide +kernel
theorem c103_6 : jm_code 103 6 = some (.iload_n 2, 1) := by decide +kernel
theorem c103_7 : jm_code 103 7 = some (.putfield 19, 3) := by decide +kernel
theorem c103_10 : jm_code 103 10 = some (.aload_n 0, 1) := by decide +kernel
theorem c103_11 : jm_code 103 11 = some (.getfield 9, 3) := by decide +kernel
theorem c103_14 : jm_code 103 14 = some (.iconst 0, 1) := by decide +kernel
theorem c103_15 : jm_code 103 15 = some (.invokestatic 22, 3) := by decide +kernel
theorem c103_18 : jm_code 103 18 = some (.return_, 1) := by decide +kernel
theorem c104_0 : jm_code 104 0 = some (.iload_n 1, 1) := by decide +kernel
theorem c104_1 : jm_code 104 1 = some (.iconst 0, 1) := by decide +kernel
theorem c104_2 : jm_code 104 2 = some (.iconst 3, 1) := by decide +kernel
theorem c104_3 : jm_code 104 3 = some (.invokestatic 86, 3) := by decide +kernel
theorem c104_6 : jm_code 104 6 = some (.ifCond .eq 6, 3) := by decide +kernel
theorem c104_9 : jm_code 104 9 = some (.bipush (-2), 2) := by decide +kernel
theorem c104_11 : jm_code 104 11 = some (.ireturn, 1) := by decide +kernel
theorem c104_12 : jm_code 104 12 = some (.aload_n 0, 1) := by decide +kernel
theorem c104_13 : jm_code 104 13 = some (.getfield 73, 3) := by decide +kernel
theorem c104_16 : jm_code 104 16 = some (.iload_n 1, 1) := by decide +kernel
theorem c104_17 : jm_code 104 17 = some (.aaload, 1) := by decide +kernel
theorem c104_18 : jm_code 104 18 = some (.invokevirtual 102, 3) := by decide +kernel
theorem c104_21 : jm_code 104 21 = some (.ifCond .eq 9, 3) := by decide +kernel
theorem c104_24 : jm_code 104 24 = some (.aload_n 0, 1) := by decide +kernel
theorem c104_25 : jm_code 104 25 = some (.iconst 1, 1) := by decide +kernel
theorem c104_26 : jm_code 104 26 = some (.invokevirtual 105, 3) := by decide +kernel
theorem c104_29 : jm_code 104 29 = some (.ireturn, 1) := by decide +kernel
theorem c104_30 : jm_code 104 30 = some (.aload_n 0, 1) := by decide +kernel
theorem c104_31 : jm_code 104 31 = some (.getfield 73, 3) := by decide +kernel
theorem c104_34 : jm_code 104 34 = some (.iload_n 1, 1) := by decide +kernel
theorem c104_35 : jm_code 104 35 = some (.aaload, 1) := by decide +kernel
theorem c104_36 : jm_code 104 36 = some (.iconst (-1), 1) := by decide +kernel
theorem c104_37 : jm_code 104 37 = some (.putfield 281, 3) := by decide +kernel
theorem c104_40 : jm_code 104 40 = some (.aload_n 0, 1) := by decide +kernel
theorem c104_41 : jm_code 104 41 = some (.getfield 73, 3) := by decide +kernel
theorem c104_44 : jm_code 104 44 = some (.iload_n 1, 1) := by decide +kernel
theorem c104_45 : jm_code 104 45 = some (.aaload, 1) := by decide +kernel
theorem c104_46 : jm_code 104 46 = some (.getfield 109, 3) := by decide +kernel
theorem c104_49 : jm_code 104 49 = some (.ireturn, 1) := by decide +kernel
theorem c105_0 : jm_code 105 0 = some (.iload_n 1, 1) := by decide +kernel
theorem c105_1 : jm_code 105 1 = some (.iconst 0, 1) := by decide +kernel
theorem c105_2 : jm_code 105 2 = some (.iconst 3, 1) := by decide +kernel
theorem c105_3 : jm_code 105 3 = some (.invokestatic 86, 3) := by decide +kernel
theorem c105_6 : jm_code 105 6 = some (.ifCond .ne 12, 3) := by decide +kernel
theorem c105_9 : jm_code 105 9 = some (.iload_n 2, 1) := by decide +kernel
theorem c105_10 : jm_code 105 10 = some (.iconst 0, 1) := by decide +kernel
theorem c105_11 : jm_code 105 11 = some (.iconst 2, 1) := by decide +kernel
theorem c105_12 : jm_code 105 12 = some (.invokestatic 86, 3) := by decide +kernel
theorem c105_15 : jm_code 105 15 = some (.ifCond .eq 6, 3) := by decide +kernel
theorem c105_18 : jm_code 105 18 = some (.bipush (-2), 2) := by decide +kernel
theorem c105_20 : jm_code 105 20 = some (.ireturn, 1) := by decide +kernel
theorem c105_21 : jm_code 105 21 = some (.aload_n 0, 1) := by decide +kernel
theorem c105_22 : jm_code 105 22 = some (.getfield 73, 3) := by decide +kernel
theorem c105_25 : jm_code 105 25 = some (.iload_n 1, 1) := by decide +kernel
theorem c105_26 : jm_code 105 26 = some (.aaload, 1) := by decide +kernel
theorem c105_27 : jm_code 105 27 = some (.iload_n 2, 1) := by decide +kernel
theorem c105_28 : jm_code 105 28 = some (.iload_n 3, 1) := by decide +kernel
theorem c105_29 : jm_code 105 29 = some (.invokevirtual 284, 3) := by decide +kernel
theorem c105_32 : jm_code 105 32 = some (.istore 5, 2) := by decide +kernel
theorem c105_34 : jm_code 105 34 = some (.iload 5, 2) := by decide +kernel
theorem c105_36 : jm_code 105 36 = some (.ifCond .eq 10, 3) := by decide +kernel
theorem c105_39 : jm_code 105 39 = some (.aload_n 0, 1) := by decide +kernel
theorem c105_40 : jm_code 105 40 = some (.iload 5, 2) := by decide +kernel
theorem c105_42 : jm_code 105 42 = some (.invokevirtual 105, 3) := by decide +kernel
theorem c105_45 : jm_code 105 45 = some (.ireturn, 1) := by decide +kernel
theorem c105_46 : jm_code 105 46 = some (.aload_n 0, 1) := by decide +kernel
theorem c105_47 : jm_code 105 47 = some (.getfield 73, 3) := by decide +kernel
theorem c105_50 : jm_code 105 50 = some (.iload_n 1, 1) := by decide +kernel
theorem c105_51 : jm_code 105 51 = some (.aaload, 1) := by decide +kernel
theorem c105_52 : jm_code 105 52 = some (.iload_n 3, 1) := by decide +kernel
theorem c105_53 : jm_code 105 53 = some (.iload 4, 2) := by decide +kernel
theorem c105_55 : jm_code 105 55 = some (.invokevirtual 287, 3) := by decide +kernel
theorem c105_58 : jm_code 105 58 = some (.iconst 1, 1) := by decide +kernel
theorem c105_59 : jm_code 105 59 = some (.ireturn, 1) := by decide +kernel
theorem c106_0 : jm_code 106 0 = some (.aload_n 0, 1) := by decide +kernel
theorem c106_1 : jm_code 106 1 = some (.invokevirtual 28, 3) := by decide +kernel
theorem c106_4 : jm_code 106 4 = some (.ifCond .eq 5, 3) := by decide +kernel
theorem c106_7 : jm_code 106 7 = some (.iconst 1, 1) := by decide +kernel
theorem c106_8 : jm_code 106 8 = some (.ireturn, 1) := by decide +kernel
theorem c106_9 : jm_code 106 9 = some (.aload_n 0, 1) := by decide +kernel
theorem c106_10 : jm_code 106 10 = some (.getfield 15, 3) := by decide +kernel
theorem c106_13 : jm_code 106 13 = some (.iload_n 1, 1) := by decide +kernel
theorem c106_14 : jm_code 106 14 = some (.if_icmp .eq 5, 3) := by decide +kernel
theorem c106_17 : jm_code 106 17 = some (.iconst 3, 1) := by decide +kernel
theorem c106_18 : jm_code 106 18 = some (.ireturn, 1) := by decide +kernel
theorem c106_19 : jm_code 106 19 = some (.iload_n 2, 1) := by decide +kernel
theorem c106_20 : jm_code 106 20 = some (.ifCond .lt 11, 3) := by decide +kernel
theorem c106_23 : jm_code 106 23 = some (.iload_n 2, 1) := by decide +kernel
theorem c106_24 : jm_code 106 24 = some (.aload_n 0, 1) := by decide +kernel
theorem c106_25 : jm_code 106 25 = some (.getfield 19, 3) := by decide +kernel
theorem c106_28 : jm_code 106 28 = some (.if_icmp .lt 7, 3) := by decide +kernel
theorem c106_31 : jm_code 106 31 = some (.iconst 2, 1) := by decide +kernel
theorem c106_32 : jm_code 106 32 = some (.goto 4, 3) := by decide +kernel
theorem c106_35 : jm_code 106 35 = some (.iconst 0, 1) := by decide +kernel
theorem c106_36 : jm_code 106 36 = some (.ireturn, 1) := by decide +kernel
theorem c107_0 : jm_code 107 0 = some (.aload_n 0, 1) := by decide +kernel
theorem c107_1 : jm_code 107 1 = some (.getfield 9, 3) := by decide +kernel
theorem c107_4 : jm_code 107 4 = some (.iload_n 1, 1) := by decide +kernel
theorem c107_5 : jm_code 107 5 = some (.aload_n 0, 1) := by decide +kernel
theorem c107_6 : jm_code 107 6 = some (.getfield 15, 3) := by decide +kernel
theorem c107_9 : jm_code 107 9 = some (.ifCond .ne 8, 3) := by decide +kernel
theorem c107_12 : jm_code 107 12 = some (.iload_n 2, 1) := by decide +kernel
theorem c107_13 : jm_code 107 13 = some (.i2b, 1) := by decide +kernel
theorem c107_14 : jm_code 107 14 = some (.goto 17, 3) := by decide +kernel
theorem c107_17 : jm_code 107 17 = some (.aload_n 0, 1) := by decide +kernel
theorem c107_18 : jm_code 107 18 = some (.getfield 15, 3) := by decide +kernel
theorem c107_21 : jm_code 107 21 = some (.iconst 1, 1) := by decide +kernel
theorem c107_22 : jm_code 107 22 = some (.if_icmp .ne 8, 3) := by decide +kernel
theorem c107_25 : jm_code 107 25 = some (.iload_n 2, 1) := by decide +kernel
theorem c107_26 : jm_code 107 26 = some (.i2s, 1) := by decide +kernel
theorem c107_27 : jm_code 107 27 = some (.goto 4, 3) := by decide +kernel
theorem c107_30 : jm_code 107 30 = some (.iload_n 2, 1) := by decide +kernel
theorem c107_31 : jm_code 107 31 = some (.iastore, 1) := by decide +kernel
theorem c107_32 : jm_code 107 32 = some (.return_, 1) := by decide +kernel
theorem c108_0 : jm_code 108 0 = some (.iload_n 1, 1) := by decide +kernel
theorem c108_1 : jm_code 108 1 = some (.iconst 0, 1) := by decide +kernel
theorem c108_2 : jm_code 108 2 = some (.iconst 3, 1) := by decide +kernel
theorem c108_3 : jm_code 108 3 = some (.invokestatic 86, 3) := by decide +kernel
theorem c108_6 : jm_code 108 6 = some (.ifCond .ne 12, 3) := by decide +kernel
theorem c108_9 : jm_code 108 9 = some (.iload_n 2, 1) := by decide +kernel
theorem c108_10 : jm_code 108 10 = some (.iconst 0, 1) := by decide +kernel
theorem c108_11 : jm_code 108 11 = some (.iconst 2, 1) := by decide +kernel
theorem c108_12 : jm_code 108 12 = some (.invokestatic 86, 3) := by decide +kernel
theorem c108_15 : jm_code 108 15 = some (.ifCond .eq 7, 3) := by decide +kernel
theorem c108_18 : jm_code 108 18 = some (.ldc_w 289, 3) := by decide +kernel
theorem c108_21 : jm_code 108 21 = some (.ireturn, 1) := by decide +kernel
theorem c108_22 : jm_code 108 22 = some (.aload_n 0, 1) := by decide +kernel
theorem c108_23 : jm_code 108 23 = some (.getfield 73, 3) := by decide +kernel
theorem c108_26 : jm_code 108 26 = some (.iload_n 1, 1) := by decide +kernel
theorem c108_27 : jm_code 108 27 = some (.aaload, 1) := by decide +kernel
theorem c108_28 : jm_code 108 28 = some (.iload_n 2, 1) := by decide +kernel
theorem c108_29 : jm_code 108 29 = some (.iload_n 3, 1) := by decide +kernel
theorem c108_30 : jm_code 108 30 = some (.invokevirtual 284, 3) := by decide +kernel
theorem c108_33 : jm_code 108 33 = some (.istore 4, 2) := by decide +kernel
theorem c108_35 : jm_code 108 35 = some (.iload 4, 2) := by decide +kernel
theorem c108_37 : jm_code 108 37 = some (.ifCond .eq 13, 3) := by decide +kernel
theorem c108_40 : jm_code 108 40 = some (.aload_n 0, 1) := by decide +kernel
theorem c108_41 : jm_code 108 41 = some (.iload 4, 2) := by decide +kernel
theorem c108_43 : jm_code 108 43 = some (.putfield 77, 3) := by decide +kernel
theorem c108_46 : jm_code 108 46 = some (.ldc_w 289, 3) := by decide +kernel
theorem c108_49 : jm_code 108 49 = some (.ireturn, 1) := by decide +kernel
theorem c108_50 : jm_code 108 50 = some (.aload_n 0, 1) := by decide +kernel
theorem c108_51 : jm_code 108 51 = some (.getfield 73, 3) := by decide +kernel
theorem c108_54 : jm_code 108 54 = some (.iload_n 1, 1) := by decide +kernel
theorem c108_55 : jm_code 108 55 = some (.aaload, 1) := by decide +kernel
theorem c108_56 : jm_code 108 56 = some (.getfield 112, 3) := by decide +kernel
theorem c108_59 : jm_code 108 59 = some (.iload_n 3, 1) := by decide +kernel
theorem c108_60 : jm_code 108 60 = some (.iaload, 1) := by decide +kernel
theorem c108_61 : jm_code 108 61 = some (.ireturn, 1) := by decide +kernel
theorem c109_0 : jm_code 109 0 = some (.iload_n 1, 1) := by decide +kernel
theorem c109_1 : jm_code 109 1 = some (.iconst 0, 1) := by decide +kernel
theorem c109_2 : jm_code 109 2 = some (.iconst 3, 1) := by decide +kernel
theorem c109_3 : jm_code 109 3 = some (.invokestatic 86, 3) := by decide +kernel
theorem c109_6 : jm_code 109 6 = some (.ifCond .ne 12, 3) := by decide +kernel
theorem c109_9 : jm_code 109 9 = some (.iload_n 3, 1) := by decide +kernel
theorem c109_10 : jm_code 109 10 = some (.iconst 0, 1) := by decide +kernel
theorem c109_11 : jm_code 109 11 = some (.iconst 3, 1) := by decide +kernel
theorem c109_12 : jm_code 109 12 = some (.invokestatic 86, 3) := by decide +kernel
theorem c109_15 : jm_code 109 15 = some (.ifCond .eq 6, 3) := by decide +kernel
theorem c109_18 : jm_code 109 18 = some (.bipush (-2), 2) := by decide +kernel
theorem c109_20 : jm_code 109 20 = some (.ireturn, 1) := by decide +kernel
theorem c109_21 : jm_code 109 21 = some (.aload_n 0, 1) := by decide +kernel
theorem c109_22 : jm_code 109 22 = some (.getfield 73, 3) := by decide +kernel
theorem c109_25 : jm_code 109 25 = some (.iload_n 1, 1) := by decide +kernel
theorem c109_26 : jm_code 109 26 = some (.aaload, 1) := by decide +kernel
theorem c109_27 : jm_code 109 27 = some (.astore 6, 2) := by decide +kernel
theorem c109_29 : jm_code 109 29 = some (.aload_n 0, 1) := by decide +kernel
theorem c109_30 : jm_code 109 30 = some (.getfield 73, 3) := by decide +kernel
theorem c109_33 : jm_code 109 33 = some (.iload_n 3, 1) := by decide +kernel
theorem c109_34 : jm_code 109 34 = some (.aaload, 1) := by decide +kernel
theorem c109_35 : jm_code 109 35 = some (.astore 7, 2) := by decide +kernel
theorem c109_37 : jm_code 109 37 = some (.aload 6, 2) := by decide +kernel
theorem c109_39 : jm_code 109 39 = some (.invokevirtual 102, 3) := by decide +kernel
theorem c109_42 : jm_code 109 42 = some (.ifCond .ne 11, 3) := by decide +kernel
theorem c109_45 : jm_code 109 45 = some (.aload 7, 2) := by decide +kernel
theorem c109_47 : jm_code 109 47 = some (.invokevirtual 102, 3) := by decide +kernel
theorem c109_50 : jm_code 109 50 = some (.ifCond .eq 9, 3) := by decide +kernel
theorem c109_53 : jm_code 109 53 = some (.aload_n 0, 1) := by decide +kernel
theorem c109_54 : jm_code 109 54 = some (.iconst 1, 1) := by decide +kernel
theorem c109_55 : jm_code 109 55 = some (.invokevirtual 105, 3) := by decide +kernel
theorem c109_58 : jm_code 109 58 = some (.ireturn, 1) := by decide +kernel
theorem c109_59 : jm_code 109 59 = some (.aload 6, 2) := by decide +kernel
theorem c109_61 : jm_code 109 61 = some (.getfield 281, 3) := by decide +kernel
theorem c109_64 : jm_code 109 64 = some (.aload 7, 2) := by decide +kernel
theorem c109_66 : jm_code 109 66 = some (.getfield 281, 3) := by decide +kernel
theorem c109_69 : jm_code 109 69 = some (.if_icmp .eq 9, 3) := by decide +kernel
theorem c109_72 : jm_code 109 72 = some (.aload_n 0, 1) := by decide +kernel
theorem c109_73 : jm_code 109 73 = some (.iconst 4, 1) := by decide +kernel
theorem c109_74 : jm_code 109 74 = some (.invokevirtual 105, 3) := by decide +kernel
theorem c109_77 : jm_code 109 77 = some (.ireturn, 1) := by decide +kernel
theorem c109_78 : jm_code 109 78 = some (.aload 6, 2) := by decide +kernel
theorem c109_80 : jm_code 109 80 = some (.iload_n 2, 1) := by decide +kernel
theorem c109_81 : jm_code 109 81 = some (.iload 5, 2) := by decide +kernel
theorem c109_83 : jm_code 109 83 = some (.invokevirtual 290, 3) := by decide +kernel
theorem c109_86 : jm_code 109 86 = some (.ifCond .eq 15, 3) := by decide +kernel
theorem c109_89 : jm_code 109 89 = some (.aload 7, 2) := by decide +kernel
theorem c109_91 : jm_code 109 91 = some (.iload 4, 2) := by decide +kernel
theorem c109_93 : jm_code 109 93 = some (.iload 5, 2) := by decide +kernel
theorem c109_95 : jm_code 109 95 = some (.invokevirtual 290, 3) := by decide +kernel
theorem c109_98 : jm_code 109 98 = some (.ifCond .ne 9, 3) := by decide +kernel
theorem c109_101 : jm_code 109 101 = some (.aload_n 0, 1) := by decide +kernel
theorem c109_102 : jm_code 109 102 = some (.iconst 2, 1) := by decide +kernel
theorem c109_103 : jm_code 109 103 = some (.invokevirtual 105, 3) := by decide +kernel
theorem c109_106 : jm_code 109 106 = some (.ireturn, 1) := by decide +kernel
theorem c109_107 : jm_code 109 107 = some (.aload 6, 2) := by decide +kernel
theorem c109_109 : jm_code 109 109 = some (.getfield 112, 3) := by decide +kernel
theorem c109_112 : jm_code 109 112 = some (.iload_n 2, 1) := by decide +kernel
theorem c109_113 : jm_code 109 113 = some (.aload 7, 2) := by decide +kernel
theorem c109_115 : jm_code 109 115 = some (.getfield 112, 3) := by decide +kernel
theorem c109_118 : jm_code 109 118 = some (.iload 4, 2) := by decide +kernel
theorem c109_120 : jm_code 109 120 = some (.iload 5, 2) := by decide +kernel
theorem c109_122 : jm_code 109 122 = some (.invokestatic 293, 3) := by decide +kernel
theorem c109_125 : jm_code 109 125 = some (.iconst 1, 1) := by decide +kernel
theorem c109_126 : jm_code 109 126 = some (.ireturn, 1) := by decide +kernel
theorem c110_0 : jm_code 110 0 = some (.iload_n 1, 1) := by decide +kernel
theorem c110_1 : jm_code 110 1 = some (.ifCond .lt 29, 3) := by decide +kernel
theorem c110_4 : jm_code 110 4 = some (.iload_n 2, 1) := by decide +kernel
theorem c110_5 : jm_code 110 5 = some (.ifCond .lt 25, 3) := by decide +kernel
theorem c110_8 : jm_code 110 8 = some (.iload_n 1, 1) := by decide +kernel
theorem c110_9 : jm_code 110 9 = some (.aload_n 0, 1) := by decide +kernel
theorem c110_10 : jm_code 110 10 = some (.getfield 19, 3) := by decide +kernel
theorem c110_13 : jm_code 110 13 = some (.if_icmp .gt 17, 3) := by decide +kernel
theorem c110_16 : jm_code 110 16 = some (.iload_n 2, 1) := by decide +kernel
theorem c110_17 : jm_code 110 17 = some (.aload_n 0, 1) := by decide +kernel
theorem c110_18 : jm_code 110 18 = some (.getfield 19, 3) := by decide +kernel
theorem c110_21 : jm_code 110 21 = some (.iload_n 1, 1) := by decide +kernel
theorem c110_22 : jm_code 110 22 = some (.isub, 1) := by decide +kernel
theorem c110_23 : jm_code 110 23 = some (.if_icmp .gt 7, 3) := by decide +kernel
theorem c110_26 : jm_code 110 26 = some (.iconst 1, 1) := by decide +kernel
theorem c110_27 : jm_code 110 27 = some (.goto 4, 3) := by decide +kernel
theorem c110_30 : jm_code 110 30 = some (.iconst 0, 1) := by decide +kernel
theorem c110_31 : jm_code 110 31 = some (.ireturn, 1) := by decide +kernel
theorem c111_0 : jm_code 111 0 = some (.iload_n 1, 1) := by decide +kernel
theorem c111_1 : jm_code 111 1 = some (.iconst 0, 1) := by decide +kernel
theorem c111_2 : jm_code 111 2 = some (.sipush 199, 3) := by decide +kernel
theorem c111_5 : jm_code 111 5 = some (.invokestatic 86, 3) := by decide +kernel
theorem c111_8 : jm_code 111 8 = some (.ifCond .ne 12, 3) := by decide +kernel
theorem c111_11 : jm_code 111 11 = some (.iload_n 2, 1) := by decide +kernel
theorem c111_12 : jm_code 111 12 = some (.iconst 0, 1) := by decide +kernel
theorem c111_13 : jm_code 111 13 = some (.iconst 3, 1) := by decide +kernel
theorem c111_14 : jm_code 111 14 = some (.invokestatic 86, 3) := by decide +kernel
theorem c111_17 : jm_code 111 17 = some (.ifCond .eq 6, 3) := by decide +kernel
theorem c111_20 : jm_code 111 20 = some (.bipush (-2), 2) := by decide +kernel
theorem c111_22 : jm_code 111 22 = some (.ireturn, 1) := by decide +kernel
theorem c111_23 : jm_code 111 23 = some (.aload_n 0, 1) := by decide +kernel
theorem c111_24 : jm_code 111 24 = some (.getfield 73, 3) := by decide +kernel
theorem c111_27 : jm_code 111 27 = some (.iload_n 2, 1) := by decide +kernel
theorem c111_28 : jm_code 111 28 = some (.aaload, 1) := by decide +kernel
theorem c111_29 : jm_code 111 29 = some (.astore_n 3, 1) := by decide +kernel
theorem c111_30 : jm_code 111 30 = some (.aload_n 3, 1) := by decide +kernel
theorem c111_31 : jm_code 111 31 = some (.invokevirtual 102, 3) := by decide +kernel
theorem c111_34 : jm_code 111 34 = some (.ifCond .eq 9, 3) := by decide +kernel
theorem c111_37 : jm_code 111 37 = some (.aload_n 0, 1) := by decide +kernel
theorem c111_38 : jm_code 111 38 = some (.iconst 1, 1) := by decide +kernel
theorem c111_39 : jm_code 111 39 = some (.invokevirtual 105, 3) := by decide +kernel
theorem c111_42 : jm_code 111 42 = some (.ireturn, 1) := by decide +kernel
theorem c111_43 : jm_code 111 43 = some (.aload_n 0, 1) := by decide +kernel
theorem c111_44 : jm_code 111 44 = some (.sipush 200, 3) := by decide +kernel
theorem c111_47 : jm_code 111 47 = some (.invokevirtual 171, 3) := by decide +kernel
theorem c111_50 : jm_code 111 50 = some (.aload_n 3, 1) := by decide +kernel
theorem c111_51 : jm_code 111 51 = some (.getfield 109, 3) := by decide +kernel
theorem c111_54 : jm_code 111 54 = some (.sipush 200, 3) := by decide +kernel
theorem c111_57 : jm_code 111 57 = some (.iload_n 1, 1) := by decide +kernel
theorem c111_58 : jm_code 111 58 = some (.isub, 1) := by decide +kernel
theorem c111_59 : jm_code 111 59 = some (.invokestatic 299, 3) := by decide +kernel
theorem c111_62 : jm_code 111 62 = some (.istore 4, 2) := by decide +kernel
theorem c111_64 : jm_code 111 64 = some (.iconst 0, 1) := by decide +kernel
theorem c111_65 : jm_code 111 65 = some (.istore 5, 2) := by decide +kernel
theorem c111_67 : jm_code 111 67 = some (.iload 5, 2) := by decide +kernel
theorem c111_69 : jm_code 111 69 = some (.iload 4, 2) := by decide +kernel
theorem c111_71 : jm_code 111 71 = some (.if_icmp .ge 26, 3) := by decide +kernel
theorem c111_74 : jm_code 111 74 = some (.aload_n 3, 1) := by decide +kernel
theorem c111_75 : jm_code 111 75 = some (.iload 5, 2) := by decide +kernel
theorem c111_77 : jm_code 111 77 = some (.aload_n 0, 1) := by decide +kernel
theorem c111_78 : jm_code 111 78 = some (.getfield 50, 3) := by decide +kernel
theorem c111_81 : jm_code 111 81 = some (.iload_n 1, 1) := by decide +kernel
theorem c111_82 : jm_code 111 82 = some (.iload 5, 2) := by decide +kernel
theorem c111_84 : jm_code 111 84 = some (.iadd, 1) := by decide +kernel
theorem c111_85 : jm_code 111 85 = some (.invokevirtual 177, 3) := by decide +kernel
theorem c111_88 : jm_code 111 88 = some (.invokevirtual 287, 3) := by decide +kernel
theorem c111_91 : jm_code 111 91 = some (.iinc 5 1, 3) := by decide +kernel
theorem c111_94 : jm_code 111 94 = some (.goto (-27), 3) := by decide +kernel
theorem c111_97 : jm_code 111 97 = some (.iload 4, 2) := by decide +kernel
theorem c111_99 : jm_code 111 99 = some (.ireturn, 1) := by decide +kernel
theorem c112_0 : jm_code 112 0 = some (.iload_n 1, 1) := by decide +kernel
theorem c112_1 : jm_code 112 1 = some (.iconst 0, 1) := by decide +kernel
theorem c112_2 : jm_code 112 2 = some (.bipush 8, 2) := by decide +kernel
theorem c112_4 : jm_code 112 4 = some (.invokestatic 86, 3) := by decide +kernel
theorem c112_7 : jm_code 112 7 = some (.ifCond .eq 6, 3) := by decide +kernel
theorem c112_10 : jm_code 112 10 = some (.bipush (-2), 2) := by decide +kernel
theorem c112_12 : jm_code 112 12 = some (.ireturn, 1) := by decide +kernel
theorem c112_13 : jm_code 112 13 = some (.iload_n 1, 1) := by decide +kernel
theorem c112_14 : jm_code 112 14 = some (.tableswitch 87 0 8 #[50, 87, 87, 87, 87, 58, 66, 74, 82], 50) := by decide +kernel
theorem c112_64 : jm_code 112 64 = some (.aload_n 0, 1) := by decide +kernel
theorem c112_65 : jm_code 112 65 = some (.getfield 10, 3) := by decide +kernel
theorem c112_68 : jm_code 112 68 = some (.getfield 131, 3) := by decide +kernel
theorem c112_71 : jm_code 112 71 = some (.ireturn, 1) := by decide +kernel
theorem c112_72 : jm_code 112 72 = some (.aload_n 0, 1) := by decide +kernel
theorem c112_73 : jm_code 112 73 = some (.getfield 37, 3) := by decide +kernel
theorem c112_76 : jm_code 112 76 = some (.getfield 302, 3) := by decide +kernel
theorem c112_79 : jm_code 112 79 = some (.ireturn, 1) := by decide +kernel
theorem c112_80 : jm_code 112 80 = some (.aload_n 0, 1) := by decide +kernel
theorem c112_81 : jm_code 112 81 = some (.getfield 67, 3) := by decide +kernel
theorem c112_84 : jm_code 112 84 = some (.getfield 134, 3) := by decide +kernel
theorem c112_87 : jm_code 112 87 = some (.ireturn, 1) := by decide +kernel
theorem c112_88 : jm_code 112 88 = some (.aload_n 0, 1) := by decide +kernel
theorem c112_89 : jm_code 112 89 = some (.getfield 10, 3) := by decide +kernel
theorem c112_92 : jm_code 112 92 = some (.invokevirtual 305, 3) := by decide +kernel
theorem c112_95 : jm_code 112 95 = some (.ireturn, 1) := by decide +kernel
theorem c112_96 : jm_code 112 96 = some (.aload_n 0, 1) := by decide +kernel
theorem c112_97 : jm_code 112 97 = some (.getfield 77, 3) := by decide +kernel
theorem c112_100 : jm_code 112 100 = some (.ireturn, 1) := by decide +kernel
theorem c112_101 : jm_code 112 101 = some (.aload_n 0, 1) := by decide +kernel
theorem c112_102 : jm_code 112 102 = some (.getfield 30, 3) := by decide +kernel
theorem c112_105 : jm_code 112 105 = some (.iload_n 1, 1) := by decide +kernel
theorem c112_106 : jm_code 112 106 = some (.iconst 1, 1) := by decide +kernel
theorem c112_107 : jm_code 112 107 = some (.isub, 1) := by decide +kernel
theorem c112_108 : jm_code 112 108 = some (.aaload, 1) := by decide +kernel
theorem c112_109 : jm_code 112 109 = some (.getfield 147, 3) := by decide +kernel
theorem c112_112 : jm_code 112 112 = some (.ireturn, 1) := by decide +kernel
theorem c113_0 : jm_code 113 0 = some (.iconst 0, 1) := by decide +kernel
theorem c113_1 : jm_code 113 1 = some (.istore_n 1, 1) := by decide +kernel
theorem c113_2 : jm_code 113 2 = some (.iconst 0, 1) := by decide +kernel
theorem c113_3 : jm_code 113 3 = some (.istore_n 2, 1) := by decide +kernel
theorem c113_4 : jm_code 113 4 = some (.iload_n 2, 1) := by decide +kernel
theorem c113_5 : jm_code 113 5 = some (.aload_n 0, 1) := by decide +kernel
theorem c113_6 : jm_code 113 6 = some (.getfield 18, 3) := by decide +kernel
theorem c113_9 : jm_code 113 9 = some (.if_icmp .ge 18, 3) := by decide +kernel
theorem c113_12 : jm_code 113 12 = some (.iload_n 1, 1) := by decide +kernel
theorem c113_13 : jm_code 113 13 = some (.aload_n 0, 1) := by decide +kernel
theorem c113_14 : jm_code 113 14 = some (.iload_n 2, 1) := by decide +kernel
theorem c113_15 : jm_code 113 15 = some (.iconst 0, 1) := by decide +kernel
theorem c113_16 : jm_code 113 16 = some (.invokevirtual 26, 3) := by decide +kernel
theorem c113_19 : jm_code 113 19 = some (.iadd, 1) := by decide +kernel
theorem c113_20 : jm_code 113 20 = some (.istore_n 1, 1) := by decide +kernel
theorem c113_21 : jm_code 113 21 = some (.iinc 2 1, 3) := by decide +kernel
theorem c113_24 : jm_code 113 24 = some (.goto (-20), 3) := by decide +kernel
theorem c113_27 : jm_code 113 27 = some (.iload_n 1, 1) := by decide +kernel
theorem c113_28 : jm_code 113 28 = some (.ireturn, 1) := by decide +kernel
theorem c114_0 : jm_code 114 0 = some (.ldc2_w 308, 3) := by decide +kernel
theorem c114_3 : jm_code 114 3 = some (.lstore_n 1, 1) := by decide +kernel
theorem c114_4 : jm_code 114 4 = some (.iconst 0, 1) := by decide +kernel
theorem c114_5 : jm_code 114 5 = some (.istore_n 3, 1) := by decide +kernel
theorem c114_6 : jm_code 114 6 = some (.iload_n 3, 1) := by decide +kernel
theorem c114_7 : jm_code 114 7 = some (.bipush 7, 2) := by decide +kernel
theorem c114_9 : jm_code 114 9 = some (.if_icmp .gt 22, 3) := by decide +kernel
theorem c114_12 : jm_code 114 12 = some (.ldc2_w 310, 3) := by decide +kernel
theorem c114_15 : jm_code 114 15 = some (.lload_n 1, 1) := by decide +kernel
theorem c114_16 : jm_code 114 16 = some (.lmul, 1) := by decide +kernel
theorem c114_17 : jm_code 114 17 = some (.aload_n 0, 1) := by decide +kernel
theorem c114_18 : jm_code 114 18 = some (.iload_n 3, 1) := by decide +kernel
theorem c114_19 : jm_code 114 19 = some (.invokevirtual 312, 3) := by decide +kernel
theorem c114_22 : jm_code 114 22 = some (.i2l, 1) := by decide +kernel
theorem c114_23 : jm_code 114 23 = some (.ladd, 1) := by decide +kernel
theorem c114_24 : jm_code 114 24 = some (.lstore_n 1, 1) := by decide +kernel
theorem c114_25 : jm_code 114 25 = some (.iinc 3 1, 3) := by decide +kernel
theorem c114_28 : jm_code 114 28 = some (.goto (-22), 3) := by decide +kernel
theorem c114_31 : jm_code 114 31 = some (.iconst 0, 1) := by decide +kernel
theorem c114_32 : jm_code 114 32 = some (.istore_n 3, 1) := by decide +kernel
theorem c114_33 : jm_code 114 33 = some (.iload_n 3, 1) := by decide +kernel
theorem c114_34 : jm_code 114 34 = some (.iconst 4, 1) := by decide +kernel
theorem c114_35 : jm_code 114 35 = some (.if_icmp .ge 26, 3) := by decide +kernel
theorem c114_38 : jm_code 114 38 = some (.ldc2_w 310, 3) := by decide +kernel
theorem c114_41 : jm_code 114 41 = some (.lload_n 1, 1) := by decide +kernel
theorem c114_42 : jm_code 114 42 = some (.lmul, 1) := by decide +kernel
theorem c114_43 : jm_code 114 43 = some (.aload_n 0, 1) := by decide +kernel
theorem c114_44 : jm_code 114 44 = some (.getfield 30, 3) := by decide +kernel
theorem c114_47 : jm_code 114 47 = some (.iload_n 3, 1) := by decide +kernel
theorem c114_48 : jm_code 114 48 = some (.aaload, 1) := by decide +kernel
theorem c114_49 : jm_code 114 49 = some (.getfield 148, 3) := by decide +kernel
theorem c114_52 : jm_code 114 52 = some (.i2l, 1) := by decide +kernel
theorem c114_53 : jm_code 114 53 = some (.ladd, 1) := by decide +kernel
theorem c114_54 : jm_code 114 54 = some (.lstore_n 1, 1) := by decide +kernel
theorem c114_55 : jm_code 114 55 = some (.iinc 3 1, 3) := by decide +kernel
theorem c114_58 : jm_code 114 58 = some (.goto (-25), 3) := by decide +kernel
theorem c114_61 : jm_code 114 61 = some (.aload_n 0, 1) := by decide +kernel
theorem c114_62 : jm_code 114 62 = some (.lload_n 1, 1) := by decide +kernel
theorem c114_63 : jm_code 114 63 = some (.bipush 100, 2) := by decide +kernel
theorem c114_65 : jm_code 114 65 = some (.invokevirtual 315, 3) := by decide +kernel
theorem c114_68 : jm_code 114 68 = some (.lstore_n 1, 1) := by decide +kernel
theorem c114_69 : jm_code 114 69 = some (.aload_n 0, 1) := by decide +kernel
theorem c114_70 : jm_code 114 70 = some (.lload_n 1, 1) := by decide +kernel
theorem c114_71 : jm_code 114 71 = some (.invokevirtual 319, 3) := by decide +kernel
theorem c114_74 : jm_code 114 74 = some (.lstore_n 1, 1) := by decide +kernel
theorem c114_75 : jm_code 114 75 = some (.aload_n 0, 1) := by decide +kernel
theorem c114_76 : jm_code 114 76 = some (.bipush 60, 2) := by decide +kernel
theorem c114_78 : jm_code 114 78 = some (.invokevirtual 188, 3) := by decide +kernel
theorem c114_81 : jm_code 114 81 = some (.iconst 0, 1) := by decide +kernel
theorem c114_82 : jm_code 114 82 = some (.istore_n 3, 1) := by decide +kernel
theorem c114_83 : jm_code 114 83 = some (.iload_n 3, 1) := by decide +kernel
theorem c114_84 : jm_code 114 84 = some (.iconst 2, 1) := by decide +kernel
theorem c114_85 : jm_code 114 85 = some (.if_icmp .gt 25, 3) := by decide +kernel
theorem c114_88 : jm_code 114 88 = some (.ldc2_w 310, 3) := by decide +kernel
theorem c114_91 : jm_code 114 91 = some (.lload_n 1, 1) := by decide +kernel
theorem c114_92 : jm_code 114 92 = some (.lmul, 1) := by decide +kernel
theorem c114_93 : jm_code 114 93 = some (.aload_n 0, 1) := by decide +kernel
theorem c114_94 : jm_code 114 94 = some (.getfield 60, 3) := by decide +kernel
theorem c114_97 : jm_code 114 97 = some (.iload_n 3, 1) := by decide +kernel
theorem c114_98 : jm_code 114 98 = some (.invokevirtual 191, 3) := by decide +kernel
theorem c114_101 : jm_code 114 101 = some (.i2l, 1) := by decide +kernel
theorem c114_102 : jm_code 114 102 = some (.ladd, 1) := by decide +kernel
theorem c114_103 : jm_code 114 103 = some (.lstore_n 1, 1) := by decide +kernel
theorem c114_104 : jm_code 114 104 = some (.iinc 3 1, 3) := by decide +kernel
theorem c114_107 : jm_code 114 107 = some (.goto (-24), 3) := by decide +kernel
theorem c114_110 : jm_code 114 110 = some (.aload_n 0, 1) := by decide +kernel
theorem c114_111 : jm_code 114 111 = some (.iconst 3, 1) := by decide +kernel
theorem c114_112 : jm_code 114 112 = some (.bipush 100, 2) := by decide +kernel
theorem c114_114 : jm_code 114 114 = some (.invokevirtual 230, 3) := by decide +kernel
theorem c114_117 : jm_code 114 117 = some (.iconst 0, 1) := by decide +kernel
theorem c114_118 : jm_code 114 118 = some (.istore_n 3, 1) := by decide +kernel
theorem c114_119 : jm_code 114 119 = some (.iload_n 3, 1) := by decide +kernel
theorem c114_120 : jm_code 114 120 = some (.iconst 3, 1) := by decide +kernel
theorem c114_121 : jm_code 114 121 = some (.if_icmp .gt 24, 3) := by decide +kernel
theorem c114_124 : jm_code 114 124 = some (.ldc2_w 310, 3) := by decide +kernel
theorem c114_127 : jm_code 114 127 = some (.lload_n 1, 1) := by decide +kernel
theorem c114_128 : jm_code 114 128 = some (.lmul, 1) := by decide +kernel
theorem c114_129 : jm_code 114 129 = some (.aload_n 0, 1) := by decide +kernel
theorem c114_130 : jm_code 114 130 = some (.bipush 100, 2) := by decide +kernel
theorem c114_132 : jm_code 114 132 = some (.iload_n 3, 1) := by decide +kernel
theorem c114_133 : jm_code 114 133 = some (.invokevirtual 234, 3) := by decide +kernel
theorem c114_136 : jm_code 114 136 = some (.i2l, 1) := by decide +kernel
theorem c114_137 : jm_code 114 137 = some (.ladd, 1) := by decide +kernel
theorem c114_138 : jm_code 114 138 = some (.lstore_n 1, 1) := by decide +kernel
theorem c114_139 : jm_code 114 139 = some (.iinc 3 1, 3) := by decide +kernel
theorem c114_142 : jm_code 114 142 = some (.goto (-23), 3) := by decide +kernel
theorem c114_145 : jm_code 114 145 = some (.aload_n 0, 1) := by decide +kernel
theorem c114_146 : jm_code 114 146 = some (.lload_n 1, 1) := by decide +kernel
theorem c114_147 : jm_code 114 147 = some (.invokevirtual 323, 3) := by decide +kernel
theorem c114_150 : jm_code 114 150 = some (.lreturn, 1) := by decide +kernel
theorem c115_0 : jm_code 115 0 = some (.lload_n 1, 1) := by decide +kernel
theorem c115_1 : jm_code 115 1 = some (.lstore 4, 2) := by decide +kernel
theorem c115_3 : jm_code 115 3 = some (.aload_n 0, 1) := by decide +kernel
theorem c115_4 : jm_code 115 4 = some (.invokevirtual 161, 3) := by decide +kernel
theorem c115_7 : jm_code 115 7 = some (.aload_n 0, 1) := by decide +kernel
theorem c115_8 : jm_code 115 8 = some (.getfield 50, 3) := by decide +kernel
theorem c115_11 : jm_code 115 11 = some (.aload_n 0, 1) := by decide +kernel
theorem c115_12 : jm_code 115 12 = some (.getfield 37, 3) := by decide +kernel
theorem c115_15 : jm_code 115 15 = some (.iload_n 3, 1) := by decide +kernel
theorem c115_16 : jm_code 115 16 = some (.invokevirtual 164, 3) := by decide +kernel
theorem c115_19 : jm_code 115 19 = some (.iconst 0, 1) := by decide +kernel
theorem c115_20 : jm_code 115 20 = some (.istore 6, 2) := by decide +kernel
theorem c115_22 : jm_code 115 22 = some (.iload 6, 2) := by decide +kernel
theorem c115_24 : jm_code 115 24 = some (.aload_n 0, 1) := by decide +kernel
theorem c115_25 : jm_code 115 25 = some (.getfield 10, 3) := by decide +kernel
theorem c115_28 : jm_code 115 28 = some (.getfield 131, 3) := by decide +kernel
theorem c115_31 : jm_code 115 31 = some (.if_icmp .ge 45, 3) := by decide +kernel
theorem c115_34 : jm_code 115 34 = some (.iconst 0, 1) := by decide +kernel
theorem c115_35 : jm_code 115 35 = some (.istore 7, 2) := by decide +kernel
theorem c115_37 : jm_code 115 37 = some (.iload 7, 2) := by decide +kernel
theorem c115_39 : jm_code 115 39 = some (.iconst 5, 1) := by decide +kernel
theorem c115_40 : jm_code 115 40 = some (.if_icmp .gt 30, 3) := by decide +kernel
theorem c115_43 : jm_code 115 43 = some (.ldc2_w 310, 3) := by decide +kernel
theorem c115_46 : jm_code 115 46 = some (.lload 4, 2) := by decide +kernel
theorem c115_48 : jm_code 115 48 = some (.lmul, 1) := by decide +kernel
theorem c115_49 : jm_code 115 49 = some (.aload_n 0, 1) := by decide +kernel
theorem c115_50 : jm_code 115 50 = some (.getfield 50, 3) := by decide +kernel
theorem c115_53 : jm_code 115 53 = some (.iload 6, 2) := by decide +kernel
theorem c115_55 : jm_code 115 55 = some (.iload 7, 2) := by decide +kernel
theorem c115_57 : jm_code 115 57 = some (.invokevirtual 168, 3) := by decide +kernel
theorem c115_60 : jm_code 115 60 = some (.i2l, 1) := by decide +kernel
theorem c115_61 : jm_code 115 61 = some (.ladd, 1) := by decide +kernel
theorem c115_62 : jm_code 115 62 = some (.lstore 4, 2) := by decide +kernel
theorem c115_64 : jm_code 115 64 = some (.iinc 7 1, 3) := by decide +kernel
theorem c115_67 : jm_code 115 67 = some (.goto (-30), 3) := by decide +kernel
theorem c115_70 : jm_code 115 70 = some (.iinc 6 1, 3) := by decide +kernel
theorem c115_73 : jm_code 115 73 = some (.goto (-51), 3) := by decide +kernel
theorem c115_76 : jm_code 115 76 = some (.lload 4, 2) := by decide +kernel
theorem c115_78 : jm_code 115 78 = some (.lreturn, 1) := by decide +kernel
theorem c116_0 : jm_code 116 0 = some (.lload_n 1, 1) := by decide +kernel
theorem c116_1 : jm_code 116 1 = some (.lstore_n 3, 1) := by decide +kernel
theorem c116_2 : jm_code 116 2 = some (.aload_n 0, 1) := by decide +kernel
theorem c116_3 : jm_code 116 3 = some (.sipush 200, 3) := by decide +kernel
theorem c116_6 : jm_code 116 6 = some (.invokevirtual 171, 3) := by decide +kernel
theorem c116_9 : jm_code 116 9 = some (.iconst 0, 1) := by decide +kernel
theorem c116_10 : jm_code 116 10 = some (.istore 5, 2) := by decide +kernel
theorem c116_12 : jm_code 116 12 = some (.iload 5, 2) := by decide +kernel
theorem c116_14 : jm_code 116 14 = some (.iconst 3, 1) := by decide +kernel
theorem c116_15 : jm_code 116 15 = some (.if_icmp .ge 40, 3) := by decide +kernel
theorem c116_18 : jm_code 116 18 = some (.iconst 0, 1) := by decide +kernel
theorem c116_19 : jm_code 116 19 = some (.istore 6, 2) := by decide +kernel
theorem c116_21 : jm_code 116 21 = some (.iload 6, 2) := by decide +kernel
theorem c116_23 : jm_code 116 23 = some (.iconst 5, 1) := by decide +kernel
theorem c116_24 : jm_code 116 24 = some (.if_icmp .gt 25, 3) := by decide +kernel
theorem c116_27 : jm_code 116 27 = some (.ldc2_w 310, 3) := by decide +kernel
theorem c116_30 : jm_code 116 30 = some (.lload_n 3, 1) := by decide +kernel
theorem c116_31 : jm_code 116 31 = some (.lmul, 1) := by decide +kernel
theorem c116_32 : jm_code 116 32 = some (.aload_n 0, 1) := by decide +kernel
theorem c116_33 : jm_code 116 33 = some (.iload 5, 2) := by decide +kernel
theorem c116_35 : jm_code 116 35 = some (.iload 6, 2) := by decide +kernel
theorem c116_37 : jm_code 116 37 = some (.invokevirtual 181, 3) := by decide +kernel
theorem c116_40 : jm_code 116 40 = some (.i2l, 1) := by decide +kernel
theorem c116_41 : jm_code 116 41 = some (.ladd, 1) := by decide +kernel
theorem c116_42 : jm_code 116 42 = some (.lstore_n 3, 1) := by decide +kernel
theorem c116_43 : jm_code 116 43 = some (.iinc 6 1, 3) := by decide +kernel
theorem c116_46 : jm_code 116 46 = some (.goto (-25), 3) := by decide +kernel
theorem c116_49 : jm_code 116 49 = some (.iinc 5 1, 3) := by decide +kernel
theorem c116_52 : jm_code 116 52 = some (.goto (-40), 3) := by decide +kernel
theorem c116_55 : jm_code 116 55 = some (.ldc2_w 310, 3) := by decide +kernel
theorem c116_58 : jm_code 116 58 = some (.lload_n 3, 1) := by decide +kernel
theorem c116_59 : jm_code 116 59 = some (.lmul, 1) := by decide +kernel
theorem c116_60 : jm_code 116 60 = some (.aload_n 0, 1) := by decide +kernel
theorem c116_61 : jm_code 116 61 = some (.invokevirtual 184, 3) := by decide +kernel
theorem c116_64 : jm_code 116 64 = some (.i2l, 1) := by decide +kernel
theorem c116_65 : jm_code 116 65 = some (.ladd, 1) := by decide +kernel
theorem c116_66 : jm_code 116 66 = some (.lreturn, 1) := by decide +kernel
theorem c117_0 : jm_code 117 0 = some (.lload_n 1, 1) := by decide +kernel
theorem c117_1 : jm_code 117 1 = some (.lstore_n 3, 1) := by decide +kernel
theorem c117_2 : jm_code 117 2 = some (.aload_n 0, 1) := by decide +kernel
theorem c117_3 : jm_code 117 3 = some (.getfield 67, 3) := by decide +kernel
theorem c117_6 : jm_code 117 6 = some (.getfield 134, 3) := by decide +kernel
theorem c117_9 : jm_code 117 9 = some (.ifCond .le 7, 3) := by decide +kernel
theorem c117_12 : jm_code 117 12 = some (.iconst 1, 1) := by decide +kernel
theorem c117_13 : jm_code 117 13 = some (.goto 4, 3) := by decide +kernel
theorem c117_16 : jm_code 117 16 = some (.iconst 0, 1) := by decide +kernel
theorem c117_17 : jm_code 117 17 = some (.istore 5, 2) := by decide +kernel
theorem c117_19 : jm_code 117 19 = some (.iload 5, 2) := by decide +kernel
theorem c117_21 : jm_code 117 21 = some (.ifCond .eq 7, 3) := by decide +kernel
theorem c117_24 : jm_code 117 24 = some (.aload_n 0, 1) := by decide +kernel
theorem c117_25 : jm_code 117 25 = some (.invokevirtual 274, 3) := by decide +kernel
theorem c117_28 : jm_code 117 28 = some (.iconst 0, 1) := by decide +kernel
theorem c117_29 : jm_code 117 29 = some (.istore 6, 2) := by decide +kernel
theorem c117_31 : jm_code 117 31 = some (.iload 6, 2) := by decide +kernel
theorem c117_33 : jm_code 117 33 = some (.iconst 4, 1) := by decide +kernel
theorem c117_34 : jm_code 117 34 = some (.if_icmp .gt 36, 3) := by decide +kernel
theorem c117_37 : jm_code 117 37 = some (.ldc2_w 310, 3) := by decide +kernel
theorem c117_40 : jm_code 117 40 = some (.lload_n 3, 1) := by decide +kernel
theorem c117_41 : jm_code 117 41 = some (.lmul, 1) := by decide +kernel
theorem c117_42 : jm_code 117 42 = some (.iload 5, 2) := by decide +kernel
theorem c117_44 : jm_code 117 44 = some (.ifCond .eq 15, 3) := by decide +kernel
theorem c117_47 : jm_code 117 47 = some (.aload_n 0, 1) := by decide +kernel
theorem c117_48 : jm_code 117 48 = some (.getfield 67, 3) := by decide +kernel
theorem c117_51 : jm_code 117 51 = some (.iload 6, 2) := by decide +kernel
theorem c117_53 : jm_code 117 53 = some (.invokevirtual 277, 3) := by decide +kernel
theorem c117_56 : jm_code 117 56 = some (.goto 5, 3) := by decide +kernel
theorem c117_59 : jm_code 117 59 = some (.bipush (-3), 2) := by decide +kernel
theorem c117_61 : jm_code 117 61 = some (.i2l, 1) := by decide +kernel
theorem c117_62 : jm_code 117 62 = some (.ladd, 1) := by decide +kernel
theorem c117_63 : jm_code 117 63 = some (.lstore_n 3, 1) := by decide +kernel
theorem c117_64 : jm_code 117 64 = some (.iinc 6 1, 3) := by decide +kernel
theorem c117_67 : jm_code 117 67 = some (.goto (-36), 3) := by decide +kernel
theorem c117_70 : jm_code 117 70 = some (.lload_n 3, 1) := by decide +kernel
theorem c117_71 : jm_code 117 71 = some (.lreturn, 1) := by decide +kernel
theorem c118_0 : jm_code 118 0 = some (.iload_n 1, 1) := by decide +kernel
theorem c118_1 : jm_code 118 1 = some (.invokestatic 105, 3) := by decide +kernel
theorem c118_4 : jm_code 118 4 = some (.ifCond .eq 21, 3) := by decide +kernel
theorem c118_7 : jm_code 118 7 = some (.iload_n 2, 1) := by decide +kernel
theorem c118_8 : jm_code 118 8 = some (.i2l, 1) := by decide +kernel
theorem c118_9 : jm_code 118 9 = some (.lconst 0, 1) := by decide +kernel
theorem c118_10 : jm_code 118 10 = some (.ldc2_w 109, 3) := by decide +kernel
theorem c118_13 : jm_code 118 13 = some (.invokestatic 95, 3) := by decide +kernel
theorem c118_16 : jm_code 118 16 = some (.ifCond .eq 9, 3) := by decide +kernel
theorem c118_19 : jm_code 118 19 = some (.iload_n 3, 1) := by decide +kernel
theorem c118_20 : jm_code 118 20 = some (.bipush 60, 2) := by decide +kernel
theorem c118_22 : jm_code 118 22 = some (.if_icmp .le 6, 3) := by decide +kernel
theorem c118_25 : jm_code 118 25 = some (.bipush (-2), 2) := by decide +kernel
theorem c118_27 : jm_code 118 27 = some (.ireturn, 1) := by decide +kernel
theorem c118_28 : jm_code 118 28 = some (.iload_n 3, 1) := by decide +kernel
theorem c118_29 : jm_code 118 29 = some (.ifCond .ge 9, 3) := by decide +kernel
theorem c118_32 : jm_code 118 32 = some (.aload_n 0, 1) := by decide +kernel
theorem c118_33 : jm_code 118 33 = some (.iconst 5, 1) := by decide +kernel
theorem c118_34 : jm_code 118 34 = some (.invokevirtual 111, 3) := by decide +kernel
theorem c118_37 : jm_code 118 37 = some (.ireturn, 1) := by decide +kernel
theorem c118_38 : jm_code 118 38 = some (.aload_n 0, 1) := by decide +kernel
theorem c118_39 : jm_code 118 39 = some (.getfield 7, 3) := by decide +kernel
theorem c118_42 : jm_code 118 42 = some (.iload_n 1, 1) := by decide +kernel
theorem c118_43 : jm_code 118 43 = some (.iload_n 2, 1) := by decide +kernel
theorem c118_44 : jm_code 118 44 = some (.iastore, 1) := by decide +kernel
theorem c118_45 : jm_code 118 45 = some (.aload_n 0, 1) := by decide +kernel
theorem c118_46 : jm_code 118 46 = some (.getfield 13, 3) := by decide +kernel
theorem c118_49 : jm_code 118 49 = some (.iload_n 1, 1) := by decide +kernel
theorem c118_50 : jm_code 118 50 = some (.iload_n 3, 1) := by decide +kernel
theorem c118_51 : jm_code 118 51 = some (.iastore, 1) := by decide +kernel
theorem c118_52 : jm_code 118 52 = some (.iconst 0, 1) := by decide +kernel
theorem c118_53 : jm_code 118 53 = some (.istore 4, 2) := by decide +kernel
theorem c118_55 : jm_code 118 55 = some (.iload 4, 2) := by decide +kernel
theorem c118_57 : jm_code 118 57 = some (.iload_n 3, 1) := by decide +kernel
theorem c118_58 : jm_code 118 58 = some (.if_icmp .ge 22, 3) := by decide +kernel
theorem c118_61 : jm_code 118 61 = some (.aload_n 0, 1) := by decide +kernel
theorem c118_62 : jm_code 118 62 = some (.getfield 16, 3) := by decide +kernel
theorem c118_65 : jm_code 118 65 = some (.bipush 60, 2) := by decide +kernel
theorem c118_67 : jm_code 118 67 = some (.iload_n 1, 1) := by decide +kernel
theorem c118_68 : jm_code 118 68 = some (.imul, 1) := by decide +kernel
theorem c118_69 : jm_code 118 69 = some (.iload 4, 2) := by decide +kernel
theorem c118_71 : jm_code 118 71 = some (.iadd, 1) := by decide +kernel
theorem c118_72 : jm_code 118 72 = some (.iconst 0, 1) := by decide +kernel
theorem c118_73 : jm_code 118 73 = some (.iastore, 1) := by decide +kernel
theorem c118_74 : jm_code 118 74 = some (.iinc 4 1, 3) := by decide +kernel
theorem c118_77 : jm_code 118 77 = some (.goto (-22), 3) := by decide +kernel
theorem c118_80 : jm_code 118 80 = some (.iload_n 3, 1) := by decide +kernel
theorem c118_81 : jm_code 118 81 = some (.ireturn, 1) := by decide +kernel
theorem c119_0 : jm_code 119 0 = some (.iload_n 0, 1) := by decide +kernel
theorem c119_1 : jm_code 119 1 = some (.i2l, 1) := by decide +kernel
theorem c119_2 : jm_code 119 2 = some (.lconst 0, 1) := by decide +kernel
theorem c119_3 : jm_code 119 3 = some (.ldc2_w 103, 3) := by decide +kernel
theorem c119_6 : jm_code 119 6 = some (.invokestatic 95, 3) := by decide +kernel
theorem c119_9 : jm_code 119 9 = some (.ireturn, 1) := by decide +kernel
theorem c120_0 : jm_code 120 0 = some (.lload_n 0, 1) := by decide +kernel
theorem c120_1 : jm_code 120 1 = some (.lload_n 2, 1) := by decide +kernel
theorem c120_2 : jm_code 120 2 = some (.lcmp, 1) := by decide +kernel
theorem c120_3 : jm_code 120 3 = some (.ifCond .lt 14, 3) := by decide +kernel
theorem c120_6 : jm_code 120 6 = some (.lload_n 0, 1) := by decide +kernel
theorem c120_7 : jm_code 120 7 = some (.lload 4, 2) := by decide +kernel
theorem c120_9 : jm_code 120 9 = some (.lcmp, 1) := by decide +kernel
theorem c120_10 : jm_code 120 10 = some (.ifCond .gt 7, 3) := by decide +kernel
theorem c120_13 : jm_code 120 13 = some (.iconst 1, 1) := by decide +kernel
theorem c120_14 : jm_code 120 14 = some (.goto 4, 3) := by decide +kernel
theorem c120_17 : jm_code 120 17 = some (.iconst 0, 1) := by decide +kernel
theorem c120_18 : jm_code 120 18 = some (.ireturn, 1) := by decide +kernel
theorem c121_0 : jm_code 121 0 = some (.aload_n 0, 1) := by decide +kernel
theorem c121_1 : jm_code 121 1 = some (.iload_n 1, 1) := by decide +kernel
theorem c121_2 : jm_code 121 2 = some (.putfield 99, 3) := by decide +kernel
theorem c121_5 : jm_code 121 5 = some (.bipush (-10), 2) := by decide +kernel
theorem c121_7 : jm_code 121 7 = some (.iload_n 1, 1) := by decide +kernel
theorem c121_8 : jm_code 121 8 = some (.isub, 1) := by decide +kernel
theorem c121_9 : jm_code 121 9 = some (.ireturn, 1) := by decide +kernel
theorem c122_0 : jm_code 122 0 = some (.iload_n 1, 1) := by decide +kernel
theorem c122_1 : jm_code 122 1 = some (.invokestatic 105, 3) := by decide +kernel
theorem c122_4 : jm_code 122 4 = some (.ifCond .ne 6, 3) := by decide +kernel
theorem c122_7 : jm_code 122 7 = some (.bipush (-2), 2) := by decide +kernel
theorem c122_9 : jm_code 122 9 = some (.ireturn, 1) := by decide +kernel
theorem c122_10 : jm_code 122 10 = some (.aload_n 0, 1) := by decide +kernel
theorem c122_11 : jm_code 122 11 = some (.getfield 7, 3) := by decide +kernel
theorem c122_14 : jm_code 122 14 = some (.iload_n 1, 1) := by decide +kernel
theorem c122_15 : jm_code 122 15 = some (.iaload, 1) := by decide +kernel
theorem c122_16 : jm_code 122 16 = some (.ifCond .ge 9, 3) := by decide +kernel
theorem c122_19 : jm_code 122 19 = some (.aload_n 0, 1) := by decide +kernel
theorem c122_20 : jm_code 122 20 = some (.iconst 1, 1) := by decide +kernel
theorem c122_21 : jm_code 122 21 = some (.invokevirtual 111, 3) := by decide +kernel
theorem c122_24 : jm_code 122 24 = some (.ireturn, 1) := by decide +kernel
theorem c122_25 : jm_code 122 25 = some (.aload_n 0, 1) := by decide +kernel
theorem c122_26 : jm_code 122 26 = some (.getfield 7, 3) := by decide +kernel
theorem c122_29 : jm_code 122 29 = some (.iload_n 1, 1) := by decide +kernel
theorem c122_30 : jm_code 122 30 = some (.iconst (-1), 1) := by decide +kernel
theorem c122_31 : jm_code 122 31 = some (.iastore, 1) := by decide +kernel
theorem c122_32 : jm_code 122 32 = some (.aload_n 0, 1) := by decide +kernel
theorem c122_33 : jm_code 122 33 = some (.getfield 13, 3) := by decide +kernel
theorem c122_36 : jm_code 122 36 = some (.iload_n 1, 1) := by decide +kernel
theorem c122_37 : jm_code 122 37 = some (.iaload, 1) := by decide +kernel
theorem c122_38 : jm_code 122 38 = some (.ireturn, 1) := by decide +kernel
theorem c123_0 : jm_code 123 0 = some (.iload_n 1, 1) := by decide +kernel
theorem c123_1 : jm_code 123 1 = some (.invokestatic 105, 3) := by decide +kernel
theorem c123_4 : jm_code 123 4 = some (.ifCond .eq 15, 3) := by decide +kernel
theorem c123_7 : jm_code 123 7 = some (.iload_n 2, 1) := by decide +kernel
theorem c123_8 : jm_code 123 8 = some (.i2l, 1) := by decide +kernel
theorem c123_9 : jm_code 123 9 = some (.lconst 0, 1) := by decide +kernel
theorem c123_10 : jm_code 123 10 = some (.ldc2_w 109, 3) := by decide +kernel
theorem c123_13 : jm_code 123 13 = some (.invokestatic 95, 3) := by decide +kernel
theorem c123_16 : jm_code 123 16 = some (.ifCond .ne 6, 3) := by decide +kernel
theorem c123_19 : jm_code 123 19 = some (.bipush (-2), 2) := by decide +kernel
theorem c123_21 : jm_code 123 21 = some (.ireturn, 1) := by decide +kernel
theorem c123_22 : jm_code 123 22 = some (.aload_n 0, 1) := by decide +kernel
theorem c123_23 : jm_code 123 23 = some (.iload_n 1, 1) := by decide +kernel
theorem c123_24 : jm_code 123 24 = some (.iload_n 2, 1) := by decide +kernel
theorem c123_25 : jm_code 123 25 = some (.iload_n 3, 1) := by decide +kernel
theorem c123_26 : jm_code 123 26 = some (.invokevirtual 115, 3) := by decide +kernel
theorem c123_29 : jm_code 123 29 = some (.istore 5, 2) := by decide +kernel
theorem c123_31 : jm_code 123 31 = some (.iload 5, 2) := by decide +kernel
theorem c123_33 : jm_code 123 33 = some (.ifCond .eq 6, 3) := by decide +kernel
theorem c123_36 : jm_code 123 36 = some (.iload 5, 2) := by decide +kernel
theorem c123_38 : jm_code 123 38 = some (.ireturn, 1) := by decide +kernel
theorem c123_39 : jm_code 123 39 = some (.aload_n 0, 1) := by decide +kernel
theorem c123_40 : jm_code 123 40 = some (.getfield 16, 3) := by decide +kernel
theorem c123_43 : jm_code 123 43 = some (.bipush 60, 2) := by decide +kernel
theorem c123_45 : jm_code 123 45 = some (.iload_n 1, 1) := by decide +kernel
theorem c123_46 : jm_code 123 46 = some (.imul, 1) := by decide +kernel
theorem c123_47 : jm_code 123 47 = some (.iload_n 3, 1) := by decide +kernel
theorem c123_48 : jm_code 123 48 = some (.iadd, 1) := by decide +kernel
theorem c123_49 : jm_code 123 49 = some (.iload_n 2, 1) := by decide +kernel
theorem c123_50 : jm_code 123 50 = some (.iload 4, 2) := by decide +kernel
theorem c123_52 : jm_code 123 52 = some (.invokestatic 119, 3) := by decide +kernel
theorem c123_55 : jm_code 123 55 = some (.iastore, 1) := by decide +kernel
theorem c123_56 : jm_code 123 56 = some (.iconst 1, 1) := by decide +kernel
theorem c123_57 : jm_code 123 57 = some (.ireturn, 1) := by decide +kernel
theorem c124_0 : jm_code 124 0 = some (.aload_n 0, 1) := by decide +kernel
theorem c124_1 : jm_code 124 1 = some (.getfield 7, 3) := by decide +kernel
theorem c124_4 : jm_code 124 4 = some (.iload_n 1, 1) := by decide +kernel
theorem c124_5 : jm_code 124 5 = some (.iaload, 1) := by decide +kernel
theorem c124_6 : jm_code 124 6 = some (.ifCond .ge 9, 3) := by decide +kernel
theorem c124_9 : jm_code 124 9 = some (.aload_n 0, 1) := by decide +kernel
theorem c124_10 : jm_code 124 10 = some (.iconst 1, 1) := by decide +kernel
theorem c124_11 : jm_code 124 11 = some (.invokevirtual 111, 3) := by decide +kernel
theorem c124_14 : jm_code 124 14 = some (.ireturn, 1) := by decide +kernel
theorem c124_15 : jm_code 124 15 = some (.aload_n 0, 1) := by decide +kernel
theorem c124_16 : jm_code 124 16 = some (.getfield 7, 3) := by decide +kernel
theorem c124_19 : jm_code 124 19 = some (.iload_n 1, 1) := by decide +kernel
theorem c124_20 : jm_code 124 20 = some (.iaload, 1) := by decide +kernel
theorem c124_21 : jm_code 124 21 = some (.iload_n 2, 1) := by decide +kernel
theorem c124_22 : jm_code 124 22 = some (.if_icmp .eq 9, 3) := by decide +kernel
theorem c124_25 : jm_code 124 25 = some (.aload_n 0, 1) := by decide +kernel
theorem c124_26 : jm_code 124 26 = some (.iconst 3, 1) := by decide +kernel
theorem c124_27 : jm_code 124 27 = some (.invokevirtual 111, 3) := by decide +kernel
theorem c124_30 : jm_code 124 30 = some (.ireturn, 1) := by decide +kernel
theorem c124_31 : jm_code 124 31 = some (.iload_n 3, 1) := by decide +kernel
theorem c124_32 : jm_code 124 32 = some (.i2l, 1) := by decide +kernel
theorem c124_33 : jm_code 124 33 = some (.lconst 0, 1) := by decide +kernel
theorem c124_34 : jm_code 124 34 = some (.aload_n 0, 1) := by decide +kernel
theorem c124_35 : jm_code 124 35 = some (.getfield 13, 3) := by decide +kernel
theorem c124_38 : jm_code 124 38 = some (.iload_n 1, 1) := by decide +kernel
theorem c124_39 : jm_code 124 39 = some (.iaload, 1) := by decide +kernel
theorem c124_40 : jm_code 124 40 = some (.iconst 1, 1) := by decide +kernel
theorem c124_41 : jm_code 124 41 = some (.isub, 1) := by decide +kernel
theorem c124_42 : jm_code 124 42 = some (.i2l, 1) := by decide +kernel
theorem c124_43 : jm_code 124 43 = some (.invokestatic 95, 3) := by decide +kernel
theorem c124_46 : jm_code 124 46 = some (.ifCond .eq 7, 3) := by decide +kernel
theorem c124_49 : jm_code 124 49 = some (.iconst 0, 1) := by decide +kernel
theorem c124_50 : jm_code 124 50 = some (.goto 8, 3) := by decide +kernel
theorem c124_53 : jm_code 124 53 = some (.aload_n 0, 1) := by decide +kernel
theorem c124_54 : jm_code 124 54 = some (.iconst 2, 1) := by decide +kernel
theorem c124_55 : jm_code 124 55 = some (.invokevirtual 111, 3) := by decide +kernel
theorem c124_58 : jm_code 124 58 = some (.ireturn, 1) := by decide +kernel
theorem c125_0 : jm_code 125 0 = some (.iload_n 0, 1) := by decide +kernel
theorem c125_1 : jm_code 125 1 = some (.ifCond .ne 8, 3) := by decide +kernel
theorem c125_4 : jm_code 125 4 = some (.iload_n 1, 1) := by decide +kernel
theorem c125_5 : jm_code 125 5 = some (.i2b, 1) := by decide +kernel
theorem c125_6 : jm_code 125 6 = some (.goto 14, 3) := by decide +kernel
theorem c125_9 : jm_code 125 9 = some (.iload_n 0, 1) := by decide +kernel
theorem c125_10 : jm_code 125 10 = some (.iconst 1, 1) := by decide +kernel
theorem c125_11 : jm_code 125 11 = some (.if_icmp .ne 8, 3) := by decide +kernel
theorem c125_14 : jm_code 125 14 = some (.iload_n 1, 1) := by decide +kernel
theorem c125_15 : jm_code 125 15 = some (.i2s, 1) := by decide +kernel
theorem c125_16 : jm_code 125 16 = some (.goto 4, 3) := by decide +kernel
theorem c125_19 : jm_code 125 19 = some (.iload_n 1, 1) := by decide +kernel
theorem c125_20 : jm_code 125 20 = some (.ireturn, 1) := by decide +kernel
theorem c126_0 : jm_code 126 0 = some (.iload_n 1, 1) := by decide +kernel
theorem c126_1 : jm_code 126 1 = some (.invokestatic 105, 3) := by decide +kernel
theorem c126_4 : jm_code 126 4 = some (.ifCond .eq 25, 3) := by decide +kernel
theorem c126_7 : jm_code 126 7 = some (.iload_n 2, 1) := by decide +kernel
theorem c126_8 : jm_code 126 8 = some (.i2l, 1) := by decide +kernel
theorem c126_9 : jm_code 126 9 = some (.lconst 0, 1) := by decide +kernel
theorem c126_10 : jm_code 126 10 = some (.ldc2_w 109, 3) := by decide +kernel
theorem c126_13 : jm_code 126 13 = some (.invokestatic 95, 3) := by decide +kernel
theorem c126_16 : jm_code 126 16 = some (.ifCond .eq 13, 3) := by decide +kernel
theorem c126_19 : jm_code 126 19 = some (.aload_n 0, 1) := by decide +kernel
theorem c126_20 : jm_code 126 20 = some (.iload_n 1, 1) := by decide +kernel
theorem c126_21 : jm_code 126 21 = some (.iload_n 2, 1) := by decide +kernel
theorem c126_22 : jm_code 126 22 = some (.iload_n 3, 1) := by decide +kernel
theorem c126_23 : jm_code 126 23 = some (.invokevirtual 115, 3) := by decide +kernel
theorem c126_26 : jm_code 126 26 = some (.ifCond .eq 6, 3) := by decide +kernel
theorem c126_29 : jm_code 126 29 = some (.ldc 123, 2) := by decide +kernel
theorem c126_31 : jm_code 126 31 = some (.ireturn, 1) := by decide +kernel
theorem c126_32 : jm_code 126 32 = some (.aload_n 0, 1) := by decide +kernel
theorem c126_33 : jm_code 126 33 = some (.getfield 16, 3) := by decide +kernel
theorem c126_36 : jm_code 126 36 = some (.bipush 60, 2) := by decide +kernel
theorem c126_38 : jm_code 126 38 = some (.iload_n 1, 1) := by decide +kernel
theorem c126_39 : jm_code 126 39 = some (.imul, 1) := by decide +kernel
theorem c126_40 : jm_code 126 40 = some (.iload_n 3, 1) := by decide +kernel
theorem c126_41 : jm_code 126 41 = some (.iadd, 1) := by decide +kernel
theorem c126_42 : jm_code 126 42 = some (.iaload, 1) := by decide +kernel
theorem c126_43 : jm_code 126 43 = some (.ireturn, 1) := by decide +kernel
theorem c127_0 : jm_code 127 0 = some (.iload_n 1, 1) := by decide +kernel
theorem c127_1 : jm_code 127 1 = some (.invokestatic 105, 3) := by decide +kernel
theorem c127_4 : jm_code 127 4 = some (.ifCond .eq 10, 3) := by decide +kernel
theorem c127_7 : jm_code 127 7 = some (.iload_n 3, 1) := by decide +kernel
theorem c127_8 : jm_code 127 8 = some (.invokestatic 105, 3) := by decide +kernel
theorem c127_11 : jm_code 127 11 = some (.ifCond .ne 6, 3) := by decide +kernel
theorem c127_14 : jm_code 127 14 = some (.bipush (-2), 2) := by decide +kernel
theorem c127_16 : jm_code 127 16 = some (.ireturn, 1) := by decide +kernel
theorem c127_17 : jm_code 127 17 = some (.aload_n 0, 1) := by decide +kernel
theorem c127_18 : jm_code 127 18 = some (.getfield 7, 3) := by decide +kernel
theorem c127_21 : jm_code 127 21 = some (.iload_n 1, 1) := by decide +kernel
theorem c127_22 : jm_code 127 22 = some (.iaload, 1) := by decide +kernel
theorem c127_23 : jm_code 127 23 = some (.ifCond .lt 12, 3) := by decide +kernel
theorem c127_26 : jm_code 127 26 = some (.aload_n 0, 1) := by decide +kernel
theorem c127_27 : jm_code 127 27 = some (.getfield 7, 3) := by decide +kernel
theorem c127_30 : jm_code 127 30 = some (.iload_n 3, 1) := by decide +kernel
theorem c127_31 : jm_code 127 31 = some (.iaload, 1) := by decide +kernel
theorem c127_32 : jm_code 127 32 = some (.ifCond .ge 9, 3) := by decide +kernel
theorem c127_35 : jm_code 127 35 = some (.aload_n 0, 1) := by decide +kernel
theorem c127_36 : jm_code 127 36 = some (.iconst 1, 1) := by decide +kernel
theorem c127_37 : jm_code 127 37 = some (.invokevirtual 111, 3) := by decide +kernel
theorem c127_40 : jm_code 127 40 = some (.ireturn, 1) := by decide +kernel
theorem c127_41 : jm_code 127 41 = some (.aload_n 0, 1) := by decide +kernel
theorem c127_42 : jm_code 127 42 = some (.getfield 7, 3) := by decide +kernel
theorem c127_45 : jm_code 127 45 = some (.iload_n 1, 1) := by decide +kernel
theorem c127_46 : jm_code 127 46 = some (.iaload, 1) := by decide +kernel
theorem c127_47 : jm_code 127 47 = some (.aload_n 0, 1) := by decide +kernel
theorem c127_48 : jm_code 127 48 = some (.getfield 7, 3) := by decide +kernel
theorem c127_51 : jm_code 127 51 = some (.iload_n 3, 1) := by decide +kernel
theorem c127_52 : jm_code 127 52 = some (.iaload, 1) := by decide +kernel
theorem c127_53 : jm_code 127 53 = some (.if_icmp .eq 9, 3) := by decide +kernel
theorem c127_56 : jm_code 127 56 = some (.aload_n 0, 1) := by decide +kernel
theorem c127_57 : jm_code 127 57 = some (.iconst 4, 1) := by decide +kernel
theorem c127_58 : jm_code 127 58 = some (.invokevirtual 111, 3) := by decide +kernel
theorem c127_61 : jm_code 127 61 = some (.ireturn, 1) := by decide +kernel
theorem c127_62 : jm_code 127 62 = some (.iload_n 2, 1) := by decide +kernel
theorem c127_63 : jm_code 127 63 = some (.ifCond .lt 48, 3) := by decide +kernel
theorem c127_66 : jm_code 127 66 = some (.iload 4, 2) := by decide +kernel
theorem c127_68 : jm_code 127 68 = some (.ifCond .lt 43, 3) := by decide +kernel
theorem c127_71 : jm_code 127 71 = some (.iload 5, 2) := by decide +kernel
theorem c127_73 : jm_code 127 73 = some (.ifCond .lt 38, 3) := by decide +kernel
theorem c127_76 : jm_code 127 76 = some (.iload_n 2, 1) := by decide +kernel
theorem c127_77 : jm_code 127 77 = some (.i2l, 1) := by decide +kernel
theorem c127_78 : jm_code 127 78 = some (.iload 5, 2) := by decide +kernel
theorem c127_80 : jm_code 127 80 = some (.i2l, 1) := by decide +kernel
theorem c127_81 : jm_code 127 81 = some (.ladd, 1) := by decide +kernel
theorem c127_82 : jm_code 127 82 = some (.aload_n 0, 1) := by decide +kernel
theorem c127_83 : jm_code 127 83 = some (.getfield 13, 3) := by decide +kernel
theorem c127_86 : jm_code 127 86 = some (.iload_n 1, 1) := by decide +kernel
theorem c127_87 : jm_code 127 87 = some (.iaload, 1) := by decide +kernel
theorem c127_88 : jm_code 127 88 = some (.i2l, 1) := by decide +kernel
theorem c127_89 : jm_code 127 89 = some (.lcmp, 1) := by decide +kernel
theorem c127_90 : jm_code 127 90 = some (.ifCond .gt 21, 3) := by decide +kernel
theorem c127_93 : jm_code 127 93 = some (.iload 4, 2) := by decide +kernel
theorem c127_95 : jm_code 127 95 = some (.i2l, 1) := by decide +kernel
theorem c127_96 : jm_code 127 96 = some (.iload 5, 2) := by decide +kernel
theorem c127_98 : jm_code 127 98 = some (.i2l, 1) := by decide +kernel
theorem c127_99 : jm_code 127 99 = some (.ladd, 1) := by decide +kernel
theorem c127_100 : jm_code 127 100 = some (.aload_n 0, 1) := by decide +kernel
theorem c127_101 : jm_code 127 101 = some (.getfield 13, 3) := by decide +kernel
theorem c127_104 : jm_code 127 104 = some (.iload_n 3, 1) := by decide +kernel
theorem c127_105 : jm_code 127 105 = some (.iaload, 1) := by decide +kernel
theorem c127_106 : jm_code 127 106 = some (.i2l, 1) := by decide +kernel
theorem c127_107 : jm_code 127 107 = some (.lcmp, 1) := by decide +kernel
theorem c127_108 : jm_code 127 108 = some (.ifCond .le 9, 3) := by decide +kernel
theorem c127_111 : jm_code 127 111 = some (.aload_n 0, 1) := by decide +kernel
theorem c127_112 : jm_code 127 112 = some (.iconst 2, 1) := by decide +kernel
theorem c127_113 : jm_code 127 113 = some (.invokevirtual 111, 3) := by decide +kernel
theorem c127_116 : jm_code 127 116 = some (.ireturn, 1) := by decide +kernel
theorem c127_117 : jm_code 127 117 = some (.iconst 0, 1) := by decide +kernel
theorem c127_118 : jm_code 127 118 = some (.istore 6, 2) := by decide +kernel
theorem c127_120 : jm_code 127 120 = some (.iload 6, 2) := by decide +kernel
theorem c127_122 : jm_code 127 122 = some (.iload 5, 2) := by decide +kernel
theorem c127_124 : jm_code 127 124 = some (.if_icmp .ge 30, 3) := by decide +kernel
theorem c127_127 : jm_code 127 127 = some (.aload_n 0, 1) := by decide +kernel
theorem c127_128 : jm_code 127 128 = some (.getfield 19, 3) := by decide +kernel
theorem c127_131 : jm_code 127 131 = some (.iload 6, 2) := by decide +kernel
theorem c127_133 : jm_code 127 133 = some (.aload_n 0, 1) := by decide +kernel
theorem c127_134 : jm_code 127 134 = some (.getfield 16, 3) := by decide +kernel
theorem c127_137 : jm_code 127 137 = some (.bipush 60, 2) := by decide +kernel
theorem c127_139 : jm_code 127 139 = some (.iload_n 1, 1) := by decide +kernel
theorem c127_140 : jm_code 127 140 = some (.imul, 1) := by decide +kernel
theorem c127_141 : jm_code 127 141 = some (.iload_n 2, 1) := by decide +kernel
theorem c127_142 : jm_code 127 142 = some (.iadd, 1) := by decide +kernel
theorem c127_143 : jm_code 127 143 = some (.iload 6, 2) := by decide +kernel
theorem c127_145 : jm_code 127 145 = some (.iadd, 1) := by decide +kernel
theorem c127_146 : jm_code 127 146 = some (.iaload, 1) := by decide +kernel
theorem c127_147 : jm_code 127 147 = some (.iastore, 1) := by decide +kernel
theorem c127_148 : jm_code 127 148 = some (.iinc 6 1, 3) := by decide +kernel
theorem c127_151 : jm_code 127 151 = some (.goto (-31), 3) := by decide +kernel
theorem c127_154 : jm_code 127 154 = some (.iconst 0, 1) := by decide +kernel
theorem c127_155 : jm_code 127 155 = some (.istore 6, 2) := by decide +kernel
theorem c127_157 : jm_code 127 157 = some (.iload 6, 2) := by decide +kernel
theorem c127_159 : jm_code 127 159 = some (.iload 5, 2) := by decide +kernel
theorem c127_161 : jm_code 127 161 = some (.if_icmp .ge 31, 3) := by decide +kernel
theorem c127_164 : jm_code 127 164 = some (.aload_n 0, 1) := by decide +kernel
theorem c127_165 : jm_code 127 165 = some (.getfield 16, 3) := by decide +kernel
theorem c127_168 : jm_code 127 168 = some (.bipush 60, 2) := by decide +kernel
theorem c127_170 : jm_code 127 170 = some (.iload_n 3, 1) := by decide +kernel
theorem c127_171 : jm_code 127 171 = some (.imul, 1) := by decide +kernel
theorem c127_172 : jm_code 127 172 = some (.iload 4, 2) := by decide +kernel
theorem c127_174 : jm_code 127 174 = some (.iadd, 1) := by decide +kernel
theorem c127_175 : jm_code 127 175 = some (.iload 6, 2) := by decide +kernel
theorem c127_177 : jm_code 127 177 = some (.iadd, 1) := by decide +kernel
theorem c127_178 : jm_code 127 178 = some (.aload_n 0, 1) := by decide +kernel
theorem c127_179 : jm_code 127 179 = some (.getfield 19, 3) := by decide +kernel
theorem c127_182 : jm_code 127 182 = some (.iload 6, 2) := by decide +kernel
theorem c127_184 : jm_code 127 184 = some (.iaload, 1) := by decide +kernel
theorem c127_185 : jm_code 127 185 = some (.iastore, 1) := by decide +kernel
theorem c127_186 : jm_code 127 186 = some (.iinc 6 1, 3) := by decide +kernel
theorem c127_189 : jm_code 127 189 = some (.goto (-32), 3) := by decide +kernel
theorem c127_192 : jm_code 127 192 = some (.iconst 1, 1) := by decide +kernel
theorem c127_193 : jm_code 127 193 = some (.ireturn, 1) := by decide +kernel
theorem c128_0 : jm_code 128 0 = some (.iload_n 1, 1) := by decide +kernel
theorem c128_1 : jm_code 128 1 = some (.invokestatic 133, 3) := by decide +kernel
theorem c128_4 : jm_code 128 4 = some (.ifCond .eq 37, 3) := by decide +kernel
theorem c128_7 : jm_code 128 7 = some (.iconst 0, 1) := by decide +kernel
theorem c128_8 : jm_code 128 8 = some (.iload_n 2, 1) := by decide +kernel
theorem c128_9 : jm_code 128 9 = some (.invokestatic 136, 3) := by decide +kernel
theorem c128_12 : jm_code 128 12 = some (.ifCond .eq 29, 3) := by decide +kernel
theorem c128_15 : jm_code 128 15 = some (.iconst 1, 1) := by decide +kernel
theorem c128_16 : jm_code 128 16 = some (.iload_n 3, 1) := by decide +kernel
theorem c128_17 : jm_code 128 17 = some (.invokestatic 136, 3) := by decide +kernel
theorem c128_20 : jm_code 128 20 = some (.ifCond .eq 21, 3) := by decide +kernel
theorem c128_23 : jm_code 128 23 = some (.iconst 2, 1) := by decide +kernel
theorem c128_24 : jm_code 128 24 = some (.iload 4, 2) := by decide +kernel
theorem c128_26 : jm_code 128 26 = some (.invokestatic 136, 3) := by decide +kernel
theorem c128_29 : jm_code 128 29 = some (.ifCond .eq 12, 3) := by decide +kernel
theorem c128_32 : jm_code 128 32 = some (.iconst 3, 1) := by decide +kernel
theorem c128_33 : jm_code 128 33 = some (.iload 5, 2) := by decide +kernel
theorem c128_35 : jm_code 128 35 = some (.invokestatic 136, 3) := by decide +kernel
theorem c128_38 : jm_code 128 38 = some (.ifCond .ne 6, 3) := by decide +kernel
theorem c128_41 : jm_code 128 41 = some (.bipush (-2), 2) := by decide +kernel
theorem c128_43 : jm_code 128 43 = some (.ireturn, 1) := by decide +kernel
theorem c128_44 : jm_code 128 44 = some (.aload_n 0, 1) := by decide +kernel
theorem c128_45 : jm_code 128 45 = some (.getfield 124, 3) := by decide +kernel
theorem c128_48 : jm_code 128 48 = some (.bipush 12, 2) := by decide +kernel
theorem c128_50 : jm_code 128 50 = some (.if_icmp .ne 6, 3) := by decide +kernel
theorem c128_53 : jm_code 128 53 = some (.bipush (-4), 2) := by decide +kernel
theorem c128_55 : jm_code 128 55 = some (.ireturn, 1) := by decide +kernel
theorem c128_56 : jm_code 128 56 = some (.aload_n 0, 1) := by decide +kernel
theorem c128_57 : jm_code 128 57 = some (.getfield 22, 3) := by decide +kernel
theorem c128_60 : jm_code 128 60 = some (.aload_n 0, 1) := by decide +kernel
theorem c128_61 : jm_code 128 61 = some (.getfield 124, 3) := by decide +kernel
theorem c128_64 : jm_code 128 64 = some (.iload_n 1, 1) := by decide +kernel
theorem c128_65 : jm_code 128 65 = some (.iastore, 1) := by decide +kernel
theorem c128_66 : jm_code 128 66 = some (.aload_n 0, 1) := by decide +kernel
theorem c128_67 : jm_code 128 67 = some (.getfield 25, 3) := by decide +kernel
theorem c128_70 : jm_code 128 70 = some (.iconst 4, 1) := by decide +kernel
theorem c128_71 : jm_code 128 71 = some (.aload_n 0, 1) := by decide +kernel
theorem c128_72 : jm_code 128 72 = some (.getfield 124, 3) := by decide +kernel
theorem c128_75 : jm_code 128 75 = some (.imul, 1) := by decide +kernel
theorem c128_76 : jm_code 128 76 = some (.iload_n 2, 1) := by decide +kernel
theorem c128_77 : jm_code 128 77 = some (.iastore, 1) := by decide +kernel
theorem c128_78 : jm_code 128 78 = some (.aload_n 0, 1) := by decide +kernel
theorem c128_79 : jm_code 128 79 = some (.getfield 25, 3) := by decide +kernel
theorem c128_82 : jm_code 128 82 = some (.iconst 4, 1) := by decide +kernel
theorem c128_83 : jm_code 128 83 = some (.aload_n 0, 1) := by decide +kernel
theorem c128_84 : jm_code 128 84 = some (.getfield 124, 3) := by decide +kernel
theorem c128_87 : jm_code 128 87 = some (.imul, 1) := by decide +kernel
theorem c128_88 : jm_code 128 88 = some (.iconst 1, 1) := by decide +kernel
theorem c128_89 : jm_code 128 89 = some (.iadd, 1) := by decide +kernel
theorem c128_90 : jm_code 128 90 = some (.iload_n 3, 1) := by decide +kernel
theorem c128_91 : jm_code 128 91 = some (.iastore, 1) := by decide +kernel
theorem c128_92 : jm_code 128 92 = some (.aload_n 0, 1) := by decide +kernel
theorem c128_93 : jm_code 128 93 = some (.getfield 25, 3) := by decide +kernel
theorem c128_96 : jm_code 128 96 = some (.iconst 4, 1) := by decide +kernel
theorem c128_97 : jm_code 128 97 = some (.aload_n 0, 1) := by decide +kernel
theorem c128_98 : jm_code 128 98 = some (.getfield 124, 3) := by decide +kernel
theorem c128_101 : jm_code 128 101 = some (.imul, 1) := by decide +kernel
theorem c128_102 : jm_code 128 102 = some (.iconst 2, 1) := by decide +kernel
theorem c128_103 : jm_code 128 103 = some (.iadd, 1) := by decide +kernel
theorem c128_104 : jm_code 128 104 = some (.iload 4, 2) := by decide +kernel
theorem c128_106 : jm_code 128 106 = some (.iastore, 1) := by decide +kernel
theorem c128_107 : jm_code 128 107 = some (.aload_n 0, 1) := by decide +kernel
theorem c128_108 : jm_code 128 108 = some (.getfield 25, 3) := by decide +kernel
theorem c128_111 : jm_code 128 111 = some (.iconst 4, 1) := by decide +kernel
theorem c128_112 : jm_code 128 112 = some (.aload_n 0, 1) := by decide +kernel
theorem c128_113 : jm_code 128 113 = some (.getfield 124, 3) := by decide +kernel
theorem c128_116 : jm_code 128 116 = some (.imul, 1) := by decide +kernel
theorem c128_117 : jm_code 128 117 = some (.iconst 3, 1) := by decide +kernel
theorem c128_118 : jm_code 128 118 = some (.iadd, 1) := by decide +kernel
theorem c128_119 : jm_code 128 119 = some (.iload 5, 2) := by decide +kernel
theorem c128_121 : jm_code 128 121 = some (.iastore, 1) := by decide +kernel
theorem c128_122 : jm_code 128 122 = some (.aload_n 0, 1) := by decide +kernel
theorem c128_123 : jm_code 128 123 = some (.dup, 1) := by decide +kernel
theorem c128_124 : jm_code 128 124 = some (.getfield 124, 3) := by decide +kernel
theorem c128_127 : jm_code 128 127 = some (.iconst 1, 1) := by decide +kernel
theorem c128_128 : jm_code 128 128 = some (.iadd, 1) := by decide +kernel
theorem c128_129 : jm_code 128 129 = some (.putfield 124, 3) := by decide +kernel
theorem c128_132 : jm_code 128 132 = some (.aload_n 0, 1) := by decide +kernel
theorem c128_133 : jm_code 128 133 = some (.getfield 124, 3) := by decide +kernel
theorem c128_136 : jm_code 128 136 = some (.iconst 1, 1) := by decide +kernel
theorem c128_137 : jm_code 128 137 = some (.isub, 1) := by decide +kernel
theorem c128_138 : jm_code 128 138 = some (.ireturn, 1) := by decide +kernel
theorem c129_0 : jm_code 129 0 = some (.iload_n 0, 1) := by decide +kernel
theorem c129_1 : jm_code 129 1 = some (.i2l, 1) := by decide +kernel
theorem c129_2 : jm_code 129 2 = some (.lconst 0, 1) := by decide +kernel
theorem c129_3 : jm_code 129 3 = some (.ldc2_w 103, 3) := by decide +kernel
theorem c129_6 : jm_code 129 6 = some (.invokestatic 95, 3) := by decide +kernel
theorem c129_9 : jm_code 129 9 = some (.ireturn, 1) := by decide +kernel
theorem c130_0 : jm_code 130 0 = some (.iload_n 0, 1) := by decide +kernel
theorem c130_1 : jm_code 130 1 = some (.ifCond .ne 15, 3) := by decide +kernel
theorem c130_4 : jm_code 130 4 = some (.iload_n 1, 1) := by decide +kernel
theorem c130_5 : jm_code 130 5 = some (.i2l, 1) := by decide +kernel
theorem c130_6 : jm_code 130 6 = some (.lconst 0, 1) := by decide +kernel
theorem c130_7 : jm_code 130 7 = some (.ldc2_w 127, 3) := by decide +kernel
theorem c130_10 : jm_code 130 10 = some (.invokestatic 95, 3) := by decide +kernel
theorem c130_13 : jm_code 130 13 = some (.goto 46, 3) := by decide +kernel
theorem c130_16 : jm_code 130 16 = some (.iload_n 0, 1) := by decide +kernel
theorem c130_17 : jm_code 130 17 = some (.iconst 1, 1) := by decide +kernel
theorem c130_18 : jm_code 130 18 = some (.if_icmp .ne 15, 3) := by decide +kernel
theorem c130_21 : jm_code 130 21 = some (.iload_n 1, 1) := by decide +kernel
theorem c130_22 : jm_code 130 22 = some (.i2l, 1) := by decide +kernel
theorem c130_23 : jm_code 130 23 = some (.lconst 1, 1) := by decide +kernel
theorem c130_24 : jm_code 130 24 = some (.ldc2_w 129, 3) := by decide +kernel
theorem c130_27 : jm_code 130 27 = some (.invokestatic 95, 3) := by decide +kernel
theorem c130_30 : jm_code 130 30 = some (.goto 29, 3) := by decide +kernel
theorem c130_33 : jm_code 130 33 = some (.iload_n 0, 1) := by decide +kernel
theorem c130_34 : jm_code 130 34 = some (.iconst 2, 1) := by decide +kernel
theorem c130_35 : jm_code 130 35 = some (.if_icmp .ne 15, 3) := by decide +kernel
theorem c130_38 : jm_code 130 38 = some (.iload_n 1, 1) := by decide +kernel
theorem c130_39 : jm_code 130 39 = some (.i2l, 1) := by decide +kernel
theorem c130_40 : jm_code 130 40 = some (.lconst 1, 1) := by decide +kernel
theorem c130_41 : jm_code 130 41 = some (.ldc2_w 131, 3) := by decide +kernel
theorem c130_44 : jm_code 130 44 = some (.invokestatic 95, 3) := by decide +kernel
theorem c130_47 : jm_code 130 47 = some (.goto 12, 3) := by decide +kernel
theorem c130_50 : jm_code 130 50 = some (.iload_n 1, 1) := by decide +kernel
theorem c130_51 : jm_code 130 51 = some (.i2l, 1) := by decide +kernel
theorem c130_52 : jm_code 130 52 = some (.lconst 0, 1) := by decide +kernel
theorem c130_53 : jm_code 130 53 = some (.ldc2_w 131, 3) := by decide +kernel
theorem c130_56 : jm_code 130 56 = some (.invokestatic 95, 3) := by decide +kernel
theorem c130_59 : jm_code 130 59 = some (.ireturn, 1) := by decide +kernel
theorem c131_0 : jm_code 131 0 = some (.iload_n 1, 1) := by decide +kernel
theorem c131_1 : jm_code 131 1 = some (.invokestatic 105, 3) := by decide +kernel
theorem c131_4 : jm_code 131 4 = some (.ifCond .eq 10, 3) := by decide +kernel
theorem c131_7 : jm_code 131 7 = some (.iload_n 2, 1) := by decide +kernel
theorem c131_8 : jm_code 131 8 = some (.invokestatic 133, 3) := by decide +kernel
theorem c131_11 : jm_code 131 11 = some (.ifCond .ne 6, 3) := by decide +kernel
theorem c131_14 : jm_code 131 14 = some (.bipush (-2), 2) := by decide +kernel
theorem c131_16 : jm_code 131 16 = some (.ireturn, 1) := by decide +kernel
theorem c131_17 : jm_code 131 17 = some (.aload_n 0, 1) := by decide +kernel
theorem c131_18 : jm_code 131 18 = some (.getfield 7, 3) := by decide +kernel
theorem c131_21 : jm_code 131 21 = some (.iload_n 1, 1) := by decide +kernel
theorem c131_22 : jm_code 131 22 = some (.iaload, 1) := by decide +kernel
theorem c131_23 : jm_code 131 23 = some (.ifCond .ge 9, 3) := by decide +kernel
theorem c131_26 : jm_code 131 26 = some (.aload_n 0, 1) := by decide +kernel
theorem c131_27 : jm_code 131 27 = some (.iconst 1, 1) := by decide +kernel
theorem c131_28 : jm_code 131 28 = some (.invokevirtual 111, 3) := by decide +kernel
theorem c131_31 : jm_code 131 31 = some (.ireturn, 1) := by decide +kernel
theorem c131_32 : jm_code 131 32 = some (.iconst 0, 1) := by decide +kernel
theorem c131_33 : jm_code 131 33 = some (.istore_n 3, 1) := by decide +kernel
theorem c131_34 : jm_code 131 34 = some (.iconst 1, 1) := by decide +kernel
theorem c131_35 : jm_code 131 35 = some (.istore 4, 2) := by decide +kernel
theorem c131_37 : jm_code 131 37 = some (.iload 4, 2) := by decide +kernel
theorem c131_39 : jm_code 131 39 = some (.ifCond .eq 92, 3) := by decide +kernel
theorem c131_42 : jm_code 131 42 = some (.iconst 4, 1) := by decide +kernel
theorem c131_43 : jm_code 131 43 = some (.iload_n 3, 1) := by decide +kernel
theorem c131_44 : jm_code 131 44 = some (.imul, 1) := by decide +kernel
theorem c131_45 : jm_code 131 45 = some (.iconst 4, 1) := by decide +kernel
theorem c131_46 : jm_code 131 46 = some (.iadd, 1) := by decide +kernel
theorem c131_47 : jm_code 131 47 = some (.aload_n 0, 1) := by decide +kernel
theorem c131_48 : jm_code 131 48 = some (.getfield 13, 3) := by decide +kernel
theorem c131_51 : jm_code 131 51 = some (.iload_n 1, 1) := by decide +kernel
theorem c131_52 : jm_code 131 52 = some (.iaload, 1) := by decide +kernel
theorem c131_53 : jm_code 131 53 = some (.if_icmp .gt 78, 3) := by decide +kernel
theorem c131_56 : jm_code 131 56 = some (.bipush 60, 2) := by decide +kernel
theorem c131_58 : jm_code 131 58 = some (.iload_n 1, 1) := by decide +kernel
theorem c131_59 : jm_code 131 59 = some (.imul, 1) := by decide +kernel
theorem c131_60 : jm_code 131 60 = some (.iconst 4, 1) := by decide +kernel
theorem c131_61 : jm_code 131 61 = some (.iload_n 3, 1) := by decide +kernel
theorem c131_62 : jm_code 131 62 = some (.imul, 1) := by decide +kernel
theorem c131_63 : jm_code 131 63 = some (.iadd, 1) := by decide +kernel
theorem c131_64 : jm_code 131 64 = some (.istore 5, 2) := by decide +kernel
theorem c131_66 : jm_code 131 66 = some (.aload_n 0, 1) := by decide +kernel
theorem c131_67 : jm_code 131 67 = some (.iload_n 2, 1) := by decide +kernel
theorem c131_68 : jm_code 131 68 = some (.aload_n 0, 1) := by decide +kernel
theorem c131_69 : jm_code 131 69 = some (.getfield 16, 3) := by decide +kernel
theorem c131_72 : jm_code 131 72 = some (.iload 5, 2) := by decide +kernel
theorem c131_74 : jm_code 131 74 = some (.iaload, 1) := by decide +kernel
theorem c131_75 : jm_code 131 75 = some (.aload_n 0, 1) := by decide +kernel
theorem c131_76 : jm_code 131 76 = some (.getfield 16, 3) := by decide +kernel
theorem c131_79 : jm_code 131 79 = some (.iload 5, 2) := by decide +kernel
theorem c131_81 : jm_code 131 81 = some (.iconst 1, 1) := by decide +kernel
theorem c131_82 : jm_code 131 82 = some (.iadd, 1) := by decide +kernel
theorem c131_83 : jm_code 131 83 = some (.iaload, 1) := by decide +kernel
theorem c131_84 : jm_code 131 84 = some (.aload_n 0, 1) := by decide +kernel
theorem c131_85 : jm_code 131 85 = some (.getfield 16, 3) := by decide +kernel
theorem c131_88 : jm_code 131 88 = some (.iload 5, 2) := by decide +kernel
theorem c131_90 : jm_code 131 90 = some (.iconst 2, 1) := by decide +kernel
theorem c131_91 : jm_code 131 91 = some (.iadd, 1) := by decide +kernel
theorem c131_92 : jm_code 131 92 = some (.iaload, 1) := by decide +kernel
theorem c131_93 : jm_code 131 93 = some (.aload_n 0, 1) := by decide +kernel
theorem c131_94 : jm_code 131 94 = some (.getfield 16, 3) := by decide +kernel
theorem c131_97 : jm_code 131 97 = some (.iload 5, 2) := by decide +kernel
theorem c131_99 : jm_code 131 99 = some (.iconst 3, 1) := by decide +kernel
theorem c131_100 : jm_code 131 100 = some (.iadd, 1) := by decide +kernel
theorem c131_101 : jm_code 131 101 = some (.iaload, 1) := by decide +kernel
theorem c131_102 : jm_code 131 102 = some (.invokevirtual 140, 3) := by decide +kernel
theorem c131_105 : jm_code 131 105 = some (.ifCond .lt 7, 3) := by decide +kernel
theorem c131_108 : jm_code 131 108 = some (.iconst 1, 1) := by decide +kernel
theorem c131_109 : jm_code 131 109 = some (.goto 4, 3) := by decide +kernel
theorem c131_112 : jm_code 131 112 = some (.iconst 0, 1) := by decide +kernel
theorem c131_113 : jm_code 131 113 = some (.istore 4, 2) := by decide +kernel
theorem c131_115 : jm_code 131 115 = some (.iload_n 3, 1) := by decide +kernel
theorem c131_116 : jm_code 131 116 = some (.iload 4, 2) := by decide +kernel
theorem c131_118 : jm_code 131 118 = some (.ifCond .eq 7, 3) := by decide +kernel
theorem c131_121 : jm_code 131 121 = some (.iconst 1, 1) := by decide +kernel
theorem c131_122 : jm_code 131 122 = some (.goto 4, 3) := by decide +kernel
theorem c131_125 : jm_code 131 125 = some (.iconst 0, 1) := by decide +kernel
theorem c131_126 : jm_code 131 126 = some (.iadd, 1) := by decide +kernel
theorem c131_127 : jm_code 131 127 = some (.istore_n 3, 1) := by decide +kernel
theorem c131_128 : jm_code 131 128 = some (.goto (-91), 3) := by decide +kernel
theorem c131_131 : jm_code 131 131 = some (.iload_n 3, 1) := by decide +kernel
theorem c131_132 : jm_code 131 132 = some (.ireturn, 1) := by decide +kernel
theorem c132_0 : jm_code 132 0 = some (.aload_n 0, 1) := by decide +kernel
theorem c132_1 : jm_code 132 1 = some (.iload_n 1, 1) := by decide +kernel
theorem c132_2 : jm_code 132 2 = some (.invokevirtual 144, 3) := by decide +kernel
theorem c132_5 : jm_code 132 5 = some (.ifCond .eq 23, 3) := by decide +kernel
theorem c132_8 : jm_code 132 8 = some (.iload_n 2, 1) := by decide +kernel
theorem c132_9 : jm_code 132 9 = some (.i2l, 1) := by decide +kernel
theorem c132_10 : jm_code 132 10 = some (.lconst 0, 1) := by decide +kernel
theorem c132_11 : jm_code 132 11 = some (.ldc2_w 103, 3) := by decide +kernel
theorem c132_14 : jm_code 132 14 = some (.invokestatic 95, 3) := by decide +kernel
theorem c132_17 : jm_code 132 17 = some (.ifCond .eq 11, 3) := by decide +kernel
theorem c132_20 : jm_code 132 20 = some (.iload_n 2, 1) := by decide +kernel
theorem c132_21 : jm_code 132 21 = some (.iload_n 3, 1) := by decide +kernel
theorem c132_22 : jm_code 132 22 = some (.invokestatic 136, 3) := by decide +kernel
theorem c132_25 : jm_code 132 25 = some (.ifCond .ne 6, 3) := by decide +kernel
theorem c132_28 : jm_code 132 28 = some (.bipush (-2), 2) := by decide +kernel
theorem c132_30 : jm_code 132 30 = some (.ireturn, 1) := by decide +kernel
theorem c132_31 : jm_code 132 31 = some (.aload_n 0, 1) := by decide +kernel
theorem c132_32 : jm_code 132 32 = some (.getfield 25, 3) := by decide +kernel
theorem c132_35 : jm_code 132 35 = some (.iconst 4, 1) := by decide +kernel
theorem c132_36 : jm_code 132 36 = some (.iload_n 1, 1) := by decide +kernel
theorem c132_37 : jm_code 132 37 = some (.imul, 1) := by decide +kernel
theorem c132_38 : jm_code 132 38 = some (.iload_n 2, 1) := by decide +kernel
theorem c132_39 : jm_code 132 39 = some (.iadd, 1) := by decide +kernel
theorem c132_40 : jm_code 132 40 = some (.iaload, 1) := by decide +kernel
theorem c132_41 : jm_code 132 41 = some (.istore 4, 2) := by decide +kernel
theorem c132_43 : jm_code 132 43 = some (.aload_n 0, 1) := by decide +kernel
theorem c132_44 : jm_code 132 44 = some (.getfield 25, 3) := by decide +kernel
theorem c132_47 : jm_code 132 47 = some (.iconst 4, 1) := by decide +kernel
theorem c132_48 : jm_code 132 48 = some (.iload_n 1, 1) := by decide +kernel
theorem c132_49 : jm_code 132 49 = some (.imul, 1) := by decide +kernel
theorem c132_50 : jm_code 132 50 = some (.iload_n 2, 1) := by decide +kernel
theorem c132_51 : jm_code 132 51 = some (.iadd, 1) := by decide +kernel
theorem c132_52 : jm_code 132 52 = some (.iload_n 3, 1) := by decide +kernel
theorem c132_53 : jm_code 132 53 = some (.iastore, 1) := by decide +kernel
theorem c132_54 : jm_code 132 54 = some (.iload 4, 2) := by decide +kernel
theorem c132_56 : jm_code 132 56 = some (.ireturn, 1) := by decide +kernel
theorem c133_0 : jm_code 133 0 = some (.iload_n 1, 1) := by decide +kernel
theorem c133_1 : jm_code 133 1 = some (.i2l, 1) := by decide +kernel
theorem c133_2 : jm_code 133 2 = some (.lconst 0, 1) := by decide +kernel
theorem c133_3 : jm_code 133 3 = some (.aload_n 0, 1) := by decide +kernel
theorem c133_4 : jm_code 133 4 = some (.getfield 124, 3) := by decide +kernel
theorem c133_7 : jm_code 133 7 = some (.iconst 1, 1) := by decide +kernel
theorem c133_8 : jm_code 133 8 = some (.isub, 1) := by decide +kernel
theorem c133_9 : jm_code 133 9 = some (.i2l, 1) := by decide +kernel
theorem c133_10 : jm_code 133 10 = some (.invokestatic 95, 3) := by decide +kernel
theorem c133_13 : jm_code 133 13 = some (.ireturn, 1) := by decide +kernel
theorem c134_0 : jm_code 134 0 = some (.aload_n 0, 1) := by decide +kernel
theorem c134_1 : jm_code 134 1 = some (.getfield 124, 3) := by decide +kernel
theorem c134_4 : jm_code 134 4 = some (.istore_n 1, 1) := by decide +kernel
theorem c134_5 : jm_code 134 5 = some (.aload_n 0, 1) := by decide +kernel
theorem c134_6 : jm_code 134 6 = some (.iconst 0, 1) := by decide +kernel
theorem c134_7 : jm_code 134 7 = some (.putfield 124, 3) := by decide +kernel
theorem c134_10 : jm_code 134 10 = some (.aload_n 0, 1) := by decide +kernel
theorem c134_11 : jm_code 134 11 = some (.iconst 0, 1) := by decide +kernel
theorem c134_12 : jm_code 134 12 = some (.putfield 147, 3) := by decide +kernel
theorem c134_15 : jm_code 134 15 = some (.iload_n 1, 1) := by decide +kernel
theorem c134_16 : jm_code 134 16 = some (.ireturn, 1) := by decide +kernel
theorem c135_0 : jm_code 135 0 = some (.iload_n 1, 1) := by decide +kernel
theorem c135_1 : jm_code 135 1 = some (.iconst 1, 1) := by decide +kernel
theorem c135_2 : jm_code 135 2 = some (.if_icmp .ne 17, 3) := by decide +kernel
theorem c135_5 : jm_code 135 5 = some (.iload_n 2, 1) := by decide +kernel
theorem c135_6 : jm_code 135 6 = some (.i2l, 1) := by decide +kernel
theorem c135_7 : jm_code 135 7 = some (.ldc2_w 150, 3) := by decide +kernel
theorem c135_10 : jm_code 135 10 = some (.ldc2_w 152, 3) := by decide +kernel
theorem c135_13 : jm_code 135 13 = some (.invokestatic 95, 3) := by decide +kernel
theorem c135_16 : jm_code 135 16 = some (.goto 41, 3) := by decide +kernel
theorem c135_19 : jm_code 135 19 = some (.iload_n 1, 1) := by decide +kernel
theorem c135_20 : jm_code 135 20 = some (.i2l, 1) := by decide +kernel
theorem c135_21 : jm_code 135 21 = some (.lconst 0, 1) := by decide +kernel
theorem c135_22 : jm_code 135 22 = some (.ldc2_w 150, 3) := by decide +kernel
theorem c135_25 : jm_code 135 25 = some (.invokestatic 95, 3) := by decide +kernel
theorem c135_28 : jm_code 135 28 = some (.ifCond .eq 28, 3) := by decide +kernel
theorem c135_31 : jm_code 135 31 = some (.iload_n 2, 1) := by decide +kernel
theorem c135_32 : jm_code 135 32 = some (.i2l, 1) := by decide +kernel
theorem c135_33 : jm_code 135 33 = some (.iload_n 1, 1) := by decide +kernel
theorem c135_34 : jm_code 135 34 = some (.iconst 2, 1) := by decide +kernel
theorem c135_35 : jm_code 135 35 = some (.if_icmp .ne 7, 3) := by decide +kernel
theorem c135_38 : jm_code 135 38 = some (.lconst 1, 1) := by decide +kernel
theorem c135_39 : jm_code 135 39 = some (.goto 4, 3) := by decide +kernel
theorem c135_42 : jm_code 135 42 = some (.lconst 0, 1) := by decide +kernel
theorem c135_43 : jm_code 135 43 = some (.ldc2_w 127, 3) := by decide +kernel
theorem c135_46 : jm_code 135 46 = some (.invokestatic 95, 3) := by decide +kernel
theorem c135_49 : jm_code 135 49 = some (.ifCond .eq 7, 3) := by decide +kernel
theorem c135_52 : jm_code 135 52 = some (.iconst 1, 1) := by decide +kernel
theorem c135_53 : jm_code 135 53 = some (.goto 4, 3) := by decide +kernel
theorem c135_56 : jm_code 135 56 = some (.iconst 0, 1) := by decide +kernel
theorem c135_57 : jm_code 135 57 = some (.istore_n 3, 1) := by decide +kernel
theorem c135_58 : jm_code 135 58 = some (.iload_n 3, 1) := by decide +kernel
theorem c135_59 : jm_code 135 59 = some (.ifCond .ne 6, 3) := by decide +kernel
theorem c135_62 : jm_code 135 62 = some (.bipush (-2), 2) := by decide +kernel
theorem c135_64 : jm_code 135 64 = some (.ireturn, 1) := by decide +kernel
theorem c135_65 : jm_code 135 65 = some (.aload_n 0, 1) := by decide +kernel
theorem c135_66 : jm_code 135 66 = some (.getfield 28, 3) := by decide +kernel
theorem c135_69 : jm_code 135 69 = some (.iload_n 1, 1) := by decide +kernel
theorem c135_70 : jm_code 135 70 = some (.iaload, 1) := by decide +kernel
theorem c135_71 : jm_code 135 71 = some (.istore 4, 2) := by decide +kernel
theorem c135_73 : jm_code 135 73 = some (.aload_n 0, 1) := by decide +kernel
theorem c135_74 : jm_code 135 74 = some (.getfield 28, 3) := by decide +kernel
theorem c135_77 : jm_code 135 77 = some (.iload_n 1, 1) := by decide +kernel
theorem c135_78 : jm_code 135 78 = some (.iload_n 2, 1) := by decide +kernel
theorem c135_79 : jm_code 135 79 = some (.iastore, 1) := by decide +kernel
theorem c135_80 : jm_code 135 80 = some (.iload 4, 2) := by decide +kernel
theorem c135_82 : jm_code 135 82 = some (.ireturn, 1) := by decide +kernel
theorem c136_0 : jm_code 136 0 = some (.iload_n 1, 1) := by decide +kernel
theorem c136_1 : jm_code 136 1 = some (.invokestatic 154, 3) := by decide +kernel
theorem c136_4 : jm_code 136 4 = some (.ifCond .eq 15, 3) := by decide +kernel
theorem c136_7 : jm_code 136 7 = some (.iload_n 2, 1) := by decide +kernel
theorem c136_8 : jm_code 136 8 = some (.i2l, 1) := by decide +kernel
theorem c136_9 : jm_code 136 9 = some (.lconst 0, 1) := by decide +kernel
theorem c136_10 : jm_code 136 10 = some (.ldc2_w 157, 3) := by decide +kernel
theorem c136_13 : jm_code 136 13 = some (.invokestatic 95, 3) := by decide +kernel
theorem c136_16 : jm_code 136 16 = some (.ifCond .ne 6, 3) := by decide +kernel
theorem c136_19 : jm_code 136 19 = some (.bipush (-2), 2) := by decide +kernel
theorem c136_21 : jm_code 136 21 = some (.ireturn, 1) := by decide +kernel
theorem c136_22 : jm_code 136 22 = some (.aload_n 0, 1) := by decide +kernel
theorem c136_23 : jm_code 136 23 = some (.getfield 34, 3) := by decide +kernel
theorem c136_26 : jm_code 136 26 = some (.iload_n 1, 1) := by decide +kernel
theorem c136_27 : jm_code 136 27 = some (.iaload, 1) := by decide +kernel
theorem c136_28 : jm_code 136 28 = some (.iload_n 1, 1) := by decide +kernel
theorem c136_29 : jm_code 136 29 = some (.ifCond .ne 8, 3) := by decide +kernel
theorem c136_32 : jm_code 136 32 = some (.bipush 60, 2) := by decide +kernel
theorem c136_34 : jm_code 136 34 = some (.goto 5, 3) := by decide +kernel
theorem c136_37 : jm_code 136 37 = some (.bipush 30, 2) := by decide +kernel
theorem c136_39 : jm_code 136 39 = some (.if_icmp .ne 6, 3) := by decide +kernel
theorem c136_42 : jm_code 136 42 = some (.bipush (-4), 2) := by decide +kernel
theorem c136_44 : jm_code 136 44 = some (.ireturn, 1) := by decide +kernel
theorem c136_45 : jm_code 136 45 = some (.aload_n 0, 1) := by decide +kernel
theorem c136_46 : jm_code 136 46 = some (.getfield 31, 3) := by decide +kernel
theorem c136_49 : jm_code 136 49 = some (.bipush 60, 2) := by decide +kernel
theorem c136_51 : jm_code 136 51 = some (.iload_n 1, 1) := by decide +kernel
theorem c136_52 : jm_code 136 52 = some (.imul, 1) := by decide +kernel
theorem c136_53 : jm_code 136 53 = some (.aload_n 0, 1) := by decide +kernel
theorem c136_54 : jm_code 136 54 = some (.getfield 34, 3) := by decide +kernel
theorem c136_57 : jm_code 136 57 = some (.iload_n 1, 1) := by decide +kernel
theorem c136_58 : jm_code 136 58 = some (.iaload, 1) := by decide +kernel
theorem c136_59 : jm_code 136 59 = some (.iadd, 1) := by decide +kernel
theorem c136_60 : jm_code 136 60 = some (.iload_n 2, 1) := by decide +kernel
theorem c136_61 : jm_code 136 61 = some (.iastore, 1) := by decide +kernel
theorem c136_62 : jm_code 136 62 = some (.aload_n 0, 1) := by decide +kernel
theorem c136_63 : jm_code 136 63 = some (.getfield 34, 3) := by decide +kernel
theorem c136_66 : jm_code 136 66 = some (.iload_n 1, 1) := by decide +kernel
theorem c136_67 : jm_code 136 67 = some (.dup2, 1) := by decide +kernel
theorem c136_68 : jm_code 136 68 = some (.iaload, 1) := by decide +kernel
theorem c136_69 : jm_code 136 69 = some (.iconst 1, 1) := by decide +kernel
theorem c136_70 : jm_code 136 70 = some (.iadd, 1) := by decide +kernel
theorem c136_71 : jm_code 136 71 = some (.iastore, 1) := by decide +kernel
theorem c136_72 : jm_code 136 72 = some (.aload_n 0, 1) := by decide +kernel
theorem c136_73 : jm_code 136 73 = some (.getfield 34, 3) := by decide +kernel
theorem c136_76 : jm_code 136 76 = some (.iload_n 1, 1) := by decide +kernel
theorem c136_77 : jm_code 136 77 = some (.iaload, 1) := by decide +kernel
theorem c136_78 : jm_code 136 78 = some (.ireturn, 1) := by decide +kernel
theorem c137_0 : jm_code 137 0 = some (.iload_n 0, 1) := by decide +kernel
theorem c137_1 : jm_code 137 1 = some (.i2l, 1) := by decide +kernel
theorem c137_2 : jm_code 137 2 = some (.lconst 0, 1) := by decide +kernel
theorem c137_3 : jm_code 137 3 = some (.ldc2_w 103, 3) := by decide +kernel
theorem c137_6 : jm_code 137 6 = some (.invokestatic 95, 3) := by decide +kernel
theorem c137_9 : jm_code 137 9 = some (.ireturn, 1) := by decide +kernel
theorem c138_0 : jm_code 138 0 = some (.iload_n 1, 1) := by decide +kernel
theorem c138_1 : jm_code 138 1 = some (.invokestatic 154, 3) := by decide +kernel
theorem c138_4 : jm_code 138 4 = some (.ifCond .ne 6, 3) := by decide +kernel
theorem c138_7 : jm_code 138 7 = some (.bipush (-2), 2) := by decide +kernel
theorem c138_9 : jm_code 138 9 = some (.ireturn, 1) := by decide +kernel
theorem c138_10 : jm_code 138 10 = some (.aload_n 0, 1) := by decide +kernel
theorem c138_11 : jm_code 138 11 = some (.getfield 34, 3) := by decide +kernel
theorem c138_14 : jm_code 138 14 = some (.iload_n 1, 1) := by decide +kernel
theorem c138_15 : jm_code 138 15 = some (.iaload, 1) := by decide +kernel
theorem c138_16 : jm_code 138 16 = some (.istore_n 2, 1) := by decide +kernel
theorem c138_17 : jm_code 138 17 = some (.aload_n 0, 1) := by decide +kernel
theorem c138_18 : jm_code 138 18 = some (.getfield 34, 3) := by decide +kernel
theorem c138_21 : jm_code 138 21 = some (.iload_n 1, 1) := by decide +kernel
theorem c138_22 : jm_code 138 22 = some (.iconst 0, 1) := by decide +kernel
theorem c138_23 : jm_code 138 23 = some (.iastore, 1) := by decide +kernel
theorem c138_24 : jm_code 138 24 = some (.iload_n 2, 1) := by decide +kernel
theorem c138_25 : jm_code 138 25 = some (.ireturn, 1) := by decide +kernel
theorem c139_0 : jm_code 139 0 = some (.iload_n 1, 1) := by decide +kernel
theorem c139_1 : jm_code 139 1 = some (.invokestatic 154, 3) := by decide +kernel
theorem c139_4 : jm_code 139 4 = some (.ifCond .eq 11, 3) := by decide +kernel
theorem c139_7 : jm_code 139 7 = some (.aload_n 0, 1) := by decide +kernel
theorem c139_8 : jm_code 139 8 = some (.iload_n 1, 1) := by decide +kernel
theorem c139_9 : jm_code 139 9 = some (.invokevirtual 201, 3) := by decide +kernel
theorem c139_12 : jm_code 139 12 = some (.goto 5, 3) := by decide +kernel
theorem c139_15 : jm_code 139 15 = some (.bipush (-2), 2) := by decide +kernel
theorem c139_17 : jm_code 139 17 = some (.ireturn, 1) := by decide +kernel
theorem c140_0 : jm_code 140 0 = some (.iload_n 1, 1) := by decide +kernel
theorem c140_1 : jm_code 140 1 = some (.ifCond .ne 10, 3) := by decide +kernel
theorem c140_4 : jm_code 140 4 = some (.aload_n 0, 1) := by decide +kernel
theorem c140_5 : jm_code 140 5 = some (.invokevirtual 194, 3) := by decide +kernel
theorem c140_8 : jm_code 140 8 = some (.goto 8, 3) := by decide +kernel
theorem c140_11 : jm_code 140 11 = some (.aload_n 0, 1) := by decide +kernel
theorem c140_12 : jm_code 140 12 = some (.iload_n 1, 1) := by decide +kernel
theorem c140_13 : jm_code 140 13 = some (.invokevirtual 198, 3) := by decide +kernel
theorem c140_16 : jm_code 140 16 = some (.ireturn, 1) := by decide +kernel
theorem c141_0 : jm_code 141 0 = some (.aload_n 0, 1) := by decide +kernel
theorem c141_1 : jm_code 141 1 = some (.invokevirtual 184, 3) := by decide +kernel
theorem c141_4 : jm_code 141 4 = some (.aload_n 0, 1) := by decide +kernel
theorem c141_5 : jm_code 141 5 = some (.iconst 0, 1) := by decide +kernel
theorem c141_6 : jm_code 141 6 = some (.putfield 159, 3) := by decide +kernel
theorem c141_9 : jm_code 141 9 = some (.aload_n 0, 1) := by decide +kernel
theorem c141_10 : jm_code 141 10 = some (.getfield 34, 3) := by decide +kernel
theorem c141_13 : jm_code 141 13 = some (.iconst 0, 1) := by decide +kernel
theorem c141_14 : jm_code 141 14 = some (.iaload, 1) := by decide +kernel
theorem c141_15 : jm_code 141 15 = some (.ifCond .le 7, 3) := by decide +kernel
theorem c141_18 : jm_code 141 18 = some (.iconst 1, 1) := by decide +kernel
theorem c141_19 : jm_code 141 19 = some (.goto 4, 3) := by decide +kernel
theorem c141_22 : jm_code 141 22 = some (.iconst 0, 1) := by decide +kernel
theorem c141_23 : jm_code 141 23 = some (.istore_n 1, 1) := by decide +kernel
theorem c141_24 : jm_code 141 24 = some (.iload_n 1, 1) := by decide +kernel
theorem c141_25 : jm_code 141 25 = some (.ifCond .eq 82, 3) := by decide +kernel
theorem c141_28 : jm_code 141 28 = some (.aload_n 0, 1) := by decide +kernel
theorem c141_29 : jm_code 141 29 = some (.invokevirtual 187, 3) := by decide +kernel
theorem c141_32 : jm_code 141 32 = some (.ifCond .ne 12, 3) := by decide +kernel
theorem c141_35 : jm_code 141 35 = some (.aload_n 0, 1) := by decide +kernel
theorem c141_36 : jm_code 141 36 = some (.invokevirtual 184, 3) := by decide +kernel
theorem c141_39 : jm_code 141 39 = some (.aload_n 0, 1) := by decide +kernel
theorem c141_40 : jm_code 141 40 = some (.getfield 159, 3) := by decide +kernel
theorem c141_43 : jm_code 141 43 = some (.ireturn, 1) := by decide +kernel
theorem c141_44 : jm_code 141 44 = some (.aload_n 0, 1) := by decide +kernel
theorem c141_45 : jm_code 141 45 = some (.getfield 159, 3) := by decide +kernel
theorem c141_48 : jm_code 141 48 = some (.aload_n 0, 1) := by decide +kernel
theorem c141_49 : jm_code 141 49 = some (.getfield 34, 3) := by decide +kernel
theorem c141_52 : jm_code 141 52 = some (.iconst 0, 1) := by decide +kernel
theorem c141_53 : jm_code 141 53 = some (.iaload, 1) := by decide +kernel
theorem c141_54 : jm_code 141 54 = some (.if_icmp .ge 7, 3) := by decide +kernel
theorem c141_57 : jm_code 141 57 = some (.iconst 1, 1) := by decide +kernel
theorem c141_58 : jm_code 141 58 = some (.goto 4, 3) := by decide +kernel
theorem c141_61 : jm_code 141 61 = some (.iconst 0, 1) := by decide +kernel
theorem c141_62 : jm_code 141 62 = some (.istore_n 1, 1) := by decide +kernel
theorem c141_63 : jm_code 141 63 = some (.iload_n 1, 1) := by decide +kernel
theorem c141_64 : jm_code 141 64 = some (.ifCond .eq 22, 3) := by decide +kernel
theorem c141_67 : jm_code 141 67 = some (.aload_n 0, 1) := by decide +kernel
theorem c141_68 : jm_code 141 68 = some (.iconst 0, 1) := by decide +kernel
theorem c141_69 : jm_code 141 69 = some (.invokevirtual 162, 3) := by decide +kernel
theorem c141_72 : jm_code 141 72 = some (.bipush 59, 2) := by decide +kernel
theorem c141_74 : jm_code 141 74 = some (.if_icmp .eq 12, 3) := by decide +kernel
theorem c141_77 : jm_code 141 77 = some (.aload_n 0, 1) := by decide +kernel
theorem c141_78 : jm_code 141 78 = some (.invokevirtual 184, 3) := by decide +kernel
theorem c141_81 : jm_code 141 81 = some (.aload_n 0, 1) := by decide +kernel
theorem c141_82 : jm_code 141 82 = some (.getfield 159, 3) := by decide +kernel
theorem c141_85 : jm_code 141 85 = some (.ireturn, 1) := by decide +kernel
theorem c141_86 : jm_code 141 86 = some (.aload_n 0, 1) := by decide +kernel
theorem c141_87 : jm_code 141 87 = some (.dup, 1) := by decide +kernel
theorem c141_88 : jm_code 141 88 = some (.getfield 159, 3) := by decide +kernel
theorem c141_91 : jm_code 141 91 = some (.iload_n 1, 1) := by decide +kernel
theorem c141_92 : jm_code 141 92 = some (.ifCond .eq 7, 3) := by decide +kernel
theorem c141_95 : jm_code 141 95 = some (.iconst 1, 1) := by decide +kernel
theorem c141_96 : jm_code 141 96 = some (.goto 4, 3) := by decide +kernel
theorem c141_99 : jm_code 141 99 = some (.iconst 0, 1) := by decide +kernel
theorem c141_100 : jm_code 141 100 = some (.iadd, 1) := by decide +kernel
theorem c141_101 : jm_code 141 101 = some (.putfield 159, 3) := by decide +kernel
theorem c141_104 : jm_code 141 104 = some (.goto (-80), 3) := by decide +kernel
theorem c141_107 : jm_code 141 107 = some (.iconst (-1), 1) := by decide +kernel
theorem c141_108 : jm_code 141 108 = some (.ireturn, 1) := by decide +kernel
theorem c142_0 : jm_code 142 0 = some (.iconst 0, 1) := by decide +kernel
theorem c142_1 : jm_code 142 1 = some (.istore_n 1, 1) := by decide +kernel
theorem c142_2 : jm_code 142 2 = some (.iload_n 1, 1) := by decide +kernel
theorem c142_3 : jm_code 142 3 = some (.sipush 200, 3) := by decide +kernel
theorem c142_6 : jm_code 142 6 = some (.if_icmp .ge 30, 3) := by decide +kernel
theorem c142_9 : jm_code 142 9 = some (.aload_n 0, 1) := by decide +kernel
theorem c142_10 : jm_code 142 10 = some (.getfield 37, 3) := by decide +kernel
theorem c142_13 : jm_code 142 13 = some (.iload_n 1, 1) := by decide +kernel
theorem c142_14 : jm_code 142 14 = some (.iconst 0, 1) := by decide +kernel
theorem c142_15 : jm_code 142 15 = some (.iastore, 1) := by decide +kernel
theorem c142_16 : jm_code 142 16 = some (.aload_n 0, 1) := by decide +kernel
theorem c142_17 : jm_code 142 17 = some (.getfield 40, 3) := by decide +kernel
theorem c142_20 : jm_code 142 20 = some (.iload_n 1, 1) := by decide +kernel
theorem c142_21 : jm_code 142 21 = some (.iconst 0, 1) := by decide +kernel
theorem c142_22 : jm_code 142 22 = some (.iastore, 1) := by decide +kernel
theorem c142_23 : jm_code 142 23 = some (.aload_n 0, 1) := by decide +kernel
theorem c142_24 : jm_code 142 24 = some (.getfield 43, 3) := by decide +kernel
theorem c142_27 : jm_code 142 27 = some (.iload_n 1, 1) := by decide +kernel
theorem c142_28 : jm_code 142 28 = some (.iconst 0, 1) := by decide +kernel
theorem c142_29 : jm_code 142 29 = some (.bastore, 1) := by decide +kernel
theorem c142_30 : jm_code 142 30 = some (.iinc 1 1, 3) := by decide +kernel
theorem c142_33 : jm_code 142 33 = some (.goto (-31), 3) := by decide +kernel
theorem c142_36 : jm_code 142 36 = some (.aload_n 0, 1) := by decide +kernel
theorem c142_37 : jm_code 142 37 = some (.iconst 0, 1) := by decide +kernel
theorem c142_38 : jm_code 142 38 = some (.putfield 169, 3) := by decide +kernel
theorem c142_41 : jm_code 142 41 = some (.aload_n 0, 1) := by decide +kernel
theorem c142_42 : jm_code 142 42 = some (.iconst 0, 1) := by decide +kernel
theorem c142_43 : jm_code 142 43 = some (.putfield 172, 3) := by decide +kernel
theorem c142_46 : jm_code 142 46 = some (.return_, 1) := by decide +kernel
theorem c143_0 : jm_code 143 0 = some (.aload_n 0, 1) := by decide +kernel
theorem c143_1 : jm_code 143 1 = some (.iconst 0, 1) := by decide +kernel
theorem c143_2 : jm_code 143 2 = some (.invokevirtual 162, 3) := by decide +kernel
theorem c143_5 : jm_code 143 5 = some (.istore_n 1, 1) := by decide +kernel
theorem c143_6 : jm_code 143 6 = some (.iload_n 1, 1) := by decide +kernel
theorem c143_7 : jm_code 143 7 = some (.bipush 104, 2) := by decide +kernel
theorem c143_9 : jm_code 143 9 = some (.if_icmp .eq 23, 3) := by decide +kernel
theorem c143_12 : jm_code 143 12 = some (.iload_n 1, 1) := by decide +kernel
theorem c143_13 : jm_code 143 13 = some (.bipush 115, 2) := by decide +kernel
theorem c143_15 : jm_code 143 15 = some (.if_icmp .eq 17, 3) := by decide +kernel
theorem c143_18 : jm_code 143 18 = some (.iload_n 1, 1) := by decide +kernel
theorem c143_19 : jm_code 143 19 = some (.bipush 108, 2) := by decide +kernel
theorem c143_21 : jm_code 143 21 = some (.if_icmp .eq 11, 3) := by decide +kernel
theorem c143_24 : jm_code 143 24 = some (.iload_n 1, 1) := by decide +kernel
theorem c143_25 : jm_code 143 25 = some (.bipush 111, 2) := by decide +kernel
theorem c143_27 : jm_code 143 27 = some (.if_icmp .eq 5, 3) := by decide +kernel
theorem c143_30 : jm_code 143 30 = some (.iconst 0, 1) := by decide +kernel
theorem c143_31 : jm_code 143 31 = some (.ireturn, 1) := by decide +kernel
theorem c143_32 : jm_code 143 32 = some (.aload_n 0, 1) := by decide +kernel
theorem c143_33 : jm_code 143 33 = some (.dup, 1) := by decide +kernel
theorem c143_34 : jm_code 143 34 = some (.getfield 159, 3) := by decide +kernel
theorem c143_37 : jm_code 143 37 = some (.iconst 1, 1) := by decide +kernel
theorem c143_38 : jm_code 143 38 = some (.iadd, 1) := by decide +kernel
theorem c143_39 : jm_code 143 39 = some (.putfield 159, 3) := by decide +kernel
theorem c143_42 : jm_code 143 42 = some (.iload_n 1, 1) := by decide +kernel
theorem c143_43 : jm_code 143 43 = some (.bipush 115, 2) := by decide +kernel
theorem c143_45 : jm_code 143 45 = some (.if_icmp .ne 28, 3) := by decide +kernel
theorem c143_48 : jm_code 143 48 = some (.aload_n 0, 1) := by decide +kernel
theorem c143_49 : jm_code 143 49 = some (.getfield 169, 3) := by decide +kernel
theorem c143_52 : jm_code 143 52 = some (.sipush 200, 3) := by decide +kernel
theorem c143_55 : jm_code 143 55 = some (.if_icmp .ge 16, 3) := by decide +kernel
theorem c143_58 : jm_code 143 58 = some (.aload_n 0, 1) := by decide +kernel
theorem c143_59 : jm_code 143 59 = some (.getfield 40, 3) := by decide +kernel
theorem c143_62 : jm_code 143 62 = some (.aload_n 0, 1) := by decide +kernel
theorem c143_63 : jm_code 143 63 = some (.getfield 169, 3) := by decide +kernel
theorem c143_66 : jm_code 143 66 = some (.dup2, 1) := by decide +kernel
theorem c143_67 : jm_code 143 67 = some (.iaload, 1) := by decide +kernel
theorem c143_68 : jm_code 143 68 = some (.iconst 1, 1) := by decide +kernel
theorem c143_69 : jm_code 143 69 = some (.iadd, 1) := by decide +kernel
theorem c143_70 : jm_code 143 70 = some (.iastore, 1) := by decide +kernel
theorem c143_71 : jm_code 143 71 = some (.iconst 1, 1) := by decide +kernel
theorem c143_72 : jm_code 143 72 = some (.ireturn, 1) := by decide +kernel
theorem c143_73 : jm_code 143 73 = some (.iload_n 1, 1) := by decide +kernel
theorem c143_74 : jm_code 143 74 = some (.bipush 104, 2) := by decide +kernel
theorem c143_76 : jm_code 143 76 = some (.if_icmp .eq 28, 3) := by decide +kernel
theorem c143_79 : jm_code 143 79 = some (.aload_n 0, 1) := by decide +kernel
theorem c143_80 : jm_code 143 80 = some (.iload_n 1, 1) := by decide +kernel
theorem c143_81 : jm_code 143 81 = some (.bipush 108, 2) := by decide +kernel
theorem c143_83 : jm_code 143 83 = some (.if_icmp .ne 7, 3) := by decide +kernel
theorem c143_86 : jm_code 143 86 = some (.iconst 1, 1) := by decide +kernel
theorem c143_87 : jm_code 143 87 = some (.goto 4, 3) := by decide +kernel
theorem c143_90 : jm_code 143 90 = some (.iconst 0, 1) := by decide +kernel
theorem c143_91 : jm_code 143 91 = some (.putfield 172, 3) := by decide +kernel
theorem c143_94 : jm_code 143 94 = some (.aload_n 0, 1) := by decide +kernel
theorem c143_95 : jm_code 143 95 = some (.aload_n 0, 1) := by decide +kernel
theorem c143_96 : jm_code 143 96 = some (.getfield 169, 3) := by decide +kernel
theorem c143_99 : jm_code 143 99 = some (.invokevirtual 176, 3) := by decide +kernel
theorem c143_102 : jm_code 143 102 = some (.iconst 1, 1) := by decide +kernel
theorem c143_103 : jm_code 143 103 = some (.ireturn, 1) := by decide +kernel
theorem c143_104 : jm_code 143 104 = some (.aload_n 0, 1) := by decide +kernel
theorem c143_105 : jm_code 143 105 = some (.iconst 0, 1) := by decide +kernel
theorem c143_106 : jm_code 143 106 = some (.iconst 2, 1) := by decide +kernel
theorem c143_107 : jm_code 143 107 = some (.iconst 0, 1) := by decide +kernel
theorem c143_108 : jm_code 143 108 = some (.bipush 99, 2) := by decide +kernel
theorem c143_110 : jm_code 143 110 = some (.invokevirtual 180, 3) := by decide +kernel
theorem c143_113 : jm_code 143 113 = some (.istore_n 2, 1) := by decide +kernel
theorem c143_114 : jm_code 143 114 = some (.iload_n 2, 1) := by decide +kernel
theorem c143_115 : jm_code 143 115 = some (.ifCond .lt 13, 3) := by decide +kernel
theorem c143_118 : jm_code 143 118 = some (.aload_n 0, 1) := by decide +kernel
theorem c143_119 : jm_code 143 119 = some (.iconst 0, 1) := by decide +kernel
theorem c143_120 : jm_code 143 120 = some (.invokevirtual 162, 3) := by decide +kernel
theorem c143_123 : jm_code 143 123 = some (.bipush 120, 2) := by decide +kernel
theorem c143_125 : jm_code 143 125 = some (.if_icmp .eq 5, 3) := by decide +kernel
theorem c143_128 : jm_code 143 128 = some (.iconst 0, 1) := by decide +kernel
theorem c143_129 : jm_code 143 129 = some (.ireturn, 1) := by decide +kernel
theorem c143_130 : jm_code 143 130 = some (.aload_n 0, 1) := by decide +kernel
theorem c143_131 : jm_code 143 131 = some (.dup, 1) := by decide +kernel
theorem c143_132 : jm_code 143 132 = some (.getfield 159, 3) := by decide +kernel
theorem c143_135 : jm_code 143 135 = some (.iconst 1, 1) := by decide +kernel
theorem c143_136 : jm_code 143 136 = some (.iadd, 1) := by decide +kernel
theorem c143_137 : jm_code 143 137 = some (.putfield 159, 3) := by decide +kernel
theorem c143_140 : jm_code 143 140 = some (.aload_n 0, 1) := by decide +kernel
theorem c143_141 : jm_code 143 141 = some (.iconst 0, 1) := by decide +kernel
theorem c143_142 : jm_code 143 142 = some (.iconst 2, 1) := by decide +kernel
theorem c143_143 : jm_code 143 143 = some (.iconst 1, 1) := by decide +kernel
theorem c143_144 : jm_code 143 144 = some (.bipush 99, 2) := by decide +kernel
theorem c143_146 : jm_code 143 146 = some (.invokevirtual 180, 3) := by decide +kernel
theorem c143_149 : jm_code 143 149 = some (.istore_n 3, 1) := by decide +kernel
theorem c143_150 : jm_code 143 150 = some (.iload_n 3, 1) := by decide +kernel
theorem c143_151 : jm_code 143 151 = some (.ifCond .ge 5, 3) := by decide +kernel
theorem c143_154 : jm_code 143 154 = some (.iconst 0, 1) := by decide +kernel
theorem c143_155 : jm_code 143 155 = some (.ireturn, 1) := by decide +kernel
theorem c143_156 : jm_code 143 156 = some (.aload_n 0, 1) := by decide +kernel
theorem c143_157 : jm_code 143 157 = some (.getfield 169, 3) := by decide +kernel
theorem c143_160 : jm_code 143 160 = some (.istore 4, 2) := by decide +kernel
theorem c143_162 : jm_code 143 162 = some (.iload 4, 2) := by decide +kernel
theorem c143_164 : jm_code 143 164 = some (.aload_n 0, 1) := by decide +kernel
theorem c143_165 : jm_code 143 165 = some (.getfield 169, 3) := by decide +kernel
theorem c143_168 : jm_code 143 168 = some (.iload_n 3, 1) := by decide +kernel
theorem c143_169 : jm_code 143 169 = some (.iadd, 1) := by decide +kernel
theorem c143_170 : jm_code 143 170 = some (.if_icmp .ge 25, 3) := by decide +kernel
theorem c143_173 : jm_code 143 173 = some (.iload 4, 2) := by decide +kernel
theorem c143_175 : jm_code 143 175 = some (.sipush 200, 3) := by decide +kernel
theorem c143_178 : jm_code 143 178 = some (.if_icmp .ge 17, 3) := by decide +kernel
theorem c143_181 : jm_code 143 181 = some (.aload_n 0, 1) := by decide +kernel
theorem c143_182 : jm_code 143 182 = some (.getfield 37, 3) := by decide +kernel
theorem c143_185 : jm_code 143 185 = some (.iload 4, 2) := by decide +kernel
theorem c143_187 : jm_code 143 187 = some (.iload_n 2, 1) := by decide +kernel
theorem c143_188 : jm_code 143 188 = some (.iastore, 1) := by decide +kernel
theorem c143_189 : jm_code 143 189 = some (.iinc 4 1, 3) := by decide +kernel
theorem c143_192 : jm_code 143 192 = some (.goto (-30), 3) := by decide +kernel
theorem c143_195 : jm_code 143 195 = some (.aload_n 0, 1) := by decide +kernel
theorem c143_196 : jm_code 143 196 = some (.dup, 1) := by decide +kernel
theorem c143_197 : jm_code 143 197 = some (.getfield 169, 3) := by decide +kernel
theorem c143_200 : jm_code 143 200 = some (.iload_n 3, 1) := by decide +kernel
theorem c143_201 : jm_code 143 201 = some (.iadd, 1) := by decide +kernel
theorem c143_202 : jm_code 143 202 = some (.putfield 169, 3) := by decide +kernel
theorem c143_205 : jm_code 143 205 = some (.iconst 1, 1) := by decide +kernel
theorem c143_206 : jm_code 143 206 = some (.ireturn, 1) := by decide +kernel
theorem c144_0 : jm_code 144 0 = some (.aload_n 0, 1) := by decide +kernel
theorem c144_1 : jm_code 144 1 = some (.getfield 159, 3) := by decide +kernel
theorem c144_4 : jm_code 144 4 = some (.aload_n 0, 1) := by decide +kernel
theorem c144_5 : jm_code 144 5 = some (.getfield 34, 3) := by decide +kernel
theorem c144_8 : jm_code 144 8 = some (.iload_n 1, 1) := by decide +kernel
theorem c144_9 : jm_code 144 9 = some (.iaload, 1) := by decide +kernel
theorem c144_10 : jm_code 144 10 = some (.if_icmp .ge 20, 3) := by decide +kernel
theorem c144_13 : jm_code 144 13 = some (.aload_n 0, 1) := by decide +kernel
theorem c144_14 : jm_code 144 14 = some (.getfield 31, 3) := by decide +kernel
theorem c144_17 : jm_code 144 17 = some (.bipush 60, 2) := by decide +kernel
theorem c144_19 : jm_code 144 19 = some (.iload_n 1, 1) := by decide +kernel
theorem c144_20 : jm_code 144 20 = some (.imul, 1) := by decide +kernel
theorem c144_21 : jm_code 144 21 = some (.aload_n 0, 1) := by decide +kernel
theorem c144_22 : jm_code 144 22 = some (.getfield 159, 3) := by decide +kernel
theorem c144_25 : jm_code 144 25 = some (.iadd, 1) := by decide +kernel
theorem c144_26 : jm_code 144 26 = some (.iaload, 1) := by decide +kernel
theorem c144_27 : jm_code 144 27 = some (.goto 4, 3) := by decide +kernel
theorem c144_30 : jm_code 144 30 = some (.iconst (-1), 1) := by decide +kernel
theorem c144_31 : jm_code 144 31 = some (.ireturn, 1) := by decide +kernel
theorem c145_0 : jm_code 145 0 = some (.iload_n 1, 1) := by decide +kernel
theorem c145_1 : jm_code 145 1 = some (.istore_n 2, 1) := by decide +kernel
theorem c145_2 : jm_code 145 2 = some (.iload_n 2, 1) := by decide +kernel
theorem c145_3 : jm_code 145 3 = some (.sipush 200, 3) := by decide +kernel
theorem c145_6 : jm_code 145 6 = some (.if_icmp .ge 19, 3) := by decide +kernel
theorem c145_9 : jm_code 145 9 = some (.aload_n 0, 1) := by decide +kernel
theorem c145_10 : jm_code 145 10 = some (.getfield 43, 3) := by decide +kernel
theorem c145_13 : jm_code 145 13 = some (.iload_n 2, 1) := by decide +kernel
theorem c145_14 : jm_code 145 14 = some (.aload_n 0, 1) := by decide +kernel
theorem c145_15 : jm_code 145 15 = some (.getfield 172, 3) := by decide +kernel
theorem c145_18 : jm_code 145 18 = some (.bastore, 1) := by decide +kernel
theorem c145_19 : jm_code 145 19 = some (.iinc 2 1, 3) := by decide +kernel
theorem c145_22 : jm_code 145 22 = some (.goto (-20), 3) := by decide +kernel
theorem c145_25 : jm_code 145 25 = some (.return_, 1) := by decide +kernel
theorem c146_0 : jm_code 146 0 = some (.aload_n 0, 1) := by decide +kernel
theorem c146_1 : jm_code 146 1 = some (.getfield 159, 3) := by decide +kernel
theorem c146_4 : jm_code 146 4 = some (.istore 5, 2) := by decide +kernel
theorem c146_6 : jm_code 146 6 = some (.iconst 0, 1) := by decide +kernel
theorem c146_7 : jm_code 146 7 = some (.istore 6, 2) := by decide +kernel
theorem c146_9 : jm_code 146 9 = some (.aload_n 0, 1) := by decide +kernel
theorem c146_10 : jm_code 146 10 = some (.getfield 159, 3) := by decide +kernel
theorem c146_13 : jm_code 146 13 = some (.iload 5, 2) := by decide +kernel
theorem c146_15 : jm_code 146 15 = some (.iload_n 2, 1) := by decide +kernel
theorem c146_16 : jm_code 146 16 = some (.iadd, 1) := by decide +kernel
theorem c146_17 : jm_code 146 17 = some (.if_icmp .ge 50, 3) := by decide +kernel
theorem c146_20 : jm_code 146 20 = some (.aload_n 0, 1) := by decide +kernel
theorem c146_21 : jm_code 146 21 = some (.iload_n 1, 1) := by decide +kernel
theorem c146_22 : jm_code 146 22 = some (.invokevirtual 162, 3) := by decide +kernel
theorem c146_25 : jm_code 146 25 = some (.i2l, 1) := by decide +kernel
theorem c146_26 : jm_code 146 26 = some (.ldc2_w 165, 3) := by decide +kernel
theorem c146_29 : jm_code 146 29 = some (.ldc2_w 167, 3) := by decide +kernel
theorem c146_32 : jm_code 146 32 = some (.invokestatic 95, 3) := by decide +kernel
theorem c146_35 : jm_code 146 35 = some (.ifCond .eq 32, 3) := by decide +kernel
theorem c146_38 : jm_code 146 38 = some (.bipush 10, 2) := by decide +kernel
theorem c146_40 : jm_code 146 40 = some (.iload 6, 2) := by decide +kernel
theorem c146_42 : jm_code 146 42 = some (.imul, 1) := by decide +kernel
theorem c146_43 : jm_code 146 43 = some (.aload_n 0, 1) := by decide +kernel
theorem c146_44 : jm_code 146 44 = some (.iload_n 1, 1) := by decide +kernel
theorem c146_45 : jm_code 146 45 = some (.invokevirtual 162, 3) := by decide +kernel
theorem c146_48 : jm_code 146 48 = some (.iadd, 1) := by decide +kernel
theorem c146_49 : jm_code 146 49 = some (.bipush 48, 2) := by decide +kernel
theorem c146_51 : jm_code 146 51 = some (.isub, 1) := by decide +kernel
theorem c146_52 : jm_code 146 52 = some (.istore 6, 2) := by decide +kernel
theorem c146_54 : jm_code 146 54 = some (.aload_n 0, 1) := by decide +kernel
theorem c146_55 : jm_code 146 55 = some (.dup, 1) := by decide +kernel
theorem c146_56 : jm_code 146 56 = some (.getfield 159, 3) := by decide +kernel
theorem c146_59 : jm_code 146 59 = some (.iconst 1, 1) := by decide +kernel
theorem c146_60 : jm_code 146 60 = some (.iadd, 1) := by decide +kernel
theorem c146_61 : jm_code 146 61 = some (.putfield 159, 3) := by decide +kernel
theorem c146_64 : jm_code 146 64 = some (.goto (-55), 3) := by decide +kernel
theorem c146_67 : jm_code 146 67 = some (.aload_n 0, 1) := by decide +kernel
theorem c146_68 : jm_code 146 68 = some (.getfield 159, 3) := by decide +kernel
theorem c146_71 : jm_code 146 71 = some (.iload 5, 2) := by decide +kernel
theorem c146_73 : jm_code 146 73 = some (.if_icmp .le 20, 3) := by decide +kernel
theorem c146_76 : jm_code 146 76 = some (.iload 6, 2) := by decide +kernel
theorem c146_78 : jm_code 146 78 = some (.i2l, 1) := by decide +kernel
theorem c146_79 : jm_code 146 79 = some (.iload_n 3, 1) := by decide +kernel
theorem c146_80 : jm_code 146 80 = some (.i2l, 1) := by decide +kernel
theorem c146_81 : jm_code 146 81 = some (.iload 4, 2) := by decide +kernel
theorem c146_83 : jm_code 146 83 = some (.i2l, 1) := by decide +kernel
theorem c146_84 : jm_code 146 84 = some (.invokestatic 95, 3) := by decide +kernel
theorem c146_87 : jm_code 146 87 = some (.ifCond .eq 6, 3) := by decide +kernel
theorem c146_90 : jm_code 146 90 = some (.iload 6, 2) := by decide +kernel
theorem c146_92 : jm_code 146 92 = some (.ireturn, 1) := by decide +kernel
theorem c146_93 : jm_code 146 93 = some (.aload_n 0, 1) := by decide +kernel
theorem c146_94 : jm_code 146 94 = some (.iload 5, 2) := by decide +kernel
theorem c146_96 : jm_code 146 96 = some (.putfield 159, 3) := by decide +kernel
theorem c146_99 : jm_code 146 99 = some (.iconst (-1), 1) := by decide +kernel
theorem c146_100 : jm_code 146 100 = some (.ireturn, 1) := by decide +kernel
theorem c147_0 : jm_code 147 0 = some (.aload_n 0, 1) := by decide +kernel
theorem c147_1 : jm_code 147 1 = some (.iconst 0, 1) := by decide +kernel
theorem c147_2 : jm_code 147 2 = some (.putfield 159, 3) := by decide +kernel
theorem c147_5 : jm_code 147 5 = some (.aload_n 0, 1) := by decide +kernel
theorem c147_6 : jm_code 147 6 = some (.iconst 0, 1) := by decide +kernel
theorem c147_7 : jm_code 147 7 = some (.putfield 191, 3) := by decide +kernel
theorem c147_10 : jm_code 147 10 = some (.aload_n 0, 1) := by decide +kernel
theorem c147_11 : jm_code 147 11 = some (.getfield 34, 3) := by decide +kernel
theorem c147_14 : jm_code 147 14 = some (.iload_n 1, 1) := by decide +kernel
theorem c147_15 : jm_code 147 15 = some (.iaload, 1) := by decide +kernel
theorem c147_16 : jm_code 147 16 = some (.ifCond .le 7, 3) := by decide +kernel
theorem c147_19 : jm_code 147 19 = some (.iconst 1, 1) := by decide +kernel
theorem c147_20 : jm_code 147 20 = some (.goto 4, 3) := by decide +kernel
theorem c147_23 : jm_code 147 23 = some (.iconst 0, 1) := by decide +kernel
theorem c147_24 : jm_code 147 24 = some (.istore_n 2, 1) := by decide +kernel
theorem c147_25 : jm_code 147 25 = some (.iload_n 2, 1) := by decide +kernel
theorem c147_26 : jm_code 147 26 = some (.ifCond .eq 172, 3) := by decide +kernel
theorem c147_29 : jm_code 147 29 = some (.aload_n 0, 1) := by decide +kernel
theorem c147_30 : jm_code 147 30 = some (.iload_n 1, 1) := by decide +kernel
theorem c147_31 : jm_code 147 31 = some (.invokevirtual 162, 3) := by decide +kernel
theorem c147_34 : jm_code 147 34 = some (.istore_n 3, 1) := by decide +kernel
theorem c147_35 : jm_code 147 35 = some (.iload_n 3, 1) := by decide +kernel
theorem c147_36 : jm_code 147 36 = some (.bipush 103, 2) := by decide +kernel
theorem c147_38 : jm_code 147 38 = some (.if_icmp .eq 20, 3) := by decide +kernel
theorem c147_41 : jm_code 147 41 = some (.iload_n 3, 1) := by decide +kernel
theorem c147_42 : jm_code 147 42 = some (.bipush 110, 2) := by decide +kernel
theorem c147_44 : jm_code 147 44 = some (.if_icmp .eq 14, 3) := by decide +kernel
theorem c147_47 : jm_code 147 47 = some (.iload_n 3, 1) := by decide +kernel
theorem c147_48 : jm_code 147 48 = some (.bipush 116, 2) := by decide +kernel
theorem c147_50 : jm_code 147 50 = some (.if_icmp .eq 8, 3) := by decide +kernel
theorem c147_53 : jm_code 147 53 = some (.aload_n 0, 1) := by decide +kernel
theorem c147_54 : jm_code 147 54 = some (.getfield 159, 3) := by decide +kernel
theorem c147_57 : jm_code 147 57 = some (.ireturn, 1) := by decide +kernel
theorem c147_58 : jm_code 147 58 = some (.aload_n 0, 1) := by decide +kernel
theorem c147_59 : jm_code 147 59 = some (.dup, 1) := by decide +kernel
theorem c147_60 : jm_code 147 60 = some (.getfield 159, 3) := by decide +kernel
theorem c147_63 : jm_code 147 63 = some (.iconst 1, 1) := by decide +kernel
theorem c147_64 : jm_code 147 64 = some (.iadd, 1) := by decide +kernel
theorem c147_65 : jm_code 147 65 = some (.putfield 159, 3) := by decide +kernel
theorem c147_68 : jm_code 147 68 = some (.iload_n 3, 1) := by decide +kernel
theorem c147_69 : jm_code 147 69 = some (.bipush 116, 2) := by decide +kernel
theorem c147_71 : jm_code 147 71 = some (.if_icmp .ne 16, 3) := by decide +kernel
theorem c147_74 : jm_code 147 74 = some (.aload_n 0, 1) := by decide +kernel
theorem c147_75 : jm_code 147 75 = some (.iload_n 1, 1) := by decide +kernel
theorem c147_76 : jm_code 147 76 = some (.iconst 3, 1) := by decide +kernel
theorem c147_77 : jm_code 147 77 = some (.iconst 1, 1) := by decide +kernel
theorem c147_78 : jm_code 147 78 = some (.sipush 200, 3) := by decide +kernel
theorem c147_81 : jm_code 147 81 = some (.invokevirtual 180, 3) := by decide +kernel
theorem c147_84 : jm_code 147 84 = some (.goto 12, 3) := by decide +kernel
theorem c147_87 : jm_code 147 87 = some (.aload_n 0, 1) := by decide +kernel
theorem c147_88 : jm_code 147 88 = some (.iload_n 1, 1) := by decide +kernel
theorem c147_89 : jm_code 147 89 = some (.iconst 2, 1) := by decide +kernel
theorem c147_90 : jm_code 147 90 = some (.iconst 1, 1) := by decide +kernel
theorem c147_91 : jm_code 147 91 = some (.bipush 99, 2) := by decide +kernel
theorem c147_93 : jm_code 147 93 = some (.invokevirtual 180, 3) := by decide +kernel
theorem c147_96 : jm_code 147 96 = some (.istore 4, 2) := by decide +kernel
theorem c147_98 : jm_code 147 98 = some (.iload 4, 2) := by decide +kernel
theorem c147_100 : jm_code 147 100 = some (.ifCond .ge 8, 3) := by decide +kernel
theorem c147_103 : jm_code 147 103 = some (.aload_n 0, 1) := by decide +kernel
theorem c147_104 : jm_code 147 104 = some (.getfield 159, 3) := by decide +kernel
theorem c147_107 : jm_code 147 107 = some (.ireturn, 1) := by decide +kernel
theorem c147_108 : jm_code 147 108 = some (.aload_n 0, 1) := by decide +kernel
theorem c147_109 : jm_code 147 109 = some (.getfield 47, 3) := by decide +kernel
theorem c147_112 : jm_code 147 112 = some (.aload_n 0, 1) := by decide +kernel
theorem c147_113 : jm_code 147 113 = some (.getfield 191, 3) := by decide +kernel
theorem c147_116 : jm_code 147 116 = some (.iload_n 3, 1) := by decide +kernel
theorem c147_117 : jm_code 147 117 = some (.iastore, 1) := by decide +kernel
theorem c147_118 : jm_code 147 118 = some (.aload_n 0, 1) := by decide +kernel
theorem c147_119 : jm_code 147 119 = some (.getfield 50, 3) := by decide +kernel
theorem c147_122 : jm_code 147 122 = some (.aload_n 0, 1) := by decide +kernel
theorem c147_123 : jm_code 147 123 = some (.getfield 191, 3) := by decide +kernel
theorem c147_126 : jm_code 147 126 = some (.iload 4, 2) := by decide +kernel
theorem c147_128 : jm_code 147 128 = some (.iastore, 1) := by decide +kernel
theorem c147_129 : jm_code 147 129 = some (.aload_n 0, 1) := by decide +kernel
theorem c147_130 : jm_code 147 130 = some (.dup, 1) := by decide +kernel
theorem c147_131 : jm_code 147 131 = some (.getfield 191, 3) := by decide +kernel
theorem c147_134 : jm_code 147 134 = some (.iconst 1, 1) := by decide +kernel
theorem c147_135 : jm_code 147 135 = some (.iadd, 1) := by decide +kernel
theorem c147_136 : jm_code 147 136 = some (.putfield 191, 3) := by decide +kernel
theorem c147_139 : jm_code 147 139 = some (.aload_n 0, 1) := by decide +kernel
theorem c147_140 : jm_code 147 140 = some (.getfield 159, 3) := by decide +kernel
theorem c147_143 : jm_code 147 143 = some (.aload_n 0, 1) := by decide +kernel
theorem c147_144 : jm_code 147 144 = some (.getfield 34, 3) := by decide +kernel
theorem c147_147 : jm_code 147 147 = some (.iload_n 1, 1) := by decide +kernel
theorem c147_148 : jm_code 147 148 = some (.iaload, 1) := by decide +kernel
theorem c147_149 : jm_code 147 149 = some (.if_icmp .ge 7, 3) := by decide +kernel
theorem c147_152 : jm_code 147 152 = some (.iconst 1, 1) := by decide +kernel
theorem c147_153 : jm_code 147 153 = some (.goto 4, 3) := by decide +kernel
theorem c147_156 : jm_code 147 156 = some (.iconst 0, 1) := by decide +kernel
theorem c147_157 : jm_code 147 157 = some (.istore_n 2, 1) := by decide +kernel
theorem c147_158 : jm_code 147 158 = some (.iload_n 2, 1) := by decide +kernel
theorem c147_159 : jm_code 147 159 = some (.ifCond .eq 18, 3) := by decide +kernel
theorem c147_162 : jm_code 147 162 = some (.aload_n 0, 1) := by decide +kernel
theorem c147_163 : jm_code 147 163 = some (.iload_n 1, 1) := by decide +kernel
theorem c147_164 : jm_code 147 164 = some (.invokevirtual 162, 3) := by decide +kernel
theorem c147_167 : jm_code 147 167 = some (.bipush 124, 2) := by decide +kernel
theorem c147_169 : jm_code 147 169 = some (.if_icmp .eq 8, 3) := by decide +kernel
theorem c147_172 : jm_code 147 172 = some (.aload_n 0, 1) := by decide +kernel
theorem c147_173 : jm_code 147 173 = some (.getfield 159, 3) := by decide +kernel
theorem c147_176 : jm_code 147 176 = some (.ireturn, 1) := by decide +kernel
theorem c147_177 : jm_code 147 177 = some (.aload_n 0, 1) := by decide +kernel
theorem c147_178 : jm_code 147 178 = some (.dup, 1) := by decide +kernel
theorem c147_179 : jm_code 147 179 = some (.getfield 159, 3) := by decide +kernel
theorem c147_182 : jm_code 147 182 = some (.iload_n 2, 1) := by decide +kernel
theorem c147_183 : jm_code 147 183 = some (.ifCond .eq 7, 3) := by decide +kernel
theorem c147_186 : jm_code 147 186 = some (.iconst 1, 1) := by decide +kernel
theorem c147_187 : jm_code 147 187 = some (.goto 4, 3) := by decide +kernel
theorem c147_190 : jm_code 147 190 = some (.iconst 0, 1) := by decide +kernel
theorem c147_191 : jm_code 147 191 = some (.iadd, 1) := by decide +kernel
theorem c147_192 : jm_code 147 192 = some (.putfield 159, 3) := by decide +kernel
theorem c147_195 : jm_code 147 195 = some (.goto (-170), 3) := by decide +kernel
theorem c147_198 : jm_code 147 198 = some (.iconst (-1), 1) := by decide +kernel
theorem c147_199 : jm_code 147 199 = some (.ireturn, 1) := by decide +kernel
theorem c148_0 : jm_code 148 0 = some (.iload_n 1, 1) := by decide +kernel
theorem c148_1 : jm_code 148 1 = some (.i2l, 1) := by decide +kernel
theorem c148_2 : jm_code 148 2 = some (.lconst 0, 1) := by decide +kernel
theorem c148_3 : jm_code 148 3 = some (.ldc2_w 204, 3) := by decide +kernel
theorem c148_6 : jm_code 148 6 = some (.invokestatic 95, 3) := by decide +kernel
theorem c148_9 : jm_code 148 9 = some (.ifCond .eq 15, 3) := by decide +kernel
theorem c148_12 : jm_code 148 12 = some (.iload_n 2, 1) := by decide +kernel
theorem c148_13 : jm_code 148 13 = some (.i2l, 1) := by decide +kernel
theorem c148_14 : jm_code 148 14 = some (.lconst 0, 1) := by decide +kernel
theorem c148_15 : jm_code 148 15 = some (.ldc2_w 109, 3) := by decide +kernel
theorem c148_18 : jm_code 148 18 = some (.invokestatic 95, 3) := by decide +kernel
theorem c148_21 : jm_code 148 21 = some (.ifCond .ne 6, 3) := by decide +kernel
theorem c148_24 : jm_code 148 24 = some (.bipush (-2), 2) := by decide +kernel
theorem c148_26 : jm_code 148 26 = some (.ireturn, 1) := by decide +kernel
theorem c148_27 : jm_code 148 27 = some (.aload_n 0, 1) := by decide +kernel
theorem c148_28 : jm_code 148 28 = some (.invokevirtual 194, 3) := by decide +kernel
theorem c148_31 : jm_code 148 31 = some (.pop, 1) := by decide +kernel
theorem c148_32 : jm_code 148 32 = some (.iload_n 2, 1) := by decide +kernel
theorem c148_33 : jm_code 148 33 = some (.ifCond .ne 12, 3) := by decide +kernel
theorem c148_36 : jm_code 148 36 = some (.aload_n 0, 1) := by decide +kernel
theorem c148_37 : jm_code 148 37 = some (.getfield 37, 3) := by decide +kernel
theorem c148_40 : jm_code 148 40 = some (.iload_n 1, 1) := by decide +kernel
theorem c148_41 : jm_code 148 41 = some (.iaload, 1) := by decide +kernel
theorem c148_42 : jm_code 148 42 = some (.goto 31, 3) := by decide +kernel
theorem c148_45 : jm_code 148 45 = some (.iload_n 2, 1) := by decide +kernel
theorem c148_46 : jm_code 148 46 = some (.iconst 1, 1) := by decide +kernel
theorem c148_47 : jm_code 148 47 = some (.if_icmp .ne 12, 3) := by decide +kernel
theorem c148_50 : jm_code 148 50 = some (.aload_n 0, 1) := by decide +kernel
theorem c148_51 : jm_code 148 51 = some (.getfield 40, 3) := by decide +kernel
theorem c148_54 : jm_code 148 54 = some (.iload_n 1, 1) := by decide +kernel
theorem c148_55 : jm_code 148 55 = some (.iaload, 1) := by decide +kernel
theorem c148_56 : jm_code 148 56 = some (.goto 17, 3) := by decide +kernel
theorem c148_59 : jm_code 148 59 = some (.aload_n 0, 1) := by decide +kernel
theorem c148_60 : jm_code 148 60 = some (.getfield 43, 3) := by decide +kernel
theorem c148_63 : jm_code 148 63 = some (.iload_n 1, 1) := by decide +kernel
theorem c148_64 : jm_code 148 64 = some (.baload, 1) := by decide +kernel
theorem c148_65 : jm_code 148 65 = some (.ifCond .eq 7, 3) := by decide +kernel
theorem c148_68 : jm_code 148 68 = some (.iconst 1, 1) := by decide +kernel
theorem c148_69 : jm_code 148 69 = some (.goto 4, 3) := by decide +kernel
theorem c148_72 : jm_code 148 72 = some (.iconst 0, 1) := by decide +kernel
theorem c148_73 : jm_code 148 73 = some (.ireturn, 1) := by decide +kernel
theorem c149_0 : jm_code 149 0 = some (.aload_n 0, 1) := by decide +kernel
theorem c149_1 : jm_code 149 1 = some (.iload_n 1, 1) := by decide +kernel
theorem c149_2 : jm_code 149 2 = some (.invokevirtual 144, 3) := by decide +kernel
theorem c149_5 : jm_code 149 5 = some (.ifCond .eq 27, 3) := by decide +kernel
theorem c149_8 : jm_code 149 8 = some (.iload_n 2, 1) := by decide +kernel
theorem c149_9 : jm_code 149 9 = some (.i2l, 1) := by decide +kernel
theorem c149_10 : jm_code 149 10 = some (.lconst 0, 1) := by decide +kernel
theorem c149_11 : jm_code 149 11 = some (.ldc2_w 246, 3) := by decide +kernel
theorem c149_14 : jm_code 149 14 = some (.invokestatic 95, 3) := by decide +kernel
theorem c149_17 : jm_code 149 17 = some (.ifCond .eq 15, 3) := by decide +kernel
theorem c149_20 : jm_code 149 20 = some (.iload_n 3, 1) := by decide +kernel
theorem c149_21 : jm_code 149 21 = some (.i2l, 1) := by decide +kernel
theorem c149_22 : jm_code 149 22 = some (.lconst 0, 1) := by decide +kernel
theorem c149_23 : jm_code 149 23 = some (.ldc2_w 150, 3) := by decide +kernel
theorem c149_26 : jm_code 149 26 = some (.invokestatic 95, 3) := by decide +kernel
theorem c149_29 : jm_code 149 29 = some (.ifCond .ne 6, 3) := by decide +kernel
theorem c149_32 : jm_code 149 32 = some (.bipush (-2), 2) := by decide +kernel
theorem c149_34 : jm_code 149 34 = some (.ireturn, 1) := by decide +kernel
theorem c149_35 : jm_code 149 35 = some (.aload_n 0, 1) := by decide +kernel
theorem c149_36 : jm_code 149 36 = some (.invokevirtual 248, 3) := by decide +kernel
theorem c149_39 : jm_code 149 39 = some (.aload_n 0, 1) := by decide +kernel
theorem c149_40 : jm_code 149 40 = some (.iload_n 2, 1) := by decide +kernel
theorem c149_41 : jm_code 149 41 = some (.invokevirtual 251, 3) := by decide +kernel
theorem c149_44 : jm_code 149 44 = some (.aload_n 0, 1) := by decide +kernel
theorem c149_45 : jm_code 149 45 = some (.iload_n 1, 1) := by decide +kernel
theorem c149_46 : jm_code 149 46 = some (.iload_n 3, 1) := by decide +kernel
theorem c149_47 : jm_code 149 47 = some (.invokevirtual 254, 3) := by decide +kernel
theorem c149_50 : jm_code 149 50 = some (.ireturn, 1) := by decide +kernel
theorem c150_0 : jm_code 150 0 = some (.aload_n 0, 1) := by decide +kernel
theorem c150_1 : jm_code 150 1 = some (.aload_n 0, 1) := by decide +kernel
theorem c150_2 : jm_code 150 2 = some (.getfield 28, 3) := by decide +kernel
theorem c150_5 : jm_code 150 5 = some (.iconst 0, 1) := by decide +kernel
theorem c150_6 : jm_code 150 6 = some (.iaload, 1) := by decide +kernel
theorem c150_7 : jm_code 150 7 = some (.putfield 206, 3) := by decide +kernel
theorem c150_10 : jm_code 150 10 = some (.aload_n 0, 1) := by decide +kernel
theorem c150_11 : jm_code 150 11 = some (.aload_n 0, 1) := by decide +kernel
theorem c150_12 : jm_code 150 12 = some (.getfield 28, 3) := by decide +kernel
theorem c150_15 : jm_code 150 15 = some (.iconst 1, 1) := by decide +kernel
theorem c150_16 : jm_code 150 16 = some (.iaload, 1) := by decide +kernel
theorem c150_17 : jm_code 150 17 = some (.putfield 209, 3) := by decide +kernel
theorem c150_20 : jm_code 150 20 = some (.aload_n 0, 1) := by decide +kernel
theorem c150_21 : jm_code 150 21 = some (.iconst (-1), 1) := by decide +kernel
theorem c150_22 : jm_code 150 22 = some (.putfield 212, 3) := by decide +kernel
theorem c150_25 : jm_code 150 25 = some (.aload_n 0, 1) := by decide +kernel
theorem c150_26 : jm_code 150 26 = some (.iconst (-1), 1) := by decide +kernel
theorem c150_27 : jm_code 150 27 = some (.putfield 215, 3) := by decide +kernel
theorem c150_30 : jm_code 150 30 = some (.aload_n 0, 1) := by decide +kernel
theorem c150_31 : jm_code 150 31 = some (.iconst 1, 1) := by decide +kernel
theorem c150_32 : jm_code 150 32 = some (.aload_n 0, 1) := by decide +kernel
theorem c150_33 : jm_code 150 33 = some (.getfield 124, 3) := by decide +kernel
theorem c150_36 : jm_code 150 36 = some (.ishl, 1) := by decide +kernel
theorem c150_37 : jm_code 150 37 = some (.iconst 1, 1) := by decide +kernel
theorem c150_38 : jm_code 150 38 = some (.isub, 1) := by decide +kernel
theorem c150_39 : jm_code 150 39 = some (.putfield 218, 3) := by decide +kernel
theorem c150_42 : jm_code 150 42 = some (.aload_n 0, 1) := by decide +kernel
theorem c150_43 : jm_code 150 43 = some (.invokevirtual 194, 3) := by decide +kernel
theorem c150_46 : jm_code 150 46 = some (.pop, 1) := by decide +kernel
theorem c150_47 : jm_code 150 47 = some (.return_, 1) := by decide +kernel
theorem c151_0 : jm_code 151 0 = some (.aload_n 0, 1) := by decide +kernel
theorem c151_1 : jm_code 151 1 = some (.invokevirtual 240, 3) := by decide +kernel
theorem c151_4 : jm_code 151 4 = some (.iconst 0, 1) := by decide +kernel
theorem c151_5 : jm_code 151 5 = some (.istore_n 2, 1) := by decide +kernel
theorem c151_6 : jm_code 151 6 = some (.iload_n 2, 1) := by decide +kernel
theorem c151_7 : jm_code 151 7 = some (.iload_n 1, 1) := by decide +kernel
theorem c151_8 : jm_code 151 8 = some (.if_icmp .ge 14, 3) := by decide +kernel
theorem c151_11 : jm_code 151 11 = some (.aload_n 0, 1) := by decide +kernel
theorem c151_12 : jm_code 151 12 = some (.iload_n 2, 1) := by decide +kernel
theorem c151_13 : jm_code 151 13 = some (.invokevirtual 243, 3) := by decide +kernel
theorem c151_16 : jm_code 151 16 = some (.iinc 2 1, 3) := by decide +kernel
theorem c151_19 : jm_code 151 19 = some (.goto (-13), 3) := by decide +kernel
theorem c151_22 : jm_code 151 22 = some (.return_, 1) := by decide +kernel
theorem c152_0 : jm_code 152 0 = some (.iconst 0, 1) := by decide +kernel
theorem c152_1 : jm_code 152 1 = some (.istore_n 1, 1) := by decide +kernel
theorem c152_2 : jm_code 152 2 = some (.iload_n 1, 1) := by decide +kernel
theorem c152_3 : jm_code 152 3 = some (.iconst 4, 1) := by decide +kernel
theorem c152_4 : jm_code 152 4 = some (.if_icmp .ge 16, 3) := by decide +kernel
theorem c152_7 : jm_code 152 7 = some (.aload_n 0, 1) := by decide +kernel
theorem c152_8 : jm_code 152 8 = some (.getfield 74, 3) := by decide +kernel
theorem c152_11 : jm_code 152 11 = some (.iload_n 1, 1) := by decide +kernel
theorem c152_12 : jm_code 152 12 = some (.iconst 0, 1) := by decide +kernel
theorem c152_13 : jm_code 152 13 = some (.iastore, 1) := by decide +kernel
theorem c152_14 : jm_code 152 14 = some (.iinc 1 1, 3) := by decide +kernel
theorem c152_17 : jm_code 152 17 = some (.goto (-15), 3) := by decide +kernel
theorem c152_20 : jm_code 152 20 = some (.iconst 0, 1) := by decide +kernel
theorem c152_21 : jm_code 152 21 = some (.istore_n 1, 1) := by decide +kernel
theorem c152_22 : jm_code 152 22 = some (.iload_n 1, 1) := by decide +kernel
theorem c152_23 : jm_code 152 23 = some (.aload_n 0, 1) := by decide +kernel
theorem c152_24 : jm_code 152 24 = some (.getfield 124, 3) := by decide +kernel
theorem c152_27 : jm_code 152 27 = some (.if_icmp .ge 100, 3) := by decide +kernel
theorem c152_30 : jm_code 152 30 = some (.aload_n 0, 1) := by decide +kernel
theorem c152_31 : jm_code 152 31 = some (.getfield 53, 3) := by decide +kernel
theorem c152_34 : jm_code 152 34 = some (.iload_n 1, 1) := by decide +kernel
theorem c152_35 : jm_code 152 35 = some (.iconst 0, 1) := by decide +kernel
theorem c152_36 : jm_code 152 36 = some (.iastore, 1) := by decide +kernel
theorem c152_37 : jm_code 152 37 = some (.aload_n 0, 1) := by decide +kernel
theorem c152_38 : jm_code 152 38 = some (.getfield 56, 3) := by decide +kernel
theorem c152_41 : jm_code 152 41 = some (.iload_n 1, 1) := by decide +kernel
theorem c152_42 : jm_code 152 42 = some (.aload_n 0, 1) := by decide +kernel
theorem c152_43 : jm_code 152 43 = some (.getfield 25, 3) := by decide +kernel
theorem c152_46 : jm_code 152 46 = some (.iconst 4, 1) := by decide +kernel
theorem c152_47 : jm_code 152 47 = some (.iload_n 1, 1) := by decide +kernel
theorem c152_48 : jm_code 152 48 = some (.imul, 1) := by decide +kernel
theorem c152_49 : jm_code 152 49 = some (.iaload, 1) := by decide +kernel
theorem c152_50 : jm_code 152 50 = some (.iastore, 1) := by decide +kernel
theorem c152_51 : jm_code 152 51 = some (.aload_n 0, 1) := by decide +kernel
theorem c152_52 : jm_code 152 52 = some (.getfield 59, 3) := by decide +kernel
theorem c152_55 : jm_code 152 55 = some (.iload_n 1, 1) := by decide +kernel
theorem c152_56 : jm_code 152 56 = some (.iconst 0, 1) := by decide +kernel
theorem c152_57 : jm_code 152 57 = some (.iastore, 1) := by decide +kernel
theorem c152_58 : jm_code 152 58 = some (.aload_n 0, 1) := by decide +kernel
theorem c152_59 : jm_code 152 59 = some (.getfield 62, 3) := by decide +kernel
theorem c152_62 : jm_code 152 62 = some (.iload_n 1, 1) := by decide +kernel
theorem c152_63 : jm_code 152 63 = some (.iconst 0, 1) := by decide +kernel
theorem c152_64 : jm_code 152 64 = some (.iastore, 1) := by decide +kernel
theorem c152_65 : jm_code 152 65 = some (.aload_n 0, 1) := by decide +kernel
theorem c152_66 : jm_code 152 66 = some (.getfield 65, 3) := by decide +kernel
theorem c152_69 : jm_code 152 69 = some (.iload_n 1, 1) := by decide +kernel
theorem c152_70 : jm_code 152 70 = some (.iconst (-1), 1) := by decide +kernel
theorem c152_71 : jm_code 152 71 = some (.iastore, 1) := by decide +kernel
theorem c152_72 : jm_code 152 72 = some (.aload_n 0, 1) := by decide +kernel
theorem c152_73 : jm_code 152 73 = some (.getfield 68, 3) := by decide +kernel
theorem c152_76 : jm_code 152 76 = some (.iload_n 1, 1) := by decide +kernel
theorem c152_77 : jm_code 152 77 = some (.iconst 0, 1) := by decide +kernel
theorem c152_78 : jm_code 152 78 = some (.iastore, 1) := by decide +kernel
theorem c152_79 : jm_code 152 79 = some (.aload_n 0, 1) := by decide +kernel
theorem c152_80 : jm_code 152 80 = some (.iload_n 1, 1) := by decide +kernel
theorem c152_81 : jm_code 152 81 = some (.invokevirtual 221, 3) := by decide +kernel
theorem c152_84 : jm_code 152 84 = some (.ifCond .eq 37, 3) := by decide +kernel
theorem c152_87 : jm_code 152 87 = some (.aload_n 0, 1) := by decide +kernel
theorem c152_88 : jm_code 152 88 = some (.getfield 22, 3) := by decide +kernel
theorem c152_91 : jm_code 152 91 = some (.iload_n 1, 1) := by decide +kernel
theorem c152_92 : jm_code 152 92 = some (.iaload, 1) := by decide +kernel
theorem c152_93 : jm_code 152 93 = some (.istore_n 2, 1) := by decide +kernel
theorem c152_94 : jm_code 152 94 = some (.aload_n 0, 1) := by decide +kernel
theorem c152_95 : jm_code 152 95 = some (.getfield 71, 3) := by decide +kernel
theorem c152_98 : jm_code 152 98 = some (.bipush 12, 2) := by decide +kernel
theorem c152_100 : jm_code 152 100 = some (.iload_n 2, 1) := by decide +kernel
theorem c152_101 : jm_code 152 101 = some (.imul, 1) := by decide +kernel
theorem c152_102 : jm_code 152 102 = some (.aload_n 0, 1) := by decide +kernel
theorem c152_103 : jm_code 152 103 = some (.getfield 74, 3) := by decide +kernel
theorem c152_106 : jm_code 152 106 = some (.iload_n 2, 1) := by decide +kernel
theorem c152_107 : jm_code 152 107 = some (.iaload, 1) := by decide +kernel
theorem c152_108 : jm_code 152 108 = some (.iadd, 1) := by decide +kernel
theorem c152_109 : jm_code 152 109 = some (.iload_n 1, 1) := by decide +kernel
theorem c152_110 : jm_code 152 110 = some (.iastore, 1) := by decide +kernel
theorem c152_111 : jm_code 152 111 = some (.aload_n 0, 1) := by decide +kernel
theorem c152_112 : jm_code 152 112 = some (.getfield 74, 3) := by decide +kernel
theorem c152_115 : jm_code 152 115 = some (.iload_n 2, 1) := by decide +kernel
theorem c152_116 : jm_code 152 116 = some (.dup2, 1) := by decide +kernel
theorem c152_117 : jm_code 152 117 = some (.iaload, 1) := by decide +kernel
theorem c152_118 : jm_code 152 118 = some (.iconst 1, 1) := by decide +kernel
theorem c152_119 : jm_code 152 119 = some (.iadd, 1) := by decide +kernel
theorem c152_120 : jm_code 152 120 = some (.iastore, 1) := by decide +kernel
theorem c152_121 : jm_code 152 121 = some (.iinc 1 1, 3) := by decide +kernel
theorem c152_124 : jm_code 152 124 = some (.goto (-102), 3) := by decide +kernel
theorem c152_127 : jm_code 152 127 = some (.return_, 1) := by decide +kernel
theorem c153_0 : jm_code 153 0 = some (.aload_n 0, 1) := by decide +kernel
theorem c153_1 : jm_code 153 1 = some (.getfield 218, 3) := by decide +kernel
theorem c153_4 : jm_code 153 4 = some (.iload_n 1, 1) := by decide +kernel
theorem c153_5 : jm_code 153 5 = some (.ishr, 1) := by decide +kernel
theorem c153_6 : jm_code 153 6 = some (.iconst 1, 1) := by decide +kernel
theorem c153_7 : jm_code 153 7 = some (.iand, 1) := by decide +kernel
theorem c153_8 : jm_code 153 8 = some (.iconst 1, 1) := by decide +kernel
theorem c153_9 : jm_code 153 9 = some (.if_icmp .ne 7, 3) := by decide +kernel
theorem c153_12 : jm_code 153 12 = some (.iconst 1, 1) := by decide +kernel
theorem c153_13 : jm_code 153 13 = some (.goto 4, 3) := by decide +kernel
theorem c153_16 : jm_code 153 16 = some (.iconst 0, 1) := by decide +kernel
theorem c153_17 : jm_code 153 17 = some (.ireturn, 1) := by decide +kernel
theorem c154_0 : jm_code 154 0 = some (.aload_n 0, 1) := by decide +kernel
theorem c154_1 : jm_code 154 1 = some (.getfield 212, 3) := by decide +kernel
theorem c154_4 : jm_code 154 4 = some (.iconst (-1), 1) := by decide +kernel
theorem c154_5 : jm_code 154 5 = some (.if_icmp .ne 12, 3) := by decide +kernel
theorem c154_8 : jm_code 154 8 = some (.aload_n 0, 1) := by decide +kernel
theorem c154_9 : jm_code 154 9 = some (.getfield 40, 3) := by decide +kernel
theorem c154_12 : jm_code 154 12 = some (.iload_n 1, 1) := by decide +kernel
theorem c154_13 : jm_code 154 13 = some (.iaload, 1) := by decide +kernel
theorem c154_14 : jm_code 154 14 = some (.goto 4, 3) := by decide +kernel
theorem c154_17 : jm_code 154 17 = some (.iconst 0, 1) := by decide +kernel
theorem c154_18 : jm_code 154 18 = some (.aload_n 0, 1) := by decide +kernel
theorem c154_19 : jm_code 154 19 = some (.getfield 215, 3) := by decide +kernel
theorem c154_22 : jm_code 154 22 = some (.iload_n 1, 1) := by decide +kernel
theorem c154_23 : jm_code 154 23 = some (.if_icmp .ne 7, 3) := by decide +kernel
theorem c154_26 : jm_code 154 26 = some (.iconst 1, 1) := by decide +kernel
theorem c154_27 : jm_code 154 27 = some (.goto 4, 3) := by decide +kernel
theorem c154_30 : jm_code 154 30 = some (.iconst 0, 1) := by decide +kernel
theorem c154_31 : jm_code 154 31 = some (.iadd, 1) := by decide +kernel
theorem c154_32 : jm_code 154 32 = some (.istore_n 2, 1) := by decide +kernel
theorem c154_33 : jm_code 154 33 = some (.iconst 0, 1) := by decide +kernel
theorem c154_34 : jm_code 154 34 = some (.istore_n 3, 1) := by decide +kernel
theorem c154_35 : jm_code 154 35 = some (.iload_n 3, 1) := by decide +kernel
theorem c154_36 : jm_code 154 36 = some (.iload_n 2, 1) := by decide +kernel
theorem c154_37 : jm_code 154 37 = some (.if_icmp .ge 13, 3) := by decide +kernel
theorem c154_40 : jm_code 154 40 = some (.aload_n 0, 1) := by decide +kernel
theorem c154_41 : jm_code 154 41 = some (.invokevirtual 227, 3) := by decide +kernel
theorem c154_44 : jm_code 154 44 = some (.iinc 3 1, 3) := by decide +kernel
theorem c154_47 : jm_code 154 47 = some (.goto (-12), 3) := by decide +kernel
theorem c154_50 : jm_code 154 50 = some (.aload_n 0, 1) := by decide +kernel
theorem c154_51 : jm_code 154 51 = some (.aload_n 0, 1) := by decide +kernel
theorem c154_52 : jm_code 154 52 = some (.getfield 212, 3) := by decide +kernel
theorem c154_55 : jm_code 154 55 = some (.iconst (-1), 1) := by decide +kernel
theorem c154_56 : jm_code 154 56 = some (.if_icmp .ne 12, 3) := by decide +kernel
theorem c154_59 : jm_code 154 59 = some (.aload_n 0, 1) := by decide +kernel
theorem c154_60 : jm_code 154 60 = some (.getfield 37, 3) := by decide +kernel
theorem c154_63 : jm_code 154 63 = some (.iload_n 1, 1) := by decide +kernel
theorem c154_64 : jm_code 154 64 = some (.iaload, 1) := by decide +kernel
theorem c154_65 : jm_code 154 65 = some (.goto 7, 3) := by decide +kernel
theorem c154_68 : jm_code 154 68 = some (.aload_n 0, 1) := by decide +kernel
theorem c154_69 : jm_code 154 69 = some (.getfield 212, 3) := by decide +kernel
theorem c154_72 : jm_code 154 72 = some (.aload_n 0, 1) := by decide +kernel
theorem c154_73 : jm_code 154 73 = some (.getfield 212, 3) := by decide +kernel
theorem c154_76 : jm_code 154 76 = some (.iconst (-1), 1) := by decide +kernel
theorem c154_77 : jm_code 154 77 = some (.if_icmp .ne 16, 3) := by decide +kernel
theorem c154_80 : jm_code 154 80 = some (.aload_n 0, 1) := by decide +kernel
theorem c154_81 : jm_code 154 81 = some (.getfield 43, 3) := by decide +kernel
theorem c154_84 : jm_code 154 84 = some (.iload_n 1, 1) := by decide +kernel
theorem c154_85 : jm_code 154 85 = some (.baload, 1) := by decide +kernel
theorem c154_86 : jm_code 154 86 = some (.ifCond .eq 7, 3) := by decide +kernel
theorem c154_89 : jm_code 154 89 = some (.iconst 1, 1) := by decide +kernel
theorem c154_90 : jm_code 154 90 = some (.goto 4, 3) := by decide +kernel
theorem c154_93 : jm_code 154 93 = some (.iconst 0, 1) := by decide +kernel
theorem c154_94 : jm_code 154 94 = some (.invokevirtual 230, 3) := by decide +kernel
theorem c154_97 : jm_code 154 97 = some (.iconst 0, 1) := by decide +kernel
theorem c154_98 : jm_code 154 98 = some (.istore_n 3, 1) := by decide +kernel
theorem c154_99 : jm_code 154 99 = some (.iconst 0, 1) := by decide +kernel
theorem c154_100 : jm_code 154 100 = some (.istore 4, 2) := by decide +kernel
theorem c154_102 : jm_code 154 102 = some (.iload 4, 2) := by decide +kernel
theorem c154_104 : jm_code 154 104 = some (.aload_n 0, 1) := by decide +kernel
theorem c154_105 : jm_code 154 105 = some (.getfield 124, 3) := by decide +kernel
theorem c154_108 : jm_code 154 108 = some (.if_icmp .ge 41, 3) := by decide +kernel
theorem c154_111 : jm_code 154 111 = some (.aload_n 0, 1) := by decide +kernel
theorem c154_112 : jm_code 154 112 = some (.iload 4, 2) := by decide +kernel
theorem c154_114 : jm_code 154 114 = some (.invokevirtual 221, 3) := by decide +kernel
theorem c154_117 : jm_code 154 117 = some (.ifCond .eq 26, 3) := by decide +kernel
theorem c154_120 : jm_code 154 120 = some (.aload_n 0, 1) := by decide +kernel
theorem c154_121 : jm_code 154 121 = some (.getfield 62, 3) := by decide +kernel
theorem c154_124 : jm_code 154 124 = some (.iload 4, 2) := by decide +kernel
theorem c154_126 : jm_code 154 126 = some (.iaload, 1) := by decide +kernel
theorem c154_127 : jm_code 154 127 = some (.ifCond .ne 16, 3) := by decide +kernel
theorem c154_130 : jm_code 154 130 = some (.aload_n 0, 1) := by decide +kernel
theorem c154_131 : jm_code 154 131 = some (.iload 4, 2) := by decide +kernel
theorem c154_133 : jm_code 154 133 = some (.iload_n 1, 1) := by decide +kernel
theorem c154_134 : jm_code 154 134 = some (.invokevirtual 234, 3) := by decide +kernel
theorem c154_137 : jm_code 154 137 = some (.ifCond .eq 6, 3) := by decide +kernel
theorem c154_140 : jm_code 154 140 = some (.iinc 3 1, 3) := by decide +kernel
theorem c154_143 : jm_code 154 143 = some (.iinc 4 1, 3) := by decide +kernel
theorem c154_146 : jm_code 154 146 = some (.goto (-44), 3) := by decide +kernel
theorem c154_149 : jm_code 154 149 = some (.aload_n 0, 1) := by decide +kernel
theorem c154_150 : jm_code 154 150 = some (.getfield 77, 3) := by decide +kernel
theorem c154_153 : jm_code 154 153 = some (.iload_n 1, 1) := by decide +kernel
theorem c154_154 : jm_code 154 154 = some (.iload_n 3, 1) := by decide +kernel
theorem c154_155 : jm_code 154 155 = some (.iastore, 1) := by decide +kernel
theorem c154_156 : jm_code 154 156 = some (.aload_n 0, 1) := by decide +kernel
theorem c154_157 : jm_code 154 157 = some (.invokevirtual 237, 3) := by decide +kernel
theorem c154_160 : jm_code 154 160 = some (.return_, 1) := by decide +kernel
theorem c155_0 : jm_code 155 0 = some (.iconst 0, 1) := by decide +kernel
theorem c155_1 : jm_code 155 1 = some (.istore_n 1, 1) := by decide +kernel
theorem c155_2 : jm_code 155 2 = some (.iload_n 1, 1) := by decide +kernel
theorem c155_3 : jm_code 155 3 = some (.iconst 4, 1) := by decide +kernel
theorem c155_4 : jm_code 155 4 = some (.if_icmp .ge 89, 3) := by decide +kernel
theorem c155_7 : jm_code 155 7 = some (.aload_n 0, 1) := by decide +kernel
theorem c155_8 : jm_code 155 8 = some (.getfield 74, 3) := by decide +kernel
theorem c155_11 : jm_code 155 11 = some (.iload_n 1, 1) := by decide +kernel
theorem c155_12 : jm_code 155 12 = some (.iaload, 1) := by decide +kernel
theorem c155_13 : jm_code 155 13 = some (.ifCond .le 74, 3) := by decide +kernel
theorem c155_16 : jm_code 155 16 = some (.aload_n 0, 1) := by decide +kernel
theorem c155_17 : jm_code 155 17 = some (.getfield 71, 3) := by decide +kernel
theorem c155_20 : jm_code 155 20 = some (.bipush 12, 2) := by decide +kernel
theorem c155_22 : jm_code 155 22 = some (.iload_n 1, 1) := by decide +kernel
theorem c155_23 : jm_code 155 23 = some (.imul, 1) := by decide +kernel
theorem c155_24 : jm_code 155 24 = some (.iaload, 1) := by decide +kernel
theorem c155_25 : jm_code 155 25 = some (.istore_n 2, 1) := by decide +kernel
theorem c155_26 : jm_code 155 26 = some (.iconst 1, 1) := by decide +kernel
theorem c155_27 : jm_code 155 27 = some (.istore_n 3, 1) := by decide +kernel
theorem c155_28 : jm_code 155 28 = some (.iload_n 3, 1) := by decide +kernel
theorem c155_29 : jm_code 155 29 = some (.aload_n 0, 1) := by decide +kernel
theorem c155_30 : jm_code 155 30 = some (.getfield 74, 3) := by decide +kernel
theorem c155_33 : jm_code 155 33 = some (.iload_n 1, 1) := by decide +kernel
theorem c155_34 : jm_code 155 34 = some (.iaload, 1) := by decide +kernel
theorem c155_35 : jm_code 155 35 = some (.if_icmp .ge 33, 3) := by decide +kernel
theorem c155_38 : jm_code 155 38 = some (.aload_n 0, 1) := by decide +kernel
theorem c155_39 : jm_code 155 39 = some (.getfield 71, 3) := by decide +kernel
theorem c155_42 : jm_code 155 42 = some (.bipush 12, 2) := by decide +kernel
theorem c155_44 : jm_code 155 44 = some (.iload_n 1, 1) := by decide +kernel
theorem c155_45 : jm_code 155 45 = some (.imul, 1) := by decide +kernel
theorem c155_46 : jm_code 155 46 = some (.iload_n 3, 1) := by decide +kernel
theorem c155_47 : jm_code 155 47 = some (.iadd, 1) := by decide +kernel
theorem c155_48 : jm_code 155 48 = some (.iconst 1, 1) := by decide +kernel
theorem c155_49 : jm_code 155 49 = some (.isub, 1) := by decide +kernel
theorem c155_50 : jm_code 155 50 = some (.aload_n 0, 1) := by decide +kernel
theorem c155_51 : jm_code 155 51 = some (.getfield 71, 3) := by decide +kernel
theorem c155_54 : jm_code 155 54 = some (.bipush 12, 2) := by decide +kernel
theorem c155_56 : jm_code 155 56 = some (.iload_n 1, 1) := by decide +kernel
theorem c155_57 : jm_code 155 57 = some (.imul, 1) := by decide +kernel
theorem c155_58 : jm_code 155 58 = some (.iload_n 3, 1) := by decide +kernel
theorem c155_59 : jm_code 155 59 = some (.iadd, 1) := by decide +kernel
theorem c155_60 : jm_code 155 60 = some (.iaload, 1) := by decide +kernel
theorem c155_61 : jm_code 155 61 = some (.iastore, 1) := by decide +kernel
theorem c155_62 : jm_code 155 62 = some (.iinc 3 1, 3) := by decide +kernel
theorem c155_65 : jm_code 155 65 = some (.goto (-37), 3) := by decide +kernel
theorem c155_68 : jm_code 155 68 = some (.aload_n 0, 1) := by decide +kernel
theorem c155_69 : jm_code 155 69 = some (.getfield 71, 3) := by decide +kernel
theorem c155_72 : jm_code 155 72 = some (.bipush 12, 2) := by decide +kernel
theorem c155_74 : jm_code 155 74 = some (.iload_n 1, 1) := by decide +kernel
theorem c155_75 : jm_code 155 75 = some (.imul, 1) := by decide +kernel
theorem c155_76 : jm_code 155 76 = some (.aload_n 0, 1) := by decide +kernel
theorem c155_77 : jm_code 155 77 = some (.getfield 74, 3) := by decide +kernel
theorem c155_80 : jm_code 155 80 = some (.iload_n 1, 1) := by decide +kernel
theorem c155_81 : jm_code 155 81 = some (.iaload, 1) := by decide +kernel
theorem c155_82 : jm_code 155 82 = some (.iadd, 1) := by decide +kernel
theorem c155_83 : jm_code 155 83 = some (.iconst 1, 1) := by decide +kernel
theorem c155_84 : jm_code 155 84 = some (.isub, 1) := by decide +kernel
theorem c155_85 : jm_code 155 85 = some (.iload_n 2, 1) := by decide +kernel
theorem c155_86 : jm_code 155 86 = some (.iastore, 1) := by decide +kernel
theorem c155_87 : jm_code 155 87 = some (.iinc 1 1, 3) := by decide +kernel
theorem c155_90 : jm_code 155 90 = some (.goto (-88), 3) := by decide +kernel
theorem c155_93 : jm_code 155 93 = some (.return_, 1) := by decide +kernel
theorem c156_0 : jm_code 156 0 = some (.iconst 0, 1) := by decide +kernel
theorem c156_1 : jm_code 156 1 = some (.istore_n 3, 1) := by decide +kernel
theorem c156_2 : jm_code 156 2 = some (.iload_n 3, 1) := by decide +kernel
theorem c156_3 : jm_code 156 3 = some (.iconst 4, 1) := by decide +kernel
theorem c156_4 : jm_code 156 4 = some (.if_icmp .ge 93, 3) := by decide +kernel
theorem c156_7 : jm_code 156 7 = some (.iload_n 1, 1) := by decide +kernel
theorem c156_8 : jm_code 156 8 = some (.istore 4, 2) := by decide +kernel
theorem c156_10 : jm_code 156 10 = some (.iconst 0, 1) := by decide +kernel
theorem c156_11 : jm_code 156 11 = some (.istore 5, 2) := by decide +kernel
theorem c156_13 : jm_code 156 13 = some (.iload 5, 2) := by decide +kernel
theorem c156_15 : jm_code 156 15 = some (.aload_n 0, 1) := by decide +kernel
theorem c156_16 : jm_code 156 16 = some (.getfield 74, 3) := by decide +kernel
theorem c156_19 : jm_code 156 19 = some (.iload_n 3, 1) := by decide +kernel
theorem c156_20 : jm_code 156 20 = some (.iaload, 1) := by decide +kernel
theorem c156_21 : jm_code 156 21 = some (.if_icmp .ge 70, 3) := by decide +kernel
theorem c156_24 : jm_code 156 24 = some (.aload_n 0, 1) := by decide +kernel
theorem c156_25 : jm_code 156 25 = some (.getfield 71, 3) := by decide +kernel
theorem c156_28 : jm_code 156 28 = some (.bipush 12, 2) := by decide +kernel
theorem c156_30 : jm_code 156 30 = some (.iload_n 3, 1) := by decide +kernel
theorem c156_31 : jm_code 156 31 = some (.imul, 1) := by decide +kernel
theorem c156_32 : jm_code 156 32 = some (.iload 5, 2) := by decide +kernel
theorem c156_34 : jm_code 156 34 = some (.iadd, 1) := by decide +kernel
theorem c156_35 : jm_code 156 35 = some (.iaload, 1) := by decide +kernel
theorem c156_36 : jm_code 156 36 = some (.istore 6, 2) := by decide +kernel
theorem c156_38 : jm_code 156 38 = some (.aload_n 0, 1) := by decide +kernel
theorem c156_39 : jm_code 156 39 = some (.getfield 53, 3) := by decide +kernel
theorem c156_42 : jm_code 156 42 = some (.iload 6, 2) := by decide +kernel
theorem c156_44 : jm_code 156 44 = some (.dup2, 1) := by decide +kernel
theorem c156_45 : jm_code 156 45 = some (.iaload, 1) := by decide +kernel
theorem c156_46 : jm_code 156 46 = some (.iload 4, 2) := by decide +kernel
theorem c156_48 : jm_code 156 48 = some (.iadd, 1) := by decide +kernel
theorem c156_49 : jm_code 156 49 = some (.iastore, 1) := by decide +kernel
theorem c156_50 : jm_code 156 50 = some (.aload_n 0, 1) := by decide +kernel
theorem c156_51 : jm_code 156 51 = some (.getfield 53, 3) := by decide +kernel
theorem c156_54 : jm_code 156 54 = some (.iload 6, 2) := by decide +kernel
theorem c156_56 : jm_code 156 56 = some (.dup2, 1) := by decide +kernel
theorem c156_57 : jm_code 156 57 = some (.iaload, 1) := by decide +kernel
theorem c156_58 : jm_code 156 58 = some (.aload_n 0, 1) := by decide +kernel
theorem c156_59 : jm_code 156 59 = some (.getfield 53, 3) := by decide +kernel
theorem c156_62 : jm_code 156 62 = some (.iload 6, 2) := by decide +kernel
theorem c156_64 : jm_code 156 64 = some (.iaload, 1) := by decide +kernel
theorem c156_65 : jm_code 156 65 = some (.iload_n 2, 1) := by decide +kernel
theorem c156_66 : jm_code 156 66 = some (.ifCond .eq 8, 3) := by decide +kernel
theorem c156_69 : jm_code 156 69 = some (.bipush 64, 2) := by decide +kernel
theorem c156_71 : jm_code 156 71 = some (.goto 5, 3) := by decide +kernel
theorem c156_74 : jm_code 156 74 = some (.bipush 32, 2) := by decide +kernel
theorem c156_76 : jm_code 156 76 = some (.idiv, 1) := by decide +kernel
theorem c156_77 : jm_code 156 77 = some (.isub, 1) := by decide +kernel
theorem c156_78 : jm_code 156 78 = some (.iastore, 1) := by decide +kernel
theorem c156_79 : jm_code 156 79 = some (.iload 4, 2) := by decide +kernel
theorem c156_81 : jm_code 156 81 = some (.iconst 2, 1) := by decide +kernel
theorem c156_82 : jm_code 156 82 = some (.idiv, 1) := by decide +kernel
theorem c156_83 : jm_code 156 83 = some (.istore 4, 2) := by decide +kernel
theorem c156_85 : jm_code 156 85 = some (.iinc 5 1, 3) := by decide +kernel
theorem c156_88 : jm_code 156 88 = some (.goto (-75), 3) := by decide +kernel
theorem c156_91 : jm_code 156 91 = some (.iinc 3 1, 3) := by decide +kernel
theorem c156_94 : jm_code 156 94 = some (.goto (-92), 3) := by decide +kernel
theorem c156_97 : jm_code 156 97 = some (.return_, 1) := by decide +kernel
theorem c157_0 : jm_code 157 0 = some (.aload_n 0, 1) := by decide +kernel
theorem c157_1 : jm_code 157 1 = some (.getfield 59, 3) := by decide +kernel
theorem c157_4 : jm_code 157 4 = some (.iload_n 1, 1) := by decide +kernel
theorem c157_5 : jm_code 157 5 = some (.aload_n 0, 1) := by decide +kernel
theorem c157_6 : jm_code 157 6 = some (.getfield 53, 3) := by decide +kernel
theorem c157_9 : jm_code 157 9 = some (.iload_n 1, 1) := by decide +kernel
theorem c157_10 : jm_code 157 10 = some (.iaload, 1) := by decide +kernel
theorem c157_11 : jm_code 157 11 = some (.bipush 100, 2) := by decide +kernel
theorem c157_13 : jm_code 157 13 = some (.if_icmp .gt 7, 3) := by decide +kernel
theorem c157_16 : jm_code 157 16 = some (.iconst 0, 1) := by decide +kernel
theorem c157_17 : jm_code 157 17 = some (.goto 22, 3) := by decide +kernel
theorem c157_20 : jm_code 157 20 = some (.aload_n 0, 1) := by decide +kernel
theorem c157_21 : jm_code 157 21 = some (.getfield 53, 3) := by decide +kernel
theorem c157_24 : jm_code 157 24 = some (.iload_n 1, 1) := by decide +kernel
theorem c157_25 : jm_code 157 25 = some (.iaload, 1) := by decide +kernel
theorem c157_26 : jm_code 157 26 = some (.bipush 100, 2) := by decide +kernel
theorem c157_28 : jm_code 157 28 = some (.isub, 1) := by decide +kernel
theorem c157_29 : jm_code 157 29 = some (.aload_n 0, 1) := by decide +kernel
theorem c157_30 : jm_code 157 30 = some (.getfield 56, 3) := by decide +kernel
theorem c157_33 : jm_code 157 33 = some (.iload_n 1, 1) := by decide +kernel
theorem c157_34 : jm_code 157 34 = some (.iaload, 1) := by decide +kernel
theorem c157_35 : jm_code 157 35 = some (.imul, 1) := by decide +kernel
theorem c157_36 : jm_code 157 36 = some (.bipush 40, 2) := by decide +kernel
theorem c157_38 : jm_code 157 38 = some (.idiv, 1) := by decide +kernel
theorem c157_39 : jm_code 157 39 = some (.iastore, 1) := by decide +kernel
theorem c157_40 : jm_code 157 40 = some (.aload_n 0, 1) := by decide +kernel
theorem c157_41 : jm_code 157 41 = some (.getfield 59, 3) := by decide +kernel
theorem c157_44 : jm_code 157 44 = some (.iload_n 1, 1) := by decide +kernel
theorem c157_45 : jm_code 157 45 = some (.iaload, 1) := by decide +kernel
theorem c157_46 : jm_code 157 46 = some (.aload_n 0, 1) := by decide +kernel
theorem c157_47 : jm_code 157 47 = some (.getfield 206, 3) := by decide +kernel
theorem c157_50 : jm_code 157 50 = some (.isub, 1) := by decide +kernel
theorem c157_51 : jm_code 157 51 = some (.istore_n 3, 1) := by decide +kernel
theorem c157_52 : jm_code 157 52 = some (.iload_n 3, 1) := by decide +kernel
theorem c157_53 : jm_code 157 53 = some (.aload_n 0, 1) := by decide +kernel
theorem c157_54 : jm_code 157 54 = some (.getfield 209, 3) := by decide +kernel
theorem c157_57 : jm_code 157 57 = some (.aload_n 0, 1) := by decide +kernel
theorem c157_58 : jm_code 157 58 = some (.iload_n 1, 1) := by decide +kernel
theorem c157_59 : jm_code 157 59 = some (.invokevirtual 224, 3) := by decide +kernel
theorem c157_62 : jm_code 157 62 = some (.imul, 1) := by decide +kernel
theorem c157_63 : jm_code 157 63 = some (.if_icmp .lt 40, 3) := by decide +kernel
theorem c157_66 : jm_code 157 66 = some (.aload_n 0, 1) := by decide +kernel
theorem c157_67 : jm_code 157 67 = some (.getfield 62, 3) := by decide +kernel
theorem c157_70 : jm_code 157 70 = some (.iload_n 1, 1) := by decide +kernel
theorem c157_71 : jm_code 157 71 = some (.iconst 1, 1) := by decide +kernel
theorem c157_72 : jm_code 157 72 = some (.iastore, 1) := by decide +kernel
theorem c157_73 : jm_code 157 73 = some (.aload_n 0, 1) := by decide +kernel
theorem c157_74 : jm_code 157 74 = some (.getfield 65, 3) := by decide +kernel
theorem c157_77 : jm_code 157 77 = some (.iload_n 1, 1) := by decide +kernel
theorem c157_78 : jm_code 157 78 = some (.iload_n 2, 1) := by decide +kernel
theorem c157_79 : jm_code 157 79 = some (.iastore, 1) := by decide +kernel
theorem c157_80 : jm_code 157 80 = some (.aload_n 0, 1) := by decide +kernel
theorem c157_81 : jm_code 157 81 = some (.getfield 68, 3) := by decide +kernel
theorem c157_84 : jm_code 157 84 = some (.iload_n 1, 1) := by decide +kernel
theorem c157_85 : jm_code 157 85 = some (.aload_n 0, 1) := by decide +kernel
theorem c157_86 : jm_code 157 86 = some (.getfield 25, 3) := by decide +kernel
theorem c157_89 : jm_code 157 89 = some (.iconst 4, 1) := by decide +kernel
theorem c157_90 : jm_code 157 90 = some (.iload_n 1, 1) := by decide +kernel
theorem c157_91 : jm_code 157 91 = some (.imul, 1) := by decide +kernel
theorem c157_92 : jm_code 157 92 = some (.iconst 2, 1) := by decide +kernel
theorem c157_93 : jm_code 157 93 = some (.iadd, 1) := by decide +kernel
theorem c157_94 : jm_code 157 94 = some (.iaload, 1) := by decide +kernel
theorem c157_95 : jm_code 157 95 = some (.iload_n 3, 1) := by decide +kernel
theorem c157_96 : jm_code 157 96 = some (.imul, 1) := by decide +kernel
theorem c157_97 : jm_code 157 97 = some (.bipush 10, 2) := by decide +kernel
theorem c157_99 : jm_code 157 99 = some (.idiv, 1) := by decide +kernel
theorem c157_100 : jm_code 157 100 = some (.iastore, 1) := by decide +kernel
theorem c157_101 : jm_code 157 101 = some (.iconst 1, 1) := by decide +kernel
theorem c157_102 : jm_code 157 102 = some (.ireturn, 1) := by decide +kernel
theorem c157_103 : jm_code 157 103 = some (.aload_n 0, 1) := by decide +kernel
theorem c157_104 : jm_code 157 104 = some (.getfield 53, 3) := by decide +kernel
theorem c157_107 : jm_code 157 107 = some (.iload_n 1, 1) := by decide +kernel
theorem c157_108 : jm_code 157 108 = some (.iaload, 1) := by decide +kernel
theorem c157_109 : jm_code 157 109 = some (.sipush 250, 3) := by decide +kernel
theorem c157_112 : jm_code 157 112 = some (.if_icmp .le 13, 3) := by decide +kernel
theorem c157_115 : jm_code 157 115 = some (.aload_n 0, 1) := by decide +kernel
theorem c157_116 : jm_code 157 116 = some (.getfield 62, 3) := by decide +kernel
theorem c157_119 : jm_code 157 119 = some (.iload_n 1, 1) := by decide +kernel
theorem c157_120 : jm_code 157 120 = some (.iconst 2, 1) := by decide +kernel
theorem c157_121 : jm_code 157 121 = some (.iastore, 1) := by decide +kernel
theorem c157_122 : jm_code 157 122 = some (.goto 49, 3) := by decide +kernel
theorem c157_125 : jm_code 157 125 = some (.aload_n 0, 1) := by decide +kernel
theorem c157_126 : jm_code 157 126 = some (.getfield 56, 3) := by decide +kernel
theorem c157_129 : jm_code 157 129 = some (.iload_n 1, 1) := by decide +kernel
theorem c157_130 : jm_code 157 130 = some (.iaload, 1) := by decide +kernel
theorem c157_131 : jm_code 157 131 = some (.aload_n 0, 1) := by decide +kernel
theorem c157_132 : jm_code 157 132 = some (.getfield 59, 3) := by decide +kernel
theorem c157_135 : jm_code 157 135 = some (.iload_n 1, 1) := by decide +kernel
theorem c157_136 : jm_code 157 136 = some (.iaload, 1) := by decide +kernel
theorem c157_137 : jm_code 157 137 = some (.aload_n 0, 1) := by decide +kernel
theorem c157_138 : jm_code 157 138 = some (.getfield 25, 3) := by decide +kernel
theorem c157_141 : jm_code 157 141 = some (.iconst 4, 1) := by decide +kernel
theorem c157_142 : jm_code 157 142 = some (.iload_n 1, 1) := by decide +kernel
theorem c157_143 : jm_code 157 143 = some (.imul, 1) := by decide +kernel
theorem c157_144 : jm_code 157 144 = some (.iconst 3, 1) := by decide +kernel
theorem c157_145 : jm_code 157 145 = some (.iadd, 1) := by decide +kernel
theorem c157_146 : jm_code 157 146 = some (.iaload, 1) := by decide +kernel
theorem c157_147 : jm_code 157 147 = some (.imul, 1) := by decide +kernel
theorem c157_148 : jm_code 157 148 = some (.bipush 100, 2) := by decide +kernel
theorem c157_150 : jm_code 157 150 = some (.idiv, 1) := by decide +kernel
theorem c157_151 : jm_code 157 151 = some (.isub, 1) := by decide +kernel
theorem c157_152 : jm_code 157 152 = some (.istore 4, 2) := by decide +kernel
theorem c157_154 : jm_code 157 154 = some (.aload_n 0, 1) := by decide +kernel
theorem c157_155 : jm_code 157 155 = some (.getfield 56, 3) := by decide +kernel
theorem c157_158 : jm_code 157 158 = some (.iload_n 1, 1) := by decide +kernel
theorem c157_159 : jm_code 157 159 = some (.iload 4, 2) := by decide +kernel
theorem c157_161 : jm_code 157 161 = some (.ifCond .ge 7, 3) := by decide +kernel
theorem c157_164 : jm_code 157 164 = some (.iconst 0, 1) := by decide +kernel
theorem c157_165 : jm_code 157 165 = some (.goto 5, 3) := by decide +kernel
theorem c157_168 : jm_code 157 168 = some (.iload 4, 2) := by decide +kernel
theorem c157_170 : jm_code 157 170 = some (.iastore, 1) := by decide +kernel
theorem c157_171 : jm_code 157 171 = some (.iconst 0, 1) := by decide +kernel
theorem c157_172 : jm_code 157 172 = some (.ireturn, 1) := by decide +kernel
theorem c158_0 : jm_code 158 0 = some (.aload_n 0, 1) := by decide +kernel
theorem c158_1 : jm_code 158 1 = some (.getfield 25, 3) := by decide +kernel
theorem c158_4 : jm_code 158 4 = some (.iconst 4, 1) := by decide +kernel
theorem c158_5 : jm_code 158 5 = some (.iload_n 1, 1) := by decide +kernel
theorem c158_6 : jm_code 158 6 = some (.imul, 1) := by decide +kernel
theorem c158_7 : jm_code 158 7 = some (.iconst 1, 1) := by decide +kernel
theorem c158_8 : jm_code 158 8 = some (.iadd, 1) := by decide +kernel
theorem c158_9 : jm_code 158 9 = some (.iaload, 1) := by decide +kernel
theorem c158_10 : jm_code 158 10 = some (.aload_n 0, 1) := by decide +kernel
theorem c158_11 : jm_code 158 11 = some (.getfield 56, 3) := by decide +kernel
theorem c158_14 : jm_code 158 14 = some (.iload_n 1, 1) := by decide +kernel
theorem c158_15 : jm_code 158 15 = some (.iaload, 1) := by decide +kernel
theorem c158_16 : jm_code 158 16 = some (.bipush 20, 2) := by decide +kernel
theorem c158_18 : jm_code 158 18 = some (.idiv, 1) := by decide +kernel
theorem c158_19 : jm_code 158 19 = some (.isub, 1) := by decide +kernel
theorem c158_20 : jm_code 158 20 = some (.istore_n 2, 1) := by decide +kernel
theorem c158_21 : jm_code 158 21 = some (.iload_n 2, 1) := by decide +kernel
theorem c158_22 : jm_code 158 22 = some (.iconst 1, 1) := by decide +kernel
theorem c158_23 : jm_code 158 23 = some (.if_icmp .ge 7, 3) := by decide +kernel
theorem c158_26 : jm_code 158 26 = some (.iconst 1, 1) := by decide +kernel
theorem c158_27 : jm_code 158 27 = some (.goto 4, 3) := by decide +kernel
theorem c158_30 : jm_code 158 30 = some (.iload_n 2, 1) := by decide +kernel
theorem c158_31 : jm_code 158 31 = some (.ireturn, 1) := by decide +kernel
theorem c159_0 : jm_code 159 0 = some (.iconst 0, 1) := by decide +kernel
