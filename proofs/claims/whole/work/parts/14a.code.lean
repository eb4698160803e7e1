theorem c0_0 : jm_code 0 0 = some (.iload_n 1, 1) := by decide +kernel
theorem c0_1 : jm_code 0 1 = some (.iconst 0, 1) := by decide +kernel
theorem c0_2 : jm_code 0 2 = some (.iconst 3, 1) := by decide +kernel
theorem c0_3 : jm_code 0 3 = some (.invokestatic 86, 3) := by decide +kernel
theorem c0_6 : jm_code 0 6 = some (.ifCond .ne 15, 3) := by decide +kernel
theorem c0_9 : jm_code 0 9 = some (.iload_n 2, 1) := by decide +kernel
theorem c0_10 : jm_code 0 10 = some (.iload_n 3, 1) := by decide +kernel
theorem c0_11 : jm_code 0 11 = some (.iload 4, 2) := by decide +kernel
theorem c0_13 : jm_code 0 13 = some (.iload 5, 2) := by decide +kernel
theorem c0_15 : jm_code 0 15 = some (.invokestatic 90, 3) := by decide +kernel
theorem c0_18 : jm_code 0 18 = some (.ifCond .ne 6, 3) := by decide +kernel
theorem c0_21 : jm_code 0 21 = some (.bipush (-2), 2) := by decide +kernel
theorem c0_23 : jm_code 0 23 = some (.ireturn, 1) := by decide +kernel
theorem c0_24 : jm_code 0 24 = some (.aload_n 0, 1) := by decide +kernel
theorem c0_25 : jm_code 0 25 = some (.getfield 10, 3) := by decide +kernel
theorem c0_28 : jm_code 0 28 = some (.invokevirtual 94, 3) := by decide +kernel
theorem c0_31 : jm_code 0 31 = some (.ifCond .eq 6, 3) := by decide +kernel
theorem c0_34 : jm_code 0 34 = some (.bipush (-4), 2) := by decide +kernel
theorem c0_36 : jm_code 0 36 = some (.ireturn, 1) := by decide +kernel
theorem c0_37 : jm_code 0 37 = some (.aload_n 0, 1) := by decide +kernel
theorem c0_38 : jm_code 0 38 = some (.getfield 10, 3) := by decide +kernel
theorem c0_41 : jm_code 0 41 = some (.iload_n 1, 1) := by decide +kernel
theorem c0_42 : jm_code 0 42 = some (.iload_n 2, 1) := by decide +kernel
theorem c0_43 : jm_code 0 43 = some (.iload_n 3, 1) := by decide +kernel
theorem c0_44 : jm_code 0 44 = some (.iload 4, 2) := by decide +kernel
theorem c0_46 : jm_code 0 46 = some (.iload 5, 2) := by decide +kernel
theorem c0_48 : jm_code 0 48 = some (.invokevirtual 98, 3) := by decide +kernel
theorem c0_51 : jm_code 0 51 = some (.ireturn, 1) := by decide +kernel
theorem c1_0 : jm_code 1 0 = some (.iload_n 0, 1) := by decide +kernel
theorem c1_1 : jm_code 1 1 = some (.iload_n 1, 1) := by decide +kernel
theorem c1_2 : jm_code 1 2 = some (.if_icmp .lt 8, 3) := by decide +kernel
theorem c1_5 : jm_code 1 5 = some (.iload_n 0, 1) := by decide +kernel
theorem c1_6 : jm_code 1 6 = some (.iload_n 2, 1) := by decide +kernel
theorem c1_7 : jm_code 1 7 = some (.if_icmp .le 7, 3) := by decide +kernel
theorem c1_10 : jm_code 1 10 = some (.iconst 1, 1) := by decide +kernel
theorem c1_11 : jm_code 1 11 = some (.goto 4, 3) := by decide +kernel
theorem c1_14 : jm_code 1 14 = some (.iconst 0, 1) := by decide +kernel
theorem c1_15 : jm_code 1 15 = some (.ireturn, 1) := by decide +kernel
theorem c2_0 : jm_code 2 0 = some (.iconst 0, 1) := by decide +kernel
theorem c2_1 : jm_code 2 1 = some (.iload_n 0, 1) := by decide +kernel
theorem c2_2 : jm_code 2 2 = some (.invokestatic 119, 3) := by decide +kernel
theorem c2_5 : jm_code 2 5 = some (.ifCond .eq 31, 3) := by decide +kernel
theorem c2_8 : jm_code 2 8 = some (.iconst 1, 1) := by decide +kernel
theorem c2_9 : jm_code 2 9 = some (.iload_n 1, 1) := by decide +kernel
theorem c2_10 : jm_code 2 10 = some (.invokestatic 119, 3) := by decide +kernel
theorem c2_13 : jm_code 2 13 = some (.ifCond .eq 23, 3) := by decide +kernel
theorem c2_16 : jm_code 2 16 = some (.iconst 2, 1) := by decide +kernel
theorem c2_17 : jm_code 2 17 = some (.iload_n 2, 1) := by decide +kernel
theorem c2_18 : jm_code 2 18 = some (.invokestatic 119, 3) := by decide +kernel
theorem c2_21 : jm_code 2 21 = some (.ifCond .eq 15, 3) := by decide +kernel
theorem c2_24 : jm_code 2 24 = some (.iconst 3, 1) := by decide +kernel
theorem c2_25 : jm_code 2 25 = some (.iload_n 3, 1) := by decide +kernel
theorem c2_26 : jm_code 2 26 = some (.invokestatic 119, 3) := by decide +kernel
theorem c2_29 : jm_code 2 29 = some (.ifCond .eq 7, 3) := by decide +kernel
theorem c2_32 : jm_code 2 32 = some (.iconst 1, 1) := by decide +kernel
theorem c2_33 : jm_code 2 33 = some (.goto 4, 3) := by decide +kernel
theorem c2_36 : jm_code 2 36 = some (.iconst 0, 1) := by decide +kernel
theorem c2_37 : jm_code 2 37 = some (.ireturn, 1) := by decide +kernel
theorem c3_0 : jm_code 3 0 = some (.iload_n 1, 1) := by decide +kernel
theorem c3_1 : jm_code 3 1 = some (.getstatic 224, 3) := by decide +kernel
theorem c3_4 : jm_code 3 4 = some (.iload_n 0, 1) := by decide +kernel
theorem c3_5 : jm_code 3 5 = some (.iaload, 1) := by decide +kernel
theorem c3_6 : jm_code 3 6 = some (.getstatic 227, 3) := by decide +kernel
theorem c3_9 : jm_code 3 9 = some (.iload_n 0, 1) := by decide +kernel
theorem c3_10 : jm_code 3 10 = some (.iaload, 1) := by decide +kernel
theorem c3_11 : jm_code 3 11 = some (.invokestatic 86, 3) := by decide +kernel
theorem c3_14 : jm_code 3 14 = some (.ifCond .ne 7, 3) := by decide +kernel
theorem c3_17 : jm_code 3 17 = some (.iconst 1, 1) := by decide +kernel
theorem c3_18 : jm_code 3 18 = some (.goto 4, 3) := by decide +kernel
theorem c3_21 : jm_code 3 21 = some (.iconst 0, 1) := by decide +kernel
theorem c3_22 : jm_code 3 22 = some (.ireturn, 1) := by decide +kernel
theorem c4_0 : jm_code 4 0 = some (.aload_n 0, 1) := by decide +kernel
theorem c4_1 : jm_code 4 1 = some (.getfield 18, 3) := by decide +kernel
theorem c4_4 : jm_code 4 4 = some (.bipush 12, 2) := by decide +kernel
theorem c4_6 : jm_code 4 6 = some (.if_icmp .lt 7, 3) := by decide +kernel
theorem c4_9 : jm_code 4 9 = some (.iconst 1, 1) := by decide +kernel
theorem c4_10 : jm_code 4 10 = some (.goto 4, 3) := by decide +kernel
theorem c4_13 : jm_code 4 13 = some (.iconst 0, 1) := by decide +kernel
theorem c4_14 : jm_code 4 14 = some (.ireturn, 1) := by decide +kernel
theorem c5_0 : jm_code 5 0 = some (.aload_n 0, 1) := by decide +kernel
theorem c5_1 : jm_code 5 1 = some (.getfield 18, 3) := by decide +kernel
theorem c5_4 : jm_code 5 4 = some (.istore 6, 2) := by decide +kernel
theorem c5_6 : jm_code 5 6 = some (.aload_n 0, 1) := by decide +kernel
theorem c5_7 : jm_code 5 7 = some (.dup, 1) := by decide +kernel
theorem c5_8 : jm_code 5 8 = some (.getfield 18, 3) := by decide +kernel
theorem c5_11 : jm_code 5 11 = some (.iconst 1, 1) := by decide +kernel
theorem c5_12 : jm_code 5 12 = some (.iadd, 1) := by decide +kernel
theorem c5_13 : jm_code 5 13 = some (.putfield 18, 3) := by decide +kernel
theorem c5_16 : jm_code 5 16 = some (.aload_n 0, 1) := by decide +kernel
theorem c5_17 : jm_code 5 17 = some (.getfield 9, 3) := by decide +kernel
theorem c5_20 : jm_code 5 20 = some (.iload 6, 2) := by decide +kernel
theorem c5_22 : jm_code 5 22 = some (.iload_n 1, 1) := by decide +kernel
theorem c5_23 : jm_code 5 23 = some (.iastore, 1) := by decide +kernel
theorem c5_24 : jm_code 5 24 = some (.aload_n 0, 1) := by decide +kernel
theorem c5_25 : jm_code 5 25 = some (.iload 6, 2) := by decide +kernel
theorem c5_27 : jm_code 5 27 = some (.iconst 0, 1) := by decide +kernel
theorem c5_28 : jm_code 5 28 = some (.iload_n 2, 1) := by decide +kernel
theorem c5_29 : jm_code 5 29 = some (.invokevirtual 22, 3) := by decide +kernel
theorem c5_32 : jm_code 5 32 = some (.aload_n 0, 1) := by decide +kernel
theorem c5_33 : jm_code 5 33 = some (.iload 6, 2) := by decide +kernel
theorem c5_35 : jm_code 5 35 = some (.iconst 1, 1) := by decide +kernel
theorem c5_36 : jm_code 5 36 = some (.iload_n 3, 1) := by decide +kernel
theorem c5_37 : jm_code 5 37 = some (.invokevirtual 22, 3) := by decide +kernel
theorem c5_40 : jm_code 5 40 = some (.aload_n 0, 1) := by decide +kernel
theorem c5_41 : jm_code 5 41 = some (.iload 6, 2) := by decide +kernel
theorem c5_43 : jm_code 5 43 = some (.iconst 2, 1) := by decide +kernel
theorem c5_44 : jm_code 5 44 = some (.iload 4, 2) := by decide +kernel
theorem c5_46 : jm_code 5 46 = some (.invokevirtual 22, 3) := by decide +kernel
theorem c5_49 : jm_code 5 49 = some (.aload_n 0, 1) := by decide +kernel
theorem c5_50 : jm_code 5 50 = some (.iload 6, 2) := by decide +kernel
theorem c5_52 : jm_code 5 52 = some (.iconst 3, 1) := by decide +kernel
theorem c5_53 : jm_code 5 53 = some (.iload 5, 2) := by decide +kernel
theorem c5_55 : jm_code 5 55 = some (.invokevirtual 22, 3) := by decide +kernel
theorem c5_58 : jm_code 5 58 = some (.iload 6, 2) := by decide +kernel
theorem c5_60 : jm_code 5 60 = some (.ireturn, 1) := by decide +kernel
theorem c6_0 : jm_code 6 0 = some (.aload_n 0, 1) := by decide +kernel
theorem c6_1 : jm_code 6 1 = some (.getfield 15, 3) := by decide +kernel
theorem c6_4 : jm_code 6 4 = some (.iload_n 1, 1) := by decide +kernel
theorem c6_5 : jm_code 6 5 = some (.iconst 4, 1) := by decide +kernel
theorem c6_6 : jm_code 6 6 = some (.imul, 1) := by decide +kernel
theorem c6_7 : jm_code 6 7 = some (.iload_n 2, 1) := by decide +kernel
theorem c6_8 : jm_code 6 8 = some (.iadd, 1) := by decide +kernel
theorem c6_9 : jm_code 6 9 = some (.iload_n 3, 1) := by decide +kernel
theorem c6_10 : jm_code 6 10 = some (.iastore, 1) := by decide +kernel
theorem c6_11 : jm_code 6 11 = some (.return_, 1) := by decide +kernel
theorem c7_0 : jm_code 7 0 = some (.iload_n 1, 1) := by decide +kernel
theorem c7_1 : jm_code 7 1 = some (.iconst 0, 1) := by decide +kernel
theorem c7_2 : jm_code 7 2 = some (.iconst 3, 1) := by decide +kernel
theorem c7_3 : jm_code 7 3 = some (.invokestatic 86, 3) := by decide +kernel
theorem c7_6 : jm_code 7 6 = some (.ifCond .ne 12, 3) := by decide +kernel
theorem c7_9 : jm_code 7 9 = some (.iload_n 2, 1) := by decide +kernel
theorem c7_10 : jm_code 7 10 = some (.iconst 0, 1) := by decide +kernel
theorem c7_11 : jm_code 7 11 = some (.iconst 3, 1) := by decide +kernel
theorem c7_12 : jm_code 7 12 = some (.invokestatic 86, 3) := by decide +kernel
theorem c7_15 : jm_code 7 15 = some (.ifCond .eq 6, 3) := by decide +kernel
theorem c7_18 : jm_code 7 18 = some (.bipush (-2), 2) := by decide +kernel
theorem c7_20 : jm_code 7 20 = some (.ireturn, 1) := by decide +kernel
theorem c7_21 : jm_code 7 21 = some (.aload_n 0, 1) := by decide +kernel
theorem c7_22 : jm_code 7 22 = some (.getfield 73, 3) := by decide +kernel
theorem c7_25 : jm_code 7 25 = some (.iload_n 1, 1) := by decide +kernel
theorem c7_26 : jm_code 7 26 = some (.aaload, 1) := by decide +kernel
theorem c7_27 : jm_code 7 27 = some (.astore_n 3, 1) := by decide +kernel
theorem c7_28 : jm_code 7 28 = some (.aload_n 3, 1) := by decide +kernel
theorem c7_29 : jm_code 7 29 = some (.invokevirtual 102, 3) := by decide +kernel
theorem c7_32 : jm_code 7 32 = some (.ifCond .eq 9, 3) := by decide +kernel
theorem c7_35 : jm_code 7 35 = some (.aload_n 0, 1) := by decide +kernel
theorem c7_36 : jm_code 7 36 = some (.iconst 1, 1) := by decide +kernel
theorem c7_37 : jm_code 7 37 = some (.invokevirtual 105, 3) := by decide +kernel
theorem c7_40 : jm_code 7 40 = some (.ireturn, 1) := by decide +kernel
theorem c7_41 : jm_code 7 41 = some (.iconst 0, 1) := by decide +kernel
theorem c7_42 : jm_code 7 42 = some (.istore 4, 2) := by decide +kernel
theorem c7_44 : jm_code 7 44 = some (.iconst 0, 1) := by decide +kernel
theorem c7_45 : jm_code 7 45 = some (.istore 5, 2) := by decide +kernel
theorem c7_47 : jm_code 7 47 = some (.iload 5, 2) := by decide +kernel
theorem c7_49 : jm_code 7 49 = some (.iconst 4, 1) := by decide +kernel
theorem c7_50 : jm_code 7 50 = some (.iadd, 1) := by decide +kernel
theorem c7_51 : jm_code 7 51 = some (.aload_n 3, 1) := by decide +kernel
theorem c7_52 : jm_code 7 52 = some (.getfield 109, 3) := by decide +kernel
theorem c7_55 : jm_code 7 55 = some (.if_icmp .gt 102, 3) := by decide +kernel
theorem c7_58 : jm_code 7 58 = some (.aload_n 0, 1) := by decide +kernel
theorem c7_59 : jm_code 7 59 = some (.getfield 10, 3) := by decide +kernel
theorem c7_62 : jm_code 7 62 = some (.invokevirtual 94, 3) := by decide +kernel
theorem c7_65 : jm_code 7 65 = some (.ifCond .ne 92, 3) := by decide +kernel
theorem c7_68 : jm_code 7 68 = some (.aload_n 3, 1) := by decide +kernel
theorem c7_69 : jm_code 7 69 = some (.getfield 112, 3) := by decide +kernel
theorem c7_72 : jm_code 7 72 = some (.astore 6, 2) := by decide +kernel
theorem c7_74 : jm_code 7 74 = some (.aload 6, 2) := by decide +kernel
theorem c7_76 : jm_code 7 76 = some (.iload 5, 2) := by decide +kernel
theorem c7_78 : jm_code 7 78 = some (.iconst 0, 1) := by decide +kernel
theorem c7_79 : jm_code 7 79 = some (.iadd, 1) := by decide +kernel
theorem c7_80 : jm_code 7 80 = some (.iaload, 1) := by decide +kernel
theorem c7_81 : jm_code 7 81 = some (.aload 6, 2) := by decide +kernel
theorem c7_83 : jm_code 7 83 = some (.iload 5, 2) := by decide +kernel
theorem c7_85 : jm_code 7 85 = some (.iconst 1, 1) := by decide +kernel
theorem c7_86 : jm_code 7 86 = some (.iadd, 1) := by decide +kernel
theorem c7_87 : jm_code 7 87 = some (.iaload, 1) := by decide +kernel
theorem c7_88 : jm_code 7 88 = some (.aload 6, 2) := by decide +kernel
theorem c7_90 : jm_code 7 90 = some (.iload 5, 2) := by decide +kernel
theorem c7_92 : jm_code 7 92 = some (.iconst 2, 1) := by decide +kernel
theorem c7_93 : jm_code 7 93 = some (.iadd, 1) := by decide +kernel
theorem c7_94 : jm_code 7 94 = some (.iaload, 1) := by decide +kernel
theorem c7_95 : jm_code 7 95 = some (.aload 6, 2) := by decide +kernel
theorem c7_97 : jm_code 7 97 = some (.iload 5, 2) := by decide +kernel
theorem c7_99 : jm_code 7 99 = some (.iconst 3, 1) := by decide +kernel
theorem c7_100 : jm_code 7 100 = some (.iadd, 1) := by decide +kernel
theorem c7_101 : jm_code 7 101 = some (.iaload, 1) := by decide +kernel
theorem c7_102 : jm_code 7 102 = some (.invokestatic 90, 3) := by decide +kernel
theorem c7_105 : jm_code 7 105 = some (.ifCond .ne 6, 3) := by decide +kernel
theorem c7_108 : jm_code 7 108 = some (.iload 4, 2) := by decide +kernel
theorem c7_110 : jm_code 7 110 = some (.ireturn, 1) := by decide +kernel
theorem c7_111 : jm_code 7 111 = some (.aload_n 0, 1) := by decide +kernel
theorem c7_112 : jm_code 7 112 = some (.getfield 10, 3) := by decide +kernel
theorem c7_115 : jm_code 7 115 = some (.iload_n 2, 1) := by decide +kernel
theorem c7_116 : jm_code 7 116 = some (.aload 6, 2) := by decide +kernel
theorem c7_118 : jm_code 7 118 = some (.iload 5, 2) := by decide +kernel
theorem c7_120 : jm_code 7 120 = some (.iconst 0, 1) := by decide +kernel
theorem c7_121 : jm_code 7 121 = some (.iadd, 1) := by decide +kernel
theorem c7_122 : jm_code 7 122 = some (.iaload, 1) := by decide +kernel
theorem c7_123 : jm_code 7 123 = some (.aload 6, 2) := by decide +kernel
theorem c7_125 : jm_code 7 125 = some (.iload 5, 2) := by decide +kernel
theorem c7_127 : jm_code 7 127 = some (.iconst 1, 1) := by decide +kernel
theorem c7_128 : jm_code 7 128 = some (.iadd, 1) := by decide +kernel
theorem c7_129 : jm_code 7 129 = some (.iaload, 1) := by decide +kernel
theorem c7_130 : jm_code 7 130 = some (.aload 6, 2) := by decide +kernel
theorem c7_132 : jm_code 7 132 = some (.iload 5, 2) := by decide +kernel
theorem c7_134 : jm_code 7 134 = some (.iconst 2, 1) := by decide +kernel
theorem c7_135 : jm_code 7 135 = some (.iadd, 1) := by decide +kernel
theorem c7_136 : jm_code 7 136 = some (.iaload, 1) := by decide +kernel
theorem c7_137 : jm_code 7 137 = some (.aload 6, 2) := by decide +kernel
theorem c7_139 : jm_code 7 139 = some (.iload 5, 2) := by decide +kernel
theorem c7_141 : jm_code 7 141 = some (.iconst 3, 1) := by decide +kernel
theorem c7_142 : jm_code 7 142 = some (.iadd, 1) := by decide +kernel
theorem c7_143 : jm_code 7 143 = some (.iaload, 1) := by decide +kernel
theorem c7_144 : jm_code 7 144 = some (.invokevirtual 98, 3) := by decide +kernel
theorem c7_147 : jm_code 7 147 = some (.pop, 1) := by decide +kernel
theorem c7_148 : jm_code 7 148 = some (.iinc 4 1, 3) := by decide +kernel
theorem c7_151 : jm_code 7 151 = some (.iinc 5 4, 3) := by decide +kernel
theorem c7_154 : jm_code 7 154 = some (.goto (-107), 3) := by decide +kernel
theorem c7_157 : jm_code 7 157 = some (.iload 4, 2) := by decide +kernel
theorem c7_159 : jm_code 7 159 = some (.ireturn, 1) := by decide +kernel
theorem c8_0 : jm_code 8 0 = some (.aload_n 0, 1) := by decide +kernel
theorem c8_1 : jm_code 8 1 = some (.getfield 15, 3) := by decide +kernel
theorem c8_4 : jm_code 8 4 = some (.iconst (-1), 1) := by decide +kernel
theorem c8_5 : jm_code 8 5 = some (.if_icmp .ne 7, 3) := by decide +kernel
theorem c8_8 : jm_code 8 8 = some (.iconst 1, 1) := by decide +kernel
theorem c8_9 : jm_code 8 9 = some (.goto 4, 3) := by decide +kernel
theorem c8_12 : jm_code 8 12 = some (.iconst 0, 1) := by decide +kernel
theorem c8_13 : jm_code 8 13 = some (.ireturn, 1) := by decide +kernel
theorem c9_0 : jm_code 9 0 = some (.aload_n 0, 1) := by decide +kernel
theorem c9_1 : jm_code 9 1 = some (.iload_n 1, 1) := by decide +kernel
theorem c9_2 : jm_code 9 2 = some (.putfield 77, 3) := by decide +kernel
theorem c9_5 : jm_code 9 5 = some (.bipush (-10), 2) := by decide +kernel
theorem c9_7 : jm_code 9 7 = some (.iload_n 1, 1) := by decide +kernel
theorem c9_8 : jm_code 9 8 = some (.isub, 1) := by decide +kernel
theorem c9_9 : jm_code 9 9 = some (.ireturn, 1) := by decide +kernel
theorem c10_0 : jm_code 10 0 = some (.aload_n 0, 1) := by decide +kernel
theorem c10_1 : jm_code 10 1 = some (.getfield 10, 3) := by decide +kernel
theorem c10_4 : jm_code 10 4 = some (.iload_n 1, 1) := by decide +kernel
theorem c10_5 : jm_code 10 5 = some (.invokevirtual 115, 3) := by decide +kernel
theorem c10_8 : jm_code 10 8 = some (.ifCond .eq 20, 3) := by decide +kernel
theorem c10_11 : jm_code 10 11 = some (.iload_n 2, 1) := by decide +kernel
theorem c10_12 : jm_code 10 12 = some (.iconst 0, 1) := by decide +kernel
theorem c10_13 : jm_code 10 13 = some (.iconst 3, 1) := by decide +kernel
theorem c10_14 : jm_code 10 14 = some (.invokestatic 86, 3) := by decide +kernel
theorem c10_17 : jm_code 10 17 = some (.ifCond .ne 11, 3) := by decide +kernel
theorem c10_20 : jm_code 10 20 = some (.iload_n 2, 1) := by decide +kernel
theorem c10_21 : jm_code 10 21 = some (.iload_n 3, 1) := by decide +kernel
theorem c10_22 : jm_code 10 22 = some (.invokestatic 119, 3) := by decide +kernel
theorem c10_25 : jm_code 10 25 = some (.ifCond .ne 6, 3) := by decide +kernel
theorem c10_28 : jm_code 10 28 = some (.bipush (-2), 2) := by decide +kernel
theorem c10_30 : jm_code 10 30 = some (.ireturn, 1) := by decide +kernel
theorem c10_31 : jm_code 10 31 = some (.aload_n 0, 1) := by decide +kernel
theorem c10_32 : jm_code 10 32 = some (.getfield 10, 3) := by decide +kernel
theorem c10_35 : jm_code 10 35 = some (.iload_n 1, 1) := by decide +kernel
theorem c10_36 : jm_code 10 36 = some (.iload_n 2, 1) := by decide +kernel
theorem c10_37 : jm_code 10 37 = some (.invokevirtual 123, 3) := by decide +kernel
theorem c10_40 : jm_code 10 40 = some (.istore 4, 2) := by decide +kernel
theorem c10_42 : jm_code 10 42 = some (.aload_n 0, 1) := by decide +kernel
theorem c10_43 : jm_code 10 43 = some (.getfield 10, 3) := by decide +kernel
theorem c10_46 : jm_code 10 46 = some (.iload_n 1, 1) := by decide +kernel
theorem c10_47 : jm_code 10 47 = some (.iload_n 2, 1) := by decide +kernel
theorem c10_48 : jm_code 10 48 = some (.iload_n 3, 1) := by decide +kernel
theorem c10_49 : jm_code 10 49 = some (.invokevirtual 127, 3) := by decide +kernel
theorem c10_52 : jm_code 10 52 = some (.iload 4, 2) := by decide +kernel
theorem c10_54 : jm_code 10 54 = some (.ireturn, 1) := by decide +kernel
theorem c11_0 : jm_code 11 0 = some (.iload_n 1, 1) := by decide +kernel
theorem c11_1 : jm_code 11 1 = some (.ifCond .lt 15, 3) := by decide +kernel
theorem c11_4 : jm_code 11 4 = some (.iload_n 1, 1) := by decide +kernel
theorem c11_5 : jm_code 11 5 = some (.aload_n 0, 1) := by decide +kernel
theorem c11_6 : jm_code 11 6 = some (.getfield 18, 3) := by decide +kernel
theorem c11_9 : jm_code 11 9 = some (.if_icmp .ge 7, 3) := by decide +kernel
theorem c11_12 : jm_code 11 12 = some (.iconst 1, 1) := by decide +kernel
theorem c11_13 : jm_code 11 13 = some (.goto 4, 3) := by decide +kernel
theorem c11_16 : jm_code 11 16 = some (.iconst 0, 1) := by decide +kernel
theorem c11_17 : jm_code 11 17 = some (.ireturn, 1) := by decide +kernel
theorem c12_0 : jm_code 12 0 = some (.aload_n 0, 1) := by decide +kernel
theorem c12_1 : jm_code 12 1 = some (.getfield 15, 3) := by decide +kernel
theorem c12_4 : jm_code 12 4 = some (.iload_n 1, 1) := by decide +kernel
theorem c12_5 : jm_code 12 5 = some (.iconst 4, 1) := by decide +kernel
theorem c12_6 : jm_code 12 6 = some (.imul, 1) := by decide +kernel
theorem c12_7 : jm_code 12 7 = some (.iload_n 2, 1) := by decide +kernel
theorem c12_8 : jm_code 12 8 = some (.iadd, 1) := by decide +kernel
theorem c12_9 : jm_code 12 9 = some (.iaload, 1) := by decide +kernel
theorem c12_10 : jm_code 12 10 = some (.ireturn, 1) := by decide +kernel
theorem c13_0 : jm_code 13 0 = some (.aload_n 0, 1) := by decide +kernel
theorem c13_1 : jm_code 13 1 = some (.getfield 10, 3) := by decide +kernel
theorem c13_4 : jm_code 13 4 = some (.getfield 131, 3) := by decide +kernel
theorem c13_7 : jm_code 13 7 = some (.istore_n 1, 1) := by decide +kernel
theorem c13_8 : jm_code 13 8 = some (.aload_n 0, 1) := by decide +kernel
theorem c13_9 : jm_code 13 9 = some (.getfield 10, 3) := by decide +kernel
theorem c13_12 : jm_code 13 12 = some (.iconst 0, 1) := by decide +kernel
theorem c13_13 : jm_code 13 13 = some (.putfield 131, 3) := by decide +kernel
theorem c13_16 : jm_code 13 16 = some (.aload_n 0, 1) := by decide +kernel
theorem c13_17 : jm_code 13 17 = some (.getfield 67, 3) := by decide +kernel
theorem c13_20 : jm_code 13 20 = some (.iconst 0, 1) := by decide +kernel
theorem c13_21 : jm_code 13 21 = some (.putfield 134, 3) := by decide +kernel
theorem c13_24 : jm_code 13 24 = some (.iload_n 1, 1) := by decide +kernel
theorem c13_25 : jm_code 13 25 = some (.ireturn, 1) := by decide +kernel
theorem c14_0 : jm_code 14 0 = some (.iload_n 1, 1) := by decide +kernel
theorem c14_1 : jm_code 14 1 = some (.iconst 0, 1) := by decide +kernel
theorem c14_2 : jm_code 14 2 = some (.iconst 5, 1) := by decide +kernel
theorem c14_3 : jm_code 14 3 = some (.invokestatic 86, 3) := by decide +kernel
theorem c14_6 : jm_code 14 6 = some (.ifCond .ne 20, 3) := by decide +kernel
theorem c14_9 : jm_code 14 9 = some (.iload_n 2, 1) := by decide +kernel
theorem c14_10 : jm_code 14 10 = some (.getstatic 135, 3) := by decide +kernel
theorem c14_13 : jm_code 14 13 = some (.iload_n 1, 1) := by decide +kernel
theorem c14_14 : jm_code 14 14 = some (.iaload, 1) := by decide +kernel
theorem c14_15 : jm_code 14 15 = some (.getstatic 138, 3) := by decide +kernel
theorem c14_18 : jm_code 14 18 = some (.iload_n 1, 1) := by decide +kernel
theorem c14_19 : jm_code 14 19 = some (.iaload, 1) := by decide +kernel
theorem c14_20 : jm_code 14 20 = some (.invokestatic 86, 3) := by decide +kernel
theorem c14_23 : jm_code 14 23 = some (.ifCond .eq 6, 3) := by decide +kernel
theorem c14_26 : jm_code 14 26 = some (.bipush (-2), 2) := by decide +kernel
theorem c14_28 : jm_code 14 28 = some (.ireturn, 1) := by decide +kernel
theorem c14_29 : jm_code 14 29 = some (.aload_n 0, 1) := by decide +kernel
theorem c14_30 : jm_code 14 30 = some (.getfield 25, 3) := by decide +kernel
theorem c14_33 : jm_code 14 33 = some (.iload_n 1, 1) := by decide +kernel
theorem c14_34 : jm_code 14 34 = some (.iaload, 1) := by decide +kernel
theorem c14_35 : jm_code 14 35 = some (.istore_n 3, 1) := by decide +kernel
theorem c14_36 : jm_code 14 36 = some (.aload_n 0, 1) := by decide +kernel
theorem c14_37 : jm_code 14 37 = some (.getfield 25, 3) := by decide +kernel
theorem c14_40 : jm_code 14 40 = some (.iload_n 1, 1) := by decide +kernel
theorem c14_41 : jm_code 14 41 = some (.iload_n 2, 1) := by decide +kernel
theorem c14_42 : jm_code 14 42 = some (.iastore, 1) := by decide +kernel
theorem c14_43 : jm_code 14 43 = some (.iload_n 3, 1) := by decide +kernel
theorem c14_44 : jm_code 14 44 = some (.ireturn, 1) := by decide +kernel
theorem c15_0 : jm_code 15 0 = some (.iload_n 1, 1) := by decide +kernel
theorem c15_1 : jm_code 15 1 = some (.iconst 0, 1) := by decide +kernel
theorem c15_2 : jm_code 15 2 = some (.iconst 3, 1) := by decide +kernel
theorem c15_3 : jm_code 15 3 = some (.invokestatic 86, 3) := by decide +kernel
theorem c15_6 : jm_code 15 6 = some (.ifCond .ne 14, 3) := by decide +kernel
theorem c15_9 : jm_code 15 9 = some (.iload_n 2, 1) := by decide +kernel
theorem c15_10 : jm_code 15 10 = some (.iconst 0, 1) := by decide +kernel
theorem c15_11 : jm_code 15 11 = some (.sipush 255, 3) := by decide +kernel
theorem c15_14 : jm_code 15 14 = some (.invokestatic 86, 3) := by decide +kernel
theorem c15_17 : jm_code 15 17 = some (.ifCond .eq 6, 3) := by decide +kernel
theorem c15_20 : jm_code 15 20 = some (.bipush (-2), 2) := by decide +kernel
theorem c15_22 : jm_code 15 22 = some (.ireturn, 1) := by decide +kernel
theorem c15_23 : jm_code 15 23 = some (.aload_n 0, 1) := by decide +kernel
theorem c15_24 : jm_code 15 24 = some (.getfield 30, 3) := by decide +kernel
theorem c15_27 : jm_code 15 27 = some (.iload_n 1, 1) := by decide +kernel
theorem c15_28 : jm_code 15 28 = some (.aaload, 1) := by decide +kernel
theorem c15_29 : jm_code 15 29 = some (.invokevirtual 141, 3) := by decide +kernel
theorem c15_32 : jm_code 15 32 = some (.ifCond .eq 6, 3) := by decide +kernel
theorem c15_35 : jm_code 15 35 = some (.bipush (-4), 2) := by decide +kernel
theorem c15_37 : jm_code 15 37 = some (.ireturn, 1) := by decide +kernel
theorem c15_38 : jm_code 15 38 = some (.aload_n 0, 1) := by decide +kernel
theorem c15_39 : jm_code 15 39 = some (.getfield 30, 3) := by decide +kernel
theorem c15_42 : jm_code 15 42 = some (.iload_n 1, 1) := by decide +kernel
theorem c15_43 : jm_code 15 43 = some (.aaload, 1) := by decide +kernel
theorem c15_44 : jm_code 15 44 = some (.iload_n 2, 1) := by decide +kernel
theorem c15_45 : jm_code 15 45 = some (.invokevirtual 142, 3) := by decide +kernel
theorem c15_48 : jm_code 15 48 = some (.aload_n 0, 1) := by decide +kernel
theorem c15_49 : jm_code 15 49 = some (.iload_n 1, 1) := by decide +kernel
theorem c15_50 : jm_code 15 50 = some (.invokevirtual 144, 3) := by decide +kernel
theorem c15_53 : jm_code 15 53 = some (.aload_n 0, 1) := by decide +kernel
theorem c15_54 : jm_code 15 54 = some (.getfield 30, 3) := by decide +kernel
theorem c15_57 : jm_code 15 57 = some (.iload_n 1, 1) := by decide +kernel
theorem c15_58 : jm_code 15 58 = some (.aaload, 1) := by decide +kernel
theorem c15_59 : jm_code 15 59 = some (.getfield 147, 3) := by decide +kernel
theorem c15_62 : jm_code 15 62 = some (.ireturn, 1) := by decide +kernel
theorem c16_0 : jm_code 16 0 = some (.aload_n 0, 1) := by decide +kernel
theorem c16_1 : jm_code 16 1 = some (.getfield 9, 3) := by decide +kernel
theorem c16_4 : jm_code 16 4 = some (.aload_n 0, 1) := by decide +kernel
theorem c16_5 : jm_code 16 5 = some (.getfield 21, 3) := by decide +kernel
theorem c16_8 : jm_code 16 8 = some (.arraylength, 1) := by decide +kernel
theorem c16_9 : jm_code 16 9 = some (.if_icmp .lt 7, 3) := by decide +kernel
theorem c16_12 : jm_code 16 12 = some (.iconst 1, 1) := by decide +kernel
theorem c16_13 : jm_code 16 13 = some (.goto 4, 3) := by decide +kernel
theorem c16_16 : jm_code 16 16 = some (.iconst 0, 1) := by decide +kernel
theorem c16_17 : jm_code 16 17 = some (.ireturn, 1) := by decide +kernel
theorem c17_0 : jm_code 17 0 = some (.aload_n 0, 1) := by decide +kernel
theorem c17_1 : jm_code 17 1 = some (.getfield 21, 3) := by decide +kernel
theorem c17_4 : jm_code 17 4 = some (.aload_n 0, 1) := by decide +kernel
theorem c17_5 : jm_code 17 5 = some (.getfield 9, 3) := by decide +kernel
theorem c17_8 : jm_code 17 8 = some (.iload_n 1, 1) := by decide +kernel
theorem c17_9 : jm_code 17 9 = some (.iastore, 1) := by decide +kernel
theorem c17_10 : jm_code 17 10 = some (.aload_n 0, 1) := by decide +kernel
theorem c17_11 : jm_code 17 11 = some (.dup, 1) := by decide +kernel
theorem c17_12 : jm_code 17 12 = some (.getfield 9, 3) := by decide +kernel
theorem c17_15 : jm_code 17 15 = some (.iconst 1, 1) := by decide +kernel
theorem c17_16 : jm_code 17 16 = some (.iadd, 1) := by decide +kernel
theorem c17_17 : jm_code 17 17 = some (.putfield 9, 3) := by decide +kernel
theorem c17_20 : jm_code 17 20 = some (.return_, 1) := by decide +kernel
theorem c18_0 : jm_code 18 0 = some (.iload_n 1, 1) := by decide +kernel
theorem c18_1 : jm_code 18 1 = some (.ifCond .ne 19, 3) := by decide +kernel
theorem c18_4 : jm_code 18 4 = some (.aload_n 0, 1) := by decide +kernel
theorem c18_5 : jm_code 18 5 = some (.getfield 37, 3) := by decide +kernel
theorem c18_8 : jm_code 18 8 = some (.aload_n 0, 1) := by decide +kernel
theorem c18_9 : jm_code 18 9 = some (.getfield 30, 3) := by decide +kernel
theorem c18_12 : jm_code 18 12 = some (.iconst 0, 1) := by decide +kernel
theorem c18_13 : jm_code 18 13 = some (.aaload, 1) := by decide +kernel
theorem c18_14 : jm_code 18 14 = some (.invokevirtual 326, 3) := by decide +kernel
theorem c18_17 : jm_code 18 17 = some (.goto 20, 3) := by decide +kernel
theorem c18_20 : jm_code 18 20 = some (.aload_n 0, 1) := by decide +kernel
theorem c18_21 : jm_code 18 21 = some (.getfield 43, 3) := by decide +kernel
theorem c18_24 : jm_code 18 24 = some (.iload_n 1, 1) := by decide +kernel
theorem c18_25 : jm_code 18 25 = some (.iconst 1, 1) := by decide +kernel
theorem c18_26 : jm_code 18 26 = some (.isub, 1) := by decide +kernel
theorem c18_27 : jm_code 18 27 = some (.aaload, 1) := by decide +kernel
theorem c18_28 : jm_code 18 28 = some (.aload_n 0, 1) := by decide +kernel
theorem c18_29 : jm_code 18 29 = some (.getfield 30, 3) := by decide +kernel
theorem c18_32 : jm_code 18 32 = some (.iload_n 1, 1) := by decide +kernel
theorem c18_33 : jm_code 18 33 = some (.aaload, 1) := by decide +kernel
theorem c18_34 : jm_code 18 34 = some (.invokevirtual 330, 3) := by decide +kernel
theorem c18_37 : jm_code 18 37 = some (.return_, 1) := by decide +kernel
theorem c19_0 : jm_code 19 0 = some (.aload_n 0, 1) := by decide +kernel
theorem c19_1 : jm_code 19 1 = some (.invokevirtual 26, 3) := by decide +kernel
theorem c19_4 : jm_code 19 4 = some (.aload_n 1, 1) := by decide +kernel
theorem c19_5 : jm_code 19 5 = some (.invokevirtual 29, 3) := by decide +kernel
theorem c19_8 : jm_code 19 8 = some (.aload_n 1, 1) := by decide +kernel
theorem c19_9 : jm_code 19 9 = some (.getfield 34, 3) := by decide +kernel
theorem c19_12 : jm_code 19 12 = some (.ifCond .le 7, 3) := by decide +kernel
theorem c19_15 : jm_code 19 15 = some (.iconst 1, 1) := by decide +kernel
theorem c19_16 : jm_code 19 16 = some (.goto 4, 3) := by decide +kernel
theorem c19_19 : jm_code 19 19 = some (.iconst 0, 1) := by decide +kernel
theorem c19_20 : jm_code 19 20 = some (.istore_n 2, 1) := by decide +kernel
theorem c19_21 : jm_code 19 21 = some (.iconst 0, 1) := by decide +kernel
theorem c19_22 : jm_code 19 22 = some (.istore_n 3, 1) := by decide +kernel
theorem c19_23 : jm_code 19 23 = some (.iload_n 2, 1) := by decide +kernel
theorem c19_24 : jm_code 19 24 = some (.ifCond .eq 27, 3) := by decide +kernel
theorem c19_27 : jm_code 19 27 = some (.iload_n 3, 1) := by decide +kernel
theorem c19_28 : jm_code 19 28 = some (.bipush 60, 2) := by decide +kernel
theorem c19_30 : jm_code 19 30 = some (.if_icmp .gt 21, 3) := by decide +kernel
theorem c19_33 : jm_code 19 33 = some (.aload_n 0, 1) := by decide +kernel
theorem c19_34 : jm_code 19 34 = some (.aload_n 1, 1) := by decide +kernel
theorem c19_35 : jm_code 19 35 = some (.invokevirtual 37, 3) := by decide +kernel
theorem c19_38 : jm_code 19 38 = some (.aload_n 1, 1) := by decide +kernel
theorem c19_39 : jm_code 19 39 = some (.bipush 59, 2) := by decide +kernel
theorem c19_41 : jm_code 19 41 = some (.invokevirtual 41, 3) := by decide +kernel
theorem c19_44 : jm_code 19 44 = some (.istore_n 2, 1) := by decide +kernel
theorem c19_45 : jm_code 19 45 = some (.iinc 3 1, 3) := by decide +kernel
theorem c19_48 : jm_code 19 48 = some (.goto (-25), 3) := by decide +kernel
theorem c19_51 : jm_code 19 51 = some (.aload_n 1, 1) := by decide +kernel
theorem c19_52 : jm_code 19 52 = some (.getfield 45, 3) := by decide +kernel
theorem c19_55 : jm_code 19 55 = some (.iconst (-1), 1) := by decide +kernel
theorem c19_56 : jm_code 19 56 = some (.if_icmp .eq 7, 3) := by decide +kernel
theorem c19_59 : jm_code 19 59 = some (.aload_n 0, 1) := by decide +kernel
theorem c19_60 : jm_code 19 60 = some (.invokevirtual 26, 3) := by decide +kernel
theorem c19_63 : jm_code 19 63 = some (.return_, 1) := by decide +kernel
theorem c20_0 : jm_code 20 0 = some (.aload_n 0, 1) := by decide +kernel
theorem c20_1 : jm_code 20 1 = some (.iconst 0, 1) := by decide +kernel
theorem c20_2 : jm_code 20 2 = some (.putfield 22, 3) := by decide +kernel
theorem c20_5 : jm_code 20 5 = some (.aload_n 0, 1) := by decide +kernel
theorem c20_6 : jm_code 20 6 = some (.getfield 9, 3) := by decide +kernel
theorem c20_9 : jm_code 20 9 = some (.iconst 0, 1) := by decide +kernel
theorem c20_10 : jm_code 20 10 = some (.invokestatic 48, 3) := by decide +kernel
theorem c20_13 : jm_code 20 13 = some (.aload_n 0, 1) := by decide +kernel
theorem c20_14 : jm_code 20 14 = some (.getfield 15, 3) := by decide +kernel
theorem c20_17 : jm_code 20 17 = some (.iconst 0, 1) := by decide +kernel
theorem c20_18 : jm_code 20 18 = some (.invokestatic 48, 3) := by decide +kernel
theorem c20_21 : jm_code 20 21 = some (.aload_n 0, 1) := by decide +kernel
theorem c20_22 : jm_code 20 22 = some (.iconst 0, 1) := by decide +kernel
theorem c20_23 : jm_code 20 23 = some (.invokevirtual 54, 3) := by decide +kernel
theorem c20_26 : jm_code 20 26 = some (.return_, 1) := by decide +kernel
theorem c21_0 : jm_code 21 0 = some (.iconst 0, 1) := by decide +kernel
theorem c21_1 : jm_code 21 1 = some (.istore_n 2, 1) := by decide +kernel
theorem c21_2 : jm_code 21 2 = some (.aload_n 0, 1) := by decide +kernel
theorem c21_3 : jm_code 21 3 = some (.arraylength, 1) := by decide +kernel
theorem c21_4 : jm_code 21 4 = some (.istore_n 3, 1) := by decide +kernel
theorem c21_5 : jm_code 21 5 = some (.iload_n 2, 1) := by decide +kernel
theorem c21_6 : jm_code 21 6 = some (.iload_n 3, 1) := by decide +kernel
theorem c21_7 : jm_code 21 7 = some (.if_icmp .ge 13, 3) := by decide +kernel
theorem c21_10 : jm_code 21 10 = some (.aload_n 0, 1) := by decide +kernel
theorem c21_11 : jm_code 21 11 = some (.iload_n 2, 1) := by decide +kernel
theorem c21_12 : jm_code 21 12 = some (.iload_n 1, 1) := by decide +kernel
theorem c21_13 : jm_code 21 13 = some (.iastore, 1) := by decide +kernel
theorem c21_14 : jm_code 21 14 = some (.iinc 2 1, 3) := by decide +kernel
theorem c21_17 : jm_code 21 17 = some (.goto (-12), 3) := by decide +kernel
theorem c21_20 : jm_code 21 20 = some (.return_, 1) := by decide +kernel
theorem c22_0 : jm_code 22 0 = some (.aload_n 0, 1) := by decide +kernel
theorem c22_1 : jm_code 22 1 = some (.getfield 22, 3) := by decide +kernel
theorem c22_4 : jm_code 22 4 = some (.istore_n 2, 1) := by decide +kernel
theorem c22_5 : jm_code 22 5 = some (.iload_n 2, 1) := by decide +kernel
theorem c22_6 : jm_code 22 6 = some (.sipush 200, 3) := by decide +kernel
theorem c22_9 : jm_code 22 9 = some (.if_icmp .ge 16, 3) := by decide +kernel
theorem c22_12 : jm_code 22 12 = some (.aload_n 0, 1) := by decide +kernel
theorem c22_13 : jm_code 22 13 = some (.getfield 18, 3) := by decide +kernel
theorem c22_16 : jm_code 22 16 = some (.iload_n 2, 1) := by decide +kernel
theorem c22_17 : jm_code 22 17 = some (.iload_n 1, 1) := by decide +kernel
theorem c22_18 : jm_code 22 18 = some (.bastore, 1) := by decide +kernel
theorem c22_19 : jm_code 22 19 = some (.iinc 2 1, 3) := by decide +kernel
theorem c22_22 : jm_code 22 22 = some (.goto (-17), 3) := by decide +kernel
theorem c22_25 : jm_code 22 25 = some (.return_, 1) := by decide +kernel
theorem c23_0 : jm_code 23 0 = some (.aload_n 0, 1) := by decide +kernel
theorem c23_1 : jm_code 23 1 = some (.iconst 0, 1) := by decide +kernel
theorem c23_2 : jm_code 23 2 = some (.putfield 15, 3) := by decide +kernel
theorem c23_5 : jm_code 23 5 = some (.aload_n 0, 1) := by decide +kernel
theorem c23_6 : jm_code 23 6 = some (.iconst (-1), 1) := by decide +kernel
theorem c23_7 : jm_code 23 7 = some (.putfield 18, 3) := by decide +kernel
theorem c23_10 : jm_code 23 10 = some (.return_, 1) := by decide +kernel
theorem c24_0 : jm_code 24 0 = some (.aload_n 1, 1) := by decide +kernel
theorem c24_1 : jm_code 24 1 = some (.bipush 104, 2) := by decide +kernel
theorem c24_3 : jm_code 24 3 = some (.invokevirtual 58, 3) := by decide +kernel
theorem c24_6 : jm_code 24 6 = some (.ifCond .eq 48, 3) := by decide +kernel
theorem c24_9 : jm_code 24 9 = some (.aload_n 1, 1) := by decide +kernel
theorem c24_10 : jm_code 24 10 = some (.iconst 2, 1) := by decide +kernel
theorem c24_11 : jm_code 24 11 = some (.iconst 0, 1) := by decide +kernel
theorem c24_12 : jm_code 24 12 = some (.bipush 99, 2) := by decide +kernel
theorem c24_14 : jm_code 24 14 = some (.invokevirtual 61, 3) := by decide +kernel
theorem c24_17 : jm_code 24 17 = some (.istore_n 2, 1) := by decide +kernel
theorem c24_18 : jm_code 24 18 = some (.aload_n 1, 1) := by decide +kernel
theorem c24_19 : jm_code 24 19 = some (.bipush 120, 2) := by decide +kernel
theorem c24_21 : jm_code 24 21 = some (.invokevirtual 65, 3) := by decide +kernel
theorem c24_24 : jm_code 24 24 = some (.aload_n 1, 1) := by decide +kernel
theorem c24_25 : jm_code 24 25 = some (.iconst 2, 1) := by decide +kernel
theorem c24_26 : jm_code 24 26 = some (.iconst 1, 1) := by decide +kernel
theorem c24_27 : jm_code 24 27 = some (.bipush 99, 2) := by decide +kernel
theorem c24_29 : jm_code 24 29 = some (.invokevirtual 61, 3) := by decide +kernel
theorem c24_32 : jm_code 24 32 = some (.istore_n 3, 1) := by decide +kernel
theorem c24_33 : jm_code 24 33 = some (.aload_n 0, 1) := by decide +kernel
theorem c24_34 : jm_code 24 34 = some (.iload_n 2, 1) := by decide +kernel
theorem c24_35 : jm_code 24 35 = some (.aload_n 1, 1) := by decide +kernel
theorem c24_36 : jm_code 24 36 = some (.getfield 45, 3) := by decide +kernel
theorem c24_39 : jm_code 24 39 = some (.iconst (-1), 1) := by decide +kernel
theorem c24_40 : jm_code 24 40 = some (.if_icmp .ne 7, 3) := by decide +kernel
theorem c24_43 : jm_code 24 43 = some (.iload_n 3, 1) := by decide +kernel
theorem c24_44 : jm_code 24 44 = some (.goto 4, 3) := by decide +kernel
theorem c24_47 : jm_code 24 47 = some (.iconst 0, 1) := by decide +kernel
theorem c24_48 : jm_code 24 48 = some (.invokevirtual 69, 3) := by decide +kernel
theorem c24_51 : jm_code 24 51 = some (.goto 80, 3) := by decide +kernel
theorem c24_54 : jm_code 24 54 = some (.aload_n 1, 1) := by decide +kernel
theorem c24_55 : jm_code 24 55 = some (.bipush 115, 2) := by decide +kernel
theorem c24_57 : jm_code 24 57 = some (.invokevirtual 58, 3) := by decide +kernel
theorem c24_60 : jm_code 24 60 = some (.ifCond .eq 29, 3) := by decide +kernel
theorem c24_63 : jm_code 24 63 = some (.aload_n 0, 1) := by decide +kernel
theorem c24_64 : jm_code 24 64 = some (.getfield 22, 3) := by decide +kernel
theorem c24_67 : jm_code 24 67 = some (.sipush 200, 3) := by decide +kernel
theorem c24_70 : jm_code 24 70 = some (.if_icmp .ge 61, 3) := by decide +kernel
theorem c24_73 : jm_code 24 73 = some (.aload_n 0, 1) := by decide +kernel
theorem c24_74 : jm_code 24 74 = some (.getfield 15, 3) := by decide +kernel
theorem c24_77 : jm_code 24 77 = some (.aload_n 0, 1) := by decide +kernel
theorem c24_78 : jm_code 24 78 = some (.getfield 22, 3) := by decide +kernel
theorem c24_81 : jm_code 24 81 = some (.dup2, 1) := by decide +kernel
theorem c24_82 : jm_code 24 82 = some (.iaload, 1) := by decide +kernel
theorem c24_83 : jm_code 24 83 = some (.iconst 1, 1) := by decide +kernel
theorem c24_84 : jm_code 24 84 = some (.iadd, 1) := by decide +kernel
theorem c24_85 : jm_code 24 85 = some (.iastore, 1) := by decide +kernel
theorem c24_86 : jm_code 24 86 = some (.goto 45, 3) := by decide +kernel
theorem c24_89 : jm_code 24 89 = some (.aload_n 1, 1) := by decide +kernel
theorem c24_90 : jm_code 24 90 = some (.bipush 108, 2) := by decide +kernel
theorem c24_92 : jm_code 24 92 = some (.invokevirtual 58, 3) := by decide +kernel
theorem c24_95 : jm_code 24 95 = some (.ifCond .eq 11, 3) := by decide +kernel
theorem c24_98 : jm_code 24 98 = some (.aload_n 0, 1) := by decide +kernel
theorem c24_99 : jm_code 24 99 = some (.iconst 1, 1) := by decide +kernel
theorem c24_100 : jm_code 24 100 = some (.invokevirtual 54, 3) := by decide +kernel
theorem c24_103 : jm_code 24 103 = some (.goto 28, 3) := by decide +kernel
theorem c24_106 : jm_code 24 106 = some (.aload_n 1, 1) := by decide +kernel
theorem c24_107 : jm_code 24 107 = some (.bipush 111, 2) := by decide +kernel
theorem c24_109 : jm_code 24 109 = some (.invokevirtual 58, 3) := by decide +kernel
theorem c24_112 : jm_code 24 112 = some (.ifCond .eq 11, 3) := by decide +kernel
theorem c24_115 : jm_code 24 115 = some (.aload_n 0, 1) := by decide +kernel
theorem c24_116 : jm_code 24 116 = some (.iconst 0, 1) := by decide +kernel
theorem c24_117 : jm_code 24 117 = some (.invokevirtual 54, 3) := by decide +kernel
theorem c24_120 : jm_code 24 120 = some (.goto 11, 3) := by decide +kernel
theorem c24_123 : jm_code 24 123 = some (.aload_n 1, 1) := by decide +kernel
theorem c24_124 : jm_code 24 124 = some (.aload_n 1, 1) := by decide +kernel
theorem c24_125 : jm_code 24 125 = some (.getfield 73, 3) := by decide +kernel
theorem c24_128 : jm_code 24 128 = some (.invokevirtual 76, 3) := by decide +kernel
theorem c24_131 : jm_code 24 131 = some (.return_, 1) := by decide +kernel
theorem c25_0 : jm_code 25 0 = some (.aload_n 0, 1) := by decide +kernel
theorem c25_1 : jm_code 25 1 = some (.getfield 18, 3) := by decide +kernel
theorem c25_4 : jm_code 25 4 = some (.iconst (-1), 1) := by decide +kernel
theorem c25_5 : jm_code 25 5 = some (.if_icmp .ne 27, 3) := by decide +kernel
theorem c25_8 : jm_code 25 8 = some (.aload_n 0, 1) := by decide +kernel
theorem c25_9 : jm_code 25 9 = some (.getfield 15, 3) := by decide +kernel
theorem c25_12 : jm_code 25 12 = some (.aload_n 0, 1) := by decide +kernel
theorem c25_13 : jm_code 25 13 = some (.getfield 9, 3) := by decide +kernel
theorem c25_16 : jm_code 25 16 = some (.if_icmp .ge 16, 3) := by decide +kernel
theorem c25_19 : jm_code 25 19 = some (.aload_n 0, 1) := by decide +kernel
theorem c25_20 : jm_code 25 20 = some (.getfield 21, 3) := by decide +kernel
theorem c25_23 : jm_code 25 23 = some (.aload_n 0, 1) := by decide +kernel
theorem c25_24 : jm_code 25 24 = some (.getfield 15, 3) := by decide +kernel
theorem c25_27 : jm_code 25 27 = some (.iaload, 1) := by decide +kernel
theorem c25_28 : jm_code 25 28 = some (.iload_n 1, 1) := by decide +kernel
theorem c25_29 : jm_code 25 29 = some (.if_icmp .eq 5, 3) := by decide +kernel
theorem c25_32 : jm_code 25 32 = some (.iconst 0, 1) := by decide +kernel
theorem c25_33 : jm_code 25 33 = some (.ireturn, 1) := by decide +kernel
theorem c25_34 : jm_code 25 34 = some (.aload_n 0, 1) := by decide +kernel
theorem c25_35 : jm_code 25 35 = some (.dup, 1) := by decide +kernel
theorem c25_36 : jm_code 25 36 = some (.getfield 15, 3) := by decide +kernel
theorem c25_39 : jm_code 25 39 = some (.iconst 1, 1) := by decide +kernel
theorem c25_40 : jm_code 25 40 = some (.iadd, 1) := by decide +kernel
theorem c25_41 : jm_code 25 41 = some (.putfield 15, 3) := by decide +kernel
theorem c25_44 : jm_code 25 44 = some (.iconst 1, 1) := by decide +kernel
theorem c25_45 : jm_code 25 45 = some (.ireturn, 1) := by decide +kernel
theorem c26_0 : jm_code 26 0 = some (.aload_n 0, 1) := by decide +kernel
theorem c26_1 : jm_code 26 1 = some (.getfield 18, 3) := by decide +kernel
theorem c26_4 : jm_code 26 4 = some (.iconst (-1), 1) := by decide +kernel
theorem c26_5 : jm_code 26 5 = some (.if_icmp .eq 5, 3) := by decide +kernel
theorem c26_8 : jm_code 26 8 = some (.iload_n 2, 1) := by decide +kernel
theorem c26_9 : jm_code 26 9 = some (.ireturn, 1) := by decide +kernel
theorem c26_10 : jm_code 26 10 = some (.aload_n 0, 1) := by decide +kernel
theorem c26_11 : jm_code 26 11 = some (.getfield 15, 3) := by decide +kernel
theorem c26_14 : jm_code 26 14 = some (.istore 4, 2) := by decide +kernel
theorem c26_16 : jm_code 26 16 = some (.iconst 0, 1) := by decide +kernel
theorem c26_17 : jm_code 26 17 = some (.istore 5, 2) := by decide +kernel
theorem c26_19 : jm_code 26 19 = some (.aload_n 0, 1) := by decide +kernel
theorem c26_20 : jm_code 26 20 = some (.getfield 15, 3) := by decide +kernel
theorem c26_23 : jm_code 26 23 = some (.aload_n 0, 1) := by decide +kernel
theorem c26_24 : jm_code 26 24 = some (.getfield 9, 3) := by decide +kernel
theorem c26_27 : jm_code 26 27 = some (.if_icmp .ge 75, 3) := by decide +kernel
theorem c26_30 : jm_code 26 30 = some (.aload_n 0, 1) := by decide +kernel
theorem c26_31 : jm_code 26 31 = some (.getfield 15, 3) := by decide +kernel
theorem c26_34 : jm_code 26 34 = some (.iload 4, 2) := by decide +kernel
theorem c26_36 : jm_code 26 36 = some (.isub, 1) := by decide +kernel
theorem c26_37 : jm_code 26 37 = some (.iload_n 1, 1) := by decide +kernel
theorem c26_38 : jm_code 26 38 = some (.if_icmp .ge 64, 3) := by decide +kernel
theorem c26_41 : jm_code 26 41 = some (.aload_n 0, 1) := by decide +kernel
theorem c26_42 : jm_code 26 42 = some (.getfield 21, 3) := by decide +kernel
theorem c26_45 : jm_code 26 45 = some (.aload_n 0, 1) := by decide +kernel
theorem c26_46 : jm_code 26 46 = some (.getfield 15, 3) := by decide +kernel
theorem c26_49 : jm_code 26 49 = some (.iaload, 1) := by decide +kernel
theorem c26_50 : jm_code 26 50 = some (.bipush 48, 2) := by decide +kernel
theorem c26_52 : jm_code 26 52 = some (.if_icmp .lt 50, 3) := by decide +kernel
theorem c26_55 : jm_code 26 55 = some (.aload_n 0, 1) := by decide +kernel
theorem c26_56 : jm_code 26 56 = some (.getfield 21, 3) := by decide +kernel
theorem c26_59 : jm_code 26 59 = some (.aload_n 0, 1) := by decide +kernel
theorem c26_60 : jm_code 26 60 = some (.getfield 15, 3) := by decide +kernel
theorem c26_63 : jm_code 26 63 = some (.iaload, 1) := by decide +kernel
theorem c26_64 : jm_code 26 64 = some (.bipush 57, 2) := by decide +kernel
theorem c26_66 : jm_code 26 66 = some (.if_icmp .gt 36, 3) := by decide +kernel
theorem c26_69 : jm_code 26 69 = some (.bipush 10, 2) := by decide +kernel
theorem c26_71 : jm_code 26 71 = some (.iload 5, 2) := by decide +kernel
theorem c26_73 : jm_code 26 73 = some (.imul, 1) := by decide +kernel
theorem c26_74 : jm_code 26 74 = some (.aload_n 0, 1) := by decide +kernel
theorem c26_75 : jm_code 26 75 = some (.getfield 21, 3) := by decide +kernel
theorem c26_78 : jm_code 26 78 = some (.aload_n 0, 1) := by decide +kernel
theorem c26_79 : jm_code 26 79 = some (.getfield 15, 3) := by decide +kernel
theorem c26_82 : jm_code 26 82 = some (.iaload, 1) := by decide +kernel
theorem c26_83 : jm_code 26 83 = some (.iadd, 1) := by decide +kernel
theorem c26_84 : jm_code 26 84 = some (.bipush 48, 2) := by decide +kernel
theorem c26_86 : jm_code 26 86 = some (.isub, 1) := by decide +kernel
theorem c26_87 : jm_code 26 87 = some (.istore 5, 2) := by decide +kernel
theorem c26_89 : jm_code 26 89 = some (.aload_n 0, 1) := by decide +kernel
theorem c26_90 : jm_code 26 90 = some (.dup, 1) := by decide +kernel
theorem c26_91 : jm_code 26 91 = some (.getfield 15, 3) := by decide +kernel
theorem c26_94 : jm_code 26 94 = some (.iconst 1, 1) := by decide +kernel
theorem c26_95 : jm_code 26 95 = some (.iadd, 1) := by decide +kernel
theorem c26_96 : jm_code 26 96 = some (.putfield 15, 3) := by decide +kernel
theorem c26_99 : jm_code 26 99 = some (.goto (-80), 3) := by decide +kernel
theorem c26_102 : jm_code 26 102 = some (.aload_n 0, 1) := by decide +kernel
theorem c26_103 : jm_code 26 103 = some (.getfield 15, 3) := by decide +kernel
theorem c26_106 : jm_code 26 106 = some (.iload 4, 2) := by decide +kernel
theorem c26_108 : jm_code 26 108 = some (.if_icmp .eq 15, 3) := by decide +kernel
theorem c26_111 : jm_code 26 111 = some (.iload 5, 2) := by decide +kernel
theorem c26_113 : jm_code 26 113 = some (.iload_n 2, 1) := by decide +kernel
theorem c26_114 : jm_code 26 114 = some (.if_icmp .lt 9, 3) := by decide +kernel
theorem c26_117 : jm_code 26 117 = some (.iload 5, 2) := by decide +kernel
theorem c26_119 : jm_code 26 119 = some (.iload_n 3, 1) := by decide +kernel
theorem c26_120 : jm_code 26 120 = some (.if_icmp .le 9, 3) := by decide +kernel
theorem c26_123 : jm_code 26 123 = some (.aload_n 0, 1) := by decide +kernel
theorem c26_124 : jm_code 26 124 = some (.iload 4, 2) := by decide +kernel
theorem c26_126 : jm_code 26 126 = some (.invokevirtual 29, 3) := by decide +kernel
theorem c26_129 : jm_code 26 129 = some (.iload 5, 2) := by decide +kernel
theorem c26_131 : jm_code 26 131 = some (.ireturn, 1) := by decide +kernel
theorem c27_0 : jm_code 27 0 = some (.aload_n 0, 1) := by decide +kernel
theorem c27_1 : jm_code 27 1 = some (.getfield 18, 3) := by decide +kernel
theorem c27_4 : jm_code 27 4 = some (.iconst (-1), 1) := by decide +kernel
theorem c27_5 : jm_code 27 5 = some (.if_icmp .ne 8, 3) := by decide +kernel
theorem c27_8 : jm_code 27 8 = some (.aload_n 0, 1) := by decide +kernel
theorem c27_9 : jm_code 27 9 = some (.iload_n 1, 1) := by decide +kernel
theorem c27_10 : jm_code 27 10 = some (.putfield 18, 3) := by decide +kernel
theorem c27_13 : jm_code 27 13 = some (.return_, 1) := by decide +kernel
theorem c28_0 : jm_code 28 0 = some (.aload_n 0, 1) := by decide +kernel
theorem c28_1 : jm_code 28 1 = some (.iload_n 1, 1) := by decide +kernel
theorem c28_2 : jm_code 28 2 = some (.invokevirtual 25, 3) := by decide +kernel
theorem c28_5 : jm_code 28 5 = some (.ifCond .ne 11, 3) := by decide +kernel
theorem c28_8 : jm_code 28 8 = some (.aload_n 0, 1) := by decide +kernel
theorem c28_9 : jm_code 28 9 = some (.aload_n 0, 1) := by decide +kernel
theorem c28_10 : jm_code 28 10 = some (.getfield 15, 3) := by decide +kernel
theorem c28_13 : jm_code 28 13 = some (.invokevirtual 29, 3) := by decide +kernel
theorem c28_16 : jm_code 28 16 = some (.return_, 1) := by decide +kernel
theorem c29_0 : jm_code 29 0 = some (.aload_n 0, 1) := by decide +kernel
theorem c29_1 : jm_code 29 1 = some (.getfield 22, 3) := by decide +kernel
theorem c29_4 : jm_code 29 4 = some (.istore_n 3, 1) := by decide +kernel
theorem c29_5 : jm_code 29 5 = some (.iload_n 3, 1) := by decide +kernel
theorem c29_6 : jm_code 29 6 = some (.aload_n 0, 1) := by decide +kernel
theorem c29_7 : jm_code 29 7 = some (.getfield 22, 3) := by decide +kernel
theorem c29_10 : jm_code 29 10 = some (.iload_n 2, 1) := by decide +kernel
theorem c29_11 : jm_code 29 11 = some (.iadd, 1) := by decide +kernel
theorem c29_12 : jm_code 29 12 = some (.if_icmp .ge 23, 3) := by decide +kernel
theorem c29_15 : jm_code 29 15 = some (.iload_n 3, 1) := by decide +kernel
theorem c29_16 : jm_code 29 16 = some (.sipush 200, 3) := by decide +kernel
theorem c29_19 : jm_code 29 19 = some (.if_icmp .ge 16, 3) := by decide +kernel
theorem c29_22 : jm_code 29 22 = some (.aload_n 0, 1) := by decide +kernel
theorem c29_23 : jm_code 29 23 = some (.getfield 9, 3) := by decide +kernel
theorem c29_26 : jm_code 29 26 = some (.iload_n 3, 1) := by decide +kernel
theorem c29_27 : jm_code 29 27 = some (.iload_n 1, 1) := by decide +kernel
theorem c29_28 : jm_code 29 28 = some (.iastore, 1) := by decide +kernel
theorem c29_29 : jm_code 29 29 = some (.iinc 3 1, 3) := by decide +kernel
theorem c29_32 : jm_code 29 32 = some (.goto (-27), 3) := by decide +kernel
theorem c29_35 : jm_code 29 35 = some (.aload_n 0, 1) := by decide +kernel
theorem c29_36 : jm_code 29 36 = some (.dup, 1) := by decide +kernel
theorem c29_37 : jm_code 29 37 = some (.getfield 22, 3) := by decide +kernel
theorem c29_40 : jm_code 29 40 = some (.iload_n 2, 1) := by decide +kernel
theorem c29_41 : jm_code 29 41 = some (.iadd, 1) := by decide +kernel
theorem c29_42 : jm_code 29 42 = some (.putfield 22, 3) := by decide +kernel
theorem c29_45 : jm_code 29 45 = some (.return_, 1) := by decide +kernel
theorem c30_0 : jm_code 30 0 = some (.aload_n 0, 1) := by decide +kernel
theorem c30_1 : jm_code 30 1 = some (.getfield 18, 3) := by decide +kernel
theorem c30_4 : jm_code 30 4 = some (.iconst (-1), 1) := by decide +kernel
theorem c30_5 : jm_code 30 5 = some (.if_icmp .ne 14, 3) := by decide +kernel
theorem c30_8 : jm_code 30 8 = some (.aload_n 0, 1) := by decide +kernel
theorem c30_9 : jm_code 30 9 = some (.getfield 15, 3) := by decide +kernel
theorem c30_12 : jm_code 30 12 = some (.aload_n 0, 1) := by decide +kernel
theorem c30_13 : jm_code 30 13 = some (.getfield 9, 3) := by decide +kernel
theorem c30_16 : jm_code 30 16 = some (.if_icmp .lt 5, 3) := by decide +kernel
theorem c30_19 : jm_code 30 19 = some (.iconst 0, 1) := by decide +kernel
theorem c30_20 : jm_code 30 20 = some (.ireturn, 1) := by decide +kernel
theorem c30_21 : jm_code 30 21 = some (.aload_n 0, 1) := by decide +kernel
theorem c30_22 : jm_code 30 22 = some (.iload_n 1, 1) := by decide +kernel
theorem c30_23 : jm_code 30 23 = some (.invokevirtual 33, 3) := by decide +kernel
theorem c30_26 : jm_code 30 26 = some (.aload_n 0, 1) := by decide +kernel
theorem c30_27 : jm_code 30 27 = some (.getfield 18, 3) := by decide +kernel
theorem c30_30 : jm_code 30 30 = some (.iconst (-1), 1) := by decide +kernel
theorem c30_31 : jm_code 30 31 = some (.if_icmp .ne 7, 3) := by decide +kernel
theorem c30_34 : jm_code 30 34 = some (.iconst 1, 1) := by decide +kernel
theorem c30_35 : jm_code 30 35 = some (.goto 4, 3) := by decide +kernel
theorem c30_38 : jm_code 30 38 = some (.iconst 0, 1) := by decide +kernel
theorem c30_39 : jm_code 30 39 = some (.ireturn, 1) := by decide +kernel
theorem c31_0 : jm_code 31 0 = some (.aload_n 0, 1) := by decide +kernel
theorem c31_1 : jm_code 31 1 = some (.sipush 1000, 3) := by decide +kernel
theorem c31_4 : jm_code 31 4 = some (.putfield 11, 3) := by decide +kernel
theorem c31_7 : jm_code 31 7 = some (.aload_n 0, 1) := by decide +kernel
theorem c31_8 : jm_code 31 8 = some (.sipush 1000, 3) := by decide +kernel
theorem c31_11 : jm_code 31 11 = some (.putfield 15, 3) := by decide +kernel
theorem c31_14 : jm_code 31 14 = some (.aload_n 0, 1) := by decide +kernel
theorem c31_15 : jm_code 31 15 = some (.sipush 1000, 3) := by decide +kernel
theorem c31_18 : jm_code 31 18 = some (.putfield 18, 3) := by decide +kernel
theorem c31_21 : jm_code 31 21 = some (.aload_n 1, 1) := by decide +kernel
theorem c31_22 : jm_code 31 22 = some (.invokevirtual 21, 3) := by decide +kernel
theorem c31_25 : jm_code 31 25 = some (.aload_n 1, 1) := by decide +kernel
theorem c31_26 : jm_code 31 26 = some (.getfield 26, 3) := by decide +kernel
theorem c31_29 : jm_code 31 29 = some (.ifCond .le 7, 3) := by decide +kernel
theorem c31_32 : jm_code 31 32 = some (.iconst 1, 1) := by decide +kernel
theorem c31_33 : jm_code 31 33 = some (.goto 4, 3) := by decide +kernel
theorem c31_36 : jm_code 31 36 = some (.iconst 0, 1) := by decide +kernel
theorem c31_37 : jm_code 31 37 = some (.istore_n 2, 1) := by decide +kernel
theorem c31_38 : jm_code 31 38 = some (.iconst 0, 1) := by decide +kernel
theorem c31_39 : jm_code 31 39 = some (.istore_n 3, 1) := by decide +kernel
theorem c31_40 : jm_code 31 40 = some (.iload_n 2, 1) := by decide +kernel
theorem c31_41 : jm_code 31 41 = some (.ifCond .eq 27, 3) := by decide +kernel
theorem c31_44 : jm_code 31 44 = some (.iload_n 3, 1) := by decide +kernel
theorem c31_45 : jm_code 31 45 = some (.bipush 30, 2) := by decide +kernel
theorem c31_47 : jm_code 31 47 = some (.if_icmp .gt 21, 3) := by decide +kernel
theorem c31_50 : jm_code 31 50 = some (.aload_n 0, 1) := by decide +kernel
theorem c31_51 : jm_code 31 51 = some (.aload_n 1, 1) := by decide +kernel
theorem c31_52 : jm_code 31 52 = some (.invokevirtual 29, 3) := by decide +kernel
theorem c31_55 : jm_code 31 55 = some (.aload_n 1, 1) := by decide +kernel
theorem c31_56 : jm_code 31 56 = some (.bipush 124, 2) := by decide +kernel
theorem c31_58 : jm_code 31 58 = some (.invokevirtual 33, 3) := by decide +kernel
theorem c31_61 : jm_code 31 61 = some (.istore_n 2, 1) := by decide +kernel
theorem c31_62 : jm_code 31 62 = some (.iinc 3 1, 3) := by decide +kernel
theorem c31_65 : jm_code 31 65 = some (.goto (-25), 3) := by decide +kernel
theorem c31_68 : jm_code 31 68 = some (.return_, 1) := by decide +kernel
theorem c32_0 : jm_code 32 0 = some (.aload_n 1, 1) := by decide +kernel
theorem c32_1 : jm_code 32 1 = some (.bipush 103, 2) := by decide +kernel
theorem c32_3 : jm_code 32 3 = some (.invokevirtual 37, 3) := by decide +kernel
theorem c32_6 : jm_code 32 6 = some (.ifCond .eq 25, 3) := by decide +kernel
theorem c32_9 : jm_code 32 9 = some (.aload_n 0, 1) := by decide +kernel
theorem c32_10 : jm_code 32 10 = some (.aload_n 0, 1) := by decide +kernel
theorem c32_11 : jm_code 32 11 = some (.getfield 11, 3) := by decide +kernel
theorem c32_14 : jm_code 32 14 = some (.aload_n 1, 1) := by decide +kernel
theorem c32_15 : jm_code 32 15 = some (.iconst 2, 1) := by decide +kernel
theorem c32_16 : jm_code 32 16 = some (.iconst 1, 1) := by decide +kernel
theorem c32_17 : jm_code 32 17 = some (.bipush 99, 2) := by decide +kernel
theorem c32_19 : jm_code 32 19 = some (.invokevirtual 40, 3) := by decide +kernel
theorem c32_22 : jm_code 32 22 = some (.invokestatic 44, 3) := by decide +kernel
theorem c32_25 : jm_code 32 25 = some (.putfield 11, 3) := by decide +kernel
theorem c32_28 : jm_code 32 28 = some (.goto 74, 3) := by decide +kernel
theorem c32_31 : jm_code 32 31 = some (.aload_n 1, 1) := by decide +kernel
theorem c32_32 : jm_code 32 32 = some (.bipush 110, 2) := by decide +kernel
theorem c32_34 : jm_code 32 34 = some (.invokevirtual 37, 3) := by decide +kernel
theorem c32_37 : jm_code 32 37 = some (.ifCond .eq 25, 3) := by decide +kernel
theorem c32_40 : jm_code 32 40 = some (.aload_n 0, 1) := by decide +kernel
theorem c32_41 : jm_code 32 41 = some (.aload_n 0, 1) := by decide +kernel
theorem c32_42 : jm_code 32 42 = some (.getfield 15, 3) := by decide +kernel
theorem c32_45 : jm_code 32 45 = some (.aload_n 1, 1) := by decide +kernel
theorem c32_46 : jm_code 32 46 = some (.iconst 2, 1) := by decide +kernel
theorem c32_47 : jm_code 32 47 = some (.iconst 1, 1) := by decide +kernel
theorem c32_48 : jm_code 32 48 = some (.bipush 99, 2) := by decide +kernel
theorem c32_50 : jm_code 32 50 = some (.invokevirtual 40, 3) := by decide +kernel
theorem c32_53 : jm_code 32 53 = some (.invokestatic 44, 3) := by decide +kernel
theorem c32_56 : jm_code 32 56 = some (.putfield 15, 3) := by decide +kernel
theorem c32_59 : jm_code 32 59 = some (.goto 43, 3) := by decide +kernel
theorem c32_62 : jm_code 32 62 = some (.aload_n 1, 1) := by decide +kernel
theorem c32_63 : jm_code 32 63 = some (.bipush 116, 2) := by decide +kernel
theorem c32_65 : jm_code 32 65 = some (.invokevirtual 37, 3) := by decide +kernel
theorem c32_68 : jm_code 32 68 = some (.ifCond .eq 26, 3) := by decide +kernel
theorem c32_71 : jm_code 32 71 = some (.aload_n 0, 1) := by decide +kernel
theorem c32_72 : jm_code 32 72 = some (.aload_n 0, 1) := by decide +kernel
theorem c32_73 : jm_code 32 73 = some (.getfield 18, 3) := by decide +kernel
theorem c32_76 : jm_code 32 76 = some (.aload_n 1, 1) := by decide +kernel
theorem c32_77 : jm_code 32 77 = some (.iconst 3, 1) := by decide +kernel
theorem c32_78 : jm_code 32 78 = some (.iconst 1, 1) := by decide +kernel
theorem c32_79 : jm_code 32 79 = some (.sipush 200, 3) := by decide +kernel
theorem c32_82 : jm_code 32 82 = some (.invokevirtual 40, 3) := by decide +kernel
theorem c32_85 : jm_code 32 85 = some (.invokestatic 44, 3) := by decide +kernel
theorem c32_88 : jm_code 32 88 = some (.putfield 18, 3) := by decide +kernel
theorem c32_91 : jm_code 32 91 = some (.goto 11, 3) := by decide +kernel
theorem c32_94 : jm_code 32 94 = some (.aload_n 1, 1) := by decide +kernel
theorem c32_95 : jm_code 32 95 = some (.aload_n 1, 1) := by decide +kernel
theorem c32_96 : jm_code 32 96 = some (.getfield 50, 3) := by decide +kernel
theorem c32_99 : jm_code 32 99 = some (.invokevirtual 53, 3) := by decide +kernel
theorem c32_102 : jm_code 32 102 = some (.return_, 1) := by decide +kernel
theorem c33_0 : jm_code 33 0 = some (.iload_n 1, 1) := by decide +kernel
theorem c33_1 : jm_code 33 1 = some (.iconst 0, 1) := by decide +kernel
theorem c33_2 : jm_code 33 2 = some (.iconst 3, 1) := by decide +kernel
theorem c33_3 : jm_code 33 3 = some (.invokestatic 86, 3) := by decide +kernel
theorem c33_6 : jm_code 33 6 = some (.ifCond .eq 6, 3) := by decide +kernel
theorem c33_9 : jm_code 33 9 = some (.bipush (-2), 2) := by decide +kernel
theorem c33_11 : jm_code 33 11 = some (.ireturn, 1) := by decide +kernel
theorem c33_12 : jm_code 33 12 = some (.aload_n 0, 1) := by decide +kernel
theorem c33_13 : jm_code 33 13 = some (.getfield 30, 3) := by decide +kernel
theorem c33_16 : jm_code 33 16 = some (.iload_n 1, 1) := by decide +kernel
theorem c33_17 : jm_code 33 17 = some (.aaload, 1) := by decide +kernel
theorem c33_18 : jm_code 33 18 = some (.getfield 147, 3) := by decide +kernel
theorem c33_21 : jm_code 33 21 = some (.istore_n 2, 1) := by decide +kernel
theorem c33_22 : jm_code 33 22 = some (.aload_n 0, 1) := by decide +kernel
theorem c33_23 : jm_code 33 23 = some (.getfield 30, 3) := by decide +kernel
theorem c33_26 : jm_code 33 26 = some (.iload_n 1, 1) := by decide +kernel
theorem c33_27 : jm_code 33 27 = some (.aaload, 1) := by decide +kernel
theorem c33_28 : jm_code 33 28 = some (.iconst 0, 1) := by decide +kernel
theorem c33_29 : jm_code 33 29 = some (.putfield 147, 3) := by decide +kernel
theorem c33_32 : jm_code 33 32 = some (.aload_n 0, 1) := by decide +kernel
theorem c33_33 : jm_code 33 33 = some (.iload_n 1, 1) := by decide +kernel
theorem c33_34 : jm_code 33 34 = some (.invokevirtual 144, 3) := by decide +kernel
theorem c33_37 : jm_code 33 37 = some (.iload_n 2, 1) := by decide +kernel
theorem c33_38 : jm_code 33 38 = some (.ireturn, 1) := by decide +kernel
theorem c34_0 : jm_code 34 0 = some (.iload_n 1, 1) := by decide +kernel
theorem c34_1 : jm_code 34 1 = some (.iconst 0, 1) := by decide +kernel
theorem c34_2 : jm_code 34 2 = some (.iconst 3, 1) := by decide +kernel
theorem c34_3 : jm_code 34 3 = some (.invokestatic 86, 3) := by decide +kernel
theorem c34_6 : jm_code 34 6 = some (.ifCond .eq 6, 3) := by decide +kernel
theorem c34_9 : jm_code 34 9 = some (.bipush (-2), 2) := by decide +kernel
theorem c34_11 : jm_code 34 11 = some (.ireturn, 1) := by decide +kernel
theorem c34_12 : jm_code 34 12 = some (.aload_n 0, 1) := by decide +kernel
theorem c34_13 : jm_code 34 13 = some (.getfield 30, 3) := by decide +kernel
theorem c34_16 : jm_code 34 16 = some (.iload_n 1, 1) := by decide +kernel
theorem c34_17 : jm_code 34 17 = some (.aaload, 1) := by decide +kernel
theorem c34_18 : jm_code 34 18 = some (.getfield 148, 3) := by decide +kernel
theorem c34_21 : jm_code 34 21 = some (.ireturn, 1) := by decide +kernel
theorem c35_0 : jm_code 35 0 = some (.iload_n 1, 1) := by decide +kernel
theorem c35_1 : jm_code 35 1 = some (.iconst 0, 1) := by decide +kernel
theorem c35_2 : jm_code 35 2 = some (.sipush 199, 3) := by decide +kernel
theorem c35_5 : jm_code 35 5 = some (.invokestatic 86, 3) := by decide +kernel
theorem c35_8 : jm_code 35 8 = some (.ifCond .ne 12, 3) := by decide +kernel
theorem c35_11 : jm_code 35 11 = some (.iload_n 2, 1) := by decide +kernel
theorem c35_12 : jm_code 35 12 = some (.iconst 0, 1) := by decide +kernel
theorem c35_13 : jm_code 35 13 = some (.iconst 2, 1) := by decide +kernel
theorem c35_14 : jm_code 35 14 = some (.invokestatic 86, 3) := by decide +kernel
theorem c35_17 : jm_code 35 17 = some (.ifCond .eq 6, 3) := by decide +kernel
theorem c35_20 : jm_code 35 20 = some (.bipush (-2), 2) := by decide +kernel
theorem c35_22 : jm_code 35 22 = some (.ireturn, 1) := by decide +kernel
theorem c35_23 : jm_code 35 23 = some (.iload_n 2, 1) := by decide +kernel
theorem c35_24 : jm_code 35 24 = some (.ifCond .ne 13, 3) := by decide +kernel
theorem c35_27 : jm_code 35 27 = some (.aload_n 0, 1) := by decide +kernel
theorem c35_28 : jm_code 35 28 = some (.getfield 37, 3) := by decide +kernel
theorem c35_31 : jm_code 35 31 = some (.getfield 151, 3) := by decide +kernel
theorem c35_34 : jm_code 35 34 = some (.iload_n 1, 1) := by decide +kernel
theorem c35_35 : jm_code 35 35 = some (.iaload, 1) := by decide +kernel
theorem c35_36 : jm_code 35 36 = some (.ireturn, 1) := by decide +kernel
theorem c35_37 : jm_code 35 37 = some (.iload_n 2, 1) := by decide +kernel
theorem c35_38 : jm_code 35 38 = some (.iconst 1, 1) := by decide +kernel
theorem c35_39 : jm_code 35 39 = some (.if_icmp .ne 13, 3) := by decide +kernel
theorem c35_42 : jm_code 35 42 = some (.aload_n 0, 1) := by decide +kernel
theorem c35_43 : jm_code 35 43 = some (.getfield 37, 3) := by decide +kernel
theorem c35_46 : jm_code 35 46 = some (.getfield 154, 3) := by decide +kernel
theorem c35_49 : jm_code 35 49 = some (.iload_n 1, 1) := by decide +kernel
theorem c35_50 : jm_code 35 50 = some (.iaload, 1) := by decide +kernel
theorem c35_51 : jm_code 35 51 = some (.ireturn, 1) := by decide +kernel
theorem c35_52 : jm_code 35 52 = some (.aload_n 0, 1) := by decide +kernel
theorem c35_53 : jm_code 35 53 = some (.getfield 37, 3) := by decide +kernel
theorem c35_56 : jm_code 35 56 = some (.getfield 157, 3) := by decide +kernel
theorem c35_59 : jm_code 35 59 = some (.iload_n 1, 1) := by decide +kernel
theorem c35_60 : jm_code 35 60 = some (.baload, 1) := by decide +kernel
theorem c35_61 : jm_code 35 61 = some (.ifCond .eq 7, 3) := by decide +kernel
theorem c35_64 : jm_code 35 64 = some (.iconst 1, 1) := by decide +kernel
theorem c35_65 : jm_code 35 65 = some (.goto 4, 3) := by decide +kernel
theorem c35_68 : jm_code 35 68 = some (.iconst 0, 1) := by decide +kernel
theorem c35_69 : jm_code 35 69 = some (.ireturn, 1) := by decide +kernel
theorem c36_0 : jm_code 36 0 = some (.aload_n 0, 1) := by decide +kernel
theorem c36_1 : jm_code 36 1 = some (.getfield 10, 3) := by decide +kernel
theorem c36_4 : jm_code 36 4 = some (.iload_n 1, 1) := by decide +kernel
theorem c36_5 : jm_code 36 5 = some (.invokevirtual 115, 3) := by decide +kernel
theorem c36_8 : jm_code 36 8 = some (.ifCond .eq 23, 3) := by decide +kernel
theorem c36_11 : jm_code 36 11 = some (.iload_n 2, 1) := by decide +kernel
theorem c36_12 : jm_code 36 12 = some (.iconst 0, 1) := by decide +kernel
theorem c36_13 : jm_code 36 13 = some (.sipush 200, 3) := by decide +kernel
theorem c36_16 : jm_code 36 16 = some (.invokestatic 86, 3) := by decide +kernel
theorem c36_19 : jm_code 36 19 = some (.ifCond .ne 12, 3) := by decide +kernel
theorem c36_22 : jm_code 36 22 = some (.iload_n 3, 1) := by decide +kernel
theorem c36_23 : jm_code 36 23 = some (.iconst 0, 1) := by decide +kernel
theorem c36_24 : jm_code 36 24 = some (.iconst 5, 1) := by decide +kernel
theorem c36_25 : jm_code 36 25 = some (.invokestatic 86, 3) := by decide +kernel
theorem c36_28 : jm_code 36 28 = some (.ifCond .eq 6, 3) := by decide +kernel
theorem c36_31 : jm_code 36 31 = some (.bipush (-2), 2) := by decide +kernel
theorem c36_33 : jm_code 36 33 = some (.ireturn, 1) := by decide +kernel
theorem c36_34 : jm_code 36 34 = some (.aload_n 0, 1) := by decide +kernel
theorem c36_35 : jm_code 36 35 = some (.invokevirtual 161, 3) := by decide +kernel
theorem c36_38 : jm_code 36 38 = some (.aload_n 0, 1) := by decide +kernel
theorem c36_39 : jm_code 36 39 = some (.getfield 50, 3) := by decide +kernel
theorem c36_42 : jm_code 36 42 = some (.aload_n 0, 1) := by decide +kernel
theorem c36_43 : jm_code 36 43 = some (.getfield 37, 3) := by decide +kernel
theorem c36_46 : jm_code 36 46 = some (.iload_n 2, 1) := by decide +kernel
theorem c36_47 : jm_code 36 47 = some (.invokevirtual 164, 3) := by decide +kernel
theorem c36_50 : jm_code 36 50 = some (.aload_n 0, 1) := by decide +kernel
theorem c36_51 : jm_code 36 51 = some (.getfield 50, 3) := by decide +kernel
theorem c36_54 : jm_code 36 54 = some (.iload_n 1, 1) := by decide +kernel
theorem c36_55 : jm_code 36 55 = some (.iload_n 3, 1) := by decide +kernel
theorem c36_56 : jm_code 36 56 = some (.invokevirtual 168, 3) := by decide +kernel
theorem c36_59 : jm_code 36 59 = some (.ireturn, 1) := by decide +kernel
theorem c37_0 : jm_code 37 0 = some (.aload_n 0, 1) := by decide +kernel
theorem c37_1 : jm_code 37 1 = some (.getfield 50, 3) := by decide +kernel
theorem c37_4 : jm_code 37 4 = some (.aload_n 0, 1) := by decide +kernel
theorem c37_5 : jm_code 37 5 = some (.getfield 10, 3) := by decide +kernel
theorem c37_8 : jm_code 37 8 = some (.aload_n 0, 1) := by decide +kernel
theorem c37_9 : jm_code 37 9 = some (.getfield 25, 3) := by decide +kernel
theorem c37_12 : jm_code 37 12 = some (.iconst 1, 1) := by decide +kernel
theorem c37_13 : jm_code 37 13 = some (.iaload, 1) := by decide +kernel
theorem c37_14 : jm_code 37 14 = some (.aload_n 0, 1) := by decide +kernel
theorem c37_15 : jm_code 37 15 = some (.getfield 25, 3) := by decide +kernel
theorem c37_18 : jm_code 37 18 = some (.iconst 0, 1) := by decide +kernel
theorem c37_19 : jm_code 37 19 = some (.iaload, 1) := by decide +kernel
theorem c37_20 : jm_code 37 20 = some (.invokevirtual 199, 3) := by decide +kernel
theorem c37_23 : jm_code 37 23 = some (.return_, 1) := by decide +kernel
theorem c38_0 : jm_code 38 0 = some (.aload_n 0, 1) := by decide +kernel
theorem c38_1 : jm_code 38 1 = some (.aload_n 1, 1) := by decide +kernel
theorem c38_2 : jm_code 38 2 = some (.getfield 65, 3) := by decide +kernel
theorem c38_5 : jm_code 38 5 = some (.putfield 45, 3) := by decide +kernel
theorem c38_8 : jm_code 38 8 = some (.aload_n 0, 1) := by decide +kernel
theorem c38_9 : jm_code 38 9 = some (.iload_n 2, 1) := by decide +kernel
theorem c38_10 : jm_code 38 10 = some (.putfield 49, 3) := by decide +kernel
theorem c38_13 : jm_code 38 13 = some (.aload_n 0, 1) := by decide +kernel
theorem c38_14 : jm_code 38 14 = some (.iload_n 3, 1) := by decide +kernel
theorem c38_15 : jm_code 38 15 = some (.putfield 52, 3) := by decide +kernel
theorem c38_18 : jm_code 38 18 = some (.aload_n 0, 1) := by decide +kernel
theorem c38_19 : jm_code 38 19 = some (.aload_n 0, 1) := by decide +kernel
theorem c38_20 : jm_code 38 20 = some (.getfield 45, 3) := by decide +kernel
theorem c38_23 : jm_code 38 23 = some (.putfield 55, 3) := by decide +kernel
theorem c38_26 : jm_code 38 26 = some (.aload_n 0, 1) := by decide +kernel
theorem c38_27 : jm_code 38 27 = some (.iconst 0, 1) := by decide +kernel
theorem c38_28 : jm_code 38 28 = some (.putfield 58, 3) := by decide +kernel
theorem c38_31 : jm_code 38 31 = some (.aload_n 0, 1) := by decide +kernel
theorem c38_32 : jm_code 38 32 = some (.iconst 0, 1) := by decide +kernel
theorem c38_33 : jm_code 38 33 = some (.putfield 61, 3) := by decide +kernel
theorem c38_36 : jm_code 38 36 = some (.aload_n 0, 1) := by decide +kernel
theorem c38_37 : jm_code 38 37 = some (.getfield 42, 3) := by decide +kernel
theorem c38_40 : jm_code 38 40 = some (.iconst 0, 1) := by decide +kernel
theorem c38_41 : jm_code 38 41 = some (.invokestatic 68, 3) := by decide +kernel
theorem c38_44 : jm_code 38 44 = some (.iconst 0, 1) := by decide +kernel
theorem c38_45 : jm_code 38 45 = some (.istore 4, 2) := by decide +kernel
theorem c38_47 : jm_code 38 47 = some (.iload 4, 2) := by decide +kernel
theorem c38_49 : jm_code 38 49 = some (.aload_n 0, 1) := by decide +kernel
theorem c38_50 : jm_code 38 50 = some (.getfield 45, 3) := by decide +kernel
theorem c38_53 : jm_code 38 53 = some (.if_icmp .ge 118, 3) := by decide +kernel
theorem c38_56 : jm_code 38 56 = some (.aload_n 0, 1) := by decide +kernel
theorem c38_57 : jm_code 38 57 = some (.getfield 9, 3) := by decide +kernel
theorem c38_60 : jm_code 38 60 = some (.iload 4, 2) := by decide +kernel
theorem c38_62 : jm_code 38 62 = some (.aload_n 1, 1) := by decide +kernel
theorem c38_63 : jm_code 38 63 = some (.iload 4, 2) := by decide +kernel
theorem c38_65 : jm_code 38 65 = some (.iconst 1, 1) := by decide +kernel
theorem c38_66 : jm_code 38 66 = some (.invokevirtual 74, 3) := by decide +kernel
theorem c38_69 : jm_code 38 69 = some (.iastore, 1) := by decide +kernel
theorem c38_70 : jm_code 38 70 = some (.aload_n 0, 1) := by decide +kernel
theorem c38_71 : jm_code 38 71 = some (.getfield 15, 3) := by decide +kernel
theorem c38_74 : jm_code 38 74 = some (.iload 4, 2) := by decide +kernel
theorem c38_76 : jm_code 38 76 = some (.aload_n 1, 1) := by decide +kernel
theorem c38_77 : jm_code 38 77 = some (.iload 4, 2) := by decide +kernel
theorem c38_79 : jm_code 38 79 = some (.iconst 2, 1) := by decide +kernel
theorem c38_80 : jm_code 38 80 = some (.invokevirtual 74, 3) := by decide +kernel
theorem c38_83 : jm_code 38 83 = some (.iastore, 1) := by decide +kernel
theorem c38_84 : jm_code 38 84 = some (.aload_n 0, 1) := by decide +kernel
theorem c38_85 : jm_code 38 85 = some (.getfield 18, 3) := by decide +kernel
theorem c38_88 : jm_code 38 88 = some (.iload 4, 2) := by decide +kernel
theorem c38_90 : jm_code 38 90 = some (.aload_n 1, 1) := by decide +kernel
theorem c38_91 : jm_code 38 91 = some (.iload 4, 2) := by decide +kernel
theorem c38_93 : jm_code 38 93 = some (.iconst 3, 1) := by decide +kernel
theorem c38_94 : jm_code 38 94 = some (.invokevirtual 74, 3) := by decide +kernel
theorem c38_97 : jm_code 38 97 = some (.iastore, 1) := by decide +kernel
theorem c38_98 : jm_code 38 98 = some (.aload_n 0, 1) := by decide +kernel
theorem c38_99 : jm_code 38 99 = some (.getfield 21, 3) := by decide +kernel
theorem c38_102 : jm_code 38 102 = some (.iload 4, 2) := by decide +kernel
theorem c38_104 : jm_code 38 104 = some (.iconst 0, 1) := by decide +kernel
theorem c38_105 : jm_code 38 105 = some (.iastore, 1) := by decide +kernel
theorem c38_106 : jm_code 38 106 = some (.aload_n 0, 1) := by decide +kernel
theorem c38_107 : jm_code 38 107 = some (.getfield 24, 3) := by decide +kernel
theorem c38_110 : jm_code 38 110 = some (.iload 4, 2) := by decide +kernel
theorem c38_112 : jm_code 38 112 = some (.aload_n 1, 1) := by decide +kernel
theorem c38_113 : jm_code 38 113 = some (.iload 4, 2) := by decide +kernel
theorem c38_115 : jm_code 38 115 = some (.iconst 0, 1) := by decide +kernel
theorem c38_116 : jm_code 38 116 = some (.invokevirtual 74, 3) := by decide +kernel
theorem c38_119 : jm_code 38 119 = some (.iastore, 1) := by decide +kernel
theorem c38_120 : jm_code 38 120 = some (.aload_n 0, 1) := by decide +kernel
theorem c38_121 : jm_code 38 121 = some (.getfield 27, 3) := by decide +kernel
theorem c38_124 : jm_code 38 124 = some (.iload 4, 2) := by decide +kernel
theorem c38_126 : jm_code 38 126 = some (.iconst 0, 1) := by decide +kernel
theorem c38_127 : jm_code 38 127 = some (.iastore, 1) := by decide +kernel
theorem c38_128 : jm_code 38 128 = some (.aload_n 0, 1) := by decide +kernel
theorem c38_129 : jm_code 38 129 = some (.getfield 30, 3) := by decide +kernel
theorem c38_132 : jm_code 38 132 = some (.iload 4, 2) := by decide +kernel
theorem c38_134 : jm_code 38 134 = some (.iconst 0, 1) := by decide +kernel
theorem c38_135 : jm_code 38 135 = some (.iastore, 1) := by decide +kernel
theorem c38_136 : jm_code 38 136 = some (.aload_n 0, 1) := by decide +kernel
theorem c38_137 : jm_code 38 137 = some (.getfield 33, 3) := by decide +kernel
theorem c38_140 : jm_code 38 140 = some (.iload 4, 2) := by decide +kernel
theorem c38_142 : jm_code 38 142 = some (.iconst (-1), 1) := by decide +kernel
theorem c38_143 : jm_code 38 143 = some (.iastore, 1) := by decide +kernel
theorem c38_144 : jm_code 38 144 = some (.aload_n 0, 1) := by decide +kernel
theorem c38_145 : jm_code 38 145 = some (.getfield 36, 3) := by decide +kernel
theorem c38_148 : jm_code 38 148 = some (.iload 4, 2) := by decide +kernel
theorem c38_150 : jm_code 38 150 = some (.iconst 0, 1) := by decide +kernel
theorem c38_151 : jm_code 38 151 = some (.iastore, 1) := by decide +kernel
theorem c38_152 : jm_code 38 152 = some (.aload_n 0, 1) := by decide +kernel
theorem c38_153 : jm_code 38 153 = some (.iload 4, 2) := by decide +kernel
theorem c38_155 : jm_code 38 155 = some (.aload_n 1, 1) := by decide +kernel
theorem c38_156 : jm_code 38 156 = some (.getfield 78, 3) := by decide +kernel
theorem c38_159 : jm_code 38 159 = some (.iload 4, 2) := by decide +kernel
theorem c38_161 : jm_code 38 161 = some (.iaload, 1) := by decide +kernel
theorem c38_162 : jm_code 38 162 = some (.invokevirtual 81, 3) := by decide +kernel
theorem c38_165 : jm_code 38 165 = some (.iinc 4 1, 3) := by decide +kernel
theorem c38_168 : jm_code 38 168 = some (.goto (-121), 3) := by decide +kernel
theorem c38_171 : jm_code 38 171 = some (.return_, 1) := by decide +kernel
theorem c39_0 : jm_code 39 0 = some (.aload_n 0, 1) := by decide +kernel
theorem c39_1 : jm_code 39 1 = some (.getfield 39, 3) := by decide +kernel
theorem c39_4 : jm_code 39 4 = some (.iload_n 2, 1) := by decide +kernel
theorem c39_5 : jm_code 39 5 = some (.bipush 12, 2) := by decide +kernel
theorem c39_7 : jm_code 39 7 = some (.imul, 1) := by decide +kernel
theorem c39_8 : jm_code 39 8 = some (.aload_n 0, 1) := by decide +kernel
theorem c39_9 : jm_code 39 9 = some (.getfield 42, 3) := by decide +kernel
theorem c39_12 : jm_code 39 12 = some (.iload_n 2, 1) := by decide +kernel
theorem c39_13 : jm_code 39 13 = some (.iaload, 1) := by decide +kernel
theorem c39_14 : jm_code 39 14 = some (.iadd, 1) := by decide +kernel
theorem c39_15 : jm_code 39 15 = some (.iload_n 1, 1) := by decide +kernel
theorem c39_16 : jm_code 39 16 = some (.iastore, 1) := by decide +kernel
theorem c39_17 : jm_code 39 17 = some (.aload_n 0, 1) := by decide +kernel
theorem c39_18 : jm_code 39 18 = some (.getfield 42, 3) := by decide +kernel
theorem c39_21 : jm_code 39 21 = some (.iload_n 2, 1) := by decide +kernel
theorem c39_22 : jm_code 39 22 = some (.dup2, 1) := by decide +kernel
theorem c39_23 : jm_code 39 23 = some (.iaload, 1) := by decide +kernel
theorem c39_24 : jm_code 39 24 = some (.iconst 1, 1) := by decide +kernel
theorem c39_25 : jm_code 39 25 = some (.iadd, 1) := by decide +kernel
theorem c39_26 : jm_code 39 26 = some (.iastore, 1) := by decide +kernel
theorem c39_27 : jm_code 39 27 = some (.return_, 1) := by decide +kernel
theorem c40_0 : jm_code 40 0 = some (.aload_n 0, 1) := by decide +kernel
theorem c40_1 : jm_code 40 1 = some (.getfield 58, 3) := by decide +kernel
theorem c40_4 : jm_code 40 4 = some (.istore_n 3, 1) := by decide +kernel
theorem c40_5 : jm_code 40 5 = some (.iload_n 3, 1) := by decide +kernel
theorem c40_6 : jm_code 40 6 = some (.iload_n 2, 1) := by decide +kernel
theorem c40_7 : jm_code 40 7 = some (.if_icmp .ge 31, 3) := by decide +kernel
theorem c40_10 : jm_code 40 10 = some (.aload_n 0, 1) := by decide +kernel
theorem c40_11 : jm_code 40 11 = some (.aload_n 1, 1) := by decide +kernel
theorem c40_12 : jm_code 40 12 = some (.getfield 91, 3) := by decide +kernel
theorem c40_15 : jm_code 40 15 = some (.iload_n 3, 1) := by decide +kernel
theorem c40_16 : jm_code 40 16 = some (.iaload, 1) := by decide +kernel
theorem c40_17 : jm_code 40 17 = some (.aload_n 1, 1) := by decide +kernel
theorem c40_18 : jm_code 40 18 = some (.getfield 96, 3) := by decide +kernel
theorem c40_21 : jm_code 40 21 = some (.iload_n 3, 1) := by decide +kernel
theorem c40_22 : jm_code 40 22 = some (.iaload, 1) := by decide +kernel
theorem c40_23 : jm_code 40 23 = some (.aload_n 1, 1) := by decide +kernel
theorem c40_24 : jm_code 40 24 = some (.getfield 99, 3) := by decide +kernel
theorem c40_27 : jm_code 40 27 = some (.iload_n 3, 1) := by decide +kernel
theorem c40_28 : jm_code 40 28 = some (.baload, 1) := by decide +kernel
theorem c40_29 : jm_code 40 29 = some (.invokevirtual 103, 3) := by decide +kernel
theorem c40_32 : jm_code 40 32 = some (.iinc 3 1, 3) := by decide +kernel
theorem c40_35 : jm_code 40 35 = some (.goto (-30), 3) := by decide +kernel
theorem c40_38 : jm_code 40 38 = some (.return_, 1) := by decide +kernel
theorem c41_0 : jm_code 41 0 = some (.aload_n 0, 1) := by decide +kernel
theorem c41_1 : jm_code 41 1 = some (.getfield 61, 3) := by decide +kernel
theorem c41_4 : jm_code 41 4 = some (.ifCond .eq 7, 3) := by decide +kernel
theorem c41_7 : jm_code 41 7 = some (.aload_n 0, 1) := by decide +kernel
theorem c41_8 : jm_code 41 8 = some (.invokevirtual 107, 3) := by decide +kernel
theorem c41_11 : jm_code 41 11 = some (.iconst 0, 1) := by decide +kernel
theorem c41_12 : jm_code 41 12 = some (.istore 4, 2) := by decide +kernel
theorem c41_14 : jm_code 41 14 = some (.iload 4, 2) := by decide +kernel
theorem c41_16 : jm_code 41 16 = some (.iconst 4, 1) := by decide +kernel
theorem c41_17 : jm_code 41 17 = some (.if_icmp .ge 48, 3) := by decide +kernel
theorem c41_20 : jm_code 41 20 = some (.iconst 0, 1) := by decide +kernel
theorem c41_21 : jm_code 41 21 = some (.istore 5, 2) := by decide +kernel
theorem c41_23 : jm_code 41 23 = some (.iload 5, 2) := by decide +kernel
theorem c41_25 : jm_code 41 25 = some (.iload_n 2, 1) := by decide +kernel
theorem c41_26 : jm_code 41 26 = some (.if_icmp .ge 15, 3) := by decide +kernel
theorem c41_29 : jm_code 41 29 = some (.aload_n 0, 1) := by decide +kernel
theorem c41_30 : jm_code 41 30 = some (.iload 4, 2) := by decide +kernel
theorem c41_32 : jm_code 41 32 = some (.invokevirtual 110, 3) := by decide +kernel
theorem c41_35 : jm_code 41 35 = some (.iinc 5 1, 3) := by decide +kernel
theorem c41_38 : jm_code 41 38 = some (.goto (-15), 3) := by decide +kernel
theorem c41_41 : jm_code 41 41 = some (.aload_n 0, 1) := by decide +kernel
theorem c41_42 : jm_code 41 42 = some (.iload 4, 2) := by decide +kernel
theorem c41_44 : jm_code 41 44 = some (.iload_n 1, 1) := by decide +kernel
theorem c41_45 : jm_code 41 45 = some (.iload_n 3, 1) := by decide +kernel
theorem c41_46 : jm_code 41 46 = some (.ifCond .eq 8, 3) := by decide +kernel
theorem c41_49 : jm_code 41 49 = some (.bipush 64, 2) := by decide +kernel
theorem c41_51 : jm_code 41 51 = some (.goto 5, 3) := by decide +kernel
theorem c41_54 : jm_code 41 54 = some (.bipush 32, 2) := by decide +kernel
theorem c41_56 : jm_code 41 56 = some (.invokevirtual 114, 3) := by decide +kernel
theorem c41_59 : jm_code 41 59 = some (.iinc 4 1, 3) := by decide +kernel
theorem c41_62 : jm_code 41 62 = some (.goto (-48), 3) := by decide +kernel
theorem c41_65 : jm_code 41 65 = some (.iconst 0, 1) := by decide +kernel
theorem c41_66 : jm_code 41 66 = some (.istore 4, 2) := by decide +kernel
theorem c41_68 : jm_code 41 68 = some (.iload 4, 2) := by decide +kernel
theorem c41_70 : jm_code 41 70 = some (.aload_n 0, 1) := by decide +kernel
theorem c41_71 : jm_code 41 71 = some (.getfield 45, 3) := by decide +kernel
theorem c41_74 : jm_code 41 74 = some (.if_icmp .ge 25, 3) := by decide +kernel
theorem c41_77 : jm_code 41 77 = some (.aload_n 0, 1) := by decide +kernel
theorem c41_78 : jm_code 41 78 = some (.getfield 30, 3) := by decide +kernel
theorem c41_81 : jm_code 41 81 = some (.iload 4, 2) := by decide +kernel
theorem c41_83 : jm_code 41 83 = some (.iaload, 1) := by decide +kernel
theorem c41_84 : jm_code 41 84 = some (.ifCond .ne 9, 3) := by decide +kernel
theorem c41_87 : jm_code 41 87 = some (.aload_n 0, 1) := by decide +kernel
theorem c41_88 : jm_code 41 88 = some (.iload 4, 2) := by decide +kernel
theorem c41_90 : jm_code 41 90 = some (.invokevirtual 118, 3) := by decide +kernel
theorem c41_93 : jm_code 41 93 = some (.iinc 4 1, 3) := by decide +kernel
theorem c41_96 : jm_code 41 96 = some (.goto (-28), 3) := by decide +kernel
theorem c41_99 : jm_code 41 99 = some (.aload_n 0, 1) := by decide +kernel
theorem c41_100 : jm_code 41 100 = some (.dup, 1) := by decide +kernel
theorem c41_101 : jm_code 41 101 = some (.getfield 58, 3) := by decide +kernel
theorem c41_104 : jm_code 41 104 = some (.iconst 1, 1) := by decide +kernel
theorem c41_105 : jm_code 41 105 = some (.iadd, 1) := by decide +kernel
theorem c41_106 : jm_code 41 106 = some (.putfield 58, 3) := by decide +kernel
theorem c41_109 : jm_code 41 109 = some (.return_, 1) := by decide +kernel
theorem c42_0 : jm_code 42 0 = some (.iconst 0, 1) := by decide +kernel
theorem c42_1 : jm_code 42 1 = some (.istore_n 1, 1) := by decide +kernel
theorem c42_2 : jm_code 42 2 = some (.iload_n 1, 1) := by decide +kernel
theorem c42_3 : jm_code 42 3 = some (.iconst 4, 1) := by decide +kernel
theorem c42_4 : jm_code 42 4 = some (.if_icmp .ge 88, 3) := by decide +kernel
theorem c42_7 : jm_code 42 7 = some (.iload_n 1, 1) := by decide +kernel
theorem c42_8 : jm_code 42 8 = some (.bipush 12, 2) := by decide +kernel
theorem c42_10 : jm_code 42 10 = some (.imul, 1) := by decide +kernel
theorem c42_11 : jm_code 42 11 = some (.istore_n 2, 1) := by decide +kernel
theorem c42_12 : jm_code 42 12 = some (.iconst 0, 1) := by decide +kernel
theorem c42_13 : jm_code 42 13 = some (.istore_n 3, 1) := by decide +kernel
theorem c42_14 : jm_code 42 14 = some (.iconst 0, 1) := by decide +kernel
theorem c42_15 : jm_code 42 15 = some (.istore 4, 2) := by decide +kernel
theorem c42_17 : jm_code 42 17 = some (.iload 4, 2) := by decide +kernel
theorem c42_19 : jm_code 42 19 = some (.aload_n 0, 1) := by decide +kernel
theorem c42_20 : jm_code 42 20 = some (.getfield 42, 3) := by decide +kernel
theorem c42_23 : jm_code 42 23 = some (.iload_n 1, 1) := by decide +kernel
theorem c42_24 : jm_code 42 24 = some (.iaload, 1) := by decide +kernel
theorem c42_25 : jm_code 42 25 = some (.if_icmp .ge 54, 3) := by decide +kernel
theorem c42_28 : jm_code 42 28 = some (.aload_n 0, 1) := by decide +kernel
theorem c42_29 : jm_code 42 29 = some (.getfield 39, 3) := by decide +kernel
theorem c42_32 : jm_code 42 32 = some (.iload_n 2, 1) := by decide +kernel
theorem c42_33 : jm_code 42 33 = some (.iload 4, 2) := by decide +kernel
theorem c42_35 : jm_code 42 35 = some (.iadd, 1) := by decide +kernel
theorem c42_36 : jm_code 42 36 = some (.iaload, 1) := by decide +kernel
theorem c42_37 : jm_code 42 37 = some (.istore 5, 2) := by decide +kernel
theorem c42_39 : jm_code 42 39 = some (.aload_n 0, 1) := by decide +kernel
theorem c42_40 : jm_code 42 40 = some (.getfield 30, 3) := by decide +kernel
theorem c42_43 : jm_code 42 43 = some (.iload 5, 2) := by decide +kernel
theorem c42_45 : jm_code 42 45 = some (.iaload, 1) := by decide +kernel
theorem c42_46 : jm_code 42 46 = some (.ifCond .eq 14, 3) := by decide +kernel
theorem c42_49 : jm_code 42 49 = some (.aload_n 0, 1) := by decide +kernel
theorem c42_50 : jm_code 42 50 = some (.getfield 30, 3) := by decide +kernel
theorem c42_53 : jm_code 42 53 = some (.iload 5, 2) := by decide +kernel
theorem c42_55 : jm_code 42 55 = some (.iaload, 1) := by decide +kernel
theorem c42_56 : jm_code 42 56 = some (.iconst 2, 1) := by decide +kernel
theorem c42_57 : jm_code 42 57 = some (.if_icmp .ne 16, 3) := by decide +kernel
theorem c42_60 : jm_code 42 60 = some (.aload_n 0, 1) := by decide +kernel
theorem c42_61 : jm_code 42 61 = some (.getfield 39, 3) := by decide +kernel
theorem c42_64 : jm_code 42 64 = some (.iload_n 2, 1) := by decide +kernel
theorem c42_65 : jm_code 42 65 = some (.iload_n 3, 1) := by decide +kernel
theorem c42_66 : jm_code 42 66 = some (.iadd, 1) := by decide +kernel
theorem c42_67 : jm_code 42 67 = some (.iload 5, 2) := by decide +kernel
theorem c42_69 : jm_code 42 69 = some (.iastore, 1) := by decide +kernel
theorem c42_70 : jm_code 42 70 = some (.iinc 3 1, 3) := by decide +kernel
theorem c42_73 : jm_code 42 73 = some (.iinc 4 1, 3) := by decide +kernel
theorem c42_76 : jm_code 42 76 = some (.goto (-59), 3) := by decide +kernel
theorem c42_79 : jm_code 42 79 = some (.aload_n 0, 1) := by decide +kernel
theorem c42_80 : jm_code 42 80 = some (.getfield 42, 3) := by decide +kernel
theorem c42_83 : jm_code 42 83 = some (.iload_n 1, 1) := by decide +kernel
theorem c42_84 : jm_code 42 84 = some (.iload_n 3, 1) := by decide +kernel
theorem c42_85 : jm_code 42 85 = some (.iastore, 1) := by decide +kernel
theorem c42_86 : jm_code 42 86 = some (.iinc 1 1, 3) := by decide +kernel
theorem c42_89 : jm_code 42 89 = some (.goto (-87), 3) := by decide +kernel
theorem c42_92 : jm_code 42 92 = some (.aload_n 0, 1) := by decide +kernel
theorem c42_93 : jm_code 42 93 = some (.iconst 0, 1) := by decide +kernel
theorem c42_94 : jm_code 42 94 = some (.putfield 61, 3) := by decide +kernel
theorem c42_97 : jm_code 42 97 = some (.return_, 1) := by decide +kernel
theorem c43_0 : jm_code 43 0 = some (.aload_n 0, 1) := by decide +kernel
theorem c43_1 : jm_code 43 1 = some (.getfield 42, 3) := by decide +kernel
theorem c43_4 : jm_code 43 4 = some (.iload_n 1, 1) := by decide +kernel
theorem c43_5 : jm_code 43 5 = some (.iaload, 1) := by decide +kernel
theorem c43_6 : jm_code 43 6 = some (.istore_n 2, 1) := by decide +kernel
theorem c43_7 : jm_code 43 7 = some (.iload_n 2, 1) := by decide +kernel
theorem c43_8 : jm_code 43 8 = some (.iconst 1, 1) := by decide +kernel
theorem c43_9 : jm_code 43 9 = some (.if_icmp .le 46, 3) := by decide +kernel
theorem c43_12 : jm_code 43 12 = some (.iload_n 1, 1) := by decide +kernel
theorem c43_13 : jm_code 43 13 = some (.bipush 12, 2) := by decide +kernel
theorem c43_15 : jm_code 43 15 = some (.imul, 1) := by decide +kernel
theorem c43_16 : jm_code 43 16 = some (.istore_n 3, 1) := by decide +kernel
theorem c43_17 : jm_code 43 17 = some (.aload_n 0, 1) := by decide +kernel
theorem c43_18 : jm_code 43 18 = some (.getfield 39, 3) := by decide +kernel
theorem c43_21 : jm_code 43 21 = some (.iload_n 3, 1) := by decide +kernel
theorem c43_22 : jm_code 43 22 = some (.iaload, 1) := by decide +kernel
theorem c43_23 : jm_code 43 23 = some (.istore 4, 2) := by decide +kernel
theorem c43_25 : jm_code 43 25 = some (.aload_n 0, 1) := by decide +kernel
theorem c43_26 : jm_code 43 26 = some (.getfield 39, 3) := by decide +kernel
theorem c43_29 : jm_code 43 29 = some (.iload_n 3, 1) := by decide +kernel
theorem c43_30 : jm_code 43 30 = some (.iconst 1, 1) := by decide +kernel
theorem c43_31 : jm_code 43 31 = some (.iadd, 1) := by decide +kernel
theorem c43_32 : jm_code 43 32 = some (.aload_n 0, 1) := by decide +kernel
theorem c43_33 : jm_code 43 33 = some (.getfield 39, 3) := by decide +kernel
theorem c43_36 : jm_code 43 36 = some (.iload_n 3, 1) := by decide +kernel
theorem c43_37 : jm_code 43 37 = some (.iload_n 2, 1) := by decide +kernel
theorem c43_38 : jm_code 43 38 = some (.iconst 1, 1) := by decide +kernel
theorem c43_39 : jm_code 43 39 = some (.isub, 1) := by decide +kernel
theorem c43_40 : jm_code 43 40 = some (.invokestatic 85, 3) := by decide +kernel
theorem c43_43 : jm_code 43 43 = some (.aload_n 0, 1) := by decide +kernel
theorem c43_44 : jm_code 43 44 = some (.getfield 39, 3) := by decide +kernel
theorem c43_47 : jm_code 43 47 = some (.iload_n 3, 1) := by decide +kernel
theorem c43_48 : jm_code 43 48 = some (.iload_n 2, 1) := by decide +kernel
theorem c43_49 : jm_code 43 49 = some (.iadd, 1) := by decide +kernel
theorem c43_50 : jm_code 43 50 = some (.iconst 1, 1) := by decide +kernel
theorem c43_51 : jm_code 43 51 = some (.isub, 1) := by decide +kernel
theorem c43_52 : jm_code 43 52 = some (.iload 4, 2) := by decide +kernel
theorem c43_54 : jm_code 43 54 = some (.iastore, 1) := by decide +kernel
theorem c43_55 : jm_code 43 55 = some (.return_, 1) := by decide +kernel
theorem c44_0 : jm_code 44 0 = some (.iload_n 2, 1) := by decide +kernel
theorem c44_1 : jm_code 44 1 = some (.istore 4, 2) := by decide +kernel
theorem c44_3 : jm_code 44 3 = some (.iload_n 1, 1) := by decide +kernel
theorem c44_4 : jm_code 44 4 = some (.bipush 12, 2) := by decide +kernel
theorem c44_6 : jm_code 44 6 = some (.imul, 1) := by decide +kernel
theorem c44_7 : jm_code 44 7 = some (.istore 5, 2) := by decide +kernel
theorem c44_9 : jm_code 44 9 = some (.iload 5, 2) := by decide +kernel
theorem c44_11 : jm_code 44 11 = some (.aload_n 0, 1) := by decide +kernel
theorem c44_12 : jm_code 44 12 = some (.getfield 42, 3) := by decide +kernel
theorem c44_15 : jm_code 44 15 = some (.iload_n 1, 1) := by decide +kernel
theorem c44_16 : jm_code 44 16 = some (.iaload, 1) := by decide +kernel
theorem c44_17 : jm_code 44 17 = some (.iadd, 1) := by decide +kernel
theorem c44_18 : jm_code 44 18 = some (.istore 6, 2) := by decide +kernel
theorem c44_20 : jm_code 44 20 = some (.iload 5, 2) := by decide +kernel
theorem c44_22 : jm_code 44 22 = some (.istore 7, 2) := by decide +kernel
theorem c44_24 : jm_code 44 24 = some (.iload 7, 2) := by decide +kernel
theorem c44_26 : jm_code 44 26 = some (.iload 6, 2) := by decide +kernel
theorem c44_28 : jm_code 44 28 = some (.if_icmp .ge 50, 3) := by decide +kernel
theorem c44_31 : jm_code 44 31 = some (.aload_n 0, 1) := by decide +kernel
theorem c44_32 : jm_code 44 32 = some (.getfield 39, 3) := by decide +kernel
theorem c44_35 : jm_code 44 35 = some (.iload 7, 2) := by decide +kernel
theorem c44_37 : jm_code 44 37 = some (.iaload, 1) := by decide +kernel
theorem c44_38 : jm_code 44 38 = some (.istore 8, 2) := by decide +kernel
theorem c44_40 : jm_code 44 40 = some (.aload_n 0, 1) := by decide +kernel
theorem c44_41 : jm_code 44 41 = some (.getfield 21, 3) := by decide +kernel
theorem c44_44 : jm_code 44 44 = some (.iload 8, 2) := by decide +kernel
theorem c44_46 : jm_code 44 46 = some (.iaload, 1) := by decide +kernel
theorem c44_47 : jm_code 44 47 = some (.iload 4, 2) := by decide +kernel
theorem c44_49 : jm_code 44 49 = some (.iadd, 1) := by decide +kernel
theorem c44_50 : jm_code 44 50 = some (.istore 9, 2) := by decide +kernel
theorem c44_52 : jm_code 44 52 = some (.aload_n 0, 1) := by decide +kernel
theorem c44_53 : jm_code 44 53 = some (.getfield 21, 3) := by decide +kernel
theorem c44_56 : jm_code 44 56 = some (.iload 8, 2) := by decide +kernel
theorem c44_58 : jm_code 44 58 = some (.iload 9, 2) := by decide +kernel
theorem c44_60 : jm_code 44 60 = some (.iload 9, 2) := by decide +kernel
theorem c44_62 : jm_code 44 62 = some (.iload_n 3, 1) := by decide +kernel
theorem c44_63 : jm_code 44 63 = some (.idiv, 1) := by decide +kernel
theorem c44_64 : jm_code 44 64 = some (.isub, 1) := by decide +kernel
theorem c44_65 : jm_code 44 65 = some (.iastore, 1) := by decide +kernel
theorem c44_66 : jm_code 44 66 = some (.iload 4, 2) := by decide +kernel
theorem c44_68 : jm_code 44 68 = some (.iconst 2, 1) := by decide +kernel
theorem c44_69 : jm_code 44 69 = some (.idiv, 1) := by decide +kernel
theorem c44_70 : jm_code 44 70 = some (.istore 4, 2) := by decide +kernel
theorem c44_72 : jm_code 44 72 = some (.iinc 7 1, 3) := by decide +kernel
theorem c44_75 : jm_code 44 75 = some (.goto (-51), 3) := by decide +kernel
theorem c44_78 : jm_code 44 78 = some (.return_, 1) := by decide +kernel
theorem c45_0 : jm_code 45 0 = some (.aload_n 0, 1) := by decide +kernel
theorem c45_1 : jm_code 45 1 = some (.getfield 24, 3) := by decide +kernel
theorem c45_4 : jm_code 45 4 = some (.iload_n 1, 1) := by decide +kernel
theorem c45_5 : jm_code 45 5 = some (.iaload, 1) := by decide +kernel
theorem c45_6 : jm_code 45 6 = some (.istore_n 2, 1) := by decide +kernel
theorem c45_7 : jm_code 45 7 = some (.aload_n 0, 1) := by decide +kernel
theorem c45_8 : jm_code 45 8 = some (.getfield 27, 3) := by decide +kernel
theorem c45_11 : jm_code 45 11 = some (.iload_n 1, 1) := by decide +kernel
theorem c45_12 : jm_code 45 12 = some (.aload_n 0, 1) := by decide +kernel
theorem c45_13 : jm_code 45 13 = some (.getfield 21, 3) := by decide +kernel
theorem c45_16 : jm_code 45 16 = some (.iload_n 1, 1) := by decide +kernel
theorem c45_17 : jm_code 45 17 = some (.iaload, 1) := by decide +kernel
theorem c45_18 : jm_code 45 18 = some (.bipush 100, 2) := by decide +kernel
theorem c45_20 : jm_code 45 20 = some (.if_icmp .le 20, 3) := by decide +kernel
theorem c45_23 : jm_code 45 23 = some (.aload_n 0, 1) := by decide +kernel
theorem c45_24 : jm_code 45 24 = some (.getfield 21, 3) := by decide +kernel
theorem c45_27 : jm_code 45 27 = some (.iload_n 1, 1) := by decide +kernel
theorem c45_28 : jm_code 45 28 = some (.iaload, 1) := by decide +kernel
theorem c45_29 : jm_code 45 29 = some (.bipush 100, 2) := by decide +kernel
theorem c45_31 : jm_code 45 31 = some (.isub, 1) := by decide +kernel
theorem c45_32 : jm_code 45 32 = some (.iload_n 2, 1) := by decide +kernel
theorem c45_33 : jm_code 45 33 = some (.imul, 1) := by decide +kernel
theorem c45_34 : jm_code 45 34 = some (.bipush 40, 2) := by decide +kernel
theorem c45_36 : jm_code 45 36 = some (.idiv, 1) := by decide +kernel
theorem c45_37 : jm_code 45 37 = some (.goto 4, 3) := by decide +kernel
theorem c45_40 : jm_code 45 40 = some (.iconst 0, 1) := by decide +kernel
theorem c45_41 : jm_code 45 41 = some (.iastore, 1) := by decide +kernel
theorem c45_42 : jm_code 45 42 = some (.iconst 1, 1) := by decide +kernel
theorem c45_43 : jm_code 45 43 = some (.aload_n 0, 1) := by decide +kernel
theorem c45_44 : jm_code 45 44 = some (.getfield 9, 3) := by decide +kernel
theorem c45_47 : jm_code 45 47 = some (.iload_n 1, 1) := by decide +kernel
theorem c45_48 : jm_code 45 48 = some (.iaload, 1) := by decide +kernel
theorem c45_49 : jm_code 45 49 = some (.iload_n 2, 1) := by decide +kernel
theorem c45_50 : jm_code 45 50 = some (.bipush 20, 2) := by decide +kernel
theorem c45_52 : jm_code 45 52 = some (.idiv, 1) := by decide +kernel
theorem c45_53 : jm_code 45 53 = some (.isub, 1) := by decide +kernel
theorem c45_54 : jm_code 45 54 = some (.invokestatic 121, 3) := by decide +kernel
theorem c45_57 : jm_code 45 57 = some (.istore_n 3, 1) := by decide +kernel
theorem c45_58 : jm_code 45 58 = some (.aload_n 0, 1) := by decide +kernel
theorem c45_59 : jm_code 45 59 = some (.getfield 27, 3) := by decide +kernel
theorem c45_62 : jm_code 45 62 = some (.iload_n 1, 1) := by decide +kernel
theorem c45_63 : jm_code 45 63 = some (.iaload, 1) := by decide +kernel
theorem c45_64 : jm_code 45 64 = some (.aload_n 0, 1) := by decide +kernel
theorem c45_65 : jm_code 45 65 = some (.getfield 52, 3) := by decide +kernel
theorem c45_68 : jm_code 45 68 = some (.isub, 1) := by decide +kernel
theorem c45_69 : jm_code 45 69 = some (.istore 4, 2) := by decide +kernel
theorem c45_71 : jm_code 45 71 = some (.iload 4, 2) := by decide +kernel
theorem c45_73 : jm_code 45 73 = some (.aload_n 0, 1) := by decide +kernel
theorem c45_74 : jm_code 45 74 = some (.getfield 49, 3) := by decide +kernel
theorem c45_77 : jm_code 45 77 = some (.iload_n 3, 1) := by decide +kernel
theorem c45_78 : jm_code 45 78 = some (.imul, 1) := by decide +kernel
theorem c45_79 : jm_code 45 79 = some (.if_icmp .lt 35, 3) := by decide +kernel
theorem c45_82 : jm_code 45 82 = some (.aload_n 0, 1) := by decide +kernel
theorem c45_83 : jm_code 45 83 = some (.iload_n 1, 1) := by decide +kernel
theorem c45_84 : jm_code 45 84 = some (.iconst 1, 1) := by decide +kernel
theorem c45_85 : jm_code 45 85 = some (.invokevirtual 126, 3) := by decide +kernel
theorem c45_88 : jm_code 45 88 = some (.aload_n 0, 1) := by decide +kernel
theorem c45_89 : jm_code 45 89 = some (.getfield 36, 3) := by decide +kernel
theorem c45_92 : jm_code 45 92 = some (.iload_n 1, 1) := by decide +kernel
theorem c45_93 : jm_code 45 93 = some (.aload_n 0, 1) := by decide +kernel
theorem c45_94 : jm_code 45 94 = some (.getfield 15, 3) := by decide +kernel
theorem c45_97 : jm_code 45 97 = some (.iload_n 1, 1) := by decide +kernel
theorem c45_98 : jm_code 45 98 = some (.iaload, 1) := by decide +kernel
theorem c45_99 : jm_code 45 99 = some (.iload 4, 2) := by decide +kernel
theorem c45_101 : jm_code 45 101 = some (.imul, 1) := by decide +kernel
theorem c45_102 : jm_code 45 102 = some (.bipush 10, 2) := by decide +kernel
theorem c45_104 : jm_code 45 104 = some (.idiv, 1) := by decide +kernel
theorem c45_105 : jm_code 45 105 = some (.iastore, 1) := by decide +kernel
theorem c45_106 : jm_code 45 106 = some (.aload_n 0, 1) := by decide +kernel
theorem c45_107 : jm_code 45 107 = some (.iconst 1, 1) := by decide +kernel
theorem c45_108 : jm_code 45 108 = some (.putfield 61, 3) := by decide +kernel
theorem c45_111 : jm_code 45 111 = some (.goto 52, 3) := by decide +kernel
theorem c45_114 : jm_code 45 114 = some (.aload_n 0, 1) := by decide +kernel
theorem c45_115 : jm_code 45 115 = some (.getfield 21, 3) := by decide +kernel
theorem c45_118 : jm_code 45 118 = some (.iload_n 1, 1) := by decide +kernel
theorem c45_119 : jm_code 45 119 = some (.iaload, 1) := by decide +kernel
theorem c45_120 : jm_code 45 120 = some (.sipush 250, 3) := by decide +kernel
theorem c45_123 : jm_code 45 123 = some (.if_icmp .le 12, 3) := by decide +kernel
theorem c45_126 : jm_code 45 126 = some (.aload_n 0, 1) := by decide +kernel
theorem c45_127 : jm_code 45 127 = some (.iload_n 1, 1) := by decide +kernel
theorem c45_128 : jm_code 45 128 = some (.iconst 2, 1) := by decide +kernel
theorem c45_129 : jm_code 45 129 = some (.invokevirtual 126, 3) := by decide +kernel
theorem c45_132 : jm_code 45 132 = some (.goto 31, 3) := by decide +kernel
theorem c45_135 : jm_code 45 135 = some (.aload_n 0, 1) := by decide +kernel
theorem c45_136 : jm_code 45 136 = some (.getfield 24, 3) := by decide +kernel
theorem c45_139 : jm_code 45 139 = some (.iload_n 1, 1) := by decide +kernel
theorem c45_140 : jm_code 45 140 = some (.iconst 0, 1) := by decide +kernel
theorem c45_141 : jm_code 45 141 = some (.iload_n 2, 1) := by decide +kernel
theorem c45_142 : jm_code 45 142 = some (.aload_n 0, 1) := by decide +kernel
theorem c45_143 : jm_code 45 143 = some (.getfield 27, 3) := by decide +kernel
theorem c45_146 : jm_code 45 146 = some (.iload_n 1, 1) := by decide +kernel
theorem c45_147 : jm_code 45 147 = some (.iaload, 1) := by decide +kernel
theorem c45_148 : jm_code 45 148 = some (.aload_n 0, 1) := by decide +kernel
theorem c45_149 : jm_code 45 149 = some (.getfield 18, 3) := by decide +kernel
theorem c45_152 : jm_code 45 152 = some (.iload_n 1, 1) := by decide +kernel
theorem c45_153 : jm_code 45 153 = some (.iaload, 1) := by decide +kernel
theorem c45_154 : jm_code 45 154 = some (.imul, 1) := by decide +kernel
theorem c45_155 : jm_code 45 155 = some (.bipush 100, 2) := by decide +kernel
theorem c45_157 : jm_code 45 157 = some (.idiv, 1) := by decide +kernel
theorem c45_158 : jm_code 45 158 = some (.isub, 1) := by decide +kernel
theorem c45_159 : jm_code 45 159 = some (.invokestatic 121, 3) := by decide +kernel
theorem c45_162 : jm_code 45 162 = some (.iastore, 1) := by decide +kernel
theorem c45_163 : jm_code 45 163 = some (.return_, 1) := by decide +kernel
theorem c46_0 : jm_code 46 0 = some (.aload_n 0, 1) := by decide +kernel
theorem c46_1 : jm_code 46 1 = some (.getfield 30, 3) := by decide +kernel
theorem c46_4 : jm_code 46 4 = some (.iload_n 1, 1) := by decide +kernel
theorem c46_5 : jm_code 46 5 = some (.iload_n 2, 1) := by decide +kernel
theorem c46_6 : jm_code 46 6 = some (.iastore, 1) := by decide +kernel
theorem c46_7 : jm_code 46 7 = some (.aload_n 0, 1) := by decide +kernel
theorem c46_8 : jm_code 46 8 = some (.getfield 33, 3) := by decide +kernel
theorem c46_11 : jm_code 46 11 = some (.iload_n 1, 1) := by decide +kernel
theorem c46_12 : jm_code 46 12 = some (.aload_n 0, 1) := by decide +kernel
theorem c46_13 : jm_code 46 13 = some (.getfield 58, 3) := by decide +kernel
theorem c46_16 : jm_code 46 16 = some (.iastore, 1) := by decide +kernel
theorem c46_17 : jm_code 46 17 = some (.aload_n 0, 1) := by decide +kernel
theorem c46_18 : jm_code 46 18 = some (.dup, 1) := by decide +kernel
theorem c46_19 : jm_code 46 19 = some (.getfield 55, 3) := by decide +kernel
theorem c46_22 : jm_code 46 22 = some (.iconst 1, 1) := by decide +kernel
theorem c46_23 : jm_code 46 23 = some (.isub, 1) := by decide +kernel
theorem c46_24 : jm_code 46 24 = some (.putfield 55, 3) := by decide +kernel
theorem c46_27 : jm_code 46 27 = some (.return_, 1) := by decide +kernel
theorem c47_0 : jm_code 47 0 = some (.iload_n 2, 1) := by decide +kernel
theorem c47_1 : jm_code 47 1 = some (.tableswitch 84 0 4 #[35, 42, 49, 56, 63], 35) := by decide +kernel
theorem c47_36 : jm_code 47 36 = some (.aload_n 0, 1) := by decide +kernel
theorem c47_37 : jm_code 47 37 = some (.getfield 21, 3) := by decide +kernel
theorem c47_40 : jm_code 47 40 = some (.iload_n 1, 1) := by decide +kernel
theorem c47_41 : jm_code 47 41 = some (.iaload, 1) := by decide +kernel
theorem c47_42 : jm_code 47 42 = some (.ireturn, 1) := by decide +kernel
theorem c47_43 : jm_code 47 43 = some (.aload_n 0, 1) := by decide +kernel
theorem c47_44 : jm_code 47 44 = some (.getfield 24, 3) := by decide +kernel
theorem c47_47 : jm_code 47 47 = some (.iload_n 1, 1) := by decide +kernel
theorem c47_48 : jm_code 47 48 = some (.iaload, 1) := by decide +kernel
theorem c47_49 : jm_code 47 49 = some (.ireturn, 1) := by decide +kernel
theorem c47_50 : jm_code 47 50 = some (.aload_n 0, 1) := by decide +kernel
theorem c47_51 : jm_code 47 51 = some (.getfield 27, 3) := by decide +kernel
theorem c47_54 : jm_code 47 54 = some (.iload_n 1, 1) := by decide +kernel
theorem c47_55 : jm_code 47 55 = some (.iaload, 1) := by decide +kernel
theorem c47_56 : jm_code 47 56 = some (.ireturn, 1) := by decide +kernel
theorem c47_57 : jm_code 47 57 = some (.aload_n 0, 1) := by decide +kernel
theorem c47_58 : jm_code 47 58 = some (.getfield 30, 3) := by decide +kernel
theorem c47_61 : jm_code 47 61 = some (.iload_n 1, 1) := by decide +kernel
theorem c47_62 : jm_code 47 62 = some (.iaload, 1) := by decide +kernel
theorem c47_63 : jm_code 47 63 = some (.ireturn, 1) := by decide +kernel
theorem c47_64 : jm_code 47 64 = some (.aload_n 0, 1) := by decide +kernel
theorem c47_65 : jm_code 47 65 = some (.getfield 30, 3) := by decide +kernel
theorem c47_68 : jm_code 47 68 = some (.iload_n 1, 1) := by decide +kernel
theorem c47_69 : jm_code 47 69 = some (.iaload, 1) := by decide +kernel
theorem c47_70 : jm_code 47 70 = some (.iconst 1, 1) := by decide +kernel
theorem c47_71 : jm_code 47 71 = some (.if_icmp .ne 12, 3) := by decide +kernel
theorem c47_74 : jm_code 47 74 = some (.aload_n 0, 1) := by decide +kernel
theorem c47_75 : jm_code 47 75 = some (.getfield 33, 3) := by decide +kernel
theorem c47_78 : jm_code 47 78 = some (.iload_n 1, 1) := by decide +kernel
theorem c47_79 : jm_code 47 79 = some (.iaload, 1) := by decide +kernel
theorem c47_80 : jm_code 47 80 = some (.goto 4, 3) := by decide +kernel
theorem c47_83 : jm_code 47 83 = some (.iconst (-1), 1) := by decide +kernel
theorem c47_84 : jm_code 47 84 = some (.ireturn, 1) := by decide +kernel
theorem c47_85 : jm_code 47 85 = some (.aload_n 0, 1) := by decide +kernel
theorem c47_86 : jm_code 47 86 = some (.getfield 36, 3) := by decide +kernel
theorem c47_89 : jm_code 47 89 = some (.iload_n 1, 1) := by decide +kernel
theorem c47_90 : jm_code 47 90 = some (.iaload, 1) := by decide +kernel
theorem c47_91 : jm_code 47 91 = some (.ireturn, 1) := by decide +kernel
theorem c48_0 : jm_code 48 0 = some (.iload_n 1, 1) := by decide +kernel
theorem c48_1 : jm_code 48 1 = some (.iconst 0, 1) := by decide +kernel
theorem c48_2 : jm_code 48 2 = some (.sipush 199, 3) := by decide +kernel
theorem c48_5 : jm_code 48 5 = some (.invokestatic 86, 3) := by decide +kernel
theorem c48_8 : jm_code 48 8 = some (.ifCond .eq 6, 3) := by decide +kernel
theorem c48_11 : jm_code 48 11 = some (.bipush (-2), 2) := by decide +kernel
theorem c48_13 : jm_code 48 13 = some (.ireturn, 1) := by decide +kernel
theorem c48_14 : jm_code 48 14 = some (.aload_n 0, 1) := by decide +kernel
theorem c48_15 : jm_code 48 15 = some (.sipush 200, 3) := by decide +kernel
theorem c48_18 : jm_code 48 18 = some (.invokevirtual 171, 3) := by decide +kernel
theorem c48_21 : jm_code 48 21 = some (.iload_n 2, 1) := by decide +kernel
theorem c48_22 : jm_code 48 22 = some (.ifCond .eq 16, 3) := by decide +kernel
theorem c48_25 : jm_code 48 25 = some (.aload_n 0, 1) := by decide +kernel
theorem c48_26 : jm_code 48 26 = some (.getfield 50, 3) := by decide +kernel
theorem c48_29 : jm_code 48 29 = some (.iload_n 1, 1) := by decide +kernel
theorem c48_30 : jm_code 48 30 = some (.iconst 1, 1) := by decide +kernel
theorem c48_31 : jm_code 48 31 = some (.iadd, 1) := by decide +kernel
theorem c48_32 : jm_code 48 32 = some (.invokevirtual 174, 3) := by decide +kernel
theorem c48_35 : jm_code 48 35 = some (.goto 11, 3) := by decide +kernel
theorem c48_38 : jm_code 48 38 = some (.aload_n 0, 1) := by decide +kernel
theorem c48_39 : jm_code 48 39 = some (.getfield 50, 3) := by decide +kernel
theorem c48_42 : jm_code 48 42 = some (.iload_n 1, 1) := by decide +kernel
theorem c48_43 : jm_code 48 43 = some (.invokevirtual 177, 3) := by decide +kernel
theorem c48_46 : jm_code 48 46 = some (.ireturn, 1) := by decide +kernel
theorem c49_0 : jm_code 49 0 = some (.aload_n 0, 1) := by decide +kernel
theorem c49_1 : jm_code 49 1 = some (.invokevirtual 161, 3) := by decide +kernel
theorem c49_4 : jm_code 49 4 = some (.aload_n 0, 1) := by decide +kernel
theorem c49_5 : jm_code 49 5 = some (.getfield 50, 3) := by decide +kernel
theorem c49_8 : jm_code 49 8 = some (.aload_n 0, 1) := by decide +kernel
theorem c49_9 : jm_code 49 9 = some (.getfield 37, 3) := by decide +kernel
theorem c49_12 : jm_code 49 12 = some (.iload_n 1, 1) := by decide +kernel
theorem c49_13 : jm_code 49 13 = some (.invokevirtual 203, 3) := by decide +kernel
theorem c49_16 : jm_code 49 16 = some (.return_, 1) := by decide +kernel
theorem c50_0 : jm_code 50 0 = some (.aload_n 0, 1) := by decide +kernel
theorem c50_1 : jm_code 50 1 = some (.getfield 58, 3) := by decide +kernel
theorem c50_4 : jm_code 50 4 = some (.istore_n 3, 1) := by decide +kernel
theorem c50_5 : jm_code 50 5 = some (.iload_n 3, 1) := by decide +kernel
theorem c50_6 : jm_code 50 6 = some (.iload_n 2, 1) := by decide +kernel
theorem c50_7 : jm_code 50 7 = some (.if_icmp .ge 38, 3) := by decide +kernel
theorem c50_10 : jm_code 50 10 = some (.aload_n 0, 1) := by decide +kernel
theorem c50_11 : jm_code 50 11 = some (.getfield 55, 3) := by decide +kernel
theorem c50_14 : jm_code 50 14 = some (.ifCond .le 31, 3) := by decide +kernel
theorem c50_17 : jm_code 50 17 = some (.aload_n 0, 1) := by decide +kernel
theorem c50_18 : jm_code 50 18 = some (.aload_n 1, 1) := by decide +kernel
theorem c50_19 : jm_code 50 19 = some (.getfield 91, 3) := by decide +kernel
theorem c50_22 : jm_code 50 22 = some (.iload_n 3, 1) := by decide +kernel
theorem c50_23 : jm_code 50 23 = some (.iaload, 1) := by decide +kernel
theorem c50_24 : jm_code 50 24 = some (.aload_n 1, 1) := by decide +kernel
theorem c50_25 : jm_code 50 25 = some (.getfield 96, 3) := by decide +kernel
theorem c50_28 : jm_code 50 28 = some (.iload_n 3, 1) := by decide +kernel
theorem c50_29 : jm_code 50 29 = some (.iaload, 1) := by decide +kernel
theorem c50_30 : jm_code 50 30 = some (.aload_n 1, 1) := by decide +kernel
theorem c50_31 : jm_code 50 31 = some (.getfield 99, 3) := by decide +kernel
theorem c50_34 : jm_code 50 34 = some (.iload_n 3, 1) := by decide +kernel
theorem c50_35 : jm_code 50 35 = some (.baload, 1) := by decide +kernel
theorem c50_36 : jm_code 50 36 = some (.invokevirtual 103, 3) := by decide +kernel
theorem c50_39 : jm_code 50 39 = some (.iinc 3 1, 3) := by decide +kernel
theorem c50_42 : jm_code 50 42 = some (.goto (-37), 3) := by decide +kernel
theorem c50_45 : jm_code 50 45 = some (.return_, 1) := by decide +kernel
theorem c51_0 : jm_code 51 0 = some (.iconst 0, 1) := by decide +kernel
theorem c51_1 : jm_code 51 1 = some (.istore_n 2, 1) := by decide +kernel
theorem c51_2 : jm_code 51 2 = some (.iconst 0, 1) := by decide +kernel
theorem c51_3 : jm_code 51 3 = some (.istore_n 3, 1) := by decide +kernel
theorem c51_4 : jm_code 51 4 = some (.iload_n 3, 1) := by decide +kernel
theorem c51_5 : jm_code 51 5 = some (.aload_n 0, 1) := by decide +kernel
theorem c51_6 : jm_code 51 6 = some (.getfield 45, 3) := by decide +kernel
theorem c51_9 : jm_code 51 9 = some (.if_icmp .ge 26, 3) := by decide +kernel
theorem c51_12 : jm_code 51 12 = some (.iload_n 2, 1) := by decide +kernel
theorem c51_13 : jm_code 51 13 = some (.aload_n 0, 1) := by decide +kernel
theorem c51_14 : jm_code 51 14 = some (.iload_n 3, 1) := by decide +kernel
theorem c51_15 : jm_code 51 15 = some (.iload_n 1, 1) := by decide +kernel
theorem c51_16 : jm_code 51 16 = some (.invokevirtual 129, 3) := by decide +kernel
theorem c51_19 : jm_code 51 19 = some (.ifCond .eq 7, 3) := by decide +kernel
theorem c51_22 : jm_code 51 22 = some (.iconst 1, 1) := by decide +kernel
theorem c51_23 : jm_code 51 23 = some (.goto 4, 3) := by decide +kernel
theorem c51_26 : jm_code 51 26 = some (.iconst 0, 1) := by decide +kernel
theorem c51_27 : jm_code 51 27 = some (.iadd, 1) := by decide +kernel
theorem c51_28 : jm_code 51 28 = some (.istore_n 2, 1) := by decide +kernel
theorem c51_29 : jm_code 51 29 = some (.iinc 3 1, 3) := by decide +kernel
theorem c51_32 : jm_code 51 32 = some (.goto (-28), 3) := by decide +kernel
theorem c51_35 : jm_code 51 35 = some (.iload_n 2, 1) := by decide +kernel
theorem c51_36 : jm_code 51 36 = some (.ireturn, 1) := by decide +kernel
theorem c52_0 : jm_code 52 0 = some (.aload_n 0, 1) := by decide +kernel
theorem c52_1 : jm_code 52 1 = some (.getfield 30, 3) := by decide +kernel
theorem c52_4 : jm_code 52 4 = some (.iload_n 1, 1) := by decide +kernel
theorem c52_5 : jm_code 52 5 = some (.iaload, 1) := by decide +kernel
theorem c52_6 : jm_code 52 6 = some (.iconst 1, 1) := by decide +kernel
theorem c52_7 : jm_code 52 7 = some (.if_icmp .ne 17, 3) := by decide +kernel
theorem c52_10 : jm_code 52 10 = some (.aload_n 0, 1) := by decide +kernel
theorem c52_11 : jm_code 52 11 = some (.getfield 33, 3) := by decide +kernel
theorem c52_14 : jm_code 52 14 = some (.iload_n 1, 1) := by decide +kernel
theorem c52_15 : jm_code 52 15 = some (.iaload, 1) := by decide +kernel
theorem c52_16 : jm_code 52 16 = some (.iload_n 2, 1) := by decide +kernel
theorem c52_17 : jm_code 52 17 = some (.if_icmp .ge 7, 3) := by decide +kernel
theorem c52_20 : jm_code 52 20 = some (.iconst 1, 1) := by decide +kernel
theorem c52_21 : jm_code 52 21 = some (.goto 4, 3) := by decide +kernel
theorem c52_24 : jm_code 52 24 = some (.iconst 0, 1) := by decide +kernel
theorem c52_25 : jm_code 52 25 = some (.ireturn, 1) := by decide +kernel
theorem c53_0 : jm_code 53 0 = some (.iconst 0, 1) := by decide +kernel
theorem c53_1 : jm_code 53 1 = some (.istore_n 2, 1) := by decide +kernel
theorem c53_2 : jm_code 53 2 = some (.iconst 0, 1) := by decide +kernel
theorem c53_3 : jm_code 53 3 = some (.istore_n 3, 1) := by decide +kernel
theorem c53_4 : jm_code 53 4 = some (.iload_n 3, 1) := by decide +kernel
theorem c53_5 : jm_code 53 5 = some (.aload_n 0, 1) := by decide +kernel
theorem c53_6 : jm_code 53 6 = some (.getfield 45, 3) := by decide +kernel
theorem c53_9 : jm_code 53 9 = some (.if_icmp .ge 37, 3) := by decide +kernel
theorem c53_12 : jm_code 53 12 = some (.iload_n 2, 1) := by decide +kernel
theorem c53_13 : jm_code 53 13 = some (.aload_n 0, 1) := by decide +kernel
theorem c53_14 : jm_code 53 14 = some (.getfield 30, 3) := by decide +kernel
theorem c53_17 : jm_code 53 17 = some (.iload_n 3, 1) := by decide +kernel
theorem c53_18 : jm_code 53 18 = some (.iaload, 1) := by decide +kernel
theorem c53_19 : jm_code 53 19 = some (.iconst 1, 1) := by decide +kernel
theorem c53_20 : jm_code 53 20 = some (.if_icmp .ne 17, 3) := by decide +kernel
theorem c53_23 : jm_code 53 23 = some (.aload_n 0, 1) := by decide +kernel
theorem c53_24 : jm_code 53 24 = some (.getfield 33, 3) := by decide +kernel
theorem c53_27 : jm_code 53 27 = some (.iload_n 3, 1) := by decide +kernel
theorem c53_28 : jm_code 53 28 = some (.iaload, 1) := by decide +kernel
theorem c53_29 : jm_code 53 29 = some (.iload_n 1, 1) := by decide +kernel
theorem c53_30 : jm_code 53 30 = some (.if_icmp .ne 7, 3) := by decide +kernel
theorem c53_33 : jm_code 53 33 = some (.iconst 1, 1) := by decide +kernel
theorem c53_34 : jm_code 53 34 = some (.goto 4, 3) := by decide +kernel
theorem c53_37 : jm_code 53 37 = some (.iconst 0, 1) := by decide +kernel
theorem c53_38 : jm_code 53 38 = some (.iadd, 1) := by decide +kernel
theorem c53_39 : jm_code 53 39 = some (.istore_n 2, 1) := by decide +kernel
theorem c53_40 : jm_code 53 40 = some (.iinc 3 1, 3) := by decide +kernel
theorem c53_43 : jm_code 53 43 = some (.goto (-39), 3) := by decide +kernel
theorem c53_46 : jm_code 53 46 = some (.iload_n 2, 1) := by decide +kernel
theorem c53_47 : jm_code 53 47 = some (.ireturn, 1) := by decide +kernel
theorem c54_0 : jm_code 54 0 = some (.iload_n 1, 1) := by decide +kernel
theorem c54_1 : jm_code 54 1 = some (.iconst 0, 1) := by decide +kernel
theorem c54_2 : jm_code 54 2 = some (.iconst 2, 1) := by decide +kernel
theorem c54_3 : jm_code 54 3 = some (.invokestatic 86, 3) := by decide +kernel
theorem c54_6 : jm_code 54 6 = some (.ifCond .ne 12, 3) := by decide +kernel
theorem c54_9 : jm_code 54 9 = some (.iload_n 2, 1) := by decide +kernel
theorem c54_10 : jm_code 54 10 = some (.iconst 0, 1) := by decide +kernel
theorem c54_11 : jm_code 54 11 = some (.iconst 5, 1) := by decide +kernel
theorem c54_12 : jm_code 54 12 = some (.invokestatic 86, 3) := by decide +kernel
theorem c54_15 : jm_code 54 15 = some (.ifCond .eq 6, 3) := by decide +kernel
theorem c54_18 : jm_code 54 18 = some (.ldc 180, 2) := by decide +kernel
theorem c54_20 : jm_code 54 20 = some (.ireturn, 1) := by decide +kernel
theorem c54_21 : jm_code 54 21 = some (.aload_n 0, 1) := by decide +kernel
theorem c54_22 : jm_code 54 22 = some (.sipush 200, 3) := by decide +kernel
theorem c54_25 : jm_code 54 25 = some (.invokevirtual 171, 3) := by decide +kernel
theorem c54_28 : jm_code 54 28 = some (.aload_n 0, 1) := by decide +kernel
theorem c54_29 : jm_code 54 29 = some (.iload_n 1, 1) := by decide +kernel
theorem c54_30 : jm_code 54 30 = some (.iload_n 2, 1) := by decide +kernel
theorem c54_31 : jm_code 54 31 = some (.invokevirtual 181, 3) := by decide +kernel
theorem c54_34 : jm_code 54 34 = some (.ireturn, 1) := by decide +kernel
theorem c55_0 : jm_code 55 0 = some (.aload_n 0, 1) := by decide +kernel
theorem c55_1 : jm_code 55 1 = some (.getfield 30, 3) := by decide +kernel
theorem c55_4 : jm_code 55 4 = some (.iload_n 1, 1) := by decide +kernel
theorem c55_5 : jm_code 55 5 = some (.iconst 1, 1) := by decide +kernel
theorem c55_6 : jm_code 55 6 = some (.iadd, 1) := by decide +kernel
theorem c55_7 : jm_code 55 7 = some (.aaload, 1) := by decide +kernel
theorem c55_8 : jm_code 55 8 = some (.getfield 148, 3) := by decide +kernel
theorem c55_11 : jm_code 55 11 = some (.iconst (-1), 1) := by decide +kernel
theorem c55_12 : jm_code 55 12 = some (.if_icmp .eq 6, 3) := by decide +kernel
theorem c55_15 : jm_code 55 15 = some (.ldc 223, 2) := by decide +kernel
theorem c55_17 : jm_code 55 17 = some (.ireturn, 1) := by decide +kernel
theorem c55_18 : jm_code 55 18 = some (.aload_n 0, 1) := by decide +kernel
theorem c55_19 : jm_code 55 19 = some (.getfield 43, 3) := by decide +kernel
theorem c55_22 : jm_code 55 22 = some (.iload_n 1, 1) := by decide +kernel
theorem c55_23 : jm_code 55 23 = some (.aaload, 1) := by decide +kernel
theorem c55_24 : jm_code 55 24 = some (.aload_n 0, 1) := by decide +kernel
theorem c55_25 : jm_code 55 25 = some (.getfield 50, 3) := by decide +kernel
theorem c55_28 : jm_code 55 28 = some (.invokevirtual 337, 3) := by decide +kernel
theorem c55_31 : jm_code 55 31 = some (.istore_n 3, 1) := by decide +kernel
theorem c55_32 : jm_code 55 32 = some (.iload_n 2, 1) := by decide +kernel
theorem c55_33 : jm_code 55 33 = some (.tableswitch 79 0 4 #[35, 37, 46, 55, 64], 35) := by decide +kernel
theorem c55_68 : jm_code 55 68 = some (.iload_n 3, 1) := by decide +kernel
theorem c55_69 : jm_code 55 69 = some (.ireturn, 1) := by decide +kernel
theorem c55_70 : jm_code 55 70 = some (.aload_n 0, 1) := by decide +kernel
theorem c55_71 : jm_code 55 71 = some (.getfield 50, 3) := by decide +kernel
theorem c55_74 : jm_code 55 74 = some (.iload_n 3, 1) := by decide +kernel
theorem c55_75 : jm_code 55 75 = some (.invokevirtual 331, 3) := by decide +kernel
theorem c55_78 : jm_code 55 78 = some (.ireturn, 1) := by decide +kernel
theorem c55_79 : jm_code 55 79 = some (.aload_n 0, 1) := by decide +kernel
theorem c55_80 : jm_code 55 80 = some (.getfield 50, 3) := by decide +kernel
theorem c55_83 : jm_code 55 83 = some (.iload_n 3, 1) := by decide +kernel
theorem c55_84 : jm_code 55 84 = some (.invokevirtual 206, 3) := by decide +kernel
theorem c55_87 : jm_code 55 87 = some (.ireturn, 1) := by decide +kernel
theorem c55_88 : jm_code 55 88 = some (.aload_n 0, 1) := by decide +kernel
theorem c55_89 : jm_code 55 89 = some (.getfield 50, 3) := by decide +kernel
theorem c55_92 : jm_code 55 92 = some (.iload_n 3, 1) := by decide +kernel
theorem c55_93 : jm_code 55 93 = some (.invokevirtual 334, 3) := by decide +kernel
theorem c55_96 : jm_code 55 96 = some (.ireturn, 1) := by decide +kernel
theorem c55_97 : jm_code 55 97 = some (.aload_n 0, 1) := by decide +kernel
theorem c55_98 : jm_code 55 98 = some (.getfield 50, 3) := by decide +kernel
theorem c55_101 : jm_code 55 101 = some (.iload_n 3, 1) := by decide +kernel
theorem c55_102 : jm_code 55 102 = some (.aload_n 0, 1) := by decide +kernel
theorem c55_103 : jm_code 55 103 = some (.getfield 25, 3) := by decide +kernel
theorem c55_106 : jm_code 55 106 = some (.iconst 2, 1) := by decide +kernel
theorem c55_107 : jm_code 55 107 = some (.iaload, 1) := by decide +kernel
theorem c55_108 : jm_code 55 108 = some (.invokevirtual 341, 3) := by decide +kernel
theorem c55_111 : jm_code 55 111 = some (.ireturn, 1) := by decide +kernel
theorem c55_112 : jm_code 55 112 = some (.aload_n 0, 1) := by decide +kernel
theorem c55_113 : jm_code 55 113 = some (.iload_n 3, 1) := by decide +kernel
theorem c55_114 : jm_code 55 114 = some (.invokevirtual 344, 3) := by decide +kernel
theorem c55_117 : jm_code 55 117 = some (.ireturn, 1) := by decide +kernel
theorem c56_0 : jm_code 56 0 = some (.iconst 0, 1) := by decide +kernel
theorem c56_1 : jm_code 56 1 = some (.istore_n 2, 1) := by decide +kernel
theorem c56_2 : jm_code 56 2 = some (.iconst 0, 1) := by decide +kernel
theorem c56_3 : jm_code 56 3 = some (.istore_n 3, 1) := by decide +kernel
theorem c56_4 : jm_code 56 4 = some (.iconst 0, 1) := by decide +kernel
theorem c56_5 : jm_code 56 5 = some (.istore 4, 2) := by decide +kernel
theorem c56_7 : jm_code 56 7 = some (.iload 4, 2) := by decide +kernel
theorem c56_9 : jm_code 56 9 = some (.sipush 200, 3) := by decide +kernel
theorem c56_12 : jm_code 56 12 = some (.if_icmp .ge 71, 3) := by decide +kernel
theorem c56_15 : jm_code 56 15 = some (.aload_n 1, 1) := by decide +kernel
theorem c56_16 : jm_code 56 16 = some (.iload 4, 2) := by decide +kernel
theorem c56_18 : jm_code 56 18 = some (.invokevirtual 57, 3) := by decide +kernel
theorem c56_21 : jm_code 56 21 = some (.istore 5, 2) := by decide +kernel
theorem c56_23 : jm_code 56 23 = some (.iload_n 2, 1) := by decide +kernel
theorem c56_24 : jm_code 56 24 = some (.iload 5, 2) := by decide +kernel
theorem c56_26 : jm_code 56 26 = some (.iadd, 1) := by decide +kernel
theorem c56_27 : jm_code 56 27 = some (.istore_n 2, 1) := by decide +kernel
theorem c56_28 : jm_code 56 28 = some (.iload 5, 2) := by decide +kernel
theorem c56_30 : jm_code 56 30 = some (.ifCond .gt 7, 3) := by decide +kernel
theorem c56_33 : jm_code 56 33 = some (.iload_n 2, 1) := by decide +kernel
theorem c56_34 : jm_code 56 34 = some (.ifCond .ne 7, 3) := by decide +kernel
theorem c56_37 : jm_code 56 37 = some (.iconst 0, 1) := by decide +kernel
theorem c56_38 : jm_code 56 38 = some (.goto 6, 3) := by decide +kernel
theorem c56_41 : jm_code 56 41 = some (.iload_n 3, 1) := by decide +kernel
theorem c56_42 : jm_code 56 42 = some (.iconst 1, 1) := by decide +kernel
theorem c56_43 : jm_code 56 43 = some (.iadd, 1) := by decide +kernel
theorem c56_44 : jm_code 56 44 = some (.istore_n 3, 1) := by decide +kernel
theorem c56_45 : jm_code 56 45 = some (.iload_n 3, 1) := by decide +kernel
theorem c56_46 : jm_code 56 46 = some (.aload_n 0, 1) := by decide +kernel
theorem c56_47 : jm_code 56 47 = some (.getfield 11, 3) := by decide +kernel
theorem c56_50 : jm_code 56 50 = some (.if_icmp .ge 22, 3) := by decide +kernel
theorem c56_53 : jm_code 56 53 = some (.iload_n 2, 1) := by decide +kernel
theorem c56_54 : jm_code 56 54 = some (.aload_n 0, 1) := by decide +kernel
theorem c56_55 : jm_code 56 55 = some (.getfield 15, 3) := by decide +kernel
theorem c56_58 : jm_code 56 58 = some (.if_icmp .ge 14, 3) := by decide +kernel
theorem c56_61 : jm_code 56 61 = some (.iload 4, 2) := by decide +kernel
theorem c56_63 : jm_code 56 63 = some (.iconst 1, 1) := by decide +kernel
theorem c56_64 : jm_code 56 64 = some (.iadd, 1) := by decide +kernel
theorem c56_65 : jm_code 56 65 = some (.aload_n 0, 1) := by decide +kernel
theorem c56_66 : jm_code 56 66 = some (.getfield 18, 3) := by decide +kernel
theorem c56_69 : jm_code 56 69 = some (.if_icmp .lt 8, 3) := by decide +kernel
theorem c56_72 : jm_code 56 72 = some (.iload 4, 2) := by decide +kernel
theorem c56_74 : jm_code 56 74 = some (.iconst 1, 1) := by decide +kernel
theorem c56_75 : jm_code 56 75 = some (.iadd, 1) := by decide +kernel
theorem c56_76 : jm_code 56 76 = some (.ireturn, 1) := by decide +kernel
theorem c56_77 : jm_code 56 77 = some (.iinc 4 1, 3) := by decide +kernel
theorem c56_80 : jm_code 56 80 = some (.goto (-73), 3) := by decide +kernel
theorem c56_83 : jm_code 56 83 = some (.sipush 200, 3) := by decide +kernel
theorem c56_86 : jm_code 56 86 = some (.ireturn, 1) := by decide +kernel
theorem c57_0 : jm_code 57 0 = some (.iconst 0, 1) := by decide +kernel
theorem c57_1 : jm_code 57 1 = some (.istore_n 2, 1) := by decide +kernel
theorem c57_2 : jm_code 57 2 = some (.iconst 0, 1) := by decide +kernel
theorem c57_3 : jm_code 57 3 = some (.istore_n 3, 1) := by decide +kernel
theorem c57_4 : jm_code 57 4 = some (.iload_n 3, 1) := by decide +kernel
theorem c57_5 : jm_code 57 5 = some (.aload_n 0, 1) := by decide +kernel
theorem c57_6 : jm_code 57 6 = some (.getfield 45, 3) := by decide +kernel
theorem c57_9 : jm_code 57 9 = some (.if_icmp .ge 27, 3) := by decide +kernel
theorem c57_12 : jm_code 57 12 = some (.iload_n 2, 1) := by decide +kernel
theorem c57_13 : jm_code 57 13 = some (.aload_n 0, 1) := by decide +kernel
theorem c57_14 : jm_code 57 14 = some (.getfield 30, 3) := by decide +kernel
theorem c57_17 : jm_code 57 17 = some (.iload_n 3, 1) := by decide +kernel
theorem c57_18 : jm_code 57 18 = some (.iaload, 1) := by decide +kernel
theorem c57_19 : jm_code 57 19 = some (.iconst 3, 1) := by decide +kernel
theorem c57_20 : jm_code 57 20 = some (.if_icmp .eq 7, 3) := by decide +kernel
theorem c57_23 : jm_code 57 23 = some (.iconst 1, 1) := by decide +kernel
theorem c57_24 : jm_code 57 24 = some (.goto 4, 3) := by decide +kernel
theorem c57_27 : jm_code 57 27 = some (.iconst 0, 1) := by decide +kernel
theorem c57_28 : jm_code 57 28 = some (.iadd, 1) := by decide +kernel
theorem c57_29 : jm_code 57 29 = some (.istore_n 2, 1) := by decide +kernel
theorem c57_30 : jm_code 57 30 = some (.iinc 3 1, 3) := by decide +kernel
theorem c57_33 : jm_code 57 33 = some (.goto (-29), 3) := by decide +kernel
theorem c57_36 : jm_code 57 36 = some (.iload_n 2, 1) := by decide +kernel
theorem c57_37 : jm_code 57 37 = some (.aload_n 0, 1) := by decide +kernel
theorem c57_38 : jm_code 57 38 = some (.iload_n 1, 1) := by decide +kernel
theorem c57_39 : jm_code 57 39 = some (.invokevirtual 133, 3) := by decide +kernel
theorem c57_42 : jm_code 57 42 = some (.isub, 1) := by decide +kernel
theorem c57_43 : jm_code 57 43 = some (.aload_n 0, 1) := by decide +kernel
theorem c57_44 : jm_code 57 44 = some (.iload_n 1, 1) := by decide +kernel
theorem c57_45 : jm_code 57 45 = some (.invokevirtual 137, 3) := by decide +kernel
theorem c57_48 : jm_code 57 48 = some (.isub, 1) := by decide +kernel
theorem c57_49 : jm_code 57 49 = some (.ireturn, 1) := by decide +kernel
theorem c58_0 : jm_code 58 0 = some (.iconst 0, 1) := by decide +kernel
theorem c58_1 : jm_code 58 1 = some (.istore_n 2, 1) := by decide +kernel
theorem c58_2 : jm_code 58 2 = some (.iconst 0, 1) := by decide +kernel
theorem c58_3 : jm_code 58 3 = some (.istore_n 3, 1) := by decide +kernel
theorem c58_4 : jm_code 58 4 = some (.iload_n 3, 1) := by decide +kernel
theorem c58_5 : jm_code 58 5 = some (.aload_n 0, 1) := by decide +kernel
theorem c58_6 : jm_code 58 6 = some (.getfield 45, 3) := by decide +kernel
theorem c58_9 : jm_code 58 9 = some (.if_icmp .ge 37, 3) := by decide +kernel
theorem c58_12 : jm_code 58 12 = some (.iload_n 2, 1) := by decide +kernel
theorem c58_13 : jm_code 58 13 = some (.aload_n 0, 1) := by decide +kernel
theorem c58_14 : jm_code 58 14 = some (.getfield 30, 3) := by decide +kernel
theorem c58_17 : jm_code 58 17 = some (.iload_n 3, 1) := by decide +kernel
theorem c58_18 : jm_code 58 18 = some (.iaload, 1) := by decide +kernel
theorem c58_19 : jm_code 58 19 = some (.iconst 2, 1) := by decide +kernel
theorem c58_20 : jm_code 58 20 = some (.if_icmp .ne 17, 3) := by decide +kernel
theorem c58_23 : jm_code 58 23 = some (.aload_n 0, 1) := by decide +kernel
theorem c58_24 : jm_code 58 24 = some (.getfield 33, 3) := by decide +kernel
theorem c58_27 : jm_code 58 27 = some (.iload_n 3, 1) := by decide +kernel
theorem c58_28 : jm_code 58 28 = some (.iaload, 1) := by decide +kernel
theorem c58_29 : jm_code 58 29 = some (.iload_n 1, 1) := by decide +kernel
theorem c58_30 : jm_code 58 30 = some (.if_icmp .ge 7, 3) := by decide +kernel
theorem c58_33 : jm_code 58 33 = some (.iconst 1, 1) := by decide +kernel
theorem c58_34 : jm_code 58 34 = some (.goto 4, 3) := by decide +kernel
theorem c58_37 : jm_code 58 37 = some (.iconst 0, 1) := by decide +kernel
theorem c58_38 : jm_code 58 38 = some (.iadd, 1) := by decide +kernel
theorem c58_39 : jm_code 58 39 = some (.istore_n 2, 1) := by decide +kernel
theorem c58_40 : jm_code 58 40 = some (.iinc 3 1, 3) := by decide +kernel
theorem c58_43 : jm_code 58 43 = some (.goto (-39), 3) := by decide +kernel
theorem c58_46 : jm_code 58 46 = some (.iload_n 2, 1) := by decide +kernel
theorem c58_47 : jm_code 58 47 = some (.ireturn, 1) := by decide +kernel
theorem c59_0 : jm_code 59 0 = some (.iconst 0, 1) := by decide +kernel
theorem c59_1 : jm_code 59 1 = some (.istore_n 2, 1) := by decide +kernel
theorem c59_2 : jm_code 59 2 = some (.iconst 0, 1) := by decide +kernel
theorem c59_3 : jm_code 59 3 = some (.istore_n 3, 1) := by decide +kernel
theorem c59_4 : jm_code 59 4 = some (.iload_n 3, 1) := by decide +kernel
theorem c59_5 : jm_code 59 5 = some (.aload_n 0, 1) := by decide +kernel
theorem c59_6 : jm_code 59 6 = some (.getfield 45, 3) := by decide +kernel
theorem c59_9 : jm_code 59 9 = some (.if_icmp .ge 31, 3) := by decide +kernel
theorem c59_12 : jm_code 59 12 = some (.iload_n 2, 1) := by decide +kernel
theorem c59_13 : jm_code 59 13 = some (.aload_n 0, 1) := by decide +kernel
theorem c59_14 : jm_code 59 14 = some (.iload_n 3, 1) := by decide +kernel
theorem c59_15 : jm_code 59 15 = some (.iload_n 1, 1) := by decide +kernel
theorem c59_16 : jm_code 59 16 = some (.invokevirtual 129, 3) := by decide +kernel
theorem c59_19 : jm_code 59 19 = some (.ifCond .eq 12, 3) := by decide +kernel
theorem c59_22 : jm_code 59 22 = some (.aload_n 0, 1) := by decide +kernel
theorem c59_23 : jm_code 59 23 = some (.getfield 36, 3) := by decide +kernel
theorem c59_26 : jm_code 59 26 = some (.iload_n 3, 1) := by decide +kernel
theorem c59_27 : jm_code 59 27 = some (.iaload, 1) := by decide +kernel
theorem c59_28 : jm_code 59 28 = some (.goto 4, 3) := by decide +kernel
theorem c59_31 : jm_code 59 31 = some (.iconst 0, 1) := by decide +kernel
theorem c59_32 : jm_code 59 32 = some (.iadd, 1) := by decide +kernel
theorem c59_33 : jm_code 59 33 = some (.istore_n 2, 1) := by decide +kernel
theorem c59_34 : jm_code 59 34 = some (.iinc 3 1, 3) := by decide +kernel
theorem c59_37 : jm_code 59 37 = some (.goto (-33), 3) := by decide +kernel
theorem c59_40 : jm_code 59 40 = some (.iload_n 2, 1) := by decide +kernel
theorem c59_41 : jm_code 59 41 = some (.ireturn, 1) := by decide +kernel
theorem c60_0 : jm_code 60 0 = some (.iconst 0, 1) := by decide +kernel
theorem c60_1 : jm_code 60 1 = some (.istore_n 3, 1) := by decide +kernel
theorem c60_2 : jm_code 60 2 = some (.iconst 0, 1) := by decide +kernel
theorem c60_3 : jm_code 60 3 = some (.istore 4, 2) := by decide +kernel
theorem c60_5 : jm_code 60 5 = some (.iload 4, 2) := by decide +kernel
theorem c60_7 : jm_code 60 7 = some (.aload_n 0, 1) := by decide +kernel
theorem c60_8 : jm_code 60 8 = some (.getfield 45, 3) := by decide +kernel
theorem c60_11 : jm_code 60 11 = some (.if_icmp .ge 40, 3) := by decide +kernel
theorem c60_14 : jm_code 60 14 = some (.iload_n 3, 1) := by decide +kernel
theorem c60_15 : jm_code 60 15 = some (.aload_n 0, 1) := by decide +kernel
theorem c60_16 : jm_code 60 16 = some (.iload 4, 2) := by decide +kernel
theorem c60_18 : jm_code 60 18 = some (.iload_n 1, 1) := by decide +kernel
theorem c60_19 : jm_code 60 19 = some (.invokevirtual 129, 3) := by decide +kernel
theorem c60_22 : jm_code 60 22 = some (.ifCond .eq 20, 3) := by decide +kernel
theorem c60_25 : jm_code 60 25 = some (.iload_n 1, 1) := by decide +kernel
theorem c60_26 : jm_code 60 26 = some (.aload_n 0, 1) := by decide +kernel
theorem c60_27 : jm_code 60 27 = some (.getfield 33, 3) := by decide +kernel
theorem c60_30 : jm_code 60 30 = some (.iload 4, 2) := by decide +kernel
theorem c60_32 : jm_code 60 32 = some (.iaload, 1) := by decide +kernel
theorem c60_33 : jm_code 60 33 = some (.isub, 1) := by decide +kernel
theorem c60_34 : jm_code 60 34 = some (.iload_n 2, 1) := by decide +kernel
theorem c60_35 : jm_code 60 35 = some (.if_icmp .le 7, 3) := by decide +kernel
theorem c60_38 : jm_code 60 38 = some (.iconst 1, 1) := by decide +kernel
theorem c60_39 : jm_code 60 39 = some (.goto 4, 3) := by decide +kernel
theorem c60_42 : jm_code 60 42 = some (.iconst 0, 1) := by decide +kernel
theorem c60_43 : jm_code 60 43 = some (.iadd, 1) := by decide +kernel
theorem c60_44 : jm_code 60 44 = some (.istore_n 3, 1) := by decide +kernel
theorem c60_45 : jm_code 60 45 = some (.iinc 4 1, 3) := by decide +kernel
theorem c60_48 : jm_code 60 48 = some (.goto (-43), 3) := by decide +kernel
theorem c60_51 : jm_code 60 51 = some (.iload_n 3, 1) := by decide +kernel
theorem c60_52 : jm_code 60 52 = some (.ireturn, 1) := by decide +kernel
theorem c61_0 : jm_code 61 0 = some (.aload_n 0, 1) := by decide +kernel
theorem c61_1 : jm_code 61 1 = some (.getfield 50, 3) := by decide +kernel
theorem c61_4 : jm_code 61 4 = some (.iload_n 1, 1) := by decide +kernel
theorem c61_5 : jm_code 61 5 = some (.invokevirtual 334, 3) := by decide +kernel
theorem c61_8 : jm_code 61 8 = some (.aload_n 0, 1) := by decide +kernel
theorem c61_9 : jm_code 61 9 = some (.getfield 50, 3) := by decide +kernel
theorem c61_12 : jm_code 61 12 = some (.iload_n 1, 1) := by decide +kernel
theorem c61_13 : jm_code 61 13 = some (.aload_n 0, 1) := by decide +kernel
theorem c61_14 : jm_code 61 14 = some (.getfield 25, 3) := by decide +kernel
theorem c61_17 : jm_code 61 17 = some (.iconst 2, 1) := by decide +kernel
theorem c61_18 : jm_code 61 18 = some (.iaload, 1) := by decide +kernel
theorem c61_19 : jm_code 61 19 = some (.invokevirtual 341, 3) := by decide +kernel
theorem c61_22 : jm_code 61 22 = some (.iadd, 1) := by decide +kernel
theorem c61_23 : jm_code 61 23 = some (.istore_n 2, 1) := by decide +kernel
theorem c61_24 : jm_code 61 24 = some (.aload_n 0, 1) := by decide +kernel
theorem c61_25 : jm_code 61 25 = some (.getfield 25, 3) := by decide +kernel
theorem c61_28 : jm_code 61 28 = some (.iconst 3, 1) := by decide +kernel
theorem c61_29 : jm_code 61 29 = some (.iaload, 1) := by decide +kernel
theorem c61_30 : jm_code 61 30 = some (.aload_n 0, 1) := by decide +kernel
theorem c61_31 : jm_code 61 31 = some (.getfield 50, 3) := by decide +kernel
theorem c61_34 : jm_code 61 34 = some (.iload_n 1, 1) := by decide +kernel
theorem c61_35 : jm_code 61 35 = some (.invokevirtual 206, 3) := by decide +kernel
theorem c61_38 : jm_code 61 38 = some (.imul, 1) := by decide +kernel
theorem c61_39 : jm_code 61 39 = some (.aload_n 0, 1) := by decide +kernel
theorem c61_40 : jm_code 61 40 = some (.getfield 25, 3) := by decide +kernel
theorem c61_43 : jm_code 61 43 = some (.iconst 4, 1) := by decide +kernel
theorem c61_44 : jm_code 61 44 = some (.iaload, 1) := by decide +kernel
theorem c61_45 : jm_code 61 45 = some (.aload_n 0, 1) := by decide +kernel
theorem c61_46 : jm_code 61 46 = some (.getfield 50, 3) := by decide +kernel
theorem c61_49 : jm_code 61 49 = some (.iload_n 1, 1) := by decide +kernel
theorem c61_50 : jm_code 61 50 = some (.invokevirtual 331, 3) := by decide +kernel
theorem c61_53 : jm_code 61 53 = some (.imul, 1) := by decide +kernel
theorem c61_54 : jm_code 61 54 = some (.isub, 1) := by decide +kernel
theorem c61_55 : jm_code 61 55 = some (.aload_n 0, 1) := by decide +kernel
theorem c61_56 : jm_code 61 56 = some (.getfield 25, 3) := by decide +kernel
theorem c61_59 : jm_code 61 59 = some (.iconst 5, 1) := by decide +kernel
theorem c61_60 : jm_code 61 60 = some (.iaload, 1) := by decide +kernel
theorem c61_61 : jm_code 61 61 = some (.iload_n 2, 1) := by decide +kernel
theorem c61_62 : jm_code 61 62 = some (.imul, 1) := by decide +kernel
theorem c61_63 : jm_code 61 63 = some (.isub, 1) := by decide +kernel
theorem c61_64 : jm_code 61 64 = some (.ireturn, 1) := by decide +kernel
theorem c62_0 : jm_code 62 0 = some (.aload_n 0, 1) := by decide +kernel
theorem c62_1 : jm_code 62 1 = some (.sipush 200, 3) := by decide +kernel
theorem c62_4 : jm_code 62 4 = some (.invokevirtual 171, 3) := by decide +kernel
theorem c62_7 : jm_code 62 7 = some (.aload_n 0, 1) := by decide +kernel
theorem c62_8 : jm_code 62 8 = some (.invokevirtual 184, 3) := by decide +kernel
theorem c62_11 : jm_code 62 11 = some (.ireturn, 1) := by decide +kernel
theorem c63_0 : jm_code 63 0 = some (.iconst (-1), 1) := by decide +kernel
theorem c63_1 : jm_code 63 1 = some (.istore_n 1, 1) := by decide +kernel
theorem c63_2 : jm_code 63 2 = some (.iconst 0, 1) := by decide +kernel
theorem c63_3 : jm_code 63 3 = some (.istore_n 2, 1) := by decide +kernel
theorem c63_4 : jm_code 63 4 = some (.iconst 0, 1) := by decide +kernel
theorem c63_5 : jm_code 63 5 = some (.istore_n 3, 1) := by decide +kernel
theorem c63_6 : jm_code 63 6 = some (.iload_n 3, 1) := by decide +kernel
theorem c63_7 : jm_code 63 7 = some (.iconst 3, 1) := by decide +kernel
theorem c63_8 : jm_code 63 8 = some (.if_icmp .ge 48, 3) := by decide +kernel
theorem c63_11 : jm_code 63 11 = some (.aload_n 0, 1) := by decide +kernel
theorem c63_12 : jm_code 63 12 = some (.getfield 30, 3) := by decide +kernel
theorem c63_15 : jm_code 63 15 = some (.iload_n 3, 1) := by decide +kernel
theorem c63_16 : jm_code 63 16 = some (.iconst 1, 1) := by decide +kernel
theorem c63_17 : jm_code 63 17 = some (.iadd, 1) := by decide +kernel
theorem c63_18 : jm_code 63 18 = some (.aaload, 1) := by decide +kernel
theorem c63_19 : jm_code 63 19 = some (.getfield 148, 3) := by decide +kernel
theorem c63_22 : jm_code 63 22 = some (.iconst (-1), 1) := by decide +kernel
theorem c63_23 : jm_code 63 23 = some (.if_icmp .ne 27, 3) := by decide +kernel
theorem c63_26 : jm_code 63 26 = some (.aload_n 0, 1) := by decide +kernel
theorem c63_27 : jm_code 63 27 = some (.iload_n 3, 1) := by decide +kernel
theorem c63_28 : jm_code 63 28 = some (.iconst 5, 1) := by decide +kernel
theorem c63_29 : jm_code 63 29 = some (.invokevirtual 181, 3) := by decide +kernel
theorem c63_32 : jm_code 63 32 = some (.istore 4, 2) := by decide +kernel
theorem c63_34 : jm_code 63 34 = some (.iload_n 1, 1) := by decide +kernel
theorem c63_35 : jm_code 63 35 = some (.iconst (-1), 1) := by decide +kernel
theorem c63_36 : jm_code 63 36 = some (.if_icmp .eq 9, 3) := by decide +kernel
theorem c63_39 : jm_code 63 39 = some (.iload 4, 2) := by decide +kernel
theorem c63_41 : jm_code 63 41 = some (.iload_n 2, 1) := by decide +kernel
theorem c63_42 : jm_code 63 42 = some (.if_icmp .le 8, 3) := by decide +kernel
theorem c63_45 : jm_code 63 45 = some (.iload_n 3, 1) := by decide +kernel
theorem c63_46 : jm_code 63 46 = some (.istore_n 1, 1) := by decide +kernel
theorem c63_47 : jm_code 63 47 = some (.iload 4, 2) := by decide +kernel
theorem c63_49 : jm_code 63 49 = some (.istore_n 2, 1) := by decide +kernel
theorem c63_50 : jm_code 63 50 = some (.iinc 3 1, 3) := by decide +kernel
theorem c63_53 : jm_code 63 53 = some (.goto (-47), 3) := by decide +kernel
theorem c63_56 : jm_code 63 56 = some (.iload_n 1, 1) := by decide +kernel
theorem c63_57 : jm_code 63 57 = some (.ireturn, 1) := by decide +kernel
theorem c64_0 : jm_code 64 0 = some (.iload_n 1, 1) := by decide +kernel
theorem c64_1 : jm_code 64 1 = some (.iconst 1, 1) := by decide +kernel
theorem c64_2 : jm_code 64 2 = some (.sipush 200, 3) := by decide +kernel
theorem c64_5 : jm_code 64 5 = some (.invokestatic 86, 3) := by decide +kernel
theorem c64_8 : jm_code 64 8 = some (.ifCond .ne 12, 3) := by decide +kernel
theorem c64_11 : jm_code 64 11 = some (.iload_n 2, 1) := by decide +kernel
theorem c64_12 : jm_code 64 12 = some (.iconst 0, 1) := by decide +kernel
theorem c64_13 : jm_code 64 13 = some (.iconst 2, 1) := by decide +kernel
theorem c64_14 : jm_code 64 14 = some (.invokestatic 86, 3) := by decide +kernel
theorem c64_17 : jm_code 64 17 = some (.ifCond .eq 6, 3) := by decide +kernel
theorem c64_20 : jm_code 64 20 = some (.bipush (-2), 2) := by decide +kernel
theorem c64_22 : jm_code 64 22 = some (.ireturn, 1) := by decide +kernel
theorem c64_23 : jm_code 64 23 = some (.aload_n 0, 1) := by decide +kernel
theorem c64_24 : jm_code 64 24 = some (.iload_n 1, 1) := by decide +kernel
theorem c64_25 : jm_code 64 25 = some (.invokevirtual 188, 3) := by decide +kernel
theorem c64_28 : jm_code 64 28 = some (.aload_n 0, 1) := by decide +kernel
theorem c64_29 : jm_code 64 29 = some (.getfield 60, 3) := by decide +kernel
theorem c64_32 : jm_code 64 32 = some (.iload_n 2, 1) := by decide +kernel
theorem c64_33 : jm_code 64 33 = some (.invokevirtual 191, 3) := by decide +kernel
theorem c64_36 : jm_code 64 36 = some (.ireturn, 1) := by decide +kernel
theorem c65_0 : jm_code 65 0 = some (.iconst 1, 1) := by decide +kernel
theorem c65_1 : jm_code 65 1 = some (.istore_n 2, 1) := by decide +kernel
theorem c65_2 : jm_code 65 2 = some (.iload_n 2, 1) := by decide +kernel
theorem c65_3 : jm_code 65 3 = some (.bipush 99, 2) := by decide +kernel
theorem c65_5 : jm_code 65 5 = some (.if_icmp .gt 56, 3) := by decide +kernel
theorem c65_8 : jm_code 65 8 = some (.aload_n 0, 1) := by decide +kernel
theorem c65_9 : jm_code 65 9 = some (.invokevirtual 161, 3) := by decide +kernel
theorem c65_12 : jm_code 65 12 = some (.aload_n 0, 1) := by decide +kernel
theorem c65_13 : jm_code 65 13 = some (.getfield 50, 3) := by decide +kernel
theorem c65_16 : jm_code 65 16 = some (.iload_n 2, 1) := by decide +kernel
theorem c65_17 : jm_code 65 17 = some (.iload_n 1, 1) := by decide +kernel
theorem c65_18 : jm_code 65 18 = some (.invokevirtual 347, 3) := by decide +kernel
theorem c65_21 : jm_code 65 21 = some (.aload_n 0, 1) := by decide +kernel
theorem c65_22 : jm_code 65 22 = some (.getfield 60, 3) := by decide +kernel
theorem c65_25 : jm_code 65 25 = some (.getfield 350, 3) := by decide +kernel
theorem c65_28 : jm_code 65 28 = some (.iload_n 2, 1) := by decide +kernel
theorem c65_29 : jm_code 65 29 = some (.aload_n 0, 1) := by decide +kernel
theorem c65_30 : jm_code 65 30 = some (.getfield 50, 3) := by decide +kernel
theorem c65_33 : jm_code 65 33 = some (.iload_n 1, 1) := by decide +kernel
theorem c65_34 : jm_code 65 34 = some (.invokevirtual 174, 3) := by decide +kernel
theorem c65_37 : jm_code 65 37 = some (.iastore, 1) := by decide +kernel
theorem c65_38 : jm_code 65 38 = some (.aload_n 0, 1) := by decide +kernel
theorem c65_39 : jm_code 65 39 = some (.getfield 60, 3) := by decide +kernel
theorem c65_42 : jm_code 65 42 = some (.getfield 353, 3) := by decide +kernel
theorem c65_45 : jm_code 65 45 = some (.iload_n 2, 1) := by decide +kernel
theorem c65_46 : jm_code 65 46 = some (.aload_n 0, 1) := by decide +kernel
theorem c65_47 : jm_code 65 47 = some (.getfield 50, 3) := by decide +kernel
theorem c65_50 : jm_code 65 50 = some (.iload_n 1, 1) := by decide +kernel
theorem c65_51 : jm_code 65 51 = some (.invokevirtual 334, 3) := by decide +kernel
theorem c65_54 : jm_code 65 54 = some (.iastore, 1) := by decide +kernel
theorem c65_55 : jm_code 65 55 = some (.iinc 2 1, 3) := by decide +kernel
theorem c65_58 : jm_code 65 58 = some (.goto (-56), 3) := by decide +kernel
theorem c65_61 : jm_code 65 61 = some (.return_, 1) := by decide +kernel
theorem c66_0 : jm_code 66 0 = some (.aload_n 0, 1) := by decide +kernel
theorem c66_1 : jm_code 66 1 = some (.getfield 58, 3) := by decide +kernel
theorem c66_4 : jm_code 66 4 = some (.istore_n 3, 1) := by decide +kernel
theorem c66_5 : jm_code 66 5 = some (.iload_n 3, 1) := by decide +kernel
theorem c66_6 : jm_code 66 6 = some (.iload_n 2, 1) := by decide +kernel
theorem c66_7 : jm_code 66 7 = some (.if_icmp .ge 23, 3) := by decide +kernel
theorem c66_10 : jm_code 66 10 = some (.aload_n 0, 1) := by decide +kernel
theorem c66_11 : jm_code 66 11 = some (.getfield 55, 3) := by decide +kernel
theorem c66_14 : jm_code 66 14 = some (.ifCond .le 16, 3) := by decide +kernel
theorem c66_17 : jm_code 66 17 = some (.aload_n 0, 1) := by decide +kernel
theorem c66_18 : jm_code 66 18 = some (.iload_n 1, 1) := by decide +kernel
theorem c66_19 : jm_code 66 19 = some (.iconst 0, 1) := by decide +kernel
theorem c66_20 : jm_code 66 20 = some (.iconst 0, 1) := by decide +kernel
theorem c66_21 : jm_code 66 21 = some (.invokevirtual 103, 3) := by decide +kernel
theorem c66_24 : jm_code 66 24 = some (.iinc 3 1, 3) := by decide +kernel
theorem c66_27 : jm_code 66 27 = some (.goto (-22), 3) := by decide +kernel
theorem c66_30 : jm_code 66 30 = some (.return_, 1) := by decide +kernel
theorem c67_0 : jm_code 67 0 = some (.aload_n 0, 1) := by decide +kernel
theorem c67_1 : jm_code 67 1 = some (.invokevirtual 18, 3) := by decide +kernel
theorem c67_4 : jm_code 67 4 = some (.istore_n 2, 1) := by decide +kernel
theorem c67_5 : jm_code 67 5 = some (.iload_n 1, 1) := by decide +kernel
theorem c67_6 : jm_code 67 6 = some (.ifCond .ne 5, 3) := by decide +kernel
theorem c67_9 : jm_code 67 9 = some (.iload_n 2, 1) := by decide +kernel
theorem c67_10 : jm_code 67 10 = some (.ireturn, 1) := by decide +kernel
theorem c67_11 : jm_code 67 11 = some (.iload_n 1, 1) := by decide +kernel
theorem c67_12 : jm_code 67 12 = some (.iconst 1, 1) := by decide +kernel
theorem c67_13 : jm_code 67 13 = some (.if_icmp .ne 12, 3) := by decide +kernel
theorem c67_16 : jm_code 67 16 = some (.aload_n 0, 1) := by decide +kernel
theorem c67_17 : jm_code 67 17 = some (.getfield 9, 3) := by decide +kernel
theorem c67_20 : jm_code 67 20 = some (.iload_n 2, 1) := by decide +kernel
theorem c67_21 : jm_code 67 21 = some (.iaload, 1) := by decide +kernel
theorem c67_22 : jm_code 67 22 = some (.goto 9, 3) := by decide +kernel
theorem c67_25 : jm_code 67 25 = some (.aload_n 0, 1) := by decide +kernel
theorem c67_26 : jm_code 67 26 = some (.getfield 15, 3) := by decide +kernel
theorem c67_29 : jm_code 67 29 = some (.iload_n 2, 1) := by decide +kernel
theorem c67_30 : jm_code 67 30 = some (.iaload, 1) := by decide +kernel
theorem c67_31 : jm_code 67 31 = some (.ireturn, 1) := by decide +kernel
theorem c68_0 : jm_code 68 0 = some (.iconst 1, 1) := by decide +kernel
theorem c68_1 : jm_code 68 1 = some (.istore_n 1, 1) := by decide +kernel
theorem c68_2 : jm_code 68 2 = some (.iconst 2, 1) := by decide +kernel
theorem c68_3 : jm_code 68 3 = some (.istore_n 2, 1) := by decide +kernel
theorem c68_4 : jm_code 68 4 = some (.iload_n 2, 1) := by decide +kernel
theorem c68_5 : jm_code 68 5 = some (.bipush 99, 2) := by decide +kernel
theorem c68_7 : jm_code 68 7 = some (.if_icmp .gt 56, 3) := by decide +kernel
theorem c68_10 : jm_code 68 10 = some (.aload_n 0, 1) := by decide +kernel
theorem c68_11 : jm_code 68 11 = some (.getfield 9, 3) := by decide +kernel
theorem c68_14 : jm_code 68 14 = some (.iload_n 2, 1) := by decide +kernel
theorem c68_15 : jm_code 68 15 = some (.iaload, 1) := by decide +kernel
theorem c68_16 : jm_code 68 16 = some (.aload_n 0, 1) := by decide +kernel
theorem c68_17 : jm_code 68 17 = some (.getfield 9, 3) := by decide +kernel
theorem c68_20 : jm_code 68 20 = some (.iload_n 1, 1) := by decide +kernel
theorem c68_21 : jm_code 68 21 = some (.iaload, 1) := by decide +kernel
theorem c68_22 : jm_code 68 22 = some (.if_icmp .gt 33, 3) := by decide +kernel
theorem c68_25 : jm_code 68 25 = some (.aload_n 0, 1) := by decide +kernel
theorem c68_26 : jm_code 68 26 = some (.getfield 9, 3) := by decide +kernel
theorem c68_29 : jm_code 68 29 = some (.iload_n 2, 1) := by decide +kernel
theorem c68_30 : jm_code 68 30 = some (.iaload, 1) := by decide +kernel
theorem c68_31 : jm_code 68 31 = some (.aload_n 0, 1) := by decide +kernel
theorem c68_32 : jm_code 68 32 = some (.getfield 9, 3) := by decide +kernel
theorem c68_35 : jm_code 68 35 = some (.iload_n 1, 1) := by decide +kernel
theorem c68_36 : jm_code 68 36 = some (.iaload, 1) := by decide +kernel
theorem c68_37 : jm_code 68 37 = some (.if_icmp .ne 20, 3) := by decide +kernel
theorem c68_40 : jm_code 68 40 = some (.aload_n 0, 1) := by decide +kernel
theorem c68_41 : jm_code 68 41 = some (.getfield 15, 3) := by decide +kernel
theorem c68_44 : jm_code 68 44 = some (.iload_n 2, 1) := by decide +kernel
theorem c68_45 : jm_code 68 45 = some (.iaload, 1) := by decide +kernel
theorem c68_46 : jm_code 68 46 = some (.aload_n 0, 1) := by decide +kernel
theorem c68_47 : jm_code 68 47 = some (.getfield 15, 3) := by decide +kernel
theorem c68_50 : jm_code 68 50 = some (.iload_n 1, 1) := by decide +kernel
theorem c68_51 : jm_code 68 51 = some (.iaload, 1) := by decide +kernel
theorem c68_52 : jm_code 68 52 = some (.if_icmp .ge 5, 3) := by decide +kernel
theorem c68_55 : jm_code 68 55 = some (.iload_n 2, 1) := by decide +kernel
theorem c68_56 : jm_code 68 56 = some (.istore_n 1, 1) := by decide +kernel
theorem c68_57 : jm_code 68 57 = some (.iinc 2 1, 3) := by decide +kernel
theorem c68_60 : jm_code 68 60 = some (.goto (-56), 3) := by decide +kernel
theorem c68_63 : jm_code 68 63 = some (.iload_n 1, 1) := by decide +kernel
theorem c68_64 : jm_code 68 64 = some (.ireturn, 1) := by decide +kernel
theorem c69_0 : jm_code 69 0 = some (.iload_n 1, 1) := by decide +kernel
theorem c69_1 : jm_code 69 1 = some (.iconst 1, 1) := by decide +kernel
theorem c69_2 : jm_code 69 2 = some (.sipush 200, 3) := by decide +kernel
theorem c69_5 : jm_code 69 5 = some (.invokestatic 86, 3) := by decide +kernel
theorem c69_8 : jm_code 69 8 = some (.ifCond .ne 8, 3) := by decide +kernel
theorem c69_11 : jm_code 69 11 = some (.iload_n 2, 1) := by decide +kernel
theorem c69_12 : jm_code 69 12 = some (.iconst (-1), 1) := by decide +kernel
theorem c69_13 : jm_code 69 13 = some (.if_icmp .ge 6, 3) := by decide +kernel
theorem c69_16 : jm_code 69 16 = some (.bipush (-2), 2) := by decide +kernel
theorem c69_18 : jm_code 69 18 = some (.ireturn, 1) := by decide +kernel
theorem c69_19 : jm_code 69 19 = some (.aload_n 0, 1) := by decide +kernel
theorem c69_20 : jm_code 69 20 = some (.iload_n 1, 1) := by decide +kernel
theorem c69_21 : jm_code 69 21 = some (.invokevirtual 188, 3) := by decide +kernel
theorem c69_24 : jm_code 69 24 = some (.iload_n 2, 1) := by decide +kernel
theorem c69_25 : jm_code 69 25 = some (.iconst (-1), 1) := by decide +kernel
theorem c69_26 : jm_code 69 26 = some (.if_icmp .ne 13, 3) := by decide +kernel
theorem c69_29 : jm_code 69 29 = some (.aload_n 0, 1) := by decide +kernel
theorem c69_30 : jm_code 69 30 = some (.getfield 60, 3) := by decide +kernel
theorem c69_33 : jm_code 69 33 = some (.invokevirtual 193, 3) := by decide +kernel
theorem c69_36 : jm_code 69 36 = some (.goto 11, 3) := by decide +kernel
theorem c69_39 : jm_code 69 39 = some (.aload_n 0, 1) := by decide +kernel
theorem c69_40 : jm_code 69 40 = some (.getfield 60, 3) := by decide +kernel
theorem c69_43 : jm_code 69 43 = some (.iload_n 2, 1) := by decide +kernel
theorem c69_44 : jm_code 69 44 = some (.invokevirtual 196, 3) := by decide +kernel
theorem c69_47 : jm_code 69 47 = some (.ireturn, 1) := by decide +kernel
theorem c70_0 : jm_code 70 0 = some (.iconst 0, 1) := by decide +kernel
theorem c70_1 : jm_code 70 1 = some (.istore_n 1, 1) := by decide +kernel
theorem c70_2 : jm_code 70 2 = some (.iconst 1, 1) := by decide +kernel
theorem c70_3 : jm_code 70 3 = some (.istore_n 2, 1) := by decide +kernel
theorem c70_4 : jm_code 70 4 = some (.iload_n 2, 1) := by decide +kernel
theorem c70_5 : jm_code 70 5 = some (.bipush 99, 2) := by decide +kernel
theorem c70_7 : jm_code 70 7 = some (.if_icmp .gt 25, 3) := by decide +kernel
theorem c70_10 : jm_code 70 10 = some (.iload_n 1, 1) := by decide +kernel
theorem c70_11 : jm_code 70 11 = some (.aload_n 0, 1) := by decide +kernel
theorem c70_12 : jm_code 70 12 = some (.iload_n 2, 1) := by decide +kernel
theorem c70_13 : jm_code 70 13 = some (.invokevirtual 26, 3) := by decide +kernel
theorem c70_16 : jm_code 70 16 = some (.ifCond .eq 7, 3) := by decide +kernel
theorem c70_19 : jm_code 70 19 = some (.iconst 1, 1) := by decide +kernel
theorem c70_20 : jm_code 70 20 = some (.goto 4, 3) := by decide +kernel
theorem c70_23 : jm_code 70 23 = some (.iconst 0, 1) := by decide +kernel
theorem c70_24 : jm_code 70 24 = some (.iadd, 1) := by decide +kernel
theorem c70_25 : jm_code 70 25 = some (.istore_n 1, 1) := by decide +kernel
theorem c70_26 : jm_code 70 26 = some (.iinc 2 1, 3) := by decide +kernel
theorem c70_29 : jm_code 70 29 = some (.goto (-25), 3) := by decide +kernel
theorem c70_32 : jm_code 70 32 = some (.iload_n 1, 1) := by decide +kernel
theorem c70_33 : jm_code 70 33 = some (.ireturn, 1) := by decide +kernel
theorem c71_0 : jm_code 71 0 = some (.iconst 1, 1) := by decide +kernel
theorem c71_1 : jm_code 71 1 = some (.istore_n 2, 1) := by decide +kernel
theorem c71_2 : jm_code 71 2 = some (.iload_n 2, 1) := by decide +kernel
theorem c71_3 : jm_code 71 3 = some (.bipush 99, 2) := by decide +kernel
theorem c71_5 : jm_code 71 5 = some (.if_icmp .gt 20, 3) := by decide +kernel
theorem c71_8 : jm_code 71 8 = some (.aload_n 0, 1) := by decide +kernel
theorem c71_9 : jm_code 71 9 = some (.iload_n 2, 1) := by decide +kernel
theorem c71_10 : jm_code 71 10 = some (.iload_n 1, 1) := by decide +kernel
theorem c71_11 : jm_code 71 11 = some (.invokevirtual 22, 3) := by decide +kernel
theorem c71_14 : jm_code 71 14 = some (.ifCond .eq 5, 3) := by decide +kernel
theorem c71_17 : jm_code 71 17 = some (.iconst 0, 1) := by decide +kernel
theorem c71_18 : jm_code 71 18 = some (.ireturn, 1) := by decide +kernel
theorem c71_19 : jm_code 71 19 = some (.iinc 2 1, 3) := by decide +kernel
theorem c71_22 : jm_code 71 22 = some (.goto (-20), 3) := by decide +kernel
theorem c71_25 : jm_code 71 25 = some (.iconst 1, 1) := by decide +kernel
theorem c71_26 : jm_code 71 26 = some (.ireturn, 1) := by decide +kernel
theorem c72_0 : jm_code 72 0 = some (.aload_n 0, 1) := by decide +kernel
theorem c72_1 : jm_code 72 1 = some (.getfield 9, 3) := by decide +kernel
theorem c72_4 : jm_code 72 4 = some (.iload_n 1, 1) := by decide +kernel
theorem c72_5 : jm_code 72 5 = some (.iaload, 1) := by decide +kernel
theorem c72_6 : jm_code 72 6 = some (.aload_n 0, 1) := by decide +kernel
theorem c72_7 : jm_code 72 7 = some (.getfield 9, 3) := by decide +kernel
theorem c72_10 : jm_code 72 10 = some (.iload_n 2, 1) := by decide +kernel
theorem c72_11 : jm_code 72 11 = some (.iaload, 1) := by decide +kernel
theorem c72_12 : jm_code 72 12 = some (.if_icmp .le 18, 3) := by decide +kernel
theorem c72_15 : jm_code 72 15 = some (.aload_n 0, 1) := by decide +kernel
theorem c72_16 : jm_code 72 16 = some (.getfield 15, 3) := by decide +kernel
theorem c72_19 : jm_code 72 19 = some (.iload_n 1, 1) := by decide +kernel
theorem c72_20 : jm_code 72 20 = some (.iaload, 1) := by decide +kernel
theorem c72_21 : jm_code 72 21 = some (.aload_n 0, 1) := by decide +kernel
theorem c72_22 : jm_code 72 22 = some (.getfield 15, 3) := by decide +kernel
theorem c72_25 : jm_code 72 25 = some (.iload_n 2, 1) := by decide +kernel
theorem c72_26 : jm_code 72 26 = some (.iaload, 1) := by decide +kernel
theorem c72_27 : jm_code 72 27 = some (.if_icmp .le 33, 3) := by decide +kernel
theorem c72_30 : jm_code 72 30 = some (.aload_n 0, 1) := by decide +kernel
theorem c72_31 : jm_code 72 31 = some (.getfield 9, 3) := by decide +kernel
theorem c72_34 : jm_code 72 34 = some (.iload_n 1, 1) := by decide +kernel
theorem c72_35 : jm_code 72 35 = some (.iaload, 1) := by decide +kernel
theorem c72_36 : jm_code 72 36 = some (.aload_n 0, 1) := by decide +kernel
theorem c72_37 : jm_code 72 37 = some (.getfield 9, 3) := by decide +kernel
theorem c72_40 : jm_code 72 40 = some (.iload_n 2, 1) := by decide +kernel
theorem c72_41 : jm_code 72 41 = some (.iaload, 1) := by decide +kernel
theorem c72_42 : jm_code 72 42 = some (.if_icmp .ne 22, 3) := by decide +kernel
theorem c72_45 : jm_code 72 45 = some (.aload_n 0, 1) := by decide +kernel
theorem c72_46 : jm_code 72 46 = some (.getfield 15, 3) := by decide +kernel
theorem c72_49 : jm_code 72 49 = some (.iload_n 1, 1) := by decide +kernel
theorem c72_50 : jm_code 72 50 = some (.iaload, 1) := by decide +kernel
theorem c72_51 : jm_code 72 51 = some (.aload_n 0, 1) := by decide +kernel
theorem c72_52 : jm_code 72 52 = some (.getfield 15, 3) := by decide +kernel
theorem c72_55 : jm_code 72 55 = some (.iload_n 2, 1) := by decide +kernel
theorem c72_56 : jm_code 72 56 = some (.iaload, 1) := by decide +kernel
theorem c72_57 : jm_code 72 57 = some (.if_icmp .ge 7, 3) := by decide +kernel
theorem c72_60 : jm_code 72 60 = some (.iconst 1, 1) := by decide +kernel
theorem c72_61 : jm_code 72 61 = some (.goto 4, 3) := by decide +kernel
theorem c72_64 : jm_code 72 64 = some (.iconst 0, 1) := by decide +kernel
theorem c72_65 : jm_code 72 65 = some (.ireturn, 1) := by decide +kernel
theorem c73_0 : jm_code 73 0 = some (.iconst 0, 1) := by decide +kernel
theorem c73_1 : jm_code 73 1 = some (.istore_n 2, 1) := by decide +kernel
theorem c73_2 : jm_code 73 2 = some (.iconst 1, 1) := by decide +kernel
theorem c73_3 : jm_code 73 3 = some (.istore_n 3, 1) := by decide +kernel
theorem c73_4 : jm_code 73 4 = some (.iload_n 3, 1) := by decide +kernel
theorem c73_5 : jm_code 73 5 = some (.bipush 99, 2) := by decide +kernel
theorem c73_7 : jm_code 73 7 = some (.if_icmp .gt 27, 3) := by decide +kernel
theorem c73_10 : jm_code 73 10 = some (.aload_n 0, 1) := by decide +kernel
theorem c73_11 : jm_code 73 11 = some (.iload_n 3, 1) := by decide +kernel
theorem c73_12 : jm_code 73 12 = some (.invokevirtual 26, 3) := by decide +kernel
theorem c73_15 : jm_code 73 15 = some (.ifCond .eq 13, 3) := by decide +kernel
theorem c73_18 : jm_code 73 18 = some (.iload_n 2, 1) := by decide +kernel
theorem c73_19 : jm_code 73 19 = some (.iload_n 1, 1) := by decide +kernel
theorem c73_20 : jm_code 73 20 = some (.if_icmp .ne 5, 3) := by decide +kernel
theorem c73_23 : jm_code 73 23 = some (.iload_n 3, 1) := by decide +kernel
theorem c73_24 : jm_code 73 24 = some (.ireturn, 1) := by decide +kernel
theorem c73_25 : jm_code 73 25 = some (.iinc 2 1, 3) := by decide +kernel
theorem c73_28 : jm_code 73 28 = some (.iinc 3 1, 3) := by decide +kernel
theorem c73_31 : jm_code 73 31 = some (.goto (-27), 3) := by decide +kernel
theorem c73_34 : jm_code 73 34 = some (.iconst (-1), 1) := by decide +kernel
theorem c73_35 : jm_code 73 35 = some (.ireturn, 1) := by decide +kernel
theorem c74_0 : jm_code 74 0 = some (.iload_n 1, 1) := by decide +kernel
theorem c74_1 : jm_code 74 1 = some (.iconst 1, 1) := by decide +kernel
theorem c74_2 : jm_code 74 2 = some (.sipush 200, 3) := by decide +kernel
theorem c74_5 : jm_code 74 5 = some (.invokestatic 86, 3) := by decide +kernel
theorem c74_8 : jm_code 74 8 = some (.ifCond .ne 12, 3) := by decide +kernel
theorem c74_11 : jm_code 74 11 = some (.iload_n 2, 1) := by decide +kernel
theorem c74_12 : jm_code 74 12 = some (.iconst 0, 1) := by decide +kernel
theorem c74_13 : jm_code 74 13 = some (.iconst 1, 1) := by decide +kernel
theorem c74_14 : jm_code 74 14 = some (.invokestatic 86, 3) := by decide +kernel
theorem c74_17 : jm_code 74 17 = some (.ifCond .eq 6, 3) := by decide +kernel
theorem c74_20 : jm_code 74 20 = some (.bipush (-2), 2) := by decide +kernel
theorem c74_22 : jm_code 74 22 = some (.ireturn, 1) := by decide +kernel
theorem c74_23 : jm_code 74 23 = some (.iconst (-1), 1) := by decide +kernel
theorem c74_24 : jm_code 74 24 = some (.istore_n 3, 1) := by decide +kernel
theorem c74_25 : jm_code 74 25 = some (.iconst (-1), 1) := by decide +kernel
theorem c74_26 : jm_code 74 26 = some (.istore 4, 2) := by decide +kernel
theorem c74_28 : jm_code 74 28 = some (.iconst 0, 1) := by decide +kernel
theorem c74_29 : jm_code 74 29 = some (.istore 5, 2) := by decide +kernel
theorem c74_31 : jm_code 74 31 = some (.iload 5, 2) := by decide +kernel
theorem c74_33 : jm_code 74 33 = some (.bipush 99, 2) := by decide +kernel
theorem c74_35 : jm_code 74 35 = some (.if_icmp .gt 64, 3) := by decide +kernel
theorem c74_38 : jm_code 74 38 = some (.aload_n 0, 1) := by decide +kernel
theorem c74_39 : jm_code 74 39 = some (.getfield 50, 3) := by decide +kernel
theorem c74_42 : jm_code 74 42 = some (.aload_n 0, 1) := by decide +kernel
theorem c74_43 : jm_code 74 43 = some (.getfield 10, 3) := by decide +kernel
theorem c74_46 : jm_code 74 46 = some (.aload_n 0, 1) := by decide +kernel
theorem c74_47 : jm_code 74 47 = some (.getfield 25, 3) := by decide +kernel
theorem c74_50 : jm_code 74 50 = some (.iconst 1, 1) := by decide +kernel
theorem c74_51 : jm_code 74 51 = some (.iaload, 1) := by decide +kernel
theorem c74_52 : jm_code 74 52 = some (.iload 5, 2) := by decide +kernel
theorem c74_54 : jm_code 74 54 = some (.invokevirtual 199, 3) := by decide +kernel
theorem c74_57 : jm_code 74 57 = some (.aload_n 0, 1) := by decide +kernel
theorem c74_58 : jm_code 74 58 = some (.getfield 50, 3) := by decide +kernel
theorem c74_61 : jm_code 74 61 = some (.aload_n 0, 1) := by decide +kernel
theorem c74_62 : jm_code 74 62 = some (.getfield 37, 3) := by decide +kernel
theorem c74_65 : jm_code 74 65 = some (.iload_n 1, 1) := by decide +kernel
theorem c74_66 : jm_code 74 66 = some (.invokevirtual 203, 3) := by decide +kernel
theorem c74_69 : jm_code 74 69 = some (.aload_n 0, 1) := by decide +kernel
theorem c74_70 : jm_code 74 70 = some (.getfield 50, 3) := by decide +kernel
theorem c74_73 : jm_code 74 73 = some (.iload_n 1, 1) := by decide +kernel
theorem c74_74 : jm_code 74 74 = some (.invokevirtual 206, 3) := by decide +kernel
theorem c74_77 : jm_code 74 77 = some (.istore 6, 2) := by decide +kernel
theorem c74_79 : jm_code 74 79 = some (.iload 6, 2) := by decide +kernel
theorem c74_81 : jm_code 74 81 = some (.iload 4, 2) := by decide +kernel
theorem c74_83 : jm_code 74 83 = some (.if_icmp .le 10, 3) := by decide +kernel
theorem c74_86 : jm_code 74 86 = some (.iload 5, 2) := by decide +kernel
theorem c74_88 : jm_code 74 88 = some (.istore_n 3, 1) := by decide +kernel
theorem c74_89 : jm_code 74 89 = some (.iload 6, 2) := by decide +kernel
theorem c74_91 : jm_code 74 91 = some (.istore 4, 2) := by decide +kernel
theorem c74_93 : jm_code 74 93 = some (.iinc 5 1, 3) := by decide +kernel
theorem c74_96 : jm_code 74 96 = some (.goto (-65), 3) := by decide +kernel
theorem c74_99 : jm_code 74 99 = some (.iload_n 2, 1) := by decide +kernel
theorem c74_100 : jm_code 74 100 = some (.ifCond .ne 7, 3) := by decide +kernel
theorem c74_103 : jm_code 74 103 = some (.iload_n 3, 1) := by decide +kernel
theorem c74_104 : jm_code 74 104 = some (.goto 5, 3) := by decide +kernel
theorem c74_107 : jm_code 74 107 = some (.iload 4, 2) := by decide +kernel
theorem c74_109 : jm_code 74 109 = some (.ireturn, 1) := by decide +kernel
theorem c75_0 : jm_code 75 0 = some (.iload_n 1, 1) := by decide +kernel
theorem c75_1 : jm_code 75 1 = some (.iconst 1, 1) := by decide +kernel
theorem c75_2 : jm_code 75 2 = some (.sipush 200, 3) := by decide +kernel
theorem c75_5 : jm_code 75 5 = some (.invokestatic 86, 3) := by decide +kernel
theorem c75_8 : jm_code 75 8 = some (.ifCond .ne 12, 3) := by decide +kernel
theorem c75_11 : jm_code 75 11 = some (.iload_n 2, 1) := by decide +kernel
theorem c75_12 : jm_code 75 12 = some (.iconst 0, 1) := by decide +kernel
theorem c75_13 : jm_code 75 13 = some (.iconst 1, 1) := by decide +kernel
theorem c75_14 : jm_code 75 14 = some (.invokestatic 86, 3) := by decide +kernel
theorem c75_17 : jm_code 75 17 = some (.ifCond .eq 6, 3) := by decide +kernel
theorem c75_20 : jm_code 75 20 = some (.bipush (-2), 2) := by decide +kernel
theorem c75_22 : jm_code 75 22 = some (.ireturn, 1) := by decide +kernel
theorem c75_23 : jm_code 75 23 = some (.aload_n 0, 1) := by decide +kernel
theorem c75_24 : jm_code 75 24 = some (.iload_n 1, 1) := by decide +kernel
theorem c75_25 : jm_code 75 25 = some (.invokevirtual 171, 3) := by decide +kernel
theorem c75_28 : jm_code 75 28 = some (.aload_n 0, 1) := by decide +kernel
theorem c75_29 : jm_code 75 29 = some (.getfield 50, 3) := by decide +kernel
theorem c75_32 : jm_code 75 32 = some (.iload_n 1, 1) := by decide +kernel
theorem c75_33 : jm_code 75 33 = some (.invokevirtual 174, 3) := by decide +kernel
theorem c75_36 : jm_code 75 36 = some (.istore_n 3, 1) := by decide +kernel
theorem c75_37 : jm_code 75 37 = some (.iconst (-1), 1) := by decide +kernel
theorem c75_38 : jm_code 75 38 = some (.istore 4, 2) := by decide +kernel
theorem c75_40 : jm_code 75 40 = some (.aload_n 0, 1) := by decide +kernel
theorem c75_41 : jm_code 75 41 = some (.invokevirtual 161, 3) := by decide +kernel
theorem c75_44 : jm_code 75 44 = some (.iconst 0, 1) := by decide +kernel
theorem c75_45 : jm_code 75 45 = some (.istore 5, 2) := by decide +kernel
theorem c75_47 : jm_code 75 47 = some (.iload 5, 2) := by decide +kernel
theorem c75_49 : jm_code 75 49 = some (.iload_n 1, 1) := by decide +kernel
theorem c75_50 : jm_code 75 50 = some (.if_icmp .ge 154, 3) := by decide +kernel
theorem c75_53 : jm_code 75 53 = some (.iload_n 3, 1) := by decide +kernel
theorem c75_54 : jm_code 75 54 = some (.aload_n 0, 1) := by decide +kernel
theorem c75_55 : jm_code 75 55 = some (.getfield 10, 3) := by decide +kernel
theorem c75_58 : jm_code 75 58 = some (.getfield 131, 3) := by decide +kernel
theorem c75_61 : jm_code 75 61 = some (.if_icmp .ge 143, 3) := by decide +kernel
theorem c75_64 : jm_code 75 64 = some (.aload_n 0, 1) := by decide +kernel
theorem c75_65 : jm_code 75 65 = some (.getfield 50, 3) := by decide +kernel
theorem c75_68 : jm_code 75 68 = some (.getfield 209, 3) := by decide +kernel
theorem c75_71 : jm_code 75 71 = some (.ifCond .le 133, 3) := by decide +kernel
theorem c75_74 : jm_code 75 74 = some (.aload_n 0, 1) := by decide +kernel
theorem c75_75 : jm_code 75 75 = some (.getfield 54, 3) := by decide +kernel
theorem c75_78 : jm_code 75 78 = some (.aload_n 0, 1) := by decide +kernel
theorem c75_79 : jm_code 75 79 = some (.getfield 50, 3) := by decide +kernel
theorem c75_82 : jm_code 75 82 = some (.invokevirtual 212, 3) := by decide +kernel
theorem c75_85 : jm_code 75 85 = some (.aload_n 0, 1) := by decide +kernel
theorem c75_86 : jm_code 75 86 = some (.getfield 54, 3) := by decide +kernel
theorem c75_89 : jm_code 75 89 = some (.aload_n 0, 1) := by decide +kernel
theorem c75_90 : jm_code 75 90 = some (.getfield 37, 3) := by decide +kernel
theorem c75_93 : jm_code 75 93 = some (.getfield 151, 3) := by decide +kernel
theorem c75_96 : jm_code 75 96 = some (.iload 5, 2) := by decide +kernel
theorem c75_98 : jm_code 75 98 = some (.iaload, 1) := by decide +kernel
theorem c75_99 : jm_code 75 99 = some (.aload_n 0, 1) := by decide +kernel
theorem c75_100 : jm_code 75 100 = some (.getfield 37, 3) := by decide +kernel
theorem c75_103 : jm_code 75 103 = some (.getfield 154, 3) := by decide +kernel
theorem c75_106 : jm_code 75 106 = some (.iload 5, 2) := by decide +kernel
theorem c75_108 : jm_code 75 108 = some (.iaload, 1) := by decide +kernel
theorem c75_109 : jm_code 75 109 = some (.iconst 1, 1) := by decide +kernel
theorem c75_110 : jm_code 75 110 = some (.iadd, 1) := by decide +kernel
theorem c75_111 : jm_code 75 111 = some (.aload_n 0, 1) := by decide +kernel
theorem c75_112 : jm_code 75 112 = some (.getfield 37, 3) := by decide +kernel
theorem c75_115 : jm_code 75 115 = some (.getfield 157, 3) := by decide +kernel
theorem c75_118 : jm_code 75 118 = some (.iload 5, 2) := by decide +kernel
theorem c75_120 : jm_code 75 120 = some (.baload, 1) := by decide +kernel
theorem c75_121 : jm_code 75 121 = some (.invokevirtual 216, 3) := by decide +kernel
theorem c75_124 : jm_code 75 124 = some (.aload_n 0, 1) := by decide +kernel
theorem c75_125 : jm_code 75 125 = some (.getfield 54, 3) := by decide +kernel
theorem c75_128 : jm_code 75 128 = some (.aload_n 0, 1) := by decide +kernel
theorem c75_129 : jm_code 75 129 = some (.getfield 37, 3) := by decide +kernel
theorem c75_132 : jm_code 75 132 = some (.iload_n 1, 1) := by decide +kernel
theorem c75_133 : jm_code 75 133 = some (.invokevirtual 203, 3) := by decide +kernel
theorem c75_136 : jm_code 75 136 = some (.aload_n 0, 1) := by decide +kernel
theorem c75_137 : jm_code 75 137 = some (.getfield 54, 3) := by decide +kernel
theorem c75_140 : jm_code 75 140 = some (.iload_n 1, 1) := by decide +kernel
theorem c75_141 : jm_code 75 141 = some (.invokevirtual 174, 3) := by decide +kernel
theorem c75_144 : jm_code 75 144 = some (.iload_n 3, 1) := by decide +kernel
theorem c75_145 : jm_code 75 145 = some (.if_icmp .le 16, 3) := by decide +kernel
theorem c75_148 : jm_code 75 148 = some (.iload 5, 2) := by decide +kernel
theorem c75_150 : jm_code 75 150 = some (.istore 4, 2) := by decide +kernel
theorem c75_152 : jm_code 75 152 = some (.aload_n 0, 1) := by decide +kernel
theorem c75_153 : jm_code 75 153 = some (.getfield 54, 3) := by decide +kernel
theorem c75_156 : jm_code 75 156 = some (.iload_n 1, 1) := by decide +kernel
theorem c75_157 : jm_code 75 157 = some (.invokevirtual 174, 3) := by decide +kernel
theorem c75_160 : jm_code 75 160 = some (.istore_n 3, 1) := by decide +kernel
theorem c75_161 : jm_code 75 161 = some (.aload_n 0, 1) := by decide +kernel
theorem c75_162 : jm_code 75 162 = some (.getfield 50, 3) := by decide +kernel
theorem c75_165 : jm_code 75 165 = some (.aload_n 0, 1) := by decide +kernel
theorem c75_166 : jm_code 75 166 = some (.getfield 37, 3) := by decide +kernel
theorem c75_169 : jm_code 75 169 = some (.getfield 151, 3) := by decide +kernel
theorem c75_172 : jm_code 75 172 = some (.iload 5, 2) := by decide +kernel
theorem c75_174 : jm_code 75 174 = some (.iaload, 1) := by decide +kernel
theorem c75_175 : jm_code 75 175 = some (.aload_n 0, 1) := by decide +kernel
theorem c75_176 : jm_code 75 176 = some (.getfield 37, 3) := by decide +kernel
theorem c75_179 : jm_code 75 179 = some (.getfield 154, 3) := by decide +kernel
theorem c75_182 : jm_code 75 182 = some (.iload 5, 2) := by decide +kernel
theorem c75_184 : jm_code 75 184 = some (.iaload, 1) := by decide +kernel
theorem c75_185 : jm_code 75 185 = some (.aload_n 0, 1) := by decide +kernel
theorem c75_186 : jm_code 75 186 = some (.getfield 37, 3) := by decide +kernel
theorem c75_189 : jm_code 75 189 = some (.getfield 157, 3) := by decide +kernel
theorem c75_192 : jm_code 75 192 = some (.iload 5, 2) := by decide +kernel
theorem c75_194 : jm_code 75 194 = some (.baload, 1) := by decide +kernel
theorem c75_195 : jm_code 75 195 = some (.invokevirtual 216, 3) := by decide +kernel
theorem c75_198 : jm_code 75 198 = some (.iinc 5 1, 3) := by decide +kernel
theorem c75_201 : jm_code 75 201 = some (.goto (-154), 3) := by decide +kernel
theorem c75_204 : jm_code 75 204 = some (.iload_n 2, 1) := by decide +kernel
theorem c75_205 : jm_code 75 205 = some (.ifCond .ne 8, 3) := by decide +kernel
theorem c75_208 : jm_code 75 208 = some (.iload 4, 2) := by decide +kernel
theorem c75_210 : jm_code 75 210 = some (.goto 4, 3) := by decide +kernel
theorem c75_213 : jm_code 75 213 = some (.iload_n 3, 1) := by decide +kernel
theorem c75_214 : jm_code 75 214 = some (.ireturn, 1) := by decide +kernel
theorem c76_0 : jm_code 76 0 = some (.aload_n 0, 1) := by decide +kernel
theorem c76_1 : jm_code 76 1 = some (.aload_n 1, 1) := by decide +kernel
theorem c76_2 : jm_code 76 2 = some (.getfield 45, 3) := by decide +kernel
theorem c76_5 : jm_code 76 5 = some (.putfield 45, 3) := by decide +kernel
theorem c76_8 : jm_code 76 8 = some (.aload_n 0, 1) := by decide +kernel
theorem c76_9 : jm_code 76 9 = some (.aload_n 1, 1) := by decide +kernel
theorem c76_10 : jm_code 76 10 = some (.getfield 49, 3) := by decide +kernel
theorem c76_13 : jm_code 76 13 = some (.putfield 49, 3) := by decide +kernel
theorem c76_16 : jm_code 76 16 = some (.aload_n 0, 1) := by decide +kernel
theorem c76_17 : jm_code 76 17 = some (.aload_n 1, 1) := by decide +kernel
theorem c76_18 : jm_code 76 18 = some (.getfield 52, 3) := by decide +kernel
theorem c76_21 : jm_code 76 21 = some (.putfield 52, 3) := by decide +kernel
theorem c76_24 : jm_code 76 24 = some (.aload_n 0, 1) := by decide +kernel
theorem c76_25 : jm_code 76 25 = some (.aload_n 1, 1) := by decide +kernel
theorem c76_26 : jm_code 76 26 = some (.getfield 55, 3) := by decide +kernel
theorem c76_29 : jm_code 76 29 = some (.putfield 55, 3) := by decide +kernel
theorem c76_32 : jm_code 76 32 = some (.aload_n 0, 1) := by decide +kernel
theorem c76_33 : jm_code 76 33 = some (.aload_n 1, 1) := by decide +kernel
theorem c76_34 : jm_code 76 34 = some (.getfield 58, 3) := by decide +kernel
theorem c76_37 : jm_code 76 37 = some (.putfield 58, 3) := by decide +kernel
theorem c76_40 : jm_code 76 40 = some (.aload_n 0, 1) := by decide +kernel
theorem c76_41 : jm_code 76 41 = some (.aload_n 1, 1) := by decide +kernel
theorem c76_42 : jm_code 76 42 = some (.getfield 61, 3) := by decide +kernel
theorem c76_45 : jm_code 76 45 = some (.putfield 61, 3) := by decide +kernel
theorem c76_48 : jm_code 76 48 = some (.aload_n 1, 1) := by decide +kernel
theorem c76_49 : jm_code 76 49 = some (.getfield 9, 3) := by decide +kernel
theorem c76_52 : jm_code 76 52 = some (.iconst 0, 1) := by decide +kernel
theorem c76_53 : jm_code 76 53 = some (.aload_n 0, 1) := by decide +kernel
theorem c76_54 : jm_code 76 54 = some (.getfield 9, 3) := by decide +kernel
theorem c76_57 : jm_code 76 57 = some (.iconst 0, 1) := by decide +kernel
theorem c76_58 : jm_code 76 58 = some (.bipush 12, 2) := by decide +kernel
theorem c76_60 : jm_code 76 60 = some (.invokestatic 85, 3) := by decide +kernel
theorem c76_63 : jm_code 76 63 = some (.aload_n 1, 1) := by decide +kernel
theorem c76_64 : jm_code 76 64 = some (.getfield 15, 3) := by decide +kernel
theorem c76_67 : jm_code 76 67 = some (.iconst 0, 1) := by decide +kernel
theorem c76_68 : jm_code 76 68 = some (.aload_n 0, 1) := by decide +kernel
theorem c76_69 : jm_code 76 69 = some (.getfield 15, 3) := by decide +kernel
theorem c76_72 : jm_code 76 72 = some (.iconst 0, 1) := by decide +kernel
theorem c76_73 : jm_code 76 73 = some (.bipush 12, 2) := by decide +kernel
theorem c76_75 : jm_code 76 75 = some (.invokestatic 85, 3) := by decide +kernel
theorem c76_78 : jm_code 76 78 = some (.aload_n 1, 1) := by decide +kernel
theorem c76_79 : jm_code 76 79 = some (.getfield 18, 3) := by decide +kernel
theorem c76_82 : jm_code 76 82 = some (.iconst 0, 1) := by decide +kernel
theorem c76_83 : jm_code 76 83 = some (.aload_n 0, 1) := by decide +kernel
theorem c76_84 : jm_code 76 84 = some (.getfield 18, 3) := by decide +kernel
theorem c76_87 : jm_code 76 87 = some (.iconst 0, 1) := by decide +kernel
theorem c76_88 : jm_code 76 88 = some (.bipush 12, 2) := by decide +kernel
theorem c76_90 : jm_code 76 90 = some (.invokestatic 85, 3) := by decide +kernel
theorem c76_93 : jm_code 76 93 = some (.aload_n 1, 1) := by decide +kernel
theorem c76_94 : jm_code 76 94 = some (.getfield 21, 3) := by decide +kernel
theorem c76_97 : jm_code 76 97 = some (.iconst 0, 1) := by decide +kernel
theorem c76_98 : jm_code 76 98 = some (.aload_n 0, 1) := by decide +kernel
theorem c76_99 : jm_code 76 99 = some (.getfield 21, 3) := by decide +kernel
theorem c76_102 : jm_code 76 102 = some (.iconst 0, 1) := by decide +kernel
theorem c76_103 : jm_code 76 103 = some (.bipush 12, 2) := by decide +kernel
theorem c76_105 : jm_code 76 105 = some (.invokestatic 85, 3) := by decide +kernel
theorem c76_108 : jm_code 76 108 = some (.aload_n 1, 1) := by decide +kernel
theorem c76_109 : jm_code 76 109 = some (.getfield 24, 3) := by decide +kernel
theorem c76_112 : jm_code 76 112 = some (.iconst 0, 1) := by decide +kernel
theorem c76_113 : jm_code 76 113 = some (.aload_n 0, 1) := by decide +kernel
theorem c76_114 : jm_code 76 114 = some (.getfield 24, 3) := by decide +kernel
theorem c76_117 : jm_code 76 117 = some (.iconst 0, 1) := by decide +kernel
theorem c76_118 : jm_code 76 118 = some (.bipush 12, 2) := by decide +kernel
theorem c76_120 : jm_code 76 120 = some (.invokestatic 85, 3) := by decide +kernel
theorem c76_123 : jm_code 76 123 = some (.aload_n 1, 1) := by decide +kernel
theorem c76_124 : jm_code 76 124 = some (.getfield 27, 3) := by decide +kernel
theorem c76_127 : jm_code 76 127 = some (.iconst 0, 1) := by decide +kernel
theorem c76_128 : jm_code 76 128 = some (.aload_n 0, 1) := by decide +kernel
theorem c76_129 : jm_code 76 129 = some (.getfield 27, 3) := by decide +kernel
theorem c76_132 : jm_code 76 132 = some (.iconst 0, 1) := by decide +kernel
theorem c76_133 : jm_code 76 133 = some (.bipush 12, 2) := by decide +kernel
theorem c76_135 : jm_code 76 135 = some (.invokestatic 85, 3) := by decide +kernel
theorem c76_138 : jm_code 76 138 = some (.aload_n 1, 1) := by decide +kernel
theorem c76_139 : jm_code 76 139 = some (.getfield 30, 3) := by decide +kernel
theorem c76_142 : jm_code 76 142 = some (.iconst 0, 1) := by decide +kernel
theorem c76_143 : jm_code 76 143 = some (.aload_n 0, 1) := by decide +kernel
theorem c76_144 : jm_code 76 144 = some (.getfield 30, 3) := by decide +kernel
theorem c76_147 : jm_code 76 147 = some (.iconst 0, 1) := by decide +kernel
theorem c76_148 : jm_code 76 148 = some (.bipush 12, 2) := by decide +kernel
theorem c76_150 : jm_code 76 150 = some (.invokestatic 85, 3) := by decide +kernel
theorem c76_153 : jm_code 76 153 = some (.aload_n 1, 1) := by decide +kernel
theorem c76_154 : jm_code 76 154 = some (.getfield 33, 3) := by decide +kernel
theorem c76_157 : jm_code 76 157 = some (.iconst 0, 1) := by decide +kernel
theorem c76_158 : jm_code 76 158 = some (.aload_n 0, 1) := by decide +kernel
theorem c76_159 : jm_code 76 159 = some (.getfield 33, 3) := by decide +kernel
theorem c76_162 : jm_code 76 162 = some (.iconst 0, 1) := by decide +kernel
theorem c76_163 : jm_code 76 163 = some (.bipush 12, 2) := by decide +kernel
theorem c76_165 : jm_code 76 165 = some (.invokestatic 85, 3) := by decide +kernel
theorem c76_168 : jm_code 76 168 = some (.aload_n 1, 1) := by decide +kernel
theorem c76_169 : jm_code 76 169 = some (.getfield 36, 3) := by decide +kernel
theorem c76_172 : jm_code 76 172 = some (.iconst 0, 1) := by decide +kernel
theorem c76_173 : jm_code 76 173 = some (.aload_n 0, 1) := by decide +kernel
theorem c76_174 : jm_code 76 174 = some (.getfield 36, 3) := by decide +kernel
theorem c76_177 : jm_code 76 177 = some (.iconst 0, 1) := by decide +kernel
theorem c76_178 : jm_code 76 178 = some (.bipush 12, 2) := by decide +kernel
theorem c76_180 : jm_code 76 180 = some (.invokestatic 85, 3) := by decide +kernel
theorem c76_183 : jm_code 76 183 = some (.aload_n 1, 1) := by decide +kernel
theorem c76_184 : jm_code 76 184 = some (.getfield 39, 3) := by decide +kernel
theorem c76_187 : jm_code 76 187 = some (.iconst 0, 1) := by decide +kernel
theorem c76_188 : jm_code 76 188 = some (.aload_n 0, 1) := by decide +kernel
theorem c76_189 : jm_code 76 189 = some (.getfield 39, 3) := by decide +kernel
theorem c76_192 : jm_code 76 192 = some (.iconst 0, 1) := by decide +kernel
theorem c76_193 : jm_code 76 193 = some (.bipush 48, 2) := by decide +kernel
theorem c76_195 : jm_code 76 195 = some (.invokestatic 85, 3) := by decide +kernel
theorem c76_198 : jm_code 76 198 = some (.aload_n 1, 1) := by decide +kernel
theorem c76_199 : jm_code 76 199 = some (.getfield 42, 3) := by decide +kernel
theorem c76_202 : jm_code 76 202 = some (.iconst 0, 1) := by decide +kernel
theorem c76_203 : jm_code 76 203 = some (.aload_n 0, 1) := by decide +kernel
theorem c76_204 : jm_code 76 204 = some (.getfield 42, 3) := by decide +kernel
theorem c76_207 : jm_code 76 207 = some (.iconst 0, 1) := by decide +kernel
theorem c76_208 : jm_code 76 208 = some (.iconst 4, 1) := by decide +kernel
theorem c76_209 : jm_code 76 209 = some (.invokestatic 85, 3) := by decide +kernel
theorem c76_212 : jm_code 76 212 = some (.return_, 1) := by decide +kernel
theorem c77_0 : jm_code 77 0 = some (.aload_n 0, 1) := by decide +kernel
theorem c77_1 : jm_code 77 1 = some (.getfield 10, 3) := by decide +kernel
theorem c77_4 : jm_code 77 4 = some (.iload_n 1, 1) := by decide +kernel
theorem c77_5 : jm_code 77 5 = some (.invokevirtual 115, 3) := by decide +kernel
theorem c77_8 : jm_code 77 8 = some (.ifCond .ne 6, 3) := by decide +kernel
theorem c77_11 : jm_code 77 11 = some (.ldc 180, 2) := by decide +kernel
theorem c77_13 : jm_code 77 13 = some (.ireturn, 1) := by decide +kernel
theorem c77_14 : jm_code 77 14 = some (.aload_n 0, 1) := by decide +kernel
theorem c77_15 : jm_code 77 15 = some (.sipush 200, 3) := by decide +kernel
theorem c77_18 : jm_code 77 18 = some (.invokevirtual 171, 3) := by decide +kernel
theorem c77_21 : jm_code 77 21 = some (.aload_n 0, 1) := by decide +kernel
theorem c77_22 : jm_code 77 22 = some (.getfield 50, 3) := by decide +kernel
theorem c77_25 : jm_code 77 25 = some (.iload_n 1, 1) := by decide +kernel
theorem c77_26 : jm_code 77 26 = some (.iconst 4, 1) := by decide +kernel
theorem c77_27 : jm_code 77 27 = some (.invokevirtual 168, 3) := by decide +kernel
theorem c77_30 : jm_code 77 30 = some (.istore_n 2, 1) := by decide +kernel
theorem c77_31 : jm_code 77 31 = some (.aload_n 0, 1) := by decide +kernel
theorem c77_32 : jm_code 77 32 = some (.invokevirtual 161, 3) := by decide +kernel
theorem c77_35 : jm_code 77 35 = some (.iconst 0, 1) := by decide +kernel
theorem c77_36 : jm_code 77 36 = some (.istore_n 3, 1) := by decide +kernel
theorem c77_37 : jm_code 77 37 = some (.iload_n 3, 1) := by decide +kernel
theorem c77_38 : jm_code 77 38 = some (.aload_n 0, 1) := by decide +kernel
theorem c77_39 : jm_code 77 39 = some (.getfield 10, 3) := by decide +kernel
theorem c77_42 : jm_code 77 42 = some (.getfield 131, 3) := by decide +kernel
theorem c77_45 : jm_code 77 45 = some (.if_icmp .ge 22, 3) := by decide +kernel
theorem c77_48 : jm_code 77 48 = some (.iload_n 3, 1) := by decide +kernel
theorem c77_49 : jm_code 77 49 = some (.iload_n 1, 1) := by decide +kernel
theorem c77_50 : jm_code 77 50 = some (.if_icmp .eq 11, 3) := by decide +kernel
theorem c77_53 : jm_code 77 53 = some (.aload_n 0, 1) := by decide +kernel
theorem c77_54 : jm_code 77 54 = some (.getfield 50, 3) := by decide +kernel
theorem c77_57 : jm_code 77 57 = some (.iload_n 3, 1) := by decide +kernel
theorem c77_58 : jm_code 77 58 = some (.invokevirtual 220, 3) := by decide +kernel
theorem c77_61 : jm_code 77 61 = some (.iinc 3 1, 3) := by decide +kernel
theorem c77_64 : jm_code 77 64 = some (.goto (-27), 3) := by decide +kernel
theorem c77_67 : jm_code 77 67 = some (.aload_n 0, 1) := by decide +kernel
theorem c77_68 : jm_code 77 68 = some (.getfield 50, 3) := by decide +kernel
theorem c77_71 : jm_code 77 71 = some (.aload_n 0, 1) := by decide +kernel
theorem c77_72 : jm_code 77 72 = some (.getfield 37, 3) := by decide +kernel
theorem c77_75 : jm_code 77 75 = some (.sipush 200, 3) := by decide +kernel
theorem c77_78 : jm_code 77 78 = some (.invokevirtual 203, 3) := by decide +kernel
theorem c77_81 : jm_code 77 81 = some (.aload_n 0, 1) := by decide +kernel
theorem c77_82 : jm_code 77 82 = some (.getfield 50, 3) := by decide +kernel
theorem c77_85 : jm_code 77 85 = some (.iload_n 1, 1) := by decide +kernel
theorem c77_86 : jm_code 77 86 = some (.iconst 4, 1) := by decide +kernel
theorem c77_87 : jm_code 77 87 = some (.invokevirtual 168, 3) := by decide +kernel
theorem c77_90 : jm_code 77 90 = some (.istore_n 3, 1) := by decide +kernel
theorem c77_91 : jm_code 77 91 = some (.iload_n 2, 1) := by decide +kernel
theorem c77_92 : jm_code 77 92 = some (.iconst (-1), 1) := by decide +kernel
theorem c77_93 : jm_code 77 93 = some (.if_icmp .eq 8, 3) := by decide +kernel
theorem c77_96 : jm_code 77 96 = some (.iload_n 3, 1) := by decide +kernel
theorem c77_97 : jm_code 77 97 = some (.iconst (-1), 1) := by decide +kernel
theorem c77_98 : jm_code 77 98 = some (.if_icmp .ne 8, 3) := by decide +kernel
theorem c77_101 : jm_code 77 101 = some (.ldc 223, 2) := by decide +kernel
theorem c77_103 : jm_code 77 103 = some (.goto 6, 3) := by decide +kernel
theorem c77_106 : jm_code 77 106 = some (.iload_n 2, 1) := by decide +kernel
theorem c77_107 : jm_code 77 107 = some (.iload_n 3, 1) := by decide +kernel
theorem c77_108 : jm_code 77 108 = some (.isub, 1) := by decide +kernel
theorem c77_109 : jm_code 77 109 = some (.ireturn, 1) := by decide +kernel
theorem c78_0 : jm_code 78 0 = some (.aload_n 0, 1) := by decide +kernel
theorem c78_1 : jm_code 78 1 = some (.getfield 30, 3) := by decide +kernel
theorem c78_4 : jm_code 78 4 = some (.iload_n 1, 1) := by decide +kernel
theorem c78_5 : jm_code 78 5 = some (.iconst 3, 1) := by decide +kernel
theorem c78_6 : jm_code 78 6 = some (.iastore, 1) := by decide +kernel
theorem c78_7 : jm_code 78 7 = some (.aload_n 0, 1) := by decide +kernel
theorem c78_8 : jm_code 78 8 = some (.dup, 1) := by decide +kernel
theorem c78_9 : jm_code 78 9 = some (.getfield 55, 3) := by decide +kernel
theorem c78_12 : jm_code 78 12 = some (.iconst 1, 1) := by decide +kernel
theorem c78_13 : jm_code 78 13 = some (.isub, 1) := by decide +kernel
theorem c78_14 : jm_code 78 14 = some (.putfield 55, 3) := by decide +kernel
theorem c78_17 : jm_code 78 17 = some (.aload_n 0, 1) := by decide +kernel
theorem c78_18 : jm_code 78 18 = some (.iconst 1, 1) := by decide +kernel
theorem c78_19 : jm_code 78 19 = some (.putfield 61, 3) := by decide +kernel
theorem c78_22 : jm_code 78 22 = some (.return_, 1) := by decide +kernel
theorem c79_0 : jm_code 79 0 = some (.iload_n 1, 1) := by decide +kernel
theorem c79_1 : jm_code 79 1 = some (.getstatic 224, 3) := by decide +kernel
theorem c79_4 : jm_code 79 4 = some (.iconst 2, 1) := by decide +kernel
theorem c79_5 : jm_code 79 5 = some (.iaload, 1) := by decide +kernel
theorem c79_6 : jm_code 79 6 = some (.getstatic 227, 3) := by decide +kernel
theorem c79_9 : jm_code 79 9 = some (.iconst 2, 1) := by decide +kernel
theorem c79_10 : jm_code 79 10 = some (.iaload, 1) := by decide +kernel
theorem c79_11 : jm_code 79 11 = some (.invokestatic 86, 3) := by decide +kernel
theorem c79_14 : jm_code 79 14 = some (.ifCond .ne 23, 3) := by decide +kernel
theorem c79_17 : jm_code 79 17 = some (.iload_n 2, 1) := by decide +kernel
theorem c79_18 : jm_code 79 18 = some (.iconst 1, 1) := by decide +kernel
theorem c79_19 : jm_code 79 19 = some (.sipush 200, 3) := by decide +kernel
theorem c79_22 : jm_code 79 22 = some (.invokestatic 86, 3) := by decide +kernel
theorem c79_25 : jm_code 79 25 = some (.ifCond .ne 12, 3) := by decide +kernel
theorem c79_28 : jm_code 79 28 = some (.iload_n 3, 1) := by decide +kernel
theorem c79_29 : jm_code 79 29 = some (.iconst 0, 1) := by decide +kernel
theorem c79_30 : jm_code 79 30 = some (.iconst 3, 1) := by decide +kernel
theorem c79_31 : jm_code 79 31 = some (.invokestatic 86, 3) := by decide +kernel
theorem c79_34 : jm_code 79 34 = some (.ifCond .eq 6, 3) := by decide +kernel
theorem c79_37 : jm_code 79 37 = some (.bipush (-2), 2) := by decide +kernel
theorem c79_39 : jm_code 79 39 = some (.ireturn, 1) := by decide +kernel
theorem c79_40 : jm_code 79 40 = some (.aload_n 0, 1) := by decide +kernel
theorem c79_41 : jm_code 79 41 = some (.iload_n 1, 1) := by decide +kernel
theorem c79_42 : jm_code 79 42 = some (.iload_n 2, 1) := by decide +kernel
theorem c79_43 : jm_code 79 43 = some (.invokevirtual 230, 3) := by decide +kernel
theorem c79_46 : jm_code 79 46 = some (.aload_n 0, 1) := by decide +kernel
theorem c79_47 : jm_code 79 47 = some (.iload_n 2, 1) := by decide +kernel
theorem c79_48 : jm_code 79 48 = some (.iload_n 3, 1) := by decide +kernel
theorem c79_49 : jm_code 79 49 = some (.invokevirtual 234, 3) := by decide +kernel
theorem c79_52 : jm_code 79 52 = some (.ireturn, 1) := by decide +kernel
theorem c80_0 : jm_code 80 0 = some (.aload_n 0, 1) := by decide +kernel
theorem c80_1 : jm_code 80 1 = some (.invokevirtual 161, 3) := by decide +kernel
theorem c80_4 : jm_code 80 4 = some (.iconst 0, 1) := by decide +kernel
theorem c80_5 : jm_code 80 5 = some (.istore_n 3, 1) := by decide +kernel
theorem c80_6 : jm_code 80 6 = some (.iload_n 3, 1) := by decide +kernel
theorem c80_7 : jm_code 80 7 = some (.aload_n 0, 1) := by decide +kernel
theorem c80_8 : jm_code 80 8 = some (.getfield 10, 3) := by decide +kernel
theorem c80_11 : jm_code 80 11 = some (.getfield 131, 3) := by decide +kernel
theorem c80_14 : jm_code 80 14 = some (.if_icmp .ge 30, 3) := by decide +kernel
theorem c80_17 : jm_code 80 17 = some (.aload_n 0, 1) := by decide +kernel
theorem c80_18 : jm_code 80 18 = some (.getfield 10, 3) := by decide +kernel
theorem c80_21 : jm_code 80 21 = some (.iload_n 3, 1) := by decide +kernel
theorem c80_22 : jm_code 80 22 = some (.iconst 2, 1) := by decide +kernel
theorem c80_23 : jm_code 80 23 = some (.invokevirtual 123, 3) := by decide +kernel
theorem c80_26 : jm_code 80 26 = some (.iload_n 1, 1) := by decide +kernel
theorem c80_27 : jm_code 80 27 = some (.if_icmp .ge 11, 3) := by decide +kernel
theorem c80_30 : jm_code 80 30 = some (.aload_n 0, 1) := by decide +kernel
theorem c80_31 : jm_code 80 31 = some (.getfield 50, 3) := by decide +kernel
theorem c80_34 : jm_code 80 34 = some (.iload_n 3, 1) := by decide +kernel
theorem c80_35 : jm_code 80 35 = some (.invokevirtual 220, 3) := by decide +kernel
theorem c80_38 : jm_code 80 38 = some (.iinc 3 1, 3) := by decide +kernel
theorem c80_41 : jm_code 80 41 = some (.goto (-35), 3) := by decide +kernel
theorem c80_44 : jm_code 80 44 = some (.aload_n 0, 1) := by decide +kernel
theorem c80_45 : jm_code 80 45 = some (.getfield 50, 3) := by decide +kernel
theorem c80_48 : jm_code 80 48 = some (.aload_n 0, 1) := by decide +kernel
theorem c80_49 : jm_code 80 49 = some (.getfield 37, 3) := by decide +kernel
theorem c80_52 : jm_code 80 52 = some (.iload_n 2, 1) := by decide +kernel
theorem c80_53 : jm_code 80 53 = some (.invokevirtual 203, 3) := by decide +kernel
theorem c80_56 : jm_code 80 56 = some (.return_, 1) := by decide +kernel
theorem c81_0 : jm_code 81 0 = some (.iload_n 2, 1) := by decide +kernel
theorem c81_1 : jm_code 81 1 = some (.tableswitch 54 0 2 #[27, 36, 45], 27) := by decide +kernel
theorem c81_28 : jm_code 81 28 = some (.aload_n 0, 1) := by decide +kernel
theorem c81_29 : jm_code 81 29 = some (.getfield 50, 3) := by decide +kernel
theorem c81_32 : jm_code 81 32 = some (.iload_n 1, 1) := by decide +kernel
theorem c81_33 : jm_code 81 33 = some (.invokevirtual 174, 3) := by decide +kernel
theorem c81_36 : jm_code 81 36 = some (.ireturn, 1) := by decide +kernel
theorem c81_37 : jm_code 81 37 = some (.aload_n 0, 1) := by decide +kernel
theorem c81_38 : jm_code 81 38 = some (.getfield 50, 3) := by decide +kernel
theorem c81_41 : jm_code 81 41 = some (.iload_n 1, 1) := by decide +kernel
theorem c81_42 : jm_code 81 42 = some (.invokevirtual 206, 3) := by decide +kernel
theorem c81_45 : jm_code 81 45 = some (.ireturn, 1) := by decide +kernel
theorem c81_46 : jm_code 81 46 = some (.aload_n 0, 1) := by decide +kernel
theorem c81_47 : jm_code 81 47 = some (.getfield 50, 3) := by decide +kernel
theorem c81_50 : jm_code 81 50 = some (.iload_n 1, 1) := by decide +kernel
theorem c81_51 : jm_code 81 51 = some (.invokevirtual 331, 3) := by decide +kernel
theorem c81_54 : jm_code 81 54 = some (.ireturn, 1) := by decide +kernel
theorem c81_55 : jm_code 81 55 = some (.aload_n 0, 1) := by decide +kernel
theorem c81_56 : jm_code 81 56 = some (.getfield 50, 3) := by decide +kernel
theorem c81_59 : jm_code 81 59 = some (.iload_n 1, 1) := by decide +kernel
theorem c81_60 : jm_code 81 60 = some (.invokevirtual 334, 3) := by decide +kernel
theorem c81_63 : jm_code 81 63 = some (.ireturn, 1) := by decide +kernel
theorem c82_0 : jm_code 82 0 = some (.iload_n 1, 1) := by decide +kernel
theorem c82_1 : jm_code 82 1 = some (.invokestatic 237, 3) := by decide +kernel
theorem c82_4 : jm_code 82 4 = some (.ifCond .ne 23, 3) := by decide +kernel
theorem c82_7 : jm_code 82 7 = some (.iload_n 2, 1) := by decide +kernel
theorem c82_8 : jm_code 82 8 = some (.iconst 0, 1) := by decide +kernel
theorem c82_9 : jm_code 82 9 = some (.bipush 99, 2) := by decide +kernel
theorem c82_11 : jm_code 82 11 = some (.invokestatic 86, 3) := by decide +kernel
theorem c82_14 : jm_code 82 14 = some (.ifCond .ne 13, 3) := by decide +kernel
theorem c82_17 : jm_code 82 17 = some (.iload_n 3, 1) := by decide +kernel
theorem c82_18 : jm_code 82 18 = some (.iconst 0, 1) := by decide +kernel
theorem c82_19 : jm_code 82 19 = some (.bipush 60, 2) := by decide +kernel
theorem c82_21 : jm_code 82 21 = some (.invokestatic 86, 3) := by decide +kernel
theorem c82_24 : jm_code 82 24 = some (.ifCond .eq 6, 3) := by decide +kernel
theorem c82_27 : jm_code 82 27 = some (.bipush (-2), 2) := by decide +kernel
theorem c82_29 : jm_code 82 29 = some (.ireturn, 1) := by decide +kernel
theorem c82_30 : jm_code 82 30 = some (.iload_n 1, 1) := by decide +kernel
theorem c82_31 : jm_code 82 31 = some (.istore 4, 2) := by decide +kernel
theorem c82_33 : jm_code 82 33 = some (.iconst 0, 1) := by decide +kernel
theorem c82_34 : jm_code 82 34 = some (.istore 5, 2) := by decide +kernel
theorem c82_36 : jm_code 82 36 = some (.iload 5, 2) := by decide +kernel
theorem c82_38 : jm_code 82 38 = some (.iload_n 3, 1) := by decide +kernel
theorem c82_39 : jm_code 82 39 = some (.if_icmp .ge 17, 3) := by decide +kernel
theorem c82_42 : jm_code 82 42 = some (.iload 4, 2) := by decide +kernel
theorem c82_44 : jm_code 82 44 = some (.iload_n 2, 1) := by decide +kernel
theorem c82_45 : jm_code 82 45 = some (.invokestatic 240, 3) := by decide +kernel
theorem c82_48 : jm_code 82 48 = some (.istore 4, 2) := by decide +kernel
theorem c82_50 : jm_code 82 50 = some (.iinc 5 1, 3) := by decide +kernel
theorem c82_53 : jm_code 82 53 = some (.goto (-17), 3) := by decide +kernel
theorem c82_56 : jm_code 82 56 = some (.iload 4, 2) := by decide +kernel
theorem c82_58 : jm_code 82 58 = some (.ireturn, 1) := by decide +kernel
theorem c83_0 : jm_code 83 0 = some (.iconst 0, 1) := by decide +kernel
theorem c83_1 : jm_code 83 1 = some (.iload_n 0, 1) := by decide +kernel
theorem c83_2 : jm_code 83 2 = some (.invokestatic 119, 3) := by decide +kernel
theorem c83_5 : jm_code 83 5 = some (.ifCond .ne 7, 3) := by decide +kernel
theorem c83_8 : jm_code 83 8 = some (.iconst 1, 1) := by decide +kernel
theorem c83_9 : jm_code 83 9 = some (.goto 4, 3) := by decide +kernel
theorem c83_12 : jm_code 83 12 = some (.iconst 0, 1) := by decide +kernel
theorem c83_13 : jm_code 83 13 = some (.ireturn, 1) := by decide +kernel
theorem c84_0 : jm_code 84 0 = some (.iload_n 1, 1) := by decide +kernel
theorem c84_1 : jm_code 84 1 = some (.iload_n 0, 1) := by decide +kernel
theorem c84_2 : jm_code 84 2 = some (.isub, 1) := by decide +kernel
theorem c84_3 : jm_code 84 3 = some (.invokestatic 363, 3) := by decide +kernel
theorem c84_6 : jm_code 84 6 = some (.iconst 3, 1) := by decide +kernel
theorem c84_7 : jm_code 84 7 = some (.iadd, 1) := by decide +kernel
theorem c84_8 : jm_code 84 8 = some (.iconst 4, 1) := by decide +kernel
theorem c84_9 : jm_code 84 9 = some (.idiv, 1) := by decide +kernel
theorem c84_10 : jm_code 84 10 = some (.istore_n 2, 1) := by decide +kernel
theorem c84_11 : jm_code 84 11 = some (.iload_n 1, 1) := by decide +kernel
theorem c84_12 : jm_code 84 12 = some (.iload_n 0, 1) := by decide +kernel
theorem c84_13 : jm_code 84 13 = some (.if_icmp .le 9, 3) := by decide +kernel
theorem c84_16 : jm_code 84 16 = some (.iload_n 0, 1) := by decide +kernel
theorem c84_17 : jm_code 84 17 = some (.iload_n 2, 1) := by decide +kernel
theorem c84_18 : jm_code 84 18 = some (.iadd, 1) := by decide +kernel
theorem c84_19 : jm_code 84 19 = some (.goto 6, 3) := by decide +kernel
theorem c84_22 : jm_code 84 22 = some (.iload_n 0, 1) := by decide +kernel
theorem c84_23 : jm_code 84 23 = some (.iload_n 2, 1) := by decide +kernel
theorem c84_24 : jm_code 84 24 = some (.isub, 1) := by decide +kernel
theorem c84_25 : jm_code 84 25 = some (.ireturn, 1) := by decide +kernel
theorem c85_0 : jm_code 85 0 = some (.iload_n 1, 1) := by decide +kernel
theorem c85_1 : jm_code 85 1 = some (.invokestatic 237, 3) := by decide +kernel
theorem c85_4 : jm_code 85 4 = some (.ifCond .ne 34, 3) := by decide +kernel
theorem c85_7 : jm_code 85 7 = some (.iload_n 2, 1) := by decide +kernel
theorem c85_8 : jm_code 85 8 = some (.iconst 0, 1) := by decide +kernel
theorem c85_9 : jm_code 85 9 = some (.bipush 99, 2) := by decide +kernel
theorem c85_11 : jm_code 85 11 = some (.invokestatic 86, 3) := by decide +kernel
theorem c85_14 : jm_code 85 14 = some (.ifCond .ne 24, 3) := by decide +kernel
theorem c85_17 : jm_code 85 17 = some (.iload_n 3, 1) := by decide +kernel
theorem c85_18 : jm_code 85 18 = some (.invokestatic 237, 3) := by decide +kernel
theorem c85_21 : jm_code 85 21 = some (.ifCond .ne 17, 3) := by decide +kernel
theorem c85_24 : jm_code 85 24 = some (.iload 4, 2) := by decide +kernel
theorem c85_26 : jm_code 85 26 = some (.invokestatic 237, 3) := by decide +kernel
theorem c85_29 : jm_code 85 29 = some (.ifCond .ne 9, 3) := by decide +kernel
theorem c85_32 : jm_code 85 32 = some (.iload_n 3, 1) := by decide +kernel
theorem c85_33 : jm_code 85 33 = some (.iload 4, 2) := by decide +kernel
theorem c85_35 : jm_code 85 35 = some (.if_icmp .le 6, 3) := by decide +kernel
theorem c85_38 : jm_code 85 38 = some (.bipush (-2), 2) := by decide +kernel
theorem c85_40 : jm_code 85 40 = some (.ireturn, 1) := by decide +kernel
theorem c85_41 : jm_code 85 41 = some (.iload_n 1, 1) := by decide +kernel
theorem c85_42 : jm_code 85 42 = some (.istore 5, 2) := by decide +kernel
theorem c85_44 : jm_code 85 44 = some (.iconst 0, 1) := by decide +kernel
theorem c85_45 : jm_code 85 45 = some (.istore 6, 2) := by decide +kernel
theorem c85_47 : jm_code 85 47 = some (.iload 6, 2) := by decide +kernel
theorem c85_49 : jm_code 85 49 = some (.bipush 60, 2) := by decide +kernel
theorem c85_51 : jm_code 85 51 = some (.if_icmp .gt 31, 3) := by decide +kernel
theorem c85_54 : jm_code 85 54 = some (.iload 5, 2) := by decide +kernel
theorem c85_56 : jm_code 85 56 = some (.iload_n 3, 1) := by decide +kernel
theorem c85_57 : jm_code 85 57 = some (.iload 4, 2) := by decide +kernel
theorem c85_59 : jm_code 85 59 = some (.invokestatic 86, 3) := by decide +kernel
theorem c85_62 : jm_code 85 62 = some (.ifCond .ne 6, 3) := by decide +kernel
theorem c85_65 : jm_code 85 65 = some (.iload 6, 2) := by decide +kernel
theorem c85_67 : jm_code 85 67 = some (.ireturn, 1) := by decide +kernel
theorem c85_68 : jm_code 85 68 = some (.iload 5, 2) := by decide +kernel
theorem c85_70 : jm_code 85 70 = some (.iload_n 2, 1) := by decide +kernel
theorem c85_71 : jm_code 85 71 = some (.invokestatic 240, 3) := by decide +kernel
theorem c85_74 : jm_code 85 74 = some (.istore 5, 2) := by decide +kernel
theorem c85_76 : jm_code 85 76 = some (.iinc 6 1, 3) := by decide +kernel
theorem c85_79 : jm_code 85 79 = some (.goto (-32), 3) := by decide +kernel
theorem c85_82 : jm_code 85 82 = some (.iconst (-1), 1) := by decide +kernel
theorem c85_83 : jm_code 85 83 = some (.ireturn, 1) := by decide +kernel
theorem c86_0 : jm_code 86 0 = some (.iload_n 1, 1) := by decide +kernel
theorem c86_1 : jm_code 86 1 = some (.iload_n 3, 1) := by decide +kernel
theorem c86_2 : jm_code 86 2 = some (.iload 4, 2) := by decide +kernel
theorem c86_4 : jm_code 86 4 = some (.invokestatic 243, 3) := by decide +kernel
theorem c86_7 : jm_code 86 7 = some (.ifCond .ne 22, 3) := by decide +kernel
theorem c86_10 : jm_code 86 10 = some (.iload_n 2, 1) := by decide +kernel
theorem c86_11 : jm_code 86 11 = some (.iconst 0, 1) := by decide +kernel
