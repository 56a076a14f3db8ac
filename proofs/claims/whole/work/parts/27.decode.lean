theorem eX10_goesLots_54 : decode (mB MX10_goesLots) 54 = .ok (.aload_n 0, 1) := by decide +kernel
theorem eX10_goesLots_55 : decode (mB MX10_goesLots) 55 = .ok (.getfield 67, 3) := by decide +kernel
theorem eX10_goesLots_58 : decode (mB MX10_goesLots) 58 = .ok (.iload_n 2, 1) := by decide +kernel
theorem eX10_goesLots_59 : decode (mB MX10_goesLots) 59 = .ok (.iload_n 3, 1) := by decide +kernel
theorem eX10_goesLots_60 : decode (mB MX10_goesLots) 60 = .ok (.iadd, 1) := by decide +kernel
theorem eX10_goesLots_61 : decode (mB MX10_goesLots) 61 = .ok (.aload_n 0, 1) := by decide +kernel
theorem eX10_goesLots_62 : decode (mB MX10_goesLots) 62 = .ok (.getfield 13, 3) := by decide +kernel
theorem eX10_goesLots_65 : decode (mB MX10_goesLots) 65 = .ok (.bipush 49, 2) := by decide +kernel
theorem eX10_goesLots_67 : decode (mB MX10_goesLots) 67 = .ok (.iload_n 3, 1) := by decide +kernel
theorem eX10_goesLots_68 : decode (mB MX10_goesLots) 68 = .ok (.iadd, 1) := by decide +kernel
theorem eX10_goesLots_69 : decode (mB MX10_goesLots) 69 = .ok (.iaload, 1) := by decide +kernel
theorem eX10_goesLots_70 : decode (mB MX10_goesLots) 70 = .ok (.iastore, 1) := by decide +kernel
theorem eX10_goesLots_71 : decode (mB MX10_goesLots) 71 = .ok (.iinc 3 1, 3) := by decide +kernel
theorem eX10_goesLots_74 : decode (mB MX10_goesLots) 74 = .ok (.goto (-26), 3) := by decide +kernel
theorem eX10_goesLots_77 : decode (mB MX10_goesLots) 77 = .ok (.iconst 0, 1) := by decide +kernel
theorem eX10_goesLots_78 : decode (mB MX10_goesLots) 78 = .ok (.istore_n 3, 1) := by decide +kernel
theorem eX10_goesLots_79 : decode (mB MX10_goesLots) 79 = .ok (.iload_n 3, 1) := by decide +kernel
theorem eX10_goesLots_80 : decode (mB MX10_goesLots) 80 = .ok (.bipush 10, 2) := by decide +kernel
theorem eX10_goesLots_82 : decode (mB MX10_goesLots) 82 = .ok (.if_icmp .ge 65, 3) := by decide +kernel
theorem eX10_goesLots_85 : decode (mB MX10_goesLots) 85 = .ok (.aload_n 0, 1) := by decide +kernel
theorem eX10_goesLots_86 : decode (mB MX10_goesLots) 86 = .ok (.iload_n 3, 1) := by decide +kernel
theorem eX10_goesLots_87 : decode (mB MX10_goesLots) 87 = .ok (.i2l, 1) := by decide +kernel
theorem eX10_goesLots_88 : decode (mB MX10_goesLots) 88 = .ok (.invokevirtual 319, 3) := by decide +kernel
theorem eX10_goesLots_91 : decode (mB MX10_goesLots) 91 = .ok (.ifCond .ne 8, 3) := by decide +kernel
theorem eX10_goesLots_94 : decode (mB MX10_goesLots) 94 = .ok (.aload_n 0, 1) := by decide +kernel
theorem eX10_goesLots_95 : decode (mB MX10_goesLots) 95 = .ok (.iload_n 3, 1) := by decide +kernel
theorem eX10_goesLots_96 : decode (mB MX10_goesLots) 96 = .ok (.invokevirtual 322, 3) := by decide +kernel
theorem eX10_goesLots_99 : decode (mB MX10_goesLots) 99 = .ok (.aload_n 0, 1) := by decide +kernel
theorem eX10_goesLots_100 : decode (mB MX10_goesLots) 100 = .ok (.iload_n 1, 1) := by decide +kernel
theorem eX10_goesLots_101 : decode (mB MX10_goesLots) 101 = .ok (.iconst 1, 1) := by decide +kernel
theorem eX10_goesLots_102 : decode (mB MX10_goesLots) 102 = .ok (.isub, 1) := by decide +kernel
theorem eX10_goesLots_103 : decode (mB MX10_goesLots) 103 = .ok (.invokevirtual 464, 3) := by decide +kernel
theorem eX10_goesLots_106 : decode (mB MX10_goesLots) 106 = .ok (.iconst 0, 1) := by decide +kernel
theorem eX10_goesLots_107 : decode (mB MX10_goesLots) 107 = .ok (.istore 4, 2) := by decide +kernel
theorem eX10_goesLots_109 : decode (mB MX10_goesLots) 109 = .ok (.iload 4, 2) := by decide +kernel
theorem eX10_goesLots_111 : decode (mB MX10_goesLots) 111 = .ok (.bipush 126, 2) := by decide +kernel
theorem eX10_goesLots_113 : decode (mB MX10_goesLots) 113 = .ok (.if_icmp .ge 28, 3) := by decide +kernel
theorem eX10_goesLots_116 : decode (mB MX10_goesLots) 116 = .ok (.aload_n 0, 1) := by decide +kernel
theorem eX10_goesLots_117 : decode (mB MX10_goesLots) 117 = .ok (.getfield 13, 3) := by decide +kernel
theorem eX10_goesLots_120 : decode (mB MX10_goesLots) 120 = .ok (.bipush 49, 2) := by decide +kernel
theorem eX10_goesLots_122 : decode (mB MX10_goesLots) 122 = .ok (.iload 4, 2) := by decide +kernel
theorem eX10_goesLots_124 : decode (mB MX10_goesLots) 124 = .ok (.iadd, 1) := by decide +kernel
theorem eX10_goesLots_125 : decode (mB MX10_goesLots) 125 = .ok (.aload_n 0, 1) := by decide +kernel
theorem eX10_goesLots_126 : decode (mB MX10_goesLots) 126 = .ok (.getfield 67, 3) := by decide +kernel
theorem eX10_goesLots_129 : decode (mB MX10_goesLots) 129 = .ok (.iload_n 2, 1) := by decide +kernel
theorem eX10_goesLots_130 : decode (mB MX10_goesLots) 130 = .ok (.iload 4, 2) := by decide +kernel
theorem eX10_goesLots_132 : decode (mB MX10_goesLots) 132 = .ok (.iadd, 1) := by decide +kernel
theorem eX10_goesLots_133 : decode (mB MX10_goesLots) 133 = .ok (.iaload, 1) := by decide +kernel
theorem eX10_goesLots_134 : decode (mB MX10_goesLots) 134 = .ok (.iastore, 1) := by decide +kernel
theorem eX10_goesLots_135 : decode (mB MX10_goesLots) 135 = .ok (.iinc 4 1, 3) := by decide +kernel
theorem eX10_goesLots_138 : decode (mB MX10_goesLots) 138 = .ok (.goto (-29), 3) := by decide +kernel
theorem eX10_goesLots_141 : decode (mB MX10_goesLots) 141 = .ok (.iinc 3 1, 3) := by decide +kernel
theorem eX10_goesLots_144 : decode (mB MX10_goesLots) 144 = .ok (.goto (-65), 3) := by decide +kernel
theorem eX10_goesLots_147 : decode (mB MX10_goesLots) 147 = .ok (.return_, 1) := by decide +kernel
theorem eX10_wholeOf_0 : decode (mB MX10_wholeOf) 0 = .ok (.lconst 1, 1) := by decide +kernel
theorem eX10_wholeOf_1 : decode (mB MX10_wholeOf) 1 = .ok (.lstore_n 1, 1) := by decide +kernel
theorem eX10_wholeOf_2 : decode (mB MX10_wholeOf) 2 = .ok (.iconst 0, 1) := by decide +kernel
theorem eX10_wholeOf_3 : decode (mB MX10_wholeOf) 3 = .ok (.istore_n 3, 1) := by decide +kernel
theorem eX10_wholeOf_4 : decode (mB MX10_wholeOf) 4 = .ok (.iload_n 3, 1) := by decide +kernel
theorem eX10_wholeOf_5 : decode (mB MX10_wholeOf) 5 = .ok (.iload_n 0, 1) := by decide +kernel
theorem eX10_wholeOf_6 : decode (mB MX10_wholeOf) 6 = .ok (.if_icmp .ge 15, 3) := by decide +kernel
theorem eX10_wholeOf_9 : decode (mB MX10_wholeOf) 9 = .ok (.lload_n 1, 1) := by decide +kernel
theorem eX10_wholeOf_10 : decode (mB MX10_wholeOf) 10 = .ok (.ldc2_w 339, 3) := by decide +kernel
theorem eX10_wholeOf_13 : decode (mB MX10_wholeOf) 13 = .ok (.lmul, 1) := by decide +kernel
theorem eX10_wholeOf_14 : decode (mB MX10_wholeOf) 14 = .ok (.lstore_n 1, 1) := by decide +kernel
theorem eX10_wholeOf_15 : decode (mB MX10_wholeOf) 15 = .ok (.iinc 3 1, 3) := by decide +kernel
theorem eX10_wholeOf_18 : decode (mB MX10_wholeOf) 18 = .ok (.goto (-14), 3) := by decide +kernel
theorem eX10_wholeOf_21 : decode (mB MX10_wholeOf) 21 = .ok (.lload_n 1, 1) := by decide +kernel
theorem eX10_wholeOf_22 : decode (mB MX10_wholeOf) 22 = .ok (.lreturn, 1) := by decide +kernel
theorem eX10_part_0 : decode (mB MX10_part) 0 = .ok (.aload_n 0, 1) := by decide +kernel
theorem eX10_part_1 : decode (mB MX10_part) 1 = .ok (.lconst 0, 1) := by decide +kernel
theorem eX10_part_2 : decode (mB MX10_part) 2 = .ok (.putfield 457, 3) := by decide +kernel
theorem eX10_part_5 : decode (mB MX10_part) 5 = .ok (.aload_n 0, 1) := by decide +kernel
theorem eX10_part_6 : decode (mB MX10_part) 6 = .ok (.lconst 0, 1) := by decide +kernel
theorem eX10_part_7 : decode (mB MX10_part) 7 = .ok (.putfield 461, 3) := by decide +kernel
theorem eX10_part_10 : decode (mB MX10_part) 10 = .ok (.aload_n 0, 1) := by decide +kernel
theorem eX10_part_11 : decode (mB MX10_part) 11 = .ok (.iload_n 2, 1) := by decide +kernel
theorem eX10_part_12 : decode (mB MX10_part) 12 = .ok (.invokevirtual 464, 3) := by decide +kernel
theorem eX10_part_15 : decode (mB MX10_part) 15 = .ok (.iload_n 1, 1) := by decide +kernel
theorem eX10_part_16 : decode (mB MX10_part) 16 = .ok (.ifCond .eq 10, 3) := by decide +kernel
theorem eX10_part_19 : decode (mB MX10_part) 19 = .ok (.aload_n 0, 1) := by decide +kernel
theorem eX10_part_20 : decode (mB MX10_part) 20 = .ok (.getfield 457, 3) := by decide +kernel
theorem eX10_part_23 : decode (mB MX10_part) 23 = .ok (.goto 7, 3) := by decide +kernel
theorem eX10_part_26 : decode (mB MX10_part) 26 = .ok (.aload_n 0, 1) := by decide +kernel
theorem eX10_part_27 : decode (mB MX10_part) 27 = .ok (.getfield 461, 3) := by decide +kernel
theorem eX10_part_30 : decode (mB MX10_part) 30 = .ok (.lstore 4, 2) := by decide +kernel
theorem eX10_part_32 : decode (mB MX10_part) 32 = .ok (.iload_n 3, 1) := by decide +kernel
theorem eX10_part_33 : decode (mB MX10_part) 33 = .ok (.ifCond .ne 8, 3) := by decide +kernel
theorem eX10_part_36 : decode (mB MX10_part) 36 = .ok (.lload 4, 2) := by decide +kernel
theorem eX10_part_38 : decode (mB MX10_part) 38 = .ok (.goto 7, 3) := by decide +kernel
theorem eX10_part_41 : decode (mB MX10_part) 41 = .ok (.iload_n 2, 1) := by decide +kernel
theorem eX10_part_42 : decode (mB MX10_part) 42 = .ok (.invokestatic 467, 3) := by decide +kernel
theorem eX10_part_45 : decode (mB MX10_part) 45 = .ok (.lload 4, 2) := by decide +kernel
theorem eX10_part_47 : decode (mB MX10_part) 47 = .ok (.iload_n 2, 1) := by decide +kernel
theorem eX10_part_48 : decode (mB MX10_part) 48 = .ok (.invokestatic 467, 3) := by decide +kernel
theorem eX10_part_51 : decode (mB MX10_part) 51 = .ok (.invokestatic 416, 3) := by decide +kernel
theorem eX10_part_54 : decode (mB MX10_part) 54 = .ok (.ldiv, 1) := by decide +kernel
theorem eX10_part_55 : decode (mB MX10_part) 55 = .ok (.l2i, 1) := by decide +kernel
theorem eX10_part_56 : decode (mB MX10_part) 56 = .ok (.ireturn, 1) := by decide +kernel
theorem eX10_chance_0 : decode (mB MX10_chance) 0 = .ok (.aload_n 0, 1) := by decide +kernel
theorem eX10_chance_1 : decode (mB MX10_chance) 1 = .ok (.iconst 0, 1) := by decide +kernel
theorem eX10_chance_2 : decode (mB MX10_chance) 2 = .ok (.putfield 1, 3) := by decide +kernel
theorem eX10_chance_5 : decode (mB MX10_chance) 5 = .ok (.iload_n 2, 1) := by decide +kernel
theorem eX10_chance_6 : decode (mB MX10_chance) 6 = .ok (.i2l, 1) := by decide +kernel
theorem eX10_chance_7 : decode (mB MX10_chance) 7 = .ok (.lconst 0, 1) := by decide +kernel
theorem eX10_chance_8 : decode (mB MX10_chance) 8 = .ok (.lconst 1, 1) := by decide +kernel
theorem eX10_chance_9 : decode (mB MX10_chance) 9 = .ok (.invokestatic 149, 3) := by decide +kernel
theorem eX10_chance_12 : decode (mB MX10_chance) 12 = .ok (.ifCond .ne 6, 3) := by decide +kernel
theorem eX10_chance_15 : decode (mB MX10_chance) 15 = .ok (.bipush (-2), 2) := by decide +kernel
theorem eX10_chance_17 : decode (mB MX10_chance) 17 = .ok (.ireturn, 1) := by decide +kernel
theorem eX10_chance_18 : decode (mB MX10_chance) 18 = .ok (.iload_n 1, 1) := by decide +kernel
theorem eX10_chance_19 : decode (mB MX10_chance) 19 = .ok (.i2l, 1) := by decide +kernel
theorem eX10_chance_20 : decode (mB MX10_chance) 20 = .ok (.lconst 0, 1) := by decide +kernel
theorem eX10_chance_21 : decode (mB MX10_chance) 21 = .ok (.ldc2_w 371, 3) := by decide +kernel
theorem eX10_chance_24 : decode (mB MX10_chance) 24 = .ok (.invokestatic 149, 3) := by decide +kernel
theorem eX10_chance_27 : decode (mB MX10_chance) 27 = .ok (.ifCond .eq 13, 3) := by decide +kernel
theorem eX10_chance_30 : decode (mB MX10_chance) 30 = .ok (.aload_n 0, 1) := by decide +kernel
theorem eX10_chance_31 : decode (mB MX10_chance) 31 = .ok (.iconst 1, 1) := by decide +kernel
theorem eX10_chance_32 : decode (mB MX10_chance) 32 = .ok (.iload_n 1, 1) := by decide +kernel
theorem eX10_chance_33 : decode (mB MX10_chance) 33 = .ok (.iload_n 2, 1) := by decide +kernel
theorem eX10_chance_34 : decode (mB MX10_chance) 34 = .ok (.invokevirtual 471, 3) := by decide +kernel
theorem eX10_chance_37 : decode (mB MX10_chance) 37 = .ok (.goto 5, 3) := by decide +kernel
theorem eX10_chance_40 : decode (mB MX10_chance) 40 = .ok (.bipush (-3), 2) := by decide +kernel
theorem eX10_chance_42 : decode (mB MX10_chance) 42 = .ok (.ireturn, 1) := by decide +kernel
theorem eX10_mean_0 : decode (mB MX10_mean) 0 = .ok (.aload_n 0, 1) := by decide +kernel
theorem eX10_mean_1 : decode (mB MX10_mean) 1 = .ok (.iconst 0, 1) := by decide +kernel
theorem eX10_mean_2 : decode (mB MX10_mean) 2 = .ok (.putfield 1, 3) := by decide +kernel
theorem eX10_mean_5 : decode (mB MX10_mean) 5 = .ok (.iload_n 2, 1) := by decide +kernel
theorem eX10_mean_6 : decode (mB MX10_mean) 6 = .ok (.i2l, 1) := by decide +kernel
theorem eX10_mean_7 : decode (mB MX10_mean) 7 = .ok (.lconst 0, 1) := by decide +kernel
theorem eX10_mean_8 : decode (mB MX10_mean) 8 = .ok (.lconst 1, 1) := by decide +kernel
theorem eX10_mean_9 : decode (mB MX10_mean) 9 = .ok (.invokestatic 149, 3) := by decide +kernel
theorem eX10_mean_12 : decode (mB MX10_mean) 12 = .ok (.ifCond .ne 6, 3) := by decide +kernel
theorem eX10_mean_15 : decode (mB MX10_mean) 15 = .ok (.bipush (-2), 2) := by decide +kernel
theorem eX10_mean_17 : decode (mB MX10_mean) 17 = .ok (.ireturn, 1) := by decide +kernel
theorem eX10_mean_18 : decode (mB MX10_mean) 18 = .ok (.iload_n 1, 1) := by decide +kernel
theorem eX10_mean_19 : decode (mB MX10_mean) 19 = .ok (.i2l, 1) := by decide +kernel
theorem eX10_mean_20 : decode (mB MX10_mean) 20 = .ok (.lconst 0, 1) := by decide +kernel
theorem eX10_mean_21 : decode (mB MX10_mean) 21 = .ok (.ldc2_w 371, 3) := by decide +kernel
theorem eX10_mean_24 : decode (mB MX10_mean) 24 = .ok (.invokestatic 149, 3) := by decide +kernel
theorem eX10_mean_27 : decode (mB MX10_mean) 27 = .ok (.ifCond .eq 13, 3) := by decide +kernel
theorem eX10_mean_30 : decode (mB MX10_mean) 30 = .ok (.aload_n 0, 1) := by decide +kernel
theorem eX10_mean_31 : decode (mB MX10_mean) 31 = .ok (.iconst 0, 1) := by decide +kernel
theorem eX10_mean_32 : decode (mB MX10_mean) 32 = .ok (.iload_n 1, 1) := by decide +kernel
theorem eX10_mean_33 : decode (mB MX10_mean) 33 = .ok (.iload_n 2, 1) := by decide +kernel
theorem eX10_mean_34 : decode (mB MX10_mean) 34 = .ok (.invokevirtual 471, 3) := by decide +kernel
theorem eX10_mean_37 : decode (mB MX10_mean) 37 = .ok (.goto 5, 3) := by decide +kernel
theorem eX10_mean_40 : decode (mB MX10_mean) 40 = .ok (.bipush (-3), 2) := by decide +kernel
theorem eX10_mean_42 : decode (mB MX10_mean) 42 = .ok (.ireturn, 1) := by decide +kernel
theorem eX10_cutTo_0 : decode (mB MX10_cutTo) 0 = .ok (.iload_n 2, 1) := by decide +kernel
theorem eX10_cutTo_1 : decode (mB MX10_cutTo) 1 = .ok (.ifCond .ne 10, 3) := by decide +kernel
theorem eX10_cutTo_4 : decode (mB MX10_cutTo) 4 = .ok (.lload_n 0, 1) := by decide +kernel
theorem eX10_cutTo_5 : decode (mB MX10_cutTo) 5 = .ok (.l2i, 1) := by decide +kernel
theorem eX10_cutTo_6 : decode (mB MX10_cutTo) 6 = .ok (.i2b, 1) := by decide +kernel
theorem eX10_cutTo_7 : decode (mB MX10_cutTo) 7 = .ok (.i2l, 1) := by decide +kernel
theorem eX10_cutTo_8 : decode (mB MX10_cutTo) 8 = .ok (.goto 27, 3) := by decide +kernel
theorem eX10_cutTo_11 : decode (mB MX10_cutTo) 11 = .ok (.iload_n 2, 1) := by decide +kernel
theorem eX10_cutTo_12 : decode (mB MX10_cutTo) 12 = .ok (.iconst 1, 1) := by decide +kernel
theorem eX10_cutTo_13 : decode (mB MX10_cutTo) 13 = .ok (.if_icmp .ne 10, 3) := by decide +kernel
theorem eX10_cutTo_16 : decode (mB MX10_cutTo) 16 = .ok (.lload_n 0, 1) := by decide +kernel
theorem eX10_cutTo_17 : decode (mB MX10_cutTo) 17 = .ok (.l2i, 1) := by decide +kernel
theorem eX10_cutTo_18 : decode (mB MX10_cutTo) 18 = .ok (.i2s, 1) := by decide +kernel
theorem eX10_cutTo_19 : decode (mB MX10_cutTo) 19 = .ok (.i2l, 1) := by decide +kernel
theorem eX10_cutTo_20 : decode (mB MX10_cutTo) 20 = .ok (.goto 15, 3) := by decide +kernel
theorem eX10_cutTo_23 : decode (mB MX10_cutTo) 23 = .ok (.iload_n 2, 1) := by decide +kernel
theorem eX10_cutTo_24 : decode (mB MX10_cutTo) 24 = .ok (.iconst 2, 1) := by decide +kernel
theorem eX10_cutTo_25 : decode (mB MX10_cutTo) 25 = .ok (.if_icmp .ne 9, 3) := by decide +kernel
theorem eX10_cutTo_28 : decode (mB MX10_cutTo) 28 = .ok (.lload_n 0, 1) := by decide +kernel
theorem eX10_cutTo_29 : decode (mB MX10_cutTo) 29 = .ok (.l2i, 1) := by decide +kernel
theorem eX10_cutTo_30 : decode (mB MX10_cutTo) 30 = .ok (.i2l, 1) := by decide +kernel
theorem eX10_cutTo_31 : decode (mB MX10_cutTo) 31 = .ok (.goto 4, 3) := by decide +kernel
theorem eX10_cutTo_34 : decode (mB MX10_cutTo) 34 = .ok (.lload_n 0, 1) := by decide +kernel
theorem eX10_cutTo_35 : decode (mB MX10_cutTo) 35 = .ok (.lreturn, 1) := by decide +kernel
theorem eX10_numbers_0 : decode (mB MX10_numbers) 0 = .ok (.aload_n 0, 1) := by decide +kernel
theorem eX10_numbers_1 : decode (mB MX10_numbers) 1 = .ok (.iconst 0, 1) := by decide +kernel
theorem eX10_numbers_2 : decode (mB MX10_numbers) 2 = .ok (.putfield 1, 3) := by decide +kernel
theorem eX10_numbers_5 : decode (mB MX10_numbers) 5 = .ok (.iload_n 1, 1) := by decide +kernel
theorem eX10_numbers_6 : decode (mB MX10_numbers) 6 = .ok (.i2l, 1) := by decide +kernel
theorem eX10_numbers_7 : decode (mB MX10_numbers) 7 = .ok (.lconst 0, 1) := by decide +kernel
theorem eX10_numbers_8 : decode (mB MX10_numbers) 8 = .ok (.ldc2_w 371, 3) := by decide +kernel
theorem eX10_numbers_11 : decode (mB MX10_numbers) 11 = .ok (.invokestatic 149, 3) := by decide +kernel
theorem eX10_numbers_14 : decode (mB MX10_numbers) 14 = .ok (.ifCond .eq 15, 3) := by decide +kernel
theorem eX10_numbers_17 : decode (mB MX10_numbers) 17 = .ok (.iload_n 2, 1) := by decide +kernel
theorem eX10_numbers_18 : decode (mB MX10_numbers) 18 = .ok (.i2l, 1) := by decide +kernel
theorem eX10_numbers_19 : decode (mB MX10_numbers) 19 = .ok (.lconst 0, 1) := by decide +kernel
theorem eX10_numbers_20 : decode (mB MX10_numbers) 20 = .ok (.ldc2_w 371, 3) := by decide +kernel
theorem eX10_numbers_23 : decode (mB MX10_numbers) 23 = .ok (.invokestatic 149, 3) := by decide +kernel
theorem eX10_numbers_26 : decode (mB MX10_numbers) 26 = .ok (.ifCond .ne 6, 3) := by decide +kernel
theorem eX10_numbers_29 : decode (mB MX10_numbers) 29 = .ok (.bipush (-2), 2) := by decide +kernel
theorem eX10_numbers_31 : decode (mB MX10_numbers) 31 = .ok (.ireturn, 1) := by decide +kernel
theorem eX10_numbers_32 : decode (mB MX10_numbers) 32 = .ok (.iload_n 3, 1) := by decide +kernel
theorem eX10_numbers_33 : decode (mB MX10_numbers) 33 = .ok (.i2l, 1) := by decide +kernel
theorem eX10_numbers_34 : decode (mB MX10_numbers) 34 = .ok (.lconst 0, 1) := by decide +kernel
theorem eX10_numbers_35 : decode (mB MX10_numbers) 35 = .ok (.ldc2_w 386, 3) := by decide +kernel
theorem eX10_numbers_38 : decode (mB MX10_numbers) 38 = .ok (.invokestatic 149, 3) := by decide +kernel
theorem eX10_numbers_41 : decode (mB MX10_numbers) 41 = .ok (.ifCond .ne 6, 3) := by decide +kernel
theorem eX10_numbers_44 : decode (mB MX10_numbers) 44 = .ok (.bipush (-3), 2) := by decide +kernel
theorem eX10_numbers_46 : decode (mB MX10_numbers) 46 = .ok (.ireturn, 1) := by decide +kernel
theorem eX10_numbers_47 : decode (mB MX10_numbers) 47 = .ok (.aload_n 0, 1) := by decide +kernel
theorem eX10_numbers_48 : decode (mB MX10_numbers) 48 = .ok (.getfield 70, 3) := by decide +kernel
theorem eX10_numbers_51 : decode (mB MX10_numbers) 51 = .ok (.iload_n 1, 1) := by decide +kernel
theorem eX10_numbers_52 : decode (mB MX10_numbers) 52 = .ok (.iload_n 2, 1) := by decide +kernel
theorem eX10_numbers_53 : decode (mB MX10_numbers) 53 = .ok (.iastore, 1) := by decide +kernel
theorem eX10_numbers_54 : decode (mB MX10_numbers) 54 = .ok (.aload_n 0, 1) := by decide +kernel
theorem eX10_numbers_55 : decode (mB MX10_numbers) 55 = .ok (.getfield 73, 3) := by decide +kernel
theorem eX10_numbers_58 : decode (mB MX10_numbers) 58 = .ok (.iload_n 1, 1) := by decide +kernel
theorem eX10_numbers_59 : decode (mB MX10_numbers) 59 = .ok (.iload_n 3, 1) := by decide +kernel
theorem eX10_numbers_60 : decode (mB MX10_numbers) 60 = .ok (.iastore, 1) := by decide +kernel
theorem eX10_numbers_61 : decode (mB MX10_numbers) 61 = .ok (.iconst 0, 1) := by decide +kernel
theorem eX10_numbers_62 : decode (mB MX10_numbers) 62 = .ok (.istore 4, 2) := by decide +kernel
theorem eX10_numbers_64 : decode (mB MX10_numbers) 64 = .ok (.iload 4, 2) := by decide +kernel
theorem eX10_numbers_66 : decode (mB MX10_numbers) 66 = .ok (.iload_n 3, 1) := by decide +kernel
theorem eX10_numbers_67 : decode (mB MX10_numbers) 67 = .ok (.if_icmp .ge 22, 3) := by decide +kernel
theorem eX10_numbers_70 : decode (mB MX10_numbers) 70 = .ok (.aload_n 0, 1) := by decide +kernel
theorem eX10_numbers_71 : decode (mB MX10_numbers) 71 = .ok (.getfield 76, 3) := by decide +kernel
theorem eX10_numbers_74 : decode (mB MX10_numbers) 74 = .ok (.bipush 40, 2) := by decide +kernel
theorem eX10_numbers_76 : decode (mB MX10_numbers) 76 = .ok (.iload_n 1, 1) := by decide +kernel
theorem eX10_numbers_77 : decode (mB MX10_numbers) 77 = .ok (.imul, 1) := by decide +kernel
theorem eX10_numbers_78 : decode (mB MX10_numbers) 78 = .ok (.iload 4, 2) := by decide +kernel
theorem eX10_numbers_80 : decode (mB MX10_numbers) 80 = .ok (.iadd, 1) := by decide +kernel
theorem eX10_numbers_81 : decode (mB MX10_numbers) 81 = .ok (.lconst 0, 1) := by decide +kernel
theorem eX10_numbers_82 : decode (mB MX10_numbers) 82 = .ok (.lastore, 1) := by decide +kernel
theorem eX10_numbers_83 : decode (mB MX10_numbers) 83 = .ok (.iinc 4 1, 3) := by decide +kernel
theorem eX10_numbers_86 : decode (mB MX10_numbers) 86 = .ok (.goto (-22), 3) := by decide +kernel
theorem eX10_numbers_89 : decode (mB MX10_numbers) 89 = .ok (.iconst 0, 1) := by decide +kernel
theorem eX10_numbers_90 : decode (mB MX10_numbers) 90 = .ok (.ireturn, 1) := by decide +kernel
theorem eX10_write_0 : decode (mB MX10_write) 0 = .ok (.aload_n 0, 1) := by decide +kernel
theorem eX10_write_1 : decode (mB MX10_write) 1 = .ok (.iconst 0, 1) := by decide +kernel
theorem eX10_write_2 : decode (mB MX10_write) 2 = .ok (.putfield 1, 3) := by decide +kernel
theorem eX10_write_5 : decode (mB MX10_write) 5 = .ok (.aload_n 0, 1) := by decide +kernel
theorem eX10_write_6 : decode (mB MX10_write) 6 = .ok (.iload_n 1, 1) := by decide +kernel
theorem eX10_write_7 : decode (mB MX10_write) 7 = .ok (.invokevirtual 373, 3) := by decide +kernel
theorem eX10_write_10 : decode (mB MX10_write) 10 = .ok (.istore 5, 2) := by decide +kernel
theorem eX10_write_12 : decode (mB MX10_write) 12 = .ok (.iload 5, 2) := by decide +kernel
theorem eX10_write_14 : decode (mB MX10_write) 14 = .ok (.ifCond .eq 7, 3) := by decide +kernel
theorem eX10_write_17 : decode (mB MX10_write) 17 = .ok (.iload 5, 2) := by decide +kernel
theorem eX10_write_19 : decode (mB MX10_write) 19 = .ok (.i2l, 1) := by decide +kernel
theorem eX10_write_20 : decode (mB MX10_write) 20 = .ok (.lreturn, 1) := by decide +kernel
theorem eX10_write_21 : decode (mB MX10_write) 21 = .ok (.iload_n 2, 1) := by decide +kernel
theorem eX10_write_22 : decode (mB MX10_write) 22 = .ok (.i2l, 1) := by decide +kernel
theorem eX10_write_23 : decode (mB MX10_write) 23 = .ok (.lconst 0, 1) := by decide +kernel
theorem eX10_write_24 : decode (mB MX10_write) 24 = .ok (.aload_n 0, 1) := by decide +kernel
theorem eX10_write_25 : decode (mB MX10_write) 25 = .ok (.getfield 73, 3) := by decide +kernel
theorem eX10_write_28 : decode (mB MX10_write) 28 = .ok (.iload_n 1, 1) := by decide +kernel
theorem eX10_write_29 : decode (mB MX10_write) 29 = .ok (.iaload, 1) := by decide +kernel
theorem eX10_write_30 : decode (mB MX10_write) 30 = .ok (.iconst 1, 1) := by decide +kernel
theorem eX10_write_31 : decode (mB MX10_write) 31 = .ok (.isub, 1) := by decide +kernel
theorem eX10_write_32 : decode (mB MX10_write) 32 = .ok (.i2l, 1) := by decide +kernel
theorem eX10_write_33 : decode (mB MX10_write) 33 = .ok (.invokestatic 149, 3) := by decide +kernel
theorem eX10_write_36 : decode (mB MX10_write) 36 = .ok (.ifCond .ne 7, 3) := by decide +kernel
theorem eX10_write_39 : decode (mB MX10_write) 39 = .ok (.ldc2_w 475, 3) := by decide +kernel
theorem eX10_write_42 : decode (mB MX10_write) 42 = .ok (.lreturn, 1) := by decide +kernel
theorem eX10_write_43 : decode (mB MX10_write) 43 = .ok (.aload_n 0, 1) := by decide +kernel
theorem eX10_write_44 : decode (mB MX10_write) 44 = .ok (.getfield 76, 3) := by decide +kernel
theorem eX10_write_47 : decode (mB MX10_write) 47 = .ok (.bipush 40, 2) := by decide +kernel
theorem eX10_write_49 : decode (mB MX10_write) 49 = .ok (.iload_n 1, 1) := by decide +kernel
theorem eX10_write_50 : decode (mB MX10_write) 50 = .ok (.imul, 1) := by decide +kernel
theorem eX10_write_51 : decode (mB MX10_write) 51 = .ok (.iload_n 2, 1) := by decide +kernel
theorem eX10_write_52 : decode (mB MX10_write) 52 = .ok (.iadd, 1) := by decide +kernel
theorem eX10_write_53 : decode (mB MX10_write) 53 = .ok (.lload_n 3, 1) := by decide +kernel
theorem eX10_write_54 : decode (mB MX10_write) 54 = .ok (.aload_n 0, 1) := by decide +kernel
theorem eX10_write_55 : decode (mB MX10_write) 55 = .ok (.getfield 70, 3) := by decide +kernel
theorem eX10_write_58 : decode (mB MX10_write) 58 = .ok (.iload_n 1, 1) := by decide +kernel
theorem eX10_write_59 : decode (mB MX10_write) 59 = .ok (.iaload, 1) := by decide +kernel
theorem eX10_write_60 : decode (mB MX10_write) 60 = .ok (.invokestatic 477, 3) := by decide +kernel
theorem eX10_write_63 : decode (mB MX10_write) 63 = .ok (.lastore, 1) := by decide +kernel
theorem eX10_write_64 : decode (mB MX10_write) 64 = .ok (.aload_n 0, 1) := by decide +kernel
theorem eX10_write_65 : decode (mB MX10_write) 65 = .ok (.getfield 76, 3) := by decide +kernel
theorem eX10_write_68 : decode (mB MX10_write) 68 = .ok (.bipush 40, 2) := by decide +kernel
theorem eX10_write_70 : decode (mB MX10_write) 70 = .ok (.iload_n 1, 1) := by decide +kernel
theorem eX10_write_71 : decode (mB MX10_write) 71 = .ok (.imul, 1) := by decide +kernel
theorem eX10_write_72 : decode (mB MX10_write) 72 = .ok (.iload_n 2, 1) := by decide +kernel
theorem eX10_write_73 : decode (mB MX10_write) 73 = .ok (.iadd, 1) := by decide +kernel
theorem eX10_write_74 : decode (mB MX10_write) 74 = .ok (.laload, 1) := by decide +kernel
theorem eX10_write_75 : decode (mB MX10_write) 75 = .ok (.lreturn, 1) := by decide +kernel
theorem eX10_lists_0 : decode (mB MX10_lists) 0 = .ok (.aload_n 0, 1) := by decide +kernel
theorem eX10_lists_1 : decode (mB MX10_lists) 1 = .ok (.iconst 0, 1) := by decide +kernel
theorem eX10_lists_2 : decode (mB MX10_lists) 2 = .ok (.putfield 1, 3) := by decide +kernel
theorem eX10_lists_5 : decode (mB MX10_lists) 5 = .ok (.iload_n 1, 1) := by decide +kernel
theorem eX10_lists_6 : decode (mB MX10_lists) 6 = .ok (.i2l, 1) := by decide +kernel
theorem eX10_lists_7 : decode (mB MX10_lists) 7 = .ok (.lconst 0, 1) := by decide +kernel
theorem eX10_lists_8 : decode (mB MX10_lists) 8 = .ok (.ldc2_w 371, 3) := by decide +kernel
theorem eX10_lists_11 : decode (mB MX10_lists) 11 = .ok (.invokestatic 149, 3) := by decide +kernel
theorem eX10_lists_14 : decode (mB MX10_lists) 14 = .ok (.ifCond .eq 10, 3) := by decide +kernel
theorem eX10_lists_17 : decode (mB MX10_lists) 17 = .ok (.iload_n 2, 1) := by decide +kernel
theorem eX10_lists_18 : decode (mB MX10_lists) 18 = .ok (.invokestatic 410, 3) := by decide +kernel
theorem eX10_lists_21 : decode (mB MX10_lists) 21 = .ok (.ifCond .ne 6, 3) := by decide +kernel
theorem eX10_lists_24 : decode (mB MX10_lists) 24 = .ok (.bipush (-2), 2) := by decide +kernel
theorem eX10_lists_26 : decode (mB MX10_lists) 26 = .ok (.ireturn, 1) := by decide +kernel
theorem eX10_lists_27 : decode (mB MX10_lists) 27 = .ok (.aload_n 0, 1) := by decide +kernel
theorem eX10_lists_28 : decode (mB MX10_lists) 28 = .ok (.iload_n 1, 1) := by decide +kernel
theorem eX10_lists_29 : decode (mB MX10_lists) 29 = .ok (.invokevirtual 373, 3) := by decide +kernel
theorem eX10_lists_32 : decode (mB MX10_lists) 32 = .ok (.istore_n 3, 1) := by decide +kernel
theorem eX10_lists_33 : decode (mB MX10_lists) 33 = .ok (.iload_n 3, 1) := by decide +kernel
theorem eX10_lists_34 : decode (mB MX10_lists) 34 = .ok (.ifCond .eq 5, 3) := by decide +kernel
theorem eX10_lists_37 : decode (mB MX10_lists) 37 = .ok (.iload_n 3, 1) := by decide +kernel
theorem eX10_lists_38 : decode (mB MX10_lists) 38 = .ok (.ireturn, 1) := by decide +kernel
theorem eX10_lists_39 : decode (mB MX10_lists) 39 = .ok (.aload_n 0, 1) := by decide +kernel
theorem eX10_lists_40 : decode (mB MX10_lists) 40 = .ok (.iload_n 2, 1) := by decide +kernel
theorem eX10_lists_41 : decode (mB MX10_lists) 41 = .ok (.invokevirtual 413, 3) := by decide +kernel
theorem eX10_lists_44 : decode (mB MX10_lists) 44 = .ok (.ifCond .ne 6, 3) := by decide +kernel
theorem eX10_lists_47 : decode (mB MX10_lists) 47 = .ok (.bipush (-5), 2) := by decide +kernel
theorem eX10_lists_49 : decode (mB MX10_lists) 49 = .ok (.ireturn, 1) := by decide +kernel
theorem eX10_lists_50 : decode (mB MX10_lists) 50 = .ok (.iconst 0, 1) := by decide +kernel
theorem eX10_lists_51 : decode (mB MX10_lists) 51 = .ok (.istore 4, 2) := by decide +kernel
theorem eX10_lists_53 : decode (mB MX10_lists) 53 = .ok (.iconst 0, 1) := by decide +kernel
theorem eX10_lists_54 : decode (mB MX10_lists) 54 = .ok (.istore 5, 2) := by decide +kernel
theorem eX10_lists_56 : decode (mB MX10_lists) 56 = .ok (.iload 5, 2) := by decide +kernel
theorem eX10_lists_58 : decode (mB MX10_lists) 58 = .ok (.aload_n 0, 1) := by decide +kernel
theorem eX10_lists_59 : decode (mB MX10_lists) 59 = .ok (.getfield 216, 3) := by decide +kernel
theorem eX10_lists_62 : decode (mB MX10_lists) 62 = .ok (.if_icmp .ge 59, 3) := by decide +kernel
theorem eX10_lists_65 : decode (mB MX10_lists) 65 = .ok (.iconst 0, 1) := by decide +kernel
theorem eX10_lists_66 : decode (mB MX10_lists) 66 = .ok (.istore 6, 2) := by decide +kernel
theorem eX10_lists_68 : decode (mB MX10_lists) 68 = .ok (.iload 6, 2) := by decide +kernel
theorem eX10_lists_70 : decode (mB MX10_lists) 70 = .ok (.aload_n 0, 1) := by decide +kernel
theorem eX10_lists_71 : decode (mB MX10_lists) 71 = .ok (.getfield 58, 3) := by decide +kernel
theorem eX10_lists_74 : decode (mB MX10_lists) 74 = .ok (.iload 5, 2) := by decide +kernel
theorem eX10_lists_76 : decode (mB MX10_lists) 76 = .ok (.iaload, 1) := by decide +kernel
theorem eX10_lists_77 : decode (mB MX10_lists) 77 = .ok (.if_icmp .ge 38, 3) := by decide +kernel
theorem eX10_lists_80 : decode (mB MX10_lists) 80 = .ok (.iload 4, 2) := by decide +kernel
theorem eX10_lists_82 : decode (mB MX10_lists) 82 = .ok (.aload_n 0, 1) := by decide +kernel
theorem eX10_lists_83 : decode (mB MX10_lists) 83 = .ok (.getfield 73, 3) := by decide +kernel
theorem eX10_lists_86 : decode (mB MX10_lists) 86 = .ok (.iload_n 1, 1) := by decide +kernel
theorem eX10_lists_87 : decode (mB MX10_lists) 87 = .ok (.iaload, 1) := by decide +kernel
theorem eX10_lists_88 : decode (mB MX10_lists) 88 = .ok (.if_icmp .ge 27, 3) := by decide +kernel
theorem eX10_lists_91 : decode (mB MX10_lists) 91 = .ok (.aload_n 0, 1) := by decide +kernel
theorem eX10_lists_92 : decode (mB MX10_lists) 92 = .ok (.getfield 76, 3) := by decide +kernel
theorem eX10_lists_95 : decode (mB MX10_lists) 95 = .ok (.bipush 40, 2) := by decide +kernel
theorem eX10_lists_97 : decode (mB MX10_lists) 97 = .ok (.iload_n 1, 1) := by decide +kernel
theorem eX10_lists_98 : decode (mB MX10_lists) 98 = .ok (.imul, 1) := by decide +kernel
theorem eX10_lists_99 : decode (mB MX10_lists) 99 = .ok (.iload 4, 2) := by decide +kernel
theorem eX10_lists_101 : decode (mB MX10_lists) 101 = .ok (.iadd, 1) := by decide +kernel
theorem eX10_lists_102 : decode (mB MX10_lists) 102 = .ok (.iload 5, 2) := by decide +kernel
theorem eX10_lists_104 : decode (mB MX10_lists) 104 = .ok (.i2l, 1) := by decide +kernel
theorem eX10_lists_105 : decode (mB MX10_lists) 105 = .ok (.lastore, 1) := by decide +kernel
theorem eX10_lists_106 : decode (mB MX10_lists) 106 = .ok (.iinc 4 1, 3) := by decide +kernel
theorem eX10_lists_109 : decode (mB MX10_lists) 109 = .ok (.iinc 6 1, 3) := by decide +kernel
theorem eX10_lists_112 : decode (mB MX10_lists) 112 = .ok (.goto (-44), 3) := by decide +kernel
theorem eX10_lists_115 : decode (mB MX10_lists) 115 = .ok (.iinc 5 1, 3) := by decide +kernel
theorem eX10_lists_118 : decode (mB MX10_lists) 118 = .ok (.goto (-62), 3) := by decide +kernel
theorem eX10_lists_121 : decode (mB MX10_lists) 121 = .ok (.iload 4, 2) := by decide +kernel
theorem eX10_lists_123 : decode (mB MX10_lists) 123 = .ok (.ireturn, 1) := by decide +kernel
theorem eX10_image_0 : decode (mB MX10_image) 0 = .ok (.aload_n 0, 1) := by decide +kernel
theorem eX10_image_1 : decode (mB MX10_image) 1 = .ok (.iconst 0, 1) := by decide +kernel
theorem eX10_image_2 : decode (mB MX10_image) 2 = .ok (.putfield 1, 3) := by decide +kernel
theorem eX10_image_5 : decode (mB MX10_image) 5 = .ok (.iload_n 1, 1) := by decide +kernel
theorem eX10_image_6 : decode (mB MX10_image) 6 = .ok (.i2l, 1) := by decide +kernel
theorem eX10_image_7 : decode (mB MX10_image) 7 = .ok (.lconst 0, 1) := by decide +kernel
theorem eX10_image_8 : decode (mB MX10_image) 8 = .ok (.lconst 1, 1) := by decide +kernel
theorem eX10_image_9 : decode (mB MX10_image) 9 = .ok (.invokestatic 149, 3) := by decide +kernel
theorem eX10_image_12 : decode (mB MX10_image) 12 = .ok (.ifCond .ne 6, 3) := by decide +kernel
theorem eX10_image_15 : decode (mB MX10_image) 15 = .ok (.bipush (-2), 2) := by decide +kernel
theorem eX10_image_17 : decode (mB MX10_image) 17 = .ok (.ireturn, 1) := by decide +kernel
theorem eX10_image_18 : decode (mB MX10_image) 18 = .ok (.iconst 0, 1) := by decide +kernel
theorem eX10_image_19 : decode (mB MX10_image) 19 = .ok (.istore_n 2, 1) := by decide +kernel
theorem eX10_image_20 : decode (mB MX10_image) 20 = .ok (.iload_n 2, 1) := by decide +kernel
theorem eX10_image_21 : decode (mB MX10_image) 21 = .ok (.sipush 2337, 3) := by decide +kernel
theorem eX10_image_24 : decode (mB MX10_image) 24 = .ok (.if_icmp .ge 29, 3) := by decide +kernel
theorem eX10_image_27 : decode (mB MX10_image) 27 = .ok (.aload_n 0, 1) := by decide +kernel
theorem eX10_image_28 : decode (mB MX10_image) 28 = .ok (.getfield 13, 3) := by decide +kernel
theorem eX10_image_31 : decode (mB MX10_image) 31 = .ok (.sipush 2337, 3) := by decide +kernel
theorem eX10_image_34 : decode (mB MX10_image) 34 = .ok (.iload_n 1, 1) := by decide +kernel
theorem eX10_image_35 : decode (mB MX10_image) 35 = .ok (.iconst 1, 1) := by decide +kernel
theorem eX10_image_36 : decode (mB MX10_image) 36 = .ok (.iadd, 1) := by decide +kernel
theorem eX10_image_37 : decode (mB MX10_image) 37 = .ok (.imul, 1) := by decide +kernel
theorem eX10_image_38 : decode (mB MX10_image) 38 = .ok (.iload_n 2, 1) := by decide +kernel
theorem eX10_image_39 : decode (mB MX10_image) 39 = .ok (.iadd, 1) := by decide +kernel
theorem eX10_image_40 : decode (mB MX10_image) 40 = .ok (.aload_n 0, 1) := by decide +kernel
theorem eX10_image_41 : decode (mB MX10_image) 41 = .ok (.getfield 13, 3) := by decide +kernel
theorem eX10_image_44 : decode (mB MX10_image) 44 = .ok (.iload_n 2, 1) := by decide +kernel
theorem eX10_image_45 : decode (mB MX10_image) 45 = .ok (.iaload, 1) := by decide +kernel
theorem eX10_image_46 : decode (mB MX10_image) 46 = .ok (.iastore, 1) := by decide +kernel
theorem eX10_image_47 : decode (mB MX10_image) 47 = .ok (.iinc 2 1, 3) := by decide +kernel
theorem eX10_image_50 : decode (mB MX10_image) 50 = .ok (.goto (-30), 3) := by decide +kernel
theorem eX10_image_53 : decode (mB MX10_image) 53 = .ok (.aload_n 0, 1) := by decide +kernel
theorem eX10_image_54 : decode (mB MX10_image) 54 = .ok (.getfield 17, 3) := by decide +kernel
theorem eX10_image_57 : decode (mB MX10_image) 57 = .ok (.iload_n 1, 1) := by decide +kernel
theorem eX10_image_58 : decode (mB MX10_image) 58 = .ok (.iconst 1, 1) := by decide +kernel
theorem eX10_image_59 : decode (mB MX10_image) 59 = .ok (.bastore, 1) := by decide +kernel
theorem eX10_image_60 : decode (mB MX10_image) 60 = .ok (.iconst 0, 1) := by decide +kernel
theorem eX10_image_61 : decode (mB MX10_image) 61 = .ok (.ireturn, 1) := by decide +kernel
theorem eX10_restore_0 : decode (mB MX10_restore) 0 = .ok (.aload_n 0, 1) := by decide +kernel
theorem eX10_restore_1 : decode (mB MX10_restore) 1 = .ok (.iconst 0, 1) := by decide +kernel
theorem eX10_restore_2 : decode (mB MX10_restore) 2 = .ok (.putfield 1, 3) := by decide +kernel
theorem eX10_restore_5 : decode (mB MX10_restore) 5 = .ok (.iload_n 1, 1) := by decide +kernel
theorem eX10_restore_6 : decode (mB MX10_restore) 6 = .ok (.i2l, 1) := by decide +kernel
theorem eX10_restore_7 : decode (mB MX10_restore) 7 = .ok (.lconst 0, 1) := by decide +kernel
theorem eX10_restore_8 : decode (mB MX10_restore) 8 = .ok (.lconst 1, 1) := by decide +kernel
theorem eX10_restore_9 : decode (mB MX10_restore) 9 = .ok (.invokestatic 149, 3) := by decide +kernel
theorem eX10_restore_12 : decode (mB MX10_restore) 12 = .ok (.ifCond .ne 6, 3) := by decide +kernel
theorem eX10_restore_15 : decode (mB MX10_restore) 15 = .ok (.bipush (-2), 2) := by decide +kernel
theorem eX10_restore_17 : decode (mB MX10_restore) 17 = .ok (.ireturn, 1) := by decide +kernel
theorem eX10_restore_18 : decode (mB MX10_restore) 18 = .ok (.aload_n 0, 1) := by decide +kernel
theorem eX10_restore_19 : decode (mB MX10_restore) 19 = .ok (.getfield 17, 3) := by decide +kernel
theorem eX10_restore_22 : decode (mB MX10_restore) 22 = .ok (.iload_n 1, 1) := by decide +kernel
theorem eX10_restore_23 : decode (mB MX10_restore) 23 = .ok (.baload, 1) := by decide +kernel
theorem eX10_restore_24 : decode (mB MX10_restore) 24 = .ok (.ifCond .ne 6, 3) := by decide +kernel
theorem eX10_restore_27 : decode (mB MX10_restore) 27 = .ok (.bipush (-5), 2) := by decide +kernel
theorem eX10_restore_29 : decode (mB MX10_restore) 29 = .ok (.ireturn, 1) := by decide +kernel
theorem eX10_restore_30 : decode (mB MX10_restore) 30 = .ok (.iconst 0, 1) := by decide +kernel
theorem eX10_restore_31 : decode (mB MX10_restore) 31 = .ok (.istore_n 2, 1) := by decide +kernel
theorem eX10_restore_32 : decode (mB MX10_restore) 32 = .ok (.iload_n 2, 1) := by decide +kernel
theorem eX10_restore_33 : decode (mB MX10_restore) 33 = .ok (.sipush 2337, 3) := by decide +kernel
theorem eX10_restore_36 : decode (mB MX10_restore) 36 = .ok (.if_icmp .ge 29, 3) := by decide +kernel
theorem eX10_restore_39 : decode (mB MX10_restore) 39 = .ok (.aload_n 0, 1) := by decide +kernel
theorem eX10_restore_40 : decode (mB MX10_restore) 40 = .ok (.getfield 13, 3) := by decide +kernel
theorem eX10_restore_43 : decode (mB MX10_restore) 43 = .ok (.iload_n 2, 1) := by decide +kernel
theorem eX10_restore_44 : decode (mB MX10_restore) 44 = .ok (.aload_n 0, 1) := by decide +kernel
theorem eX10_restore_45 : decode (mB MX10_restore) 45 = .ok (.getfield 13, 3) := by decide +kernel
theorem eX10_restore_48 : decode (mB MX10_restore) 48 = .ok (.sipush 2337, 3) := by decide +kernel
theorem eX10_restore_51 : decode (mB MX10_restore) 51 = .ok (.iload_n 1, 1) := by decide +kernel
theorem eX10_restore_52 : decode (mB MX10_restore) 52 = .ok (.iconst 1, 1) := by decide +kernel
theorem eX10_restore_53 : decode (mB MX10_restore) 53 = .ok (.iadd, 1) := by decide +kernel
theorem eX10_restore_54 : decode (mB MX10_restore) 54 = .ok (.imul, 1) := by decide +kernel
theorem eX10_restore_55 : decode (mB MX10_restore) 55 = .ok (.iload_n 2, 1) := by decide +kernel
theorem eX10_restore_56 : decode (mB MX10_restore) 56 = .ok (.iadd, 1) := by decide +kernel
theorem eX10_restore_57 : decode (mB MX10_restore) 57 = .ok (.iaload, 1) := by decide +kernel
theorem eX10_restore_58 : decode (mB MX10_restore) 58 = .ok (.iastore, 1) := by decide +kernel
theorem eX10_restore_59 : decode (mB MX10_restore) 59 = .ok (.iinc 2 1, 3) := by decide +kernel
theorem eX10_restore_62 : decode (mB MX10_restore) 62 = .ok (.goto (-30), 3) := by decide +kernel
theorem eX10_restore_65 : decode (mB MX10_restore) 65 = .ok (.aload_n 0, 1) := by decide +kernel
theorem eX10_restore_66 : decode (mB MX10_restore) 66 = .ok (.getfield 13, 3) := by decide +kernel
theorem eX10_restore_69 : decode (mB MX10_restore) 69 = .ok (.sipush 175, 3) := by decide +kernel
theorem eX10_restore_72 : decode (mB MX10_restore) 72 = .ok (.iconst 0, 1) := by decide +kernel
theorem eX10_restore_73 : decode (mB MX10_restore) 73 = .ok (.iastore, 1) := by decide +kernel
theorem eX10_restore_74 : decode (mB MX10_restore) 74 = .ok (.aload_n 0, 1) := by decide +kernel
theorem eX10_restore_75 : decode (mB MX10_restore) 75 = .ok (.invokevirtual 84, 3) := by decide +kernel
theorem eX10_restore_78 : decode (mB MX10_restore) 78 = .ok (.iconst 0, 1) := by decide +kernel
theorem eX10_restore_79 : decode (mB MX10_restore) 79 = .ok (.ireturn, 1) := by decide +kernel
theorem eX10_count_0 : decode (mB MX10_count) 0 = .ok (.aload_n 0, 1) := by decide +kernel
theorem eX10_count_1 : decode (mB MX10_count) 1 = .ok (.iconst 0, 1) := by decide +kernel
theorem eX10_count_2 : decode (mB MX10_count) 2 = .ok (.putfield 1, 3) := by decide +kernel
theorem eX10_count_5 : decode (mB MX10_count) 5 = .ok (.iload_n 1, 1) := by decide +kernel
theorem eX10_count_6 : decode (mB MX10_count) 6 = .ok (.tableswitch 167 0 8 #[50, 57, 64, 72, 104, 112, 146, 155, 160], 50) := by decide +kernel
theorem eX10_count_56 : decode (mB MX10_count) 56 = .ok (.aload_n 0, 1) := by decide +kernel
theorem eX10_count_57 : decode (mB MX10_count) 57 = .ok (.getfield 13, 3) := by decide +kernel
theorem eX10_count_60 : decode (mB MX10_count) 60 = .ok (.iconst 1, 1) := by decide +kernel
theorem eX10_count_61 : decode (mB MX10_count) 61 = .ok (.iaload, 1) := by decide +kernel
theorem eX10_count_62 : decode (mB MX10_count) 62 = .ok (.ireturn, 1) := by decide +kernel
theorem eX10_count_63 : decode (mB MX10_count) 63 = .ok (.aload_n 0, 1) := by decide +kernel
theorem eX10_count_64 : decode (mB MX10_count) 64 = .ok (.getfield 13, 3) := by decide +kernel
theorem eX10_count_67 : decode (mB MX10_count) 67 = .ok (.iconst 2, 1) := by decide +kernel
theorem eX10_count_68 : decode (mB MX10_count) 68 = .ok (.iaload, 1) := by decide +kernel
theorem eX10_count_69 : decode (mB MX10_count) 69 = .ok (.ireturn, 1) := by decide +kernel
theorem eX10_count_70 : decode (mB MX10_count) 70 = .ok (.aload_n 0, 1) := by decide +kernel
theorem eX10_count_71 : decode (mB MX10_count) 71 = .ok (.getfield 13, 3) := by decide +kernel
theorem eX10_count_74 : decode (mB MX10_count) 74 = .ok (.bipush 114, 2) := by decide +kernel
theorem eX10_count_76 : decode (mB MX10_count) 76 = .ok (.iaload, 1) := by decide +kernel
theorem eX10_count_77 : decode (mB MX10_count) 77 = .ok (.ireturn, 1) := by decide +kernel
theorem eX10_count_78 : decode (mB MX10_count) 78 = .ok (.iconst 0, 1) := by decide +kernel
theorem eX10_count_79 : decode (mB MX10_count) 79 = .ok (.istore_n 2, 1) := by decide +kernel
theorem eX10_count_80 : decode (mB MX10_count) 80 = .ok (.iconst 0, 1) := by decide +kernel
theorem eX10_count_81 : decode (mB MX10_count) 81 = .ok (.istore_n 3, 1) := by decide +kernel
theorem eX10_count_82 : decode (mB MX10_count) 82 = .ok (.iload_n 3, 1) := by decide +kernel
theorem eX10_count_83 : decode (mB MX10_count) 83 = .ok (.aload_n 0, 1) := by decide +kernel
theorem eX10_count_84 : decode (mB MX10_count) 84 = .ok (.getfield 216, 3) := by decide +kernel
theorem eX10_count_87 : decode (mB MX10_count) 87 = .ok (.if_icmp .ge 21, 3) := by decide +kernel
theorem eX10_count_90 : decode (mB MX10_count) 90 = .ok (.iload_n 2, 1) := by decide +kernel
theorem eX10_count_91 : decode (mB MX10_count) 91 = .ok (.aload_n 0, 1) := by decide +kernel
theorem eX10_count_92 : decode (mB MX10_count) 92 = .ok (.getfield 13, 3) := by decide +kernel
theorem eX10_count_95 : decode (mB MX10_count) 95 = .ok (.bipush 49, 2) := by decide +kernel
theorem eX10_count_97 : decode (mB MX10_count) 97 = .ok (.iload_n 3, 1) := by decide +kernel
theorem eX10_count_98 : decode (mB MX10_count) 98 = .ok (.iadd, 1) := by decide +kernel
theorem eX10_count_99 : decode (mB MX10_count) 99 = .ok (.iaload, 1) := by decide +kernel
theorem eX10_count_100 : decode (mB MX10_count) 100 = .ok (.iadd, 1) := by decide +kernel
theorem eX10_count_101 : decode (mB MX10_count) 101 = .ok (.istore_n 2, 1) := by decide +kernel
theorem eX10_count_102 : decode (mB MX10_count) 102 = .ok (.iinc 3 1, 3) := by decide +kernel
theorem eX10_count_105 : decode (mB MX10_count) 105 = .ok (.goto (-23), 3) := by decide +kernel
theorem eX10_count_108 : decode (mB MX10_count) 108 = .ok (.iload_n 2, 1) := by decide +kernel
theorem eX10_count_109 : decode (mB MX10_count) 109 = .ok (.ireturn, 1) := by decide +kernel
theorem eX10_count_110 : decode (mB MX10_count) 110 = .ok (.aload_n 0, 1) := by decide +kernel
theorem eX10_count_111 : decode (mB MX10_count) 111 = .ok (.getfield 13, 3) := by decide +kernel
theorem eX10_count_114 : decode (mB MX10_count) 114 = .ok (.bipush 113, 2) := by decide +kernel
theorem eX10_count_116 : decode (mB MX10_count) 116 = .ok (.iaload, 1) := by decide +kernel
theorem eX10_count_117 : decode (mB MX10_count) 117 = .ok (.ireturn, 1) := by decide +kernel
theorem eX10_count_118 : decode (mB MX10_count) 118 = .ok (.iconst 0, 1) := by decide +kernel
theorem eX10_count_119 : decode (mB MX10_count) 119 = .ok (.istore_n 2, 1) := by decide +kernel
theorem eX10_count_120 : decode (mB MX10_count) 120 = .ok (.iconst 0, 1) := by decide +kernel
theorem eX10_count_121 : decode (mB MX10_count) 121 = .ok (.istore_n 3, 1) := by decide +kernel
theorem eX10_count_122 : decode (mB MX10_count) 122 = .ok (.iload_n 3, 1) := by decide +kernel
theorem eX10_count_123 : decode (mB MX10_count) 123 = .ok (.aload_n 0, 1) := by decide +kernel
theorem eX10_count_124 : decode (mB MX10_count) 124 = .ok (.getfield 13, 3) := by decide +kernel
theorem eX10_count_127 : decode (mB MX10_count) 127 = .ok (.iconst 2, 1) := by decide +kernel
theorem eX10_count_128 : decode (mB MX10_count) 128 = .ok (.iaload, 1) := by decide +kernel
theorem eX10_count_129 : decode (mB MX10_count) 129 = .ok (.if_icmp .ge 21, 3) := by decide +kernel
theorem eX10_count_132 : decode (mB MX10_count) 132 = .ok (.iload_n 2, 1) := by decide +kernel
theorem eX10_count_133 : decode (mB MX10_count) 133 = .ok (.aload_n 0, 1) := by decide +kernel
theorem eX10_count_134 : decode (mB MX10_count) 134 = .ok (.getfield 13, 3) := by decide +kernel
theorem eX10_count_137 : decode (mB MX10_count) 137 = .ok (.bipush 39, 2) := by decide +kernel
theorem eX10_count_139 : decode (mB MX10_count) 139 = .ok (.iload_n 3, 1) := by decide +kernel
theorem eX10_count_140 : decode (mB MX10_count) 140 = .ok (.iadd, 1) := by decide +kernel
theorem eX10_count_141 : decode (mB MX10_count) 141 = .ok (.iaload, 1) := by decide +kernel
theorem eX10_count_142 : decode (mB MX10_count) 142 = .ok (.iadd, 1) := by decide +kernel
theorem eX10_count_143 : decode (mB MX10_count) 143 = .ok (.istore_n 2, 1) := by decide +kernel
theorem eX10_count_144 : decode (mB MX10_count) 144 = .ok (.iinc 3 1, 3) := by decide +kernel
theorem eX10_count_147 : decode (mB MX10_count) 147 = .ok (.goto (-25), 3) := by decide +kernel
theorem eX10_count_150 : decode (mB MX10_count) 150 = .ok (.iload_n 2, 1) := by decide +kernel
theorem eX10_count_151 : decode (mB MX10_count) 151 = .ok (.ireturn, 1) := by decide +kernel
theorem eX10_count_152 : decode (mB MX10_count) 152 = .ok (.aload_n 0, 1) := by decide +kernel
theorem eX10_count_153 : decode (mB MX10_count) 153 = .ok (.getfield 13, 3) := by decide +kernel
theorem eX10_count_156 : decode (mB MX10_count) 156 = .ok (.sipush 175, 3) := by decide +kernel
theorem eX10_count_159 : decode (mB MX10_count) 159 = .ok (.iaload, 1) := by decide +kernel
theorem eX10_count_160 : decode (mB MX10_count) 160 = .ok (.ireturn, 1) := by decide +kernel
theorem eX10_count_161 : decode (mB MX10_count) 161 = .ok (.aload_n 0, 1) := by decide +kernel
theorem eX10_count_162 : decode (mB MX10_count) 162 = .ok (.getfield 87, 3) := by decide +kernel
theorem eX10_count_165 : decode (mB MX10_count) 165 = .ok (.ireturn, 1) := by decide +kernel
theorem eX10_count_166 : decode (mB MX10_count) 166 = .ok (.aload_n 0, 1) := by decide +kernel
theorem eX10_count_167 : decode (mB MX10_count) 167 = .ok (.getfield 13, 3) := by decide +kernel
theorem eX10_count_170 : decode (mB MX10_count) 170 = .ok (.iconst 0, 1) := by decide +kernel
theorem eX10_count_171 : decode (mB MX10_count) 171 = .ok (.iaload, 1) := by decide +kernel
theorem eX10_count_172 : decode (mB MX10_count) 172 = .ok (.ireturn, 1) := by decide +kernel
theorem eX10_count_173 : decode (mB MX10_count) 173 = .ok (.iconst (-1), 1) := by decide +kernel
theorem eX10_count_174 : decode (mB MX10_count) 174 = .ok (.ireturn, 1) := by decide +kernel
theorem eJ11_isValidCodePoint_9a6ad_0 : decode (mB MJ11_isValidCodePoint_9a6ad) 0 = .ok (.iload_n 0, 1) := by decide +kernel
theorem eJ11_isValidCodePoint_9a6ad_1 : decode (mB MJ11_isValidCodePoint_9a6ad) 1 = .ok (.bipush 16, 2) := by decide +kernel
theorem eJ11_isValidCodePoint_9a6ad_3 : decode (mB MJ11_isValidCodePoint_9a6ad) 3 = .ok (.iushr, 1) := by decide +kernel
theorem eJ11_isValidCodePoint_9a6ad_4 : decode (mB MJ11_isValidCodePoint_9a6ad) 4 = .ok (.istore_n 1, 1) := by decide +kernel
theorem eJ11_isValidCodePoint_9a6ad_5 : decode (mB MJ11_isValidCodePoint_9a6ad) 5 = .ok (.iload_n 1, 1) := by decide +kernel
theorem eJ11_isValidCodePoint_9a6ad_6 : decode (mB MJ11_isValidCodePoint_9a6ad) 6 = .ok (.bipush 17, 2) := by decide +kernel
theorem eJ11_isValidCodePoint_9a6ad_8 : decode (mB MJ11_isValidCodePoint_9a6ad) 8 = .ok (.if_icmp .ge 7, 3) := by decide +kernel
theorem eJ11_isValidCodePoint_9a6ad_11 : decode (mB MJ11_isValidCodePoint_9a6ad) 11 = .ok (.iconst 1, 1) := by decide +kernel
theorem eJ11_isValidCodePoint_9a6ad_12 : decode (mB MJ11_isValidCodePoint_9a6ad) 12 = .ok (.goto 4, 3) := by decide +kernel
theorem eJ11_isValidCodePoint_9a6ad_15 : decode (mB MJ11_isValidCodePoint_9a6ad) 15 = .ok (.iconst 0, 1) := by decide +kernel
theorem eJ11_isValidCodePoint_9a6ad_16 : decode (mB MJ11_isValidCodePoint_9a6ad) 16 = .ok (.ireturn, 1) := by decide +kernel
theorem eJ11_highSurrogate_5068e_0 : decode (mB MJ11_highSurrogate_5068e) 0 = .ok (.iload_n 0, 1) := by decide +kernel
theorem eJ11_highSurrogate_5068e_1 : decode (mB MJ11_highSurrogate_5068e) 1 = .ok (.bipush 10, 2) := by decide +kernel
theorem eJ11_highSurrogate_5068e_3 : decode (mB MJ11_highSurrogate_5068e) 3 = .ok (.iushr, 1) := by decide +kernel
theorem eJ11_highSurrogate_5068e_4 : decode (mB MJ11_highSurrogate_5068e) 4 = .ok (.ldc 110, 2) := by decide +kernel
theorem eJ11_highSurrogate_5068e_6 : decode (mB MJ11_highSurrogate_5068e) 6 = .ok (.iadd, 1) := by decide +kernel
theorem eJ11_highSurrogate_5068e_7 : decode (mB MJ11_highSurrogate_5068e) 7 = .ok (.i2c, 1) := by decide +kernel
theorem eJ11_highSurrogate_5068e_8 : decode (mB MJ11_highSurrogate_5068e) 8 = .ok (.ireturn, 1) := by decide +kernel
theorem eJ11_lowSurrogate_5068e_0 : decode (mB MJ11_lowSurrogate_5068e) 0 = .ok (.iload_n 0, 1) := by decide +kernel
theorem eJ11_lowSurrogate_5068e_1 : decode (mB MJ11_lowSurrogate_5068e) 1 = .ok (.sipush 1023, 3) := by decide +kernel
theorem eJ11_lowSurrogate_5068e_4 : decode (mB MJ11_lowSurrogate_5068e) 4 = .ok (.iand, 1) := by decide +kernel
theorem eJ11_lowSurrogate_5068e_5 : decode (mB MJ11_lowSurrogate_5068e) 5 = .ok (.ldc 76, 2) := by decide +kernel
theorem eJ11_lowSurrogate_5068e_7 : decode (mB MJ11_lowSurrogate_5068e) 7 = .ok (.iadd, 1) := by decide +kernel
theorem eJ11_lowSurrogate_5068e_8 : decode (mB MJ11_lowSurrogate_5068e) 8 = .ok (.i2c, 1) := by decide +kernel
theorem eJ11_lowSurrogate_5068e_9 : decode (mB MJ11_lowSurrogate_5068e) 9 = .ok (.ireturn, 1) := by decide +kernel
theorem eJ6_bitCount_0f7a4_0 : decode (mB MJ6_bitCount_0f7a4) 0 = .ok (.iload_n 0, 1) := by decide +kernel
theorem eJ6_bitCount_0f7a4_1 : decode (mB MJ6_bitCount_0f7a4) 1 = .ok (.iload_n 0, 1) := by decide +kernel
theorem eJ6_bitCount_0f7a4_2 : decode (mB MJ6_bitCount_0f7a4) 2 = .ok (.iconst 1, 1) := by decide +kernel
theorem eJ6_bitCount_0f7a4_3 : decode (mB MJ6_bitCount_0f7a4) 3 = .ok (.iushr, 1) := by decide +kernel
theorem eJ6_bitCount_0f7a4_4 : decode (mB MJ6_bitCount_0f7a4) 4 = .ok (.ldc_w 265, 3) := by decide +kernel
theorem eJ6_bitCount_0f7a4_7 : decode (mB MJ6_bitCount_0f7a4) 7 = .ok (.iand, 1) := by decide +kernel
theorem eJ6_bitCount_0f7a4_8 : decode (mB MJ6_bitCount_0f7a4) 8 = .ok (.isub, 1) := by decide +kernel
theorem eJ6_bitCount_0f7a4_9 : decode (mB MJ6_bitCount_0f7a4) 9 = .ok (.istore_n 0, 1) := by decide +kernel
theorem eJ6_bitCount_0f7a4_10 : decode (mB MJ6_bitCount_0f7a4) 10 = .ok (.iload_n 0, 1) := by decide +kernel
theorem eJ6_bitCount_0f7a4_11 : decode (mB MJ6_bitCount_0f7a4) 11 = .ok (.ldc_w 266, 3) := by decide +kernel
theorem eJ6_bitCount_0f7a4_14 : decode (mB MJ6_bitCount_0f7a4) 14 = .ok (.iand, 1) := by decide +kernel
theorem eJ6_bitCount_0f7a4_15 : decode (mB MJ6_bitCount_0f7a4) 15 = .ok (.iload_n 0, 1) := by decide +kernel
theorem eJ6_bitCount_0f7a4_16 : decode (mB MJ6_bitCount_0f7a4) 16 = .ok (.iconst 2, 1) := by decide +kernel
theorem eJ6_bitCount_0f7a4_17 : decode (mB MJ6_bitCount_0f7a4) 17 = .ok (.iushr, 1) := by decide +kernel
theorem eJ6_bitCount_0f7a4_18 : decode (mB MJ6_bitCount_0f7a4) 18 = .ok (.ldc_w 266, 3) := by decide +kernel
theorem eJ6_bitCount_0f7a4_21 : decode (mB MJ6_bitCount_0f7a4) 21 = .ok (.iand, 1) := by decide +kernel
theorem eJ6_bitCount_0f7a4_22 : decode (mB MJ6_bitCount_0f7a4) 22 = .ok (.iadd, 1) := by decide +kernel
theorem eJ6_bitCount_0f7a4_23 : decode (mB MJ6_bitCount_0f7a4) 23 = .ok (.istore_n 0, 1) := by decide +kernel
theorem eJ6_bitCount_0f7a4_24 : decode (mB MJ6_bitCount_0f7a4) 24 = .ok (.iload_n 0, 1) := by decide +kernel
theorem eJ6_bitCount_0f7a4_25 : decode (mB MJ6_bitCount_0f7a4) 25 = .ok (.iload_n 0, 1) := by decide +kernel
theorem eJ6_bitCount_0f7a4_26 : decode (mB MJ6_bitCount_0f7a4) 26 = .ok (.iconst 4, 1) := by decide +kernel
theorem eJ6_bitCount_0f7a4_27 : decode (mB MJ6_bitCount_0f7a4) 27 = .ok (.iushr, 1) := by decide +kernel
theorem eJ6_bitCount_0f7a4_28 : decode (mB MJ6_bitCount_0f7a4) 28 = .ok (.iadd, 1) := by decide +kernel
theorem eJ6_bitCount_0f7a4_29 : decode (mB MJ6_bitCount_0f7a4) 29 = .ok (.ldc_w 267, 3) := by decide +kernel
theorem eJ6_bitCount_0f7a4_32 : decode (mB MJ6_bitCount_0f7a4) 32 = .ok (.iand, 1) := by decide +kernel
theorem eJ6_bitCount_0f7a4_33 : decode (mB MJ6_bitCount_0f7a4) 33 = .ok (.istore_n 0, 1) := by decide +kernel
theorem eJ6_bitCount_0f7a4_34 : decode (mB MJ6_bitCount_0f7a4) 34 = .ok (.iload_n 0, 1) := by decide +kernel
theorem eJ6_bitCount_0f7a4_35 : decode (mB MJ6_bitCount_0f7a4) 35 = .ok (.iload_n 0, 1) := by decide +kernel
theorem eJ6_bitCount_0f7a4_36 : decode (mB MJ6_bitCount_0f7a4) 36 = .ok (.bipush 8, 2) := by decide +kernel
theorem eJ6_bitCount_0f7a4_38 : decode (mB MJ6_bitCount_0f7a4) 38 = .ok (.iushr, 1) := by decide +kernel
theorem eJ6_bitCount_0f7a4_39 : decode (mB MJ6_bitCount_0f7a4) 39 = .ok (.iadd, 1) := by decide +kernel
theorem eJ6_bitCount_0f7a4_40 : decode (mB MJ6_bitCount_0f7a4) 40 = .ok (.istore_n 0, 1) := by decide +kernel
theorem eJ6_bitCount_0f7a4_41 : decode (mB MJ6_bitCount_0f7a4) 41 = .ok (.iload_n 0, 1) := by decide +kernel
theorem eJ6_bitCount_0f7a4_42 : decode (mB MJ6_bitCount_0f7a4) 42 = .ok (.iload_n 0, 1) := by decide +kernel
theorem eJ6_bitCount_0f7a4_43 : decode (mB MJ6_bitCount_0f7a4) 43 = .ok (.bipush 16, 2) := by decide +kernel
theorem eJ6_bitCount_0f7a4_45 : decode (mB MJ6_bitCount_0f7a4) 45 = .ok (.iushr, 1) := by decide +kernel
theorem eJ6_bitCount_0f7a4_46 : decode (mB MJ6_bitCount_0f7a4) 46 = .ok (.iadd, 1) := by decide +kernel
theorem eJ6_bitCount_0f7a4_47 : decode (mB MJ6_bitCount_0f7a4) 47 = .ok (.istore_n 0, 1) := by decide +kernel
theorem eJ6_bitCount_0f7a4_48 : decode (mB MJ6_bitCount_0f7a4) 48 = .ok (.iload_n 0, 1) := by decide +kernel
theorem eJ6_bitCount_0f7a4_49 : decode (mB MJ6_bitCount_0f7a4) 49 = .ok (.bipush 63, 2) := by decide +kernel
theorem eJ6_bitCount_0f7a4_51 : decode (mB MJ6_bitCount_0f7a4) 51 = .ok (.iand, 1) := by decide +kernel
theorem eJ6_bitCount_0f7a4_52 : decode (mB MJ6_bitCount_0f7a4) 52 = .ok (.ireturn, 1) := by decide +kernel
theorem eJ13_bitCount_95d88_0 : decode (mB MJ13_bitCount_95d88) 0 = .ok (.lload_n 0, 1) := by decide +kernel
theorem eJ13_bitCount_95d88_1 : decode (mB MJ13_bitCount_95d88) 1 = .ok (.lload_n 0, 1) := by decide +kernel
theorem eJ13_bitCount_95d88_2 : decode (mB MJ13_bitCount_95d88) 2 = .ok (.iconst 1, 1) := by decide +kernel
theorem eJ13_bitCount_95d88_3 : decode (mB MJ13_bitCount_95d88) 3 = .ok (.lushr, 1) := by decide +kernel
theorem eJ13_bitCount_95d88_4 : decode (mB MJ13_bitCount_95d88) 4 = .ok (.ldc2_w 314, 3) := by decide +kernel
theorem eJ13_bitCount_95d88_7 : decode (mB MJ13_bitCount_95d88) 7 = .ok (.land, 1) := by decide +kernel
theorem eJ13_bitCount_95d88_8 : decode (mB MJ13_bitCount_95d88) 8 = .ok (.lsub, 1) := by decide +kernel
theorem eJ13_bitCount_95d88_9 : decode (mB MJ13_bitCount_95d88) 9 = .ok (.lstore_n 0, 1) := by decide +kernel
theorem eJ13_bitCount_95d88_10 : decode (mB MJ13_bitCount_95d88) 10 = .ok (.lload_n 0, 1) := by decide +kernel
theorem eJ13_bitCount_95d88_11 : decode (mB MJ13_bitCount_95d88) 11 = .ok (.ldc2_w 316, 3) := by decide +kernel
theorem eJ13_bitCount_95d88_14 : decode (mB MJ13_bitCount_95d88) 14 = .ok (.land, 1) := by decide +kernel
theorem eJ13_bitCount_95d88_15 : decode (mB MJ13_bitCount_95d88) 15 = .ok (.lload_n 0, 1) := by decide +kernel
theorem eJ13_bitCount_95d88_16 : decode (mB MJ13_bitCount_95d88) 16 = .ok (.iconst 2, 1) := by decide +kernel
theorem eJ13_bitCount_95d88_17 : decode (mB MJ13_bitCount_95d88) 17 = .ok (.lushr, 1) := by decide +kernel
theorem eJ13_bitCount_95d88_18 : decode (mB MJ13_bitCount_95d88) 18 = .ok (.ldc2_w 316, 3) := by decide +kernel
theorem eJ13_bitCount_95d88_21 : decode (mB MJ13_bitCount_95d88) 21 = .ok (.land, 1) := by decide +kernel
theorem eJ13_bitCount_95d88_22 : decode (mB MJ13_bitCount_95d88) 22 = .ok (.ladd, 1) := by decide +kernel
theorem eJ13_bitCount_95d88_23 : decode (mB MJ13_bitCount_95d88) 23 = .ok (.lstore_n 0, 1) := by decide +kernel
theorem eJ13_bitCount_95d88_24 : decode (mB MJ13_bitCount_95d88) 24 = .ok (.lload_n 0, 1) := by decide +kernel
theorem eJ13_bitCount_95d88_25 : decode (mB MJ13_bitCount_95d88) 25 = .ok (.lload_n 0, 1) := by decide +kernel
theorem eJ13_bitCount_95d88_26 : decode (mB MJ13_bitCount_95d88) 26 = .ok (.iconst 4, 1) := by decide +kernel
theorem eJ13_bitCount_95d88_27 : decode (mB MJ13_bitCount_95d88) 27 = .ok (.lushr, 1) := by decide +kernel
theorem eJ13_bitCount_95d88_28 : decode (mB MJ13_bitCount_95d88) 28 = .ok (.ladd, 1) := by decide +kernel
theorem eJ13_bitCount_95d88_29 : decode (mB MJ13_bitCount_95d88) 29 = .ok (.ldc2_w 318, 3) := by decide +kernel
theorem eJ13_bitCount_95d88_32 : decode (mB MJ13_bitCount_95d88) 32 = .ok (.land, 1) := by decide +kernel
theorem eJ13_bitCount_95d88_33 : decode (mB MJ13_bitCount_95d88) 33 = .ok (.lstore_n 0, 1) := by decide +kernel
theorem eJ13_bitCount_95d88_34 : decode (mB MJ13_bitCount_95d88) 34 = .ok (.lload_n 0, 1) := by decide +kernel
theorem eJ13_bitCount_95d88_35 : decode (mB MJ13_bitCount_95d88) 35 = .ok (.lload_n 0, 1) := by decide +kernel
theorem eJ13_bitCount_95d88_36 : decode (mB MJ13_bitCount_95d88) 36 = .ok (.bipush 8, 2) := by decide +kernel
theorem eJ13_bitCount_95d88_38 : decode (mB MJ13_bitCount_95d88) 38 = .ok (.lushr, 1) := by decide +kernel
theorem eJ13_bitCount_95d88_39 : decode (mB MJ13_bitCount_95d88) 39 = .ok (.ladd, 1) := by decide +kernel
theorem eJ13_bitCount_95d88_40 : decode (mB MJ13_bitCount_95d88) 40 = .ok (.lstore_n 0, 1) := by decide +kernel
theorem eJ13_bitCount_95d88_41 : decode (mB MJ13_bitCount_95d88) 41 = .ok (.lload_n 0, 1) := by decide +kernel
theorem eJ13_bitCount_95d88_42 : decode (mB MJ13_bitCount_95d88) 42 = .ok (.lload_n 0, 1) := by decide +kernel
theorem eJ13_bitCount_95d88_43 : decode (mB MJ13_bitCount_95d88) 43 = .ok (.bipush 16, 2) := by decide +kernel
theorem eJ13_bitCount_95d88_45 : decode (mB MJ13_bitCount_95d88) 45 = .ok (.lushr, 1) := by decide +kernel
theorem eJ13_bitCount_95d88_46 : decode (mB MJ13_bitCount_95d88) 46 = .ok (.ladd, 1) := by decide +kernel
theorem eJ13_bitCount_95d88_47 : decode (mB MJ13_bitCount_95d88) 47 = .ok (.lstore_n 0, 1) := by decide +kernel
theorem eJ13_bitCount_95d88_48 : decode (mB MJ13_bitCount_95d88) 48 = .ok (.lload_n 0, 1) := by decide +kernel
theorem eJ13_bitCount_95d88_49 : decode (mB MJ13_bitCount_95d88) 49 = .ok (.lload_n 0, 1) := by decide +kernel
theorem eJ13_bitCount_95d88_50 : decode (mB MJ13_bitCount_95d88) 50 = .ok (.bipush 32, 2) := by decide +kernel
theorem eJ13_bitCount_95d88_52 : decode (mB MJ13_bitCount_95d88) 52 = .ok (.lushr, 1) := by decide +kernel
theorem eJ13_bitCount_95d88_53 : decode (mB MJ13_bitCount_95d88) 53 = .ok (.ladd, 1) := by decide +kernel
theorem eJ13_bitCount_95d88_54 : decode (mB MJ13_bitCount_95d88) 54 = .ok (.lstore_n 0, 1) := by decide +kernel
theorem eJ13_bitCount_95d88_55 : decode (mB MJ13_bitCount_95d88) 55 = .ok (.lload_n 0, 1) := by decide +kernel
theorem eJ13_bitCount_95d88_56 : decode (mB MJ13_bitCount_95d88) 56 = .ok (.l2i, 1) := by decide +kernel
theorem eJ13_bitCount_95d88_57 : decode (mB MJ13_bitCount_95d88) 57 = .ok (.bipush 127, 2) := by decide +kernel
theorem eJ13_bitCount_95d88_59 : decode (mB MJ13_bitCount_95d88) 59 = .ok (.iand, 1) := by decide +kernel
theorem eJ13_bitCount_95d88_60 : decode (mB MJ13_bitCount_95d88) 60 = .ok (.ireturn, 1) := by decide +kernel
theorem eJ9_max_7cf53_0 : decode (mB MJ9_max_7cf53) 0 = .ok (.iload_n 0, 1) := by decide +kernel
theorem eJ9_max_7cf53_1 : decode (mB MJ9_max_7cf53) 1 = .ok (.iload_n 1, 1) := by decide +kernel
theorem eJ9_max_7cf53_2 : decode (mB MJ9_max_7cf53) 2 = .ok (.if_icmp .lt 7, 3) := by decide +kernel
theorem eJ9_max_7cf53_5 : decode (mB MJ9_max_7cf53) 5 = .ok (.iload_n 0, 1) := by decide +kernel
theorem eJ9_max_7cf53_6 : decode (mB MJ9_max_7cf53) 6 = .ok (.goto 4, 3) := by decide +kernel
theorem eJ9_max_7cf53_9 : decode (mB MJ9_max_7cf53) 9 = .ok (.iload_n 1, 1) := by decide +kernel
theorem eJ9_max_7cf53_10 : decode (mB MJ9_max_7cf53) 10 = .ok (.ireturn, 1) := by decide +kernel
theorem eJ9_max_f86c9_0 : decode (mB MJ9_max_f86c9) 0 = .ok (.lload_n 0, 1) := by decide +kernel
theorem eJ9_max_f86c9_1 : decode (mB MJ9_max_f86c9) 1 = .ok (.lload_n 2, 1) := by decide +kernel
theorem eJ9_max_f86c9_2 : decode (mB MJ9_max_f86c9) 2 = .ok (.lcmp, 1) := by decide +kernel
theorem eJ9_max_f86c9_3 : decode (mB MJ9_max_f86c9) 3 = .ok (.ifCond .lt 7, 3) := by decide +kernel
theorem eJ9_max_f86c9_6 : decode (mB MJ9_max_f86c9) 6 = .ok (.lload_n 0, 1) := by decide +kernel
theorem eJ9_max_f86c9_7 : decode (mB MJ9_max_f86c9) 7 = .ok (.goto 4, 3) := by decide +kernel
theorem eJ9_max_f86c9_10 : decode (mB MJ9_max_f86c9) 10 = .ok (.lload_n 2, 1) := by decide +kernel
theorem eJ9_max_f86c9_11 : decode (mB MJ9_max_f86c9) 11 = .ok (.lreturn, 1) := by decide +kernel
theorem eJ9_min_7cf53_0 : decode (mB MJ9_min_7cf53) 0 = .ok (.iload_n 0, 1) := by decide +kernel
theorem eJ9_min_7cf53_1 : decode (mB MJ9_min_7cf53) 1 = .ok (.iload_n 1, 1) := by decide +kernel
theorem eJ9_min_7cf53_2 : decode (mB MJ9_min_7cf53) 2 = .ok (.if_icmp .gt 7, 3) := by decide +kernel
theorem eJ9_min_7cf53_5 : decode (mB MJ9_min_7cf53) 5 = .ok (.iload_n 0, 1) := by decide +kernel
theorem eJ9_min_7cf53_6 : decode (mB MJ9_min_7cf53) 6 = .ok (.goto 4, 3) := by decide +kernel
theorem eJ9_min_7cf53_9 : decode (mB MJ9_min_7cf53) 9 = .ok (.iload_n 1, 1) := by decide +kernel
theorem eJ9_min_7cf53_10 : decode (mB MJ9_min_7cf53) 10 = .ok (.ireturn, 1) := by decide +kernel
theorem eJ9_min_f86c9_0 : decode (mB MJ9_min_f86c9) 0 = .ok (.lload_n 0, 1) := by decide +kernel
theorem eJ9_min_f86c9_1 : decode (mB MJ9_min_f86c9) 1 = .ok (.lload_n 2, 1) := by decide +kernel
theorem eJ9_min_f86c9_2 : decode (mB MJ9_min_f86c9) 2 = .ok (.lcmp, 1) := by decide +kernel
theorem eJ9_min_f86c9_3 : decode (mB MJ9_min_f86c9) 3 = .ok (.ifCond .gt 7, 3) := by decide +kernel
theorem eJ9_min_f86c9_6 : decode (mB MJ9_min_f86c9) 6 = .ok (.lload_n 0, 1) := by decide +kernel
theorem eJ9_min_f86c9_7 : decode (mB MJ9_min_f86c9) 7 = .ok (.goto 4, 3) := by decide +kernel
theorem eJ9_min_f86c9_10 : decode (mB MJ9_min_f86c9) 10 = .ok (.lload_n 2, 1) := by decide +kernel
theorem eJ9_min_f86c9_11 : decode (mB MJ9_min_f86c9) 11 = .ok (.lreturn, 1) := by decide +kernel
theorem eJ0_length_8abf5_0 : decode (mB MJ0_length_8abf5) 0 = .ok (.aload_n 0, 1) := by decide +kernel
theorem eJ0_length_8abf5_1 : decode (mB MJ0_length_8abf5) 1 = .ok (.getfield 9, 3) := by decide +kernel
theorem eJ0_length_8abf5_4 : decode (mB MJ0_length_8abf5) 4 = .ok (.arraylength, 1) := by decide +kernel
theorem eJ0_length_8abf5_5 : decode (mB MJ0_length_8abf5) 5 = .ok (.aload_n 0, 1) := by decide +kernel
theorem eJ0_length_8abf5_6 : decode (mB MJ0_length_8abf5) 6 = .ok (.invokevirtual 335, 3) := by decide +kernel
theorem eJ0_length_8abf5_9 : decode (mB MJ0_length_8abf5) 9 = .ok (.ishr, 1) := by decide +kernel
theorem eJ0_length_8abf5_10 : decode (mB MJ0_length_8abf5) 10 = .ok (.ireturn, 1) := by decide +kernel
theorem eJ0_charAt_5068e_0 : decode (mB MJ0_charAt_5068e) 0 = .ok (.aload_n 0, 1) := by decide +kernel
theorem eJ0_charAt_5068e_1 : decode (mB MJ0_charAt_5068e) 1 = .ok (.invokevirtual 492, 3) := by decide +kernel
theorem eJ0_charAt_5068e_4 : decode (mB MJ0_charAt_5068e) 4 = .ok (.ifCond .eq 12, 3) := by decide +kernel
theorem eJ0_charAt_5068e_7 : decode (mB MJ0_charAt_5068e) 7 = .ok (.aload_n 0, 1) := by decide +kernel
theorem eJ0_charAt_5068e_8 : decode (mB MJ0_charAt_5068e) 8 = .ok (.getfield 9, 3) := by decide +kernel
theorem eJ0_charAt_5068e_11 : decode (mB MJ0_charAt_5068e) 11 = .ok (.iload_n 1, 1) := by decide +kernel
theorem eJ0_charAt_5068e_12 : decode (mB MJ0_charAt_5068e) 12 = .ok (.invokestatic 495, 3) := by decide +kernel
theorem eJ0_charAt_5068e_15 : decode (mB MJ0_charAt_5068e) 15 = .ok (.ireturn, 1) := by decide +kernel
theorem eJ0_charAt_5068e_16 : decode (mB MJ0_charAt_5068e) 16 = .ok (.aload_n 0, 1) := by decide +kernel
theorem eJ0_charAt_5068e_17 : decode (mB MJ0_charAt_5068e) 17 = .ok (.getfield 9, 3) := by decide +kernel
theorem eJ0_charAt_5068e_20 : decode (mB MJ0_charAt_5068e) 20 = .ok (.iload_n 1, 1) := by decide +kernel
theorem eJ0_charAt_5068e_21 : decode (mB MJ0_charAt_5068e) 21 = .ok (.invokestatic 498, 3) := by decide +kernel
theorem eJ0_charAt_5068e_24 : decode (mB MJ0_charAt_5068e) 24 = .ok (.ireturn, 1) := by decide +kernel
theorem eJ0_indexOf_0f7a4_0 : decode (mB MJ0_indexOf_0f7a4) 0 = .ok (.aload_n 0, 1) := by decide +kernel
theorem eJ0_indexOf_0f7a4_1 : decode (mB MJ0_indexOf_0f7a4) 1 = .ok (.iload_n 1, 1) := by decide +kernel
theorem eJ0_indexOf_0f7a4_2 : decode (mB MJ0_indexOf_0f7a4) 2 = .ok (.iconst 0, 1) := by decide +kernel
theorem eJ0_indexOf_0f7a4_3 : decode (mB MJ0_indexOf_0f7a4) 3 = .ok (.invokevirtual 633, 3) := by decide +kernel
theorem eJ0_indexOf_0f7a4_6 : decode (mB MJ0_indexOf_0f7a4) 6 = .ok (.ireturn, 1) := by decide +kernel
theorem eJ0_indexOf_7cf53_0 : decode (mB MJ0_indexOf_7cf53) 0 = .ok (.aload_n 0, 1) := by decide +kernel
theorem eJ0_indexOf_7cf53_1 : decode (mB MJ0_indexOf_7cf53) 1 = .ok (.invokevirtual 492, 3) := by decide +kernel
theorem eJ0_indexOf_7cf53_4 : decode (mB MJ0_indexOf_7cf53) 4 = .ok (.ifCond .eq 19, 3) := by decide +kernel
theorem eJ0_indexOf_7cf53_7 : decode (mB MJ0_indexOf_7cf53) 7 = .ok (.aload_n 0, 1) := by decide +kernel
theorem eJ0_indexOf_7cf53_8 : decode (mB MJ0_indexOf_7cf53) 8 = .ok (.getfield 9, 3) := by decide +kernel
theorem eJ0_indexOf_7cf53_11 : decode (mB MJ0_indexOf_7cf53) 11 = .ok (.iload_n 1, 1) := by decide +kernel
theorem eJ0_indexOf_7cf53_12 : decode (mB MJ0_indexOf_7cf53) 12 = .ok (.iload_n 2, 1) := by decide +kernel
theorem eJ0_indexOf_7cf53_13 : decode (mB MJ0_indexOf_7cf53) 13 = .ok (.aload_n 0, 1) := by decide +kernel
theorem eJ0_indexOf_7cf53_14 : decode (mB MJ0_indexOf_7cf53) 14 = .ok (.invokevirtual 505, 3) := by decide +kernel
theorem eJ0_indexOf_7cf53_17 : decode (mB MJ0_indexOf_7cf53) 17 = .ok (.invokestatic 637, 3) := by decide +kernel
theorem eJ0_indexOf_7cf53_20 : decode (mB MJ0_indexOf_7cf53) 20 = .ok (.goto 16, 3) := by decide +kernel
theorem eJ0_indexOf_7cf53_23 : decode (mB MJ0_indexOf_7cf53) 23 = .ok (.aload_n 0, 1) := by decide +kernel
theorem eJ0_indexOf_7cf53_24 : decode (mB MJ0_indexOf_7cf53) 24 = .ok (.getfield 9, 3) := by decide +kernel
theorem eJ0_indexOf_7cf53_27 : decode (mB MJ0_indexOf_7cf53) 27 = .ok (.iload_n 1, 1) := by decide +kernel
theorem eJ0_indexOf_7cf53_28 : decode (mB MJ0_indexOf_7cf53) 28 = .ok (.iload_n 2, 1) := by decide +kernel
theorem eJ0_indexOf_7cf53_29 : decode (mB MJ0_indexOf_7cf53) 29 = .ok (.aload_n 0, 1) := by decide +kernel
theorem eJ0_indexOf_7cf53_30 : decode (mB MJ0_indexOf_7cf53) 30 = .ok (.invokevirtual 505, 3) := by decide +kernel
theorem eJ0_indexOf_7cf53_33 : decode (mB MJ0_indexOf_7cf53) 33 = .ok (.invokestatic 640, 3) := by decide +kernel
theorem eJ0_indexOf_7cf53_36 : decode (mB MJ0_indexOf_7cf53) 36 = .ok (.ireturn, 1) := by decide +kernel
theorem eJ0_coder_7d493_0 : decode (mB MJ0_coder_7d493) 0 = .ok (.getstatic 38, 3) := by decide +kernel
theorem eJ0_coder_7d493_3 : decode (mB MJ0_coder_7d493) 3 = .ok (.ifCond .eq 10, 3) := by decide +kernel
theorem eJ0_coder_7d493_6 : decode (mB MJ0_coder_7d493) 6 = .ok (.aload_n 0, 1) := by decide +kernel
theorem eJ0_coder_7d493_7 : decode (mB MJ0_coder_7d493) 7 = .ok (.getfield 15, 3) := by decide +kernel
theorem eJ0_coder_7d493_10 : decode (mB MJ0_coder_7d493) 10 = .ok (.goto 4, 3) := by decide +kernel
theorem eJ0_coder_7d493_13 : decode (mB MJ0_coder_7d493) 13 = .ok (.iconst 1, 1) := by decide +kernel
theorem eJ0_coder_7d493_14 : decode (mB MJ0_coder_7d493) 14 = .ok (.ireturn, 1) := by decide +kernel
theorem eJ0_isLatin1_aae02_0 : decode (mB MJ0_isLatin1_aae02) 0 = .ok (.getstatic 38, 3) := by decide +kernel
theorem eJ0_isLatin1_aae02_3 : decode (mB MJ0_isLatin1_aae02) 3 = .ok (.ifCond .eq 14, 3) := by decide +kernel
theorem eJ0_isLatin1_aae02_6 : decode (mB MJ0_isLatin1_aae02) 6 = .ok (.aload_n 0, 1) := by decide +kernel
theorem eJ0_isLatin1_aae02_7 : decode (mB MJ0_isLatin1_aae02) 7 = .ok (.getfield 15, 3) := by decide +kernel
theorem eJ0_isLatin1_aae02_10 : decode (mB MJ0_isLatin1_aae02) 10 = .ok (.ifCond .ne 7, 3) := by decide +kernel
theorem eJ0_isLatin1_aae02_13 : decode (mB MJ0_isLatin1_aae02) 13 = .ok (.iconst 1, 1) := by decide +kernel
theorem eJ0_isLatin1_aae02_14 : decode (mB MJ0_isLatin1_aae02) 14 = .ok (.goto 4, 3) := by decide +kernel
theorem eJ0_isLatin1_aae02_17 : decode (mB MJ0_isLatin1_aae02) 17 = .ok (.iconst 0, 1) := by decide +kernel
theorem eJ0_isLatin1_aae02_18 : decode (mB MJ0_isLatin1_aae02) 18 = .ok (.ireturn, 1) := by decide +kernel
theorem eJ0_checkIndex_df160_0 : decode (mB MJ0_checkIndex_df160) 0 = .ok (.iload_n 0, 1) := by decide +kernel
theorem eJ0_checkIndex_df160_1 : decode (mB MJ0_checkIndex_df160) 1 = .ok (.iload_n 1, 1) := by decide +kernel
theorem eJ0_checkIndex_df160_2 : decode (mB MJ0_checkIndex_df160) 2 = .ok (.getstatic 1053, 3) := by decide +kernel
theorem eJ0_checkIndex_df160_5 : decode (mB MJ0_checkIndex_df160) 5 = .ok (.invokestatic 1059, 3) := by decide +kernel
theorem eJ0_checkIndex_df160_8 : decode (mB MJ0_checkIndex_df160) 8 = .ok (.pop, 1) := by decide +kernel
theorem eJ0_checkIndex_df160_9 : decode (mB MJ0_checkIndex_df160) 9 = .ok (.return_, 1) := by decide +kernel
theorem eJ0_checkBoundsBeginEnd_23922_0 : decode (mB MJ0_checkBoundsBeginEnd_23922) 0 = .ok (.iload_n 0, 1) := by decide +kernel
theorem eJ0_checkBoundsBeginEnd_23922_1 : decode (mB MJ0_checkBoundsBeginEnd_23922) 1 = .ok (.iload_n 1, 1) := by decide +kernel
theorem eJ0_checkBoundsBeginEnd_23922_2 : decode (mB MJ0_checkBoundsBeginEnd_23922) 2 = .ok (.iload_n 2, 1) := by decide +kernel
theorem eJ0_checkBoundsBeginEnd_23922_3 : decode (mB MJ0_checkBoundsBeginEnd_23922) 3 = .ok (.getstatic 1053, 3) := by decide +kernel
theorem eJ0_checkBoundsBeginEnd_23922_6 : decode (mB MJ0_checkBoundsBeginEnd_23922) 6 = .ok (.invokestatic 1062, 3) := by decide +kernel
theorem eJ0_checkBoundsBeginEnd_23922_9 : decode (mB MJ0_checkBoundsBeginEnd_23922) 9 = .ok (.pop, 1) := by decide +kernel
theorem eJ0_checkBoundsBeginEnd_23922_10 : decode (mB MJ0_checkBoundsBeginEnd_23922) 10 = .ok (.return_, 1) := by decide +kernel
theorem eJ1_charAt_3b067_0 : decode (mB MJ1_charAt_3b067) 0 = .ok (.iload_n 1, 1) := by decide +kernel
theorem eJ1_charAt_3b067_1 : decode (mB MJ1_charAt_3b067) 1 = .ok (.aload_n 0, 1) := by decide +kernel
theorem eJ1_charAt_3b067_2 : decode (mB MJ1_charAt_3b067) 2 = .ok (.arraylength, 1) := by decide +kernel
theorem eJ1_charAt_3b067_3 : decode (mB MJ1_charAt_3b067) 3 = .ok (.invokestatic 9, 3) := by decide +kernel
theorem eJ1_charAt_3b067_6 : decode (mB MJ1_charAt_3b067) 6 = .ok (.aload_n 0, 1) := by decide +kernel
theorem eJ1_charAt_3b067_7 : decode (mB MJ1_charAt_3b067) 7 = .ok (.iload_n 1, 1) := by decide +kernel
theorem eJ1_charAt_3b067_8 : decode (mB MJ1_charAt_3b067) 8 = .ok (.baload, 1) := by decide +kernel
theorem eJ1_charAt_3b067_9 : decode (mB MJ1_charAt_3b067) 9 = .ok (.sipush 255, 3) := by decide +kernel
theorem eJ1_charAt_3b067_12 : decode (mB MJ1_charAt_3b067) 12 = .ok (.iand, 1) := by decide +kernel
theorem eJ1_charAt_3b067_13 : decode (mB MJ1_charAt_3b067) 13 = .ok (.i2c, 1) := by decide +kernel
theorem eJ1_charAt_3b067_14 : decode (mB MJ1_charAt_3b067) 14 = .ok (.ireturn, 1) := by decide +kernel
theorem eJ1_canEncode_9a6ad_0 : decode (mB MJ1_canEncode_9a6ad) 0 = .ok (.iload_n 0, 1) := by decide +kernel
theorem eJ1_canEncode_9a6ad_1 : decode (mB MJ1_canEncode_9a6ad) 1 = .ok (.ifCond .lt 14, 3) := by decide +kernel
theorem eJ1_canEncode_9a6ad_4 : decode (mB MJ1_canEncode_9a6ad) 4 = .ok (.iload_n 0, 1) := by decide +kernel
theorem eJ1_canEncode_9a6ad_5 : decode (mB MJ1_canEncode_9a6ad) 5 = .ok (.sipush 255, 3) := by decide +kernel
theorem eJ1_canEncode_9a6ad_8 : decode (mB MJ1_canEncode_9a6ad) 8 = .ok (.if_icmp .gt 7, 3) := by decide +kernel
theorem eJ1_canEncode_9a6ad_11 : decode (mB MJ1_canEncode_9a6ad) 11 = .ok (.iconst 1, 1) := by decide +kernel
theorem eJ1_canEncode_9a6ad_12 : decode (mB MJ1_canEncode_9a6ad) 12 = .ok (.goto 4, 3) := by decide +kernel
theorem eJ1_canEncode_9a6ad_15 : decode (mB MJ1_canEncode_9a6ad) 15 = .ok (.iconst 0, 1) := by decide +kernel
theorem eJ1_canEncode_9a6ad_16 : decode (mB MJ1_canEncode_9a6ad) 16 = .ok (.ireturn, 1) := by decide +kernel
theorem eJ1_indexOf_4cfef_0 : decode (mB MJ1_indexOf_4cfef) 0 = .ok (.iload_n 1, 1) := by decide +kernel
theorem eJ1_indexOf_4cfef_1 : decode (mB MJ1_indexOf_4cfef) 1 = .ok (.invokestatic 88, 3) := by decide +kernel
theorem eJ1_indexOf_4cfef_4 : decode (mB MJ1_indexOf_4cfef) 4 = .ok (.ifCond .ne 5, 3) := by decide +kernel
theorem eJ1_indexOf_4cfef_7 : decode (mB MJ1_indexOf_4cfef) 7 = .ok (.iconst (-1), 1) := by decide +kernel
theorem eJ1_indexOf_4cfef_8 : decode (mB MJ1_indexOf_4cfef) 8 = .ok (.ireturn, 1) := by decide +kernel
theorem eJ1_indexOf_4cfef_9 : decode (mB MJ1_indexOf_4cfef) 9 = .ok (.iload_n 2, 1) := by decide +kernel
theorem eJ1_indexOf_4cfef_10 : decode (mB MJ1_indexOf_4cfef) 10 = .ok (.iconst 0, 1) := by decide +kernel
theorem eJ1_indexOf_4cfef_11 : decode (mB MJ1_indexOf_4cfef) 11 = .ok (.invokestatic 92, 3) := by decide +kernel
theorem eJ1_indexOf_4cfef_14 : decode (mB MJ1_indexOf_4cfef) 14 = .ok (.istore_n 2, 1) := by decide +kernel
theorem eJ1_indexOf_4cfef_15 : decode (mB MJ1_indexOf_4cfef) 15 = .ok (.iload_n 3, 1) := by decide +kernel
theorem eJ1_indexOf_4cfef_16 : decode (mB MJ1_indexOf_4cfef) 16 = .ok (.aload_n 0, 1) := by decide +kernel
theorem eJ1_indexOf_4cfef_17 : decode (mB MJ1_indexOf_4cfef) 17 = .ok (.arraylength, 1) := by decide +kernel
theorem eJ1_indexOf_4cfef_18 : decode (mB MJ1_indexOf_4cfef) 18 = .ok (.invokestatic 38, 3) := by decide +kernel
theorem eJ1_indexOf_4cfef_21 : decode (mB MJ1_indexOf_4cfef) 21 = .ok (.istore_n 3, 1) := by decide +kernel
theorem eJ1_indexOf_4cfef_22 : decode (mB MJ1_indexOf_4cfef) 22 = .ok (.iload_n 2, 1) := by decide +kernel
theorem eJ1_indexOf_4cfef_23 : decode (mB MJ1_indexOf_4cfef) 23 = .ok (.iload_n 3, 1) := by decide +kernel
theorem eJ1_indexOf_4cfef_24 : decode (mB MJ1_indexOf_4cfef) 24 = .ok (.if_icmp .lt 5, 3) := by decide +kernel
theorem eJ1_indexOf_4cfef_27 : decode (mB MJ1_indexOf_4cfef) 27 = .ok (.iconst (-1), 1) := by decide +kernel
theorem eJ1_indexOf_4cfef_28 : decode (mB MJ1_indexOf_4cfef) 28 = .ok (.ireturn, 1) := by decide +kernel
theorem eJ1_indexOf_4cfef_29 : decode (mB MJ1_indexOf_4cfef) 29 = .ok (.aload_n 0, 1) := by decide +kernel
theorem eJ1_indexOf_4cfef_30 : decode (mB MJ1_indexOf_4cfef) 30 = .ok (.iload_n 1, 1) := by decide +kernel
theorem eJ1_indexOf_4cfef_31 : decode (mB MJ1_indexOf_4cfef) 31 = .ok (.iload_n 2, 1) := by decide +kernel
theorem eJ1_indexOf_4cfef_32 : decode (mB MJ1_indexOf_4cfef) 32 = .ok (.iload_n 3, 1) := by decide +kernel
theorem eJ1_indexOf_4cfef_33 : decode (mB MJ1_indexOf_4cfef) 33 = .ok (.invokestatic 95, 3) := by decide +kernel
theorem eJ1_indexOf_4cfef_36 : decode (mB MJ1_indexOf_4cfef) 36 = .ok (.ireturn, 1) := by decide +kernel
theorem eJ1_indexOfChar_4cfef_0 : decode (mB MJ1_indexOfChar_4cfef) 0 = .ok (.iload_n 1, 1) := by decide +kernel
theorem eJ1_indexOfChar_4cfef_1 : decode (mB MJ1_indexOfChar_4cfef) 1 = .ok (.i2b, 1) := by decide +kernel
theorem eJ1_indexOfChar_4cfef_2 : decode (mB MJ1_indexOfChar_4cfef) 2 = .ok (.istore 4, 2) := by decide +kernel
theorem eJ1_indexOfChar_4cfef_4 : decode (mB MJ1_indexOfChar_4cfef) 4 = .ok (.iload_n 2, 1) := by decide +kernel
theorem eJ1_indexOfChar_4cfef_5 : decode (mB MJ1_indexOfChar_4cfef) 5 = .ok (.istore 5, 2) := by decide +kernel
theorem eJ1_indexOfChar_4cfef_7 : decode (mB MJ1_indexOfChar_4cfef) 7 = .ok (.iload 5, 2) := by decide +kernel
theorem eJ1_indexOfChar_4cfef_9 : decode (mB MJ1_indexOfChar_4cfef) 9 = .ok (.iload_n 3, 1) := by decide +kernel
theorem eJ1_indexOfChar_4cfef_10 : decode (mB MJ1_indexOfChar_4cfef) 10 = .ok (.if_icmp .ge 21, 3) := by decide +kernel
theorem eJ1_indexOfChar_4cfef_13 : decode (mB MJ1_indexOfChar_4cfef) 13 = .ok (.aload_n 0, 1) := by decide +kernel
theorem eJ1_indexOfChar_4cfef_14 : decode (mB MJ1_indexOfChar_4cfef) 14 = .ok (.iload 5, 2) := by decide +kernel
theorem eJ1_indexOfChar_4cfef_16 : decode (mB MJ1_indexOfChar_4cfef) 16 = .ok (.baload, 1) := by decide +kernel
theorem eJ1_indexOfChar_4cfef_17 : decode (mB MJ1_indexOfChar_4cfef) 17 = .ok (.iload 4, 2) := by decide +kernel
theorem eJ1_indexOfChar_4cfef_19 : decode (mB MJ1_indexOfChar_4cfef) 19 = .ok (.if_icmp .ne 6, 3) := by decide +kernel
theorem eJ1_indexOfChar_4cfef_22 : decode (mB MJ1_indexOfChar_4cfef) 22 = .ok (.iload 5, 2) := by decide +kernel
theorem eJ1_indexOfChar_4cfef_24 : decode (mB MJ1_indexOfChar_4cfef) 24 = .ok (.ireturn, 1) := by decide +kernel
theorem eJ1_indexOfChar_4cfef_25 : decode (mB MJ1_indexOfChar_4cfef) 25 = .ok (.iinc 5 1, 3) := by decide +kernel
theorem eJ1_indexOfChar_4cfef_28 : decode (mB MJ1_indexOfChar_4cfef) 28 = .ok (.goto (-21), 3) := by decide +kernel
theorem eJ1_indexOfChar_4cfef_31 : decode (mB MJ1_indexOfChar_4cfef) 31 = .ok (.iconst (-1), 1) := by decide +kernel
theorem eJ1_indexOfChar_4cfef_32 : decode (mB MJ1_indexOfChar_4cfef) 32 = .ok (.ireturn, 1) := by decide +kernel
theorem eJ2_getChar_3b067_0 : decode (mB MJ2_getChar_3b067) 0 = .ok (.getstatic 44, 3) := by decide +kernel
theorem eJ2_getChar_3b067_3 : decode (mB MJ2_getChar_3b067) 3 = .ok (.ifCond .ne 25, 3) := by decide +kernel
theorem eJ2_getChar_3b067_6 : decode (mB MJ2_getChar_3b067) 6 = .ok (.iload_n 1, 1) := by decide +kernel
theorem eJ2_getChar_3b067_7 : decode (mB MJ2_getChar_3b067) 7 = .ok (.ifCond .lt 11, 3) := by decide +kernel
theorem eJ2_getChar_3b067_10 : decode (mB MJ2_getChar_3b067) 10 = .ok (.iload_n 1, 1) := by decide +kernel
theorem eJ2_getChar_3b067_11 : decode (mB MJ2_getChar_3b067) 11 = .ok (.aload_n 0, 1) := by decide +kernel
theorem eJ2_getChar_3b067_12 : decode (mB MJ2_getChar_3b067) 12 = .ok (.invokestatic 48, 3) := by decide +kernel
theorem eJ2_getChar_3b067_15 : decode (mB MJ2_getChar_3b067) 15 = .ok (.if_icmp .lt 13, 3) := by decide +kernel
theorem eJ2_getChar_3b067_18 : decode (mB MJ2_getChar_3b067) 18 = .ok (.new 52, 3) := by decide +kernel
theorem eJ2_getChar_3b067_21 : decode (mB MJ2_getChar_3b067) 21 = .ok (.dup, 1) := by decide +kernel
theorem eJ2_getChar_3b067_22 : decode (mB MJ2_getChar_3b067) 22 = .ok (.ldc 54, 2) := by decide +kernel
theorem eJ2_getChar_3b067_24 : decode (mB MJ2_getChar_3b067) 24 = .ok (.invokespecial 56, 3) := by decide +kernel
theorem eJ2_getChar_3b067_27 : decode (mB MJ2_getChar_3b067) 27 = .ok (.athrow, 1) := by decide +kernel
theorem eJ2_getChar_3b067_28 : decode (mB MJ2_getChar_3b067) 28 = .ok (.iload_n 1, 1) := by decide +kernel
theorem eJ2_getChar_3b067_29 : decode (mB MJ2_getChar_3b067) 29 = .ok (.iconst 1, 1) := by decide +kernel
theorem eJ2_getChar_3b067_30 : decode (mB MJ2_getChar_3b067) 30 = .ok (.ishl, 1) := by decide +kernel
theorem eJ2_getChar_3b067_31 : decode (mB MJ2_getChar_3b067) 31 = .ok (.istore_n 1, 1) := by decide +kernel
theorem eJ2_getChar_3b067_32 : decode (mB MJ2_getChar_3b067) 32 = .ok (.aload_n 0, 1) := by decide +kernel
theorem eJ2_getChar_3b067_33 : decode (mB MJ2_getChar_3b067) 33 = .ok (.iload_n 1, 1) := by decide +kernel
theorem eJ2_getChar_3b067_34 : decode (mB MJ2_getChar_3b067) 34 = .ok (.iinc 1 1, 3) := by decide +kernel
theorem eJ2_getChar_3b067_37 : decode (mB MJ2_getChar_3b067) 37 = .ok (.baload, 1) := by decide +kernel
theorem eJ2_getChar_3b067_38 : decode (mB MJ2_getChar_3b067) 38 = .ok (.sipush 255, 3) := by decide +kernel
theorem eJ2_getChar_3b067_41 : decode (mB MJ2_getChar_3b067) 41 = .ok (.iand, 1) := by decide +kernel
theorem eJ2_getChar_3b067_42 : decode (mB MJ2_getChar_3b067) 42 = .ok (.getstatic 59, 3) := by decide +kernel
theorem eJ2_getChar_3b067_45 : decode (mB MJ2_getChar_3b067) 45 = .ok (.ishl, 1) := by decide +kernel
theorem eJ2_getChar_3b067_46 : decode (mB MJ2_getChar_3b067) 46 = .ok (.aload_n 0, 1) := by decide +kernel
theorem eJ2_getChar_3b067_47 : decode (mB MJ2_getChar_3b067) 47 = .ok (.iload_n 1, 1) := by decide +kernel
theorem eJ2_getChar_3b067_48 : decode (mB MJ2_getChar_3b067) 48 = .ok (.baload, 1) := by decide +kernel
theorem eJ2_getChar_3b067_49 : decode (mB MJ2_getChar_3b067) 49 = .ok (.sipush 255, 3) := by decide +kernel
theorem eJ2_getChar_3b067_52 : decode (mB MJ2_getChar_3b067) 52 = .ok (.iand, 1) := by decide +kernel
theorem eJ2_getChar_3b067_53 : decode (mB MJ2_getChar_3b067) 53 = .ok (.getstatic 63, 3) := by decide +kernel
theorem eJ2_getChar_3b067_56 : decode (mB MJ2_getChar_3b067) 56 = .ok (.ishl, 1) := by decide +kernel
theorem eJ2_getChar_3b067_57 : decode (mB MJ2_getChar_3b067) 57 = .ok (.ior, 1) := by decide +kernel
theorem eJ2_getChar_3b067_58 : decode (mB MJ2_getChar_3b067) 58 = .ok (.i2c, 1) := by decide +kernel
theorem eJ2_getChar_3b067_59 : decode (mB MJ2_getChar_3b067) 59 = .ok (.ireturn, 1) := by decide +kernel
theorem eJ2_length_9d52b_0 : decode (mB MJ2_length_9d52b) 0 = .ok (.aload_n 0, 1) := by decide +kernel
theorem eJ2_length_9d52b_1 : decode (mB MJ2_length_9d52b) 1 = .ok (.arraylength, 1) := by decide +kernel
theorem eJ2_length_9d52b_2 : decode (mB MJ2_length_9d52b) 2 = .ok (.iconst 1, 1) := by decide +kernel
theorem eJ2_length_9d52b_3 : decode (mB MJ2_length_9d52b) 3 = .ok (.ishr, 1) := by decide +kernel
theorem eJ2_length_9d52b_4 : decode (mB MJ2_length_9d52b) 4 = .ok (.ireturn, 1) := by decide +kernel
theorem eJ2_indexOf_4cfef_0 : decode (mB MJ2_indexOf_4cfef) 0 = .ok (.iload_n 2, 1) := by decide +kernel
theorem eJ2_indexOf_4cfef_1 : decode (mB MJ2_indexOf_4cfef) 1 = .ok (.iconst 0, 1) := by decide +kernel
theorem eJ2_indexOf_4cfef_2 : decode (mB MJ2_indexOf_4cfef) 2 = .ok (.invokestatic 224, 3) := by decide +kernel
theorem eJ2_indexOf_4cfef_5 : decode (mB MJ2_indexOf_4cfef) 5 = .ok (.istore_n 2, 1) := by decide +kernel
theorem eJ2_indexOf_4cfef_6 : decode (mB MJ2_indexOf_4cfef) 6 = .ok (.iload_n 3, 1) := by decide +kernel
theorem eJ2_indexOf_4cfef_7 : decode (mB MJ2_indexOf_4cfef) 7 = .ok (.aload_n 0, 1) := by decide +kernel
theorem eJ2_indexOf_4cfef_8 : decode (mB MJ2_indexOf_4cfef) 8 = .ok (.arraylength, 1) := by decide +kernel
theorem eJ2_indexOf_4cfef_9 : decode (mB MJ2_indexOf_4cfef) 9 = .ok (.iconst 1, 1) := by decide +kernel
theorem eJ2_indexOf_4cfef_10 : decode (mB MJ2_indexOf_4cfef) 10 = .ok (.ishr, 1) := by decide +kernel
theorem eJ2_indexOf_4cfef_11 : decode (mB MJ2_indexOf_4cfef) 11 = .ok (.invokestatic 183, 3) := by decide +kernel
theorem eJ2_indexOf_4cfef_14 : decode (mB MJ2_indexOf_4cfef) 14 = .ok (.istore_n 3, 1) := by decide +kernel
theorem eJ2_indexOf_4cfef_15 : decode (mB MJ2_indexOf_4cfef) 15 = .ok (.iload_n 2, 1) := by decide +kernel
theorem eJ2_indexOf_4cfef_16 : decode (mB MJ2_indexOf_4cfef) 16 = .ok (.iload_n 3, 1) := by decide +kernel
theorem eJ2_indexOf_4cfef_17 : decode (mB MJ2_indexOf_4cfef) 17 = .ok (.if_icmp .lt 5, 3) := by decide +kernel
theorem eJ2_indexOf_4cfef_20 : decode (mB MJ2_indexOf_4cfef) 20 = .ok (.iconst (-1), 1) := by decide +kernel
theorem eJ2_indexOf_4cfef_21 : decode (mB MJ2_indexOf_4cfef) 21 = .ok (.ireturn, 1) := by decide +kernel
theorem eJ2_indexOf_4cfef_22 : decode (mB MJ2_indexOf_4cfef) 22 = .ok (.iload_n 1, 1) := by decide +kernel
theorem eJ2_indexOf_4cfef_23 : decode (mB MJ2_indexOf_4cfef) 23 = .ok (.ldc 227, 2) := by decide +kernel
theorem eJ2_indexOf_4cfef_25 : decode (mB MJ2_indexOf_4cfef) 25 = .ok (.if_icmp .ge 11, 3) := by decide +kernel
theorem eJ2_indexOf_4cfef_28 : decode (mB MJ2_indexOf_4cfef) 28 = .ok (.aload_n 0, 1) := by decide +kernel
theorem eJ2_indexOf_4cfef_29 : decode (mB MJ2_indexOf_4cfef) 29 = .ok (.iload_n 1, 1) := by decide +kernel
theorem eJ2_indexOf_4cfef_30 : decode (mB MJ2_indexOf_4cfef) 30 = .ok (.iload_n 2, 1) := by decide +kernel
theorem eJ2_indexOf_4cfef_31 : decode (mB MJ2_indexOf_4cfef) 31 = .ok (.iload_n 3, 1) := by decide +kernel
theorem eJ2_indexOf_4cfef_32 : decode (mB MJ2_indexOf_4cfef) 32 = .ok (.invokestatic 228, 3) := by decide +kernel
theorem eJ2_indexOf_4cfef_35 : decode (mB MJ2_indexOf_4cfef) 35 = .ok (.ireturn, 1) := by decide +kernel
theorem eJ2_indexOf_4cfef_36 : decode (mB MJ2_indexOf_4cfef) 36 = .ok (.aload_n 0, 1) := by decide +kernel
theorem eJ2_indexOf_4cfef_37 : decode (mB MJ2_indexOf_4cfef) 37 = .ok (.iload_n 1, 1) := by decide +kernel
theorem eJ2_indexOf_4cfef_38 : decode (mB MJ2_indexOf_4cfef) 38 = .ok (.iload_n 2, 1) := by decide +kernel
theorem eJ2_indexOf_4cfef_39 : decode (mB MJ2_indexOf_4cfef) 39 = .ok (.iload_n 3, 1) := by decide +kernel
theorem eJ2_indexOf_4cfef_40 : decode (mB MJ2_indexOf_4cfef) 40 = .ok (.invokestatic 232, 3) := by decide +kernel
theorem eJ2_indexOf_4cfef_43 : decode (mB MJ2_indexOf_4cfef) 43 = .ok (.ireturn, 1) := by decide +kernel
theorem eJ2_indexOfChar_4cfef_0 : decode (mB MJ2_indexOfChar_4cfef) 0 = .ok (.iload_n 2, 1) := by decide +kernel
theorem eJ2_indexOfChar_4cfef_1 : decode (mB MJ2_indexOfChar_4cfef) 1 = .ok (.iload_n 3, 1) := by decide +kernel
theorem eJ2_indexOfChar_4cfef_2 : decode (mB MJ2_indexOfChar_4cfef) 2 = .ok (.aload_n 0, 1) := by decide +kernel
theorem eJ2_indexOfChar_4cfef_3 : decode (mB MJ2_indexOfChar_4cfef) 3 = .ok (.invokestatic 96, 3) := by decide +kernel
theorem eJ2_indexOfChar_4cfef_6 : decode (mB MJ2_indexOfChar_4cfef) 6 = .ok (.aload_n 0, 1) := by decide +kernel
theorem eJ2_indexOfChar_4cfef_7 : decode (mB MJ2_indexOfChar_4cfef) 7 = .ok (.iload_n 1, 1) := by decide +kernel
theorem eJ2_indexOfChar_4cfef_8 : decode (mB MJ2_indexOfChar_4cfef) 8 = .ok (.iload_n 2, 1) := by decide +kernel
theorem eJ2_indexOfChar_4cfef_9 : decode (mB MJ2_indexOfChar_4cfef) 9 = .ok (.iload_n 3, 1) := by decide +kernel
theorem eJ2_indexOfChar_4cfef_10 : decode (mB MJ2_indexOfChar_4cfef) 10 = .ok (.invokestatic 244, 3) := by decide +kernel
theorem eJ2_indexOfChar_4cfef_13 : decode (mB MJ2_indexOfChar_4cfef) 13 = .ok (.ireturn, 1) := by decide +kernel
theorem eJ2_indexOfCharUnsafe_4cfef_0 : decode (mB MJ2_indexOfCharUnsafe_4cfef) 0 = .ok (.iload_n 2, 1) := by decide +kernel
theorem eJ2_indexOfCharUnsafe_4cfef_1 : decode (mB MJ2_indexOfCharUnsafe_4cfef) 1 = .ok (.istore 4, 2) := by decide +kernel
theorem eJ2_indexOfCharUnsafe_4cfef_3 : decode (mB MJ2_indexOfCharUnsafe_4cfef) 3 = .ok (.iload 4, 2) := by decide +kernel
theorem eJ2_indexOfCharUnsafe_4cfef_5 : decode (mB MJ2_indexOfCharUnsafe_4cfef) 5 = .ok (.iload_n 3, 1) := by decide +kernel
theorem eJ2_indexOfCharUnsafe_4cfef_6 : decode (mB MJ2_indexOfCharUnsafe_4cfef) 6 = .ok (.if_icmp .ge 22, 3) := by decide +kernel
theorem eJ2_indexOfCharUnsafe_4cfef_9 : decode (mB MJ2_indexOfCharUnsafe_4cfef) 9 = .ok (.aload_n 0, 1) := by decide +kernel
theorem eJ2_indexOfCharUnsafe_4cfef_10 : decode (mB MJ2_indexOfCharUnsafe_4cfef) 10 = .ok (.iload 4, 2) := by decide +kernel
theorem eJ2_indexOfCharUnsafe_4cfef_12 : decode (mB MJ2_indexOfCharUnsafe_4cfef) 12 = .ok (.invokestatic 71, 3) := by decide +kernel
theorem eJ2_indexOfCharUnsafe_4cfef_15 : decode (mB MJ2_indexOfCharUnsafe_4cfef) 15 = .ok (.iload_n 1, 1) := by decide +kernel
theorem eJ2_indexOfCharUnsafe_4cfef_16 : decode (mB MJ2_indexOfCharUnsafe_4cfef) 16 = .ok (.if_icmp .ne 6, 3) := by decide +kernel
theorem eJ2_indexOfCharUnsafe_4cfef_19 : decode (mB MJ2_indexOfCharUnsafe_4cfef) 19 = .ok (.iload 4, 2) := by decide +kernel
theorem eJ2_indexOfCharUnsafe_4cfef_21 : decode (mB MJ2_indexOfCharUnsafe_4cfef) 21 = .ok (.ireturn, 1) := by decide +kernel
theorem eJ2_indexOfCharUnsafe_4cfef_22 : decode (mB MJ2_indexOfCharUnsafe_4cfef) 22 = .ok (.iinc 4 1, 3) := by decide +kernel
theorem eJ2_indexOfCharUnsafe_4cfef_25 : decode (mB MJ2_indexOfCharUnsafe_4cfef) 25 = .ok (.goto (-22), 3) := by decide +kernel
theorem eJ2_indexOfCharUnsafe_4cfef_28 : decode (mB MJ2_indexOfCharUnsafe_4cfef) 28 = .ok (.iconst (-1), 1) := by decide +kernel
theorem eJ2_indexOfCharUnsafe_4cfef_29 : decode (mB MJ2_indexOfCharUnsafe_4cfef) 29 = .ok (.ireturn, 1) := by decide +kernel
theorem eJ2_indexOfSupplementary_4cfef_0 : decode (mB MJ2_indexOfSupplementary_4cfef) 0 = .ok (.iload_n 1, 1) := by decide +kernel
theorem eJ2_indexOfSupplementary_4cfef_1 : decode (mB MJ2_indexOfSupplementary_4cfef) 1 = .ok (.invokestatic 164, 3) := by decide +kernel
theorem eJ2_indexOfSupplementary_4cfef_4 : decode (mB MJ2_indexOfSupplementary_4cfef) 4 = .ok (.ifCond .eq 65, 3) := by decide +kernel
theorem eJ2_indexOfSupplementary_4cfef_7 : decode (mB MJ2_indexOfSupplementary_4cfef) 7 = .ok (.iload_n 1, 1) := by decide +kernel
theorem eJ2_indexOfSupplementary_4cfef_8 : decode (mB MJ2_indexOfSupplementary_4cfef) 8 = .ok (.invokestatic 157, 3) := by decide +kernel
theorem eJ2_indexOfSupplementary_4cfef_11 : decode (mB MJ2_indexOfSupplementary_4cfef) 11 = .ok (.istore 4, 2) := by decide +kernel
theorem eJ2_indexOfSupplementary_4cfef_13 : decode (mB MJ2_indexOfSupplementary_4cfef) 13 = .ok (.iload_n 1, 1) := by decide +kernel
theorem eJ2_indexOfSupplementary_4cfef_14 : decode (mB MJ2_indexOfSupplementary_4cfef) 14 = .ok (.invokestatic 161, 3) := by decide +kernel
theorem eJ2_indexOfSupplementary_4cfef_17 : decode (mB MJ2_indexOfSupplementary_4cfef) 17 = .ok (.istore 5, 2) := by decide +kernel
theorem eJ2_indexOfSupplementary_4cfef_19 : decode (mB MJ2_indexOfSupplementary_4cfef) 19 = .ok (.iload_n 2, 1) := by decide +kernel
theorem eJ2_indexOfSupplementary_4cfef_20 : decode (mB MJ2_indexOfSupplementary_4cfef) 20 = .ok (.iload_n 3, 1) := by decide +kernel
theorem eJ2_indexOfSupplementary_4cfef_21 : decode (mB MJ2_indexOfSupplementary_4cfef) 21 = .ok (.aload_n 0, 1) := by decide +kernel
theorem eJ2_indexOfSupplementary_4cfef_22 : decode (mB MJ2_indexOfSupplementary_4cfef) 22 = .ok (.invokestatic 96, 3) := by decide +kernel
theorem eJ2_indexOfSupplementary_4cfef_25 : decode (mB MJ2_indexOfSupplementary_4cfef) 25 = .ok (.iload_n 2, 1) := by decide +kernel
theorem eJ2_indexOfSupplementary_4cfef_26 : decode (mB MJ2_indexOfSupplementary_4cfef) 26 = .ok (.istore 6, 2) := by decide +kernel
theorem eJ2_indexOfSupplementary_4cfef_28 : decode (mB MJ2_indexOfSupplementary_4cfef) 28 = .ok (.iload 6, 2) := by decide +kernel
theorem eJ2_indexOfSupplementary_4cfef_30 : decode (mB MJ2_indexOfSupplementary_4cfef) 30 = .ok (.iload_n 3, 1) := by decide +kernel
theorem eJ2_indexOfSupplementary_4cfef_31 : decode (mB MJ2_indexOfSupplementary_4cfef) 31 = .ok (.iconst 1, 1) := by decide +kernel
theorem eJ2_indexOfSupplementary_4cfef_32 : decode (mB MJ2_indexOfSupplementary_4cfef) 32 = .ok (.isub, 1) := by decide +kernel
theorem eJ2_indexOfSupplementary_4cfef_33 : decode (mB MJ2_indexOfSupplementary_4cfef) 33 = .ok (.if_icmp .ge 36, 3) := by decide +kernel
theorem eJ2_indexOfSupplementary_4cfef_36 : decode (mB MJ2_indexOfSupplementary_4cfef) 36 = .ok (.aload_n 0, 1) := by decide +kernel
theorem eJ2_indexOfSupplementary_4cfef_37 : decode (mB MJ2_indexOfSupplementary_4cfef) 37 = .ok (.iload 6, 2) := by decide +kernel
theorem eJ2_indexOfSupplementary_4cfef_39 : decode (mB MJ2_indexOfSupplementary_4cfef) 39 = .ok (.invokestatic 71, 3) := by decide +kernel
theorem eJ2_indexOfSupplementary_4cfef_42 : decode (mB MJ2_indexOfSupplementary_4cfef) 42 = .ok (.iload 4, 2) := by decide +kernel
theorem eJ2_indexOfSupplementary_4cfef_44 : decode (mB MJ2_indexOfSupplementary_4cfef) 44 = .ok (.if_icmp .ne 19, 3) := by decide +kernel
theorem eJ2_indexOfSupplementary_4cfef_47 : decode (mB MJ2_indexOfSupplementary_4cfef) 47 = .ok (.aload_n 0, 1) := by decide +kernel
theorem eJ2_indexOfSupplementary_4cfef_48 : decode (mB MJ2_indexOfSupplementary_4cfef) 48 = .ok (.iload 6, 2) := by decide +kernel
theorem eJ2_indexOfSupplementary_4cfef_50 : decode (mB MJ2_indexOfSupplementary_4cfef) 50 = .ok (.iconst 1, 1) := by decide +kernel
theorem eJ2_indexOfSupplementary_4cfef_51 : decode (mB MJ2_indexOfSupplementary_4cfef) 51 = .ok (.iadd, 1) := by decide +kernel
theorem eJ2_indexOfSupplementary_4cfef_52 : decode (mB MJ2_indexOfSupplementary_4cfef) 52 = .ok (.invokestatic 71, 3) := by decide +kernel
theorem eJ2_indexOfSupplementary_4cfef_55 : decode (mB MJ2_indexOfSupplementary_4cfef) 55 = .ok (.iload 5, 2) := by decide +kernel
theorem eJ2_indexOfSupplementary_4cfef_57 : decode (mB MJ2_indexOfSupplementary_4cfef) 57 = .ok (.if_icmp .ne 6, 3) := by decide +kernel
theorem eJ2_indexOfSupplementary_4cfef_60 : decode (mB MJ2_indexOfSupplementary_4cfef) 60 = .ok (.iload 6, 2) := by decide +kernel
theorem eJ2_indexOfSupplementary_4cfef_62 : decode (mB MJ2_indexOfSupplementary_4cfef) 62 = .ok (.ireturn, 1) := by decide +kernel
theorem eJ2_indexOfSupplementary_4cfef_63 : decode (mB MJ2_indexOfSupplementary_4cfef) 63 = .ok (.iinc 6 1, 3) := by decide +kernel
theorem eJ2_indexOfSupplementary_4cfef_66 : decode (mB MJ2_indexOfSupplementary_4cfef) 66 = .ok (.goto (-38), 3) := by decide +kernel
theorem eJ2_indexOfSupplementary_4cfef_69 : decode (mB MJ2_indexOfSupplementary_4cfef) 69 = .ok (.iconst (-1), 1) := by decide +kernel
theorem eJ2_indexOfSupplementary_4cfef_70 : decode (mB MJ2_indexOfSupplementary_4cfef) 70 = .ok (.ireturn, 1) := by decide +kernel
theorem eJ2_charAt_3b067_0 : decode (mB MJ2_charAt_3b067) 0 = .ok (.iload_n 1, 1) := by decide +kernel
theorem eJ2_charAt_3b067_1 : decode (mB MJ2_charAt_3b067) 1 = .ok (.aload_n 0, 1) := by decide +kernel
theorem eJ2_charAt_3b067_2 : decode (mB MJ2_charAt_3b067) 2 = .ok (.invokestatic 67, 3) := by decide +kernel
theorem eJ2_charAt_3b067_5 : decode (mB MJ2_charAt_3b067) 5 = .ok (.aload_n 0, 1) := by decide +kernel
theorem eJ2_charAt_3b067_6 : decode (mB MJ2_charAt_3b067) 6 = .ok (.iload_n 1, 1) := by decide +kernel
theorem eJ2_charAt_3b067_7 : decode (mB MJ2_charAt_3b067) 7 = .ok (.invokestatic 71, 3) := by decide +kernel
theorem eJ2_charAt_3b067_10 : decode (mB MJ2_charAt_3b067) 10 = .ok (.ireturn, 1) := by decide +kernel
theorem eJ2_checkIndex_2214a_0 : decode (mB MJ2_checkIndex_2214a) 0 = .ok (.iload_n 0, 1) := by decide +kernel
theorem eJ2_checkIndex_2214a_1 : decode (mB MJ2_checkIndex_2214a) 1 = .ok (.aload_n 1, 1) := by decide +kernel
theorem eJ2_checkIndex_2214a_2 : decode (mB MJ2_checkIndex_2214a) 2 = .ok (.invokestatic 48, 3) := by decide +kernel
theorem eJ2_checkIndex_2214a_5 : decode (mB MJ2_checkIndex_2214a) 5 = .ok (.invokestatic 414, 3) := by decide +kernel
theorem eJ2_checkIndex_2214a_8 : decode (mB MJ2_checkIndex_2214a) 8 = .ok (.return_, 1) := by decide +kernel
theorem eJ2_checkBoundsBeginEnd_d044e_0 : decode (mB MJ2_checkBoundsBeginEnd_d044e) 0 = .ok (.iload_n 0, 1) := by decide +kernel
theorem eJ2_checkBoundsBeginEnd_d044e_1 : decode (mB MJ2_checkBoundsBeginEnd_d044e) 1 = .ok (.iload_n 1, 1) := by decide +kernel
theorem eJ2_checkBoundsBeginEnd_d044e_2 : decode (mB MJ2_checkBoundsBeginEnd_d044e) 2 = .ok (.aload_n 2, 1) := by decide +kernel
theorem eJ2_checkBoundsBeginEnd_d044e_3 : decode (mB MJ2_checkBoundsBeginEnd_d044e) 3 = .ok (.invokestatic 48, 3) := by decide +kernel
theorem eJ2_checkBoundsBeginEnd_d044e_6 : decode (mB MJ2_checkBoundsBeginEnd_d044e) 6 = .ok (.invokestatic 241, 3) := by decide +kernel
theorem eJ2_checkBoundsBeginEnd_d044e_9 : decode (mB MJ2_checkBoundsBeginEnd_d044e) 9 = .ok (.return_, 1) := by decide +kernel
theorem eJ3_checkIndex_8e157_0 : decode (mB MJ3_checkIndex_8e157) 0 = .ok (.iload_n 0, 1) := by decide +kernel
theorem eJ3_checkIndex_8e157_1 : decode (mB MJ3_checkIndex_8e157) 1 = .ok (.ifCond .lt 8, 3) := by decide +kernel
theorem eJ3_checkIndex_8e157_4 : decode (mB MJ3_checkIndex_8e157) 4 = .ok (.iload_n 0, 1) := by decide +kernel
theorem eJ3_checkIndex_8e157_5 : decode (mB MJ3_checkIndex_8e157) 5 = .ok (.iload_n 1, 1) := by decide +kernel
theorem eJ3_checkIndex_8e157_6 : decode (mB MJ3_checkIndex_8e157) 6 = .ok (.if_icmp .lt 10, 3) := by decide +kernel
theorem eJ3_checkIndex_8e157_9 : decode (mB MJ3_checkIndex_8e157) 9 = .ok (.aload_n 2, 1) := by decide +kernel
theorem eJ3_checkIndex_8e157_10 : decode (mB MJ3_checkIndex_8e157) 10 = .ok (.iload_n 0, 1) := by decide +kernel
theorem eJ3_checkIndex_8e157_11 : decode (mB MJ3_checkIndex_8e157) 11 = .ok (.iload_n 1, 1) := by decide +kernel
theorem eJ3_checkIndex_8e157_12 : decode (mB MJ3_checkIndex_8e157) 12 = .ok (.invokestatic 95, 3) := by decide +kernel
theorem eJ3_checkIndex_8e157_15 : decode (mB MJ3_checkIndex_8e157) 15 = .ok (.athrow, 1) := by decide +kernel
theorem eJ3_checkIndex_8e157_16 : decode (mB MJ3_checkIndex_8e157) 16 = .ok (.iload_n 0, 1) := by decide +kernel
theorem eJ3_checkIndex_8e157_17 : decode (mB MJ3_checkIndex_8e157) 17 = .ok (.ireturn, 1) := by decide +kernel
theorem eJ3_checkFromToIndex_8c36e_0 : decode (mB MJ3_checkFromToIndex_8c36e) 0 = .ok (.iload_n 0, 1) := by decide +kernel
theorem eJ3_checkFromToIndex_8c36e_1 : decode (mB MJ3_checkFromToIndex_8c36e) 1 = .ok (.ifCond .lt 13, 3) := by decide +kernel
theorem eJ3_checkFromToIndex_8c36e_4 : decode (mB MJ3_checkFromToIndex_8c36e) 4 = .ok (.iload_n 0, 1) := by decide +kernel
theorem eJ3_checkFromToIndex_8c36e_5 : decode (mB MJ3_checkFromToIndex_8c36e) 5 = .ok (.iload_n 1, 1) := by decide +kernel
theorem eJ3_checkFromToIndex_8c36e_6 : decode (mB MJ3_checkFromToIndex_8c36e) 6 = .ok (.if_icmp .gt 8, 3) := by decide +kernel
theorem eJ3_checkFromToIndex_8c36e_9 : decode (mB MJ3_checkFromToIndex_8c36e) 9 = .ok (.iload_n 1, 1) := by decide +kernel
theorem eJ3_checkFromToIndex_8c36e_10 : decode (mB MJ3_checkFromToIndex_8c36e) 10 = .ok (.iload_n 2, 1) := by decide +kernel
theorem eJ3_checkFromToIndex_8c36e_11 : decode (mB MJ3_checkFromToIndex_8c36e) 11 = .ok (.if_icmp .le 11, 3) := by decide +kernel
theorem eJ3_checkFromToIndex_8c36e_14 : decode (mB MJ3_checkFromToIndex_8c36e) 14 = .ok (.aload_n 3, 1) := by decide +kernel
theorem eJ3_checkFromToIndex_8c36e_15 : decode (mB MJ3_checkFromToIndex_8c36e) 15 = .ok (.iload_n 0, 1) := by decide +kernel
theorem eJ3_checkFromToIndex_8c36e_16 : decode (mB MJ3_checkFromToIndex_8c36e) 16 = .ok (.iload_n 1, 1) := by decide +kernel
theorem eJ3_checkFromToIndex_8c36e_17 : decode (mB MJ3_checkFromToIndex_8c36e) 17 = .ok (.iload_n 2, 1) := by decide +kernel
theorem eJ3_checkFromToIndex_8c36e_18 : decode (mB MJ3_checkFromToIndex_8c36e) 18 = .ok (.invokestatic 99, 3) := by decide +kernel
theorem eJ3_checkFromToIndex_8c36e_21 : decode (mB MJ3_checkFromToIndex_8c36e) 21 = .ok (.athrow, 1) := by decide +kernel
theorem eJ3_checkFromToIndex_8c36e_22 : decode (mB MJ3_checkFromToIndex_8c36e) 22 = .ok (.iload_n 0, 1) := by decide +kernel
theorem eJ3_checkFromToIndex_8c36e_23 : decode (mB MJ3_checkFromToIndex_8c36e) 23 = .ok (.ireturn, 1) := by decide +kernel
/-- the law, its script of L ints at the small address 127 -/
def sX (L : Nat) (xs : Nat → Int32) : GC → State → Prop := fun G s => va_X (gV G 63) L xs s s.heap ∧ gV G 63 < s.heap.size ∧ ¬ gAA G (gV G 63)
def ML_law (nm : String) (L : Nat) (xs : Nat → Int32) : MI := (⟨RL, nm, "([I)Z"⟩, cL_law, 4, some .boolean, sX L xs)
theorem eL_law_0 : decode code 0 = .ok (.new 7, 3) := by decide +kernel
theorem eL_law_3 : decode code 3 = .ok (.dup, 1) := by decide +kernel
theorem eL_law_4 : decode code 4 = .ok (.invokespecial 9, 3) := by decide +kernel
theorem eL_law_7 : decode code 7 = .ok (.astore_n 1, 1) := by decide +kernel
theorem eL_law_8 : decode code 8 = .ok (.new 10, 3) := by decide +kernel
theorem eL_law_11 : decode code 11 = .ok (.dup, 1) := by decide +kernel
theorem eL_law_12 : decode code 12 = .ok (.invokespecial 12, 3) := by decide +kernel
theorem eL_law_15 : decode code 15 = .ok (.astore_n 2, 1) := by decide +kernel
theorem eL_law_16 : decode code 16 = .ok (.iconst 0, 1) := by decide +kernel
theorem eL_law_17 : decode code 17 = .ok (.istore_n 3, 1) := by decide +kernel
theorem eL_law_18 : decode code 18 = .ok (.iload_n 3, 1) := by decide +kernel
theorem eL_law_19 : decode code 19 = .ok (.aload_n 0, 1) := by decide +kernel
theorem eL_law_20 : decode code 20 = .ok (.arraylength, 1) := by decide +kernel
theorem eL_law_21 : decode code 21 = .ok (.bipush 6, 2) := by decide +kernel
theorem eL_law_23 : decode code 23 = .ok (.isub, 1) := by decide +kernel
theorem eL_law_24 : decode code 24 = .ok (.if_icmp .gt 1454, 3) := by decide +kernel
theorem eL_law_27 : decode code 27 = .ok (.aload_n 0, 1) := by decide +kernel
theorem eL_law_28 : decode code 28 = .ok (.iload_n 3, 1) := by decide +kernel
theorem eL_law_29 : decode code 29 = .ok (.iaload, 1) := by decide +kernel
theorem eL_law_30 : decode code 30 = .ok (.bipush 63, 2) := by decide +kernel
theorem eL_law_32 : decode code 32 = .ok (.iand, 1) := by decide +kernel
theorem eL_law_33 : decode code 33 = .ok (.tableswitch 1439 0 45 #[199, 262, 285, 308, 341, 374, 397, 430, 473, 496, 519, 542, 565, 588, 611, 644, 667, 700, 713, 726, 759, 792, 816, 839, 852, 865, 908, 921, 944, 957, 990, 1013, 1026, 1039, 1052, 1065, 1108, 1131, 1154, 1187, 1220, 1263, 1337, 1370, 1393, 1416], 199) := by decide +kernel
theorem eL_law_232 : decode code 232 = .ok (.aload_n 1, 1) := by decide +kernel
theorem eL_law_233 : decode code 233 = .ok (.aload_n 0, 1) := by decide +kernel
theorem eL_law_234 : decode code 234 = .ok (.iload_n 3, 1) := by decide +kernel
theorem eL_law_235 : decode code 235 = .ok (.iconst 1, 1) := by decide +kernel
theorem eL_law_236 : decode code 236 = .ok (.iadd, 1) := by decide +kernel
theorem eL_law_237 : decode code 237 = .ok (.iaload, 1) := by decide +kernel
theorem eL_law_238 : decode code 238 = .ok (.aload_n 0, 1) := by decide +kernel
theorem eL_law_239 : decode code 239 = .ok (.iload_n 3, 1) := by decide +kernel
theorem eL_law_240 : decode code 240 = .ok (.iconst 2, 1) := by decide +kernel
theorem eL_law_241 : decode code 241 = .ok (.iadd, 1) := by decide +kernel
theorem eL_law_242 : decode code 242 = .ok (.iaload, 1) := by decide +kernel
theorem eL_law_243 : decode code 243 = .ok (.aload_n 0, 1) := by decide +kernel
theorem eL_law_244 : decode code 244 = .ok (.iload_n 3, 1) := by decide +kernel
theorem eL_law_245 : decode code 245 = .ok (.iconst 3, 1) := by decide +kernel
theorem eL_law_246 : decode code 246 = .ok (.iadd, 1) := by decide +kernel
theorem eL_law_247 : decode code 247 = .ok (.iaload, 1) := by decide +kernel
theorem eL_law_248 : decode code 248 = .ok (.aload_n 0, 1) := by decide +kernel
theorem eL_law_249 : decode code 249 = .ok (.iload_n 3, 1) := by decide +kernel
theorem eL_law_250 : decode code 250 = .ok (.iconst 4, 1) := by decide +kernel
theorem eL_law_251 : decode code 251 = .ok (.iadd, 1) := by decide +kernel
theorem eL_law_252 : decode code 252 = .ok (.iaload, 1) := by decide +kernel
theorem eL_law_253 : decode code 253 = .ok (.aload_n 0, 1) := by decide +kernel
theorem eL_law_254 : decode code 254 = .ok (.iload_n 3, 1) := by decide +kernel
theorem eL_law_255 : decode code 255 = .ok (.iconst 5, 1) := by decide +kernel
theorem eL_law_256 : decode code 256 = .ok (.iadd, 1) := by decide +kernel
theorem eL_law_257 : decode code 257 = .ok (.iaload, 1) := by decide +kernel
theorem eL_law_258 : decode code 258 = .ok (.invokevirtual 13, 3) := by decide +kernel
theorem eL_law_261 : decode code 261 = .ok (.aload_n 2, 1) := by decide +kernel
theorem eL_law_262 : decode code 262 = .ok (.aload_n 0, 1) := by decide +kernel
theorem eL_law_263 : decode code 263 = .ok (.iload_n 3, 1) := by decide +kernel
theorem eL_law_264 : decode code 264 = .ok (.iconst 1, 1) := by decide +kernel
theorem eL_law_265 : decode code 265 = .ok (.iadd, 1) := by decide +kernel
theorem eL_law_266 : decode code 266 = .ok (.iaload, 1) := by decide +kernel
theorem eL_law_267 : decode code 267 = .ok (.aload_n 0, 1) := by decide +kernel
theorem eL_law_268 : decode code 268 = .ok (.iload_n 3, 1) := by decide +kernel
theorem eL_law_269 : decode code 269 = .ok (.iconst 2, 1) := by decide +kernel
theorem eL_law_270 : decode code 270 = .ok (.iadd, 1) := by decide +kernel
theorem eL_law_271 : decode code 271 = .ok (.iaload, 1) := by decide +kernel
theorem eL_law_272 : decode code 272 = .ok (.aload_n 0, 1) := by decide +kernel
theorem eL_law_273 : decode code 273 = .ok (.iload_n 3, 1) := by decide +kernel
theorem eL_law_274 : decode code 274 = .ok (.iconst 3, 1) := by decide +kernel
theorem eL_law_275 : decode code 275 = .ok (.iadd, 1) := by decide +kernel
theorem eL_law_276 : decode code 276 = .ok (.iaload, 1) := by decide +kernel
theorem eL_law_277 : decode code 277 = .ok (.aload_n 0, 1) := by decide +kernel
theorem eL_law_278 : decode code 278 = .ok (.iload_n 3, 1) := by decide +kernel
theorem eL_law_279 : decode code 279 = .ok (.iconst 4, 1) := by decide +kernel
theorem eL_law_280 : decode code 280 = .ok (.iadd, 1) := by decide +kernel
theorem eL_law_281 : decode code 281 = .ok (.iaload, 1) := by decide +kernel
theorem eL_law_282 : decode code 282 = .ok (.aload_n 0, 1) := by decide +kernel
theorem eL_law_283 : decode code 283 = .ok (.iload_n 3, 1) := by decide +kernel
theorem eL_law_284 : decode code 284 = .ok (.iconst 5, 1) := by decide +kernel
theorem eL_law_285 : decode code 285 = .ok (.iadd, 1) := by decide +kernel
theorem eL_law_286 : decode code 286 = .ok (.iaload, 1) := by decide +kernel
theorem eL_law_287 : decode code 287 = .ok (.invokevirtual 17, 3) := by decide +kernel
theorem eL_law_290 : decode code 290 = .ok (.if_icmp .eq 1182, 3) := by decide +kernel
theorem eL_law_293 : decode code 293 = .ok (.iconst 0, 1) := by decide +kernel
theorem eL_law_294 : decode code 294 = .ok (.ireturn, 1) := by decide +kernel
theorem eL_law_295 : decode code 295 = .ok (.aload_n 1, 1) := by decide +kernel
theorem eL_law_296 : decode code 296 = .ok (.aload_n 0, 1) := by decide +kernel
theorem eL_law_297 : decode code 297 = .ok (.iload_n 3, 1) := by decide +kernel
theorem eL_law_298 : decode code 298 = .ok (.iconst 1, 1) := by decide +kernel
theorem eL_law_299 : decode code 299 = .ok (.iadd, 1) := by decide +kernel
theorem eL_law_300 : decode code 300 = .ok (.iaload, 1) := by decide +kernel
theorem eL_law_301 : decode code 301 = .ok (.invokevirtual 18, 3) := by decide +kernel
theorem eL_law_304 : decode code 304 = .ok (.aload_n 2, 1) := by decide +kernel
theorem eL_law_305 : decode code 305 = .ok (.aload_n 0, 1) := by decide +kernel
theorem eL_law_306 : decode code 306 = .ok (.iload_n 3, 1) := by decide +kernel
theorem eL_law_307 : decode code 307 = .ok (.iconst 1, 1) := by decide +kernel
theorem eL_law_308 : decode code 308 = .ok (.iadd, 1) := by decide +kernel
theorem eL_law_309 : decode code 309 = .ok (.iaload, 1) := by decide +kernel
theorem eL_law_310 : decode code 310 = .ok (.invokevirtual 22, 3) := by decide +kernel
theorem eL_law_313 : decode code 313 = .ok (.if_icmp .eq 1159, 3) := by decide +kernel
theorem eL_law_316 : decode code 316 = .ok (.iconst 0, 1) := by decide +kernel
theorem eL_law_317 : decode code 317 = .ok (.ireturn, 1) := by decide +kernel
theorem eL_law_318 : decode code 318 = .ok (.aload_n 1, 1) := by decide +kernel
theorem eL_law_319 : decode code 319 = .ok (.aload_n 0, 1) := by decide +kernel
theorem eL_law_320 : decode code 320 = .ok (.iload_n 3, 1) := by decide +kernel
theorem eL_law_321 : decode code 321 = .ok (.iconst 1, 1) := by decide +kernel
theorem eL_law_322 : decode code 322 = .ok (.iadd, 1) := by decide +kernel
theorem eL_law_323 : decode code 323 = .ok (.iaload, 1) := by decide +kernel
theorem eL_law_324 : decode code 324 = .ok (.invokevirtual 23, 3) := by decide +kernel
theorem eL_law_327 : decode code 327 = .ok (.aload_n 2, 1) := by decide +kernel
theorem eL_law_328 : decode code 328 = .ok (.aload_n 0, 1) := by decide +kernel
theorem eL_law_329 : decode code 329 = .ok (.iload_n 3, 1) := by decide +kernel
theorem eL_law_330 : decode code 330 = .ok (.iconst 1, 1) := by decide +kernel
theorem eL_law_331 : decode code 331 = .ok (.iadd, 1) := by decide +kernel
theorem eL_law_332 : decode code 332 = .ok (.iaload, 1) := by decide +kernel
theorem eL_law_333 : decode code 333 = .ok (.invokevirtual 26, 3) := by decide +kernel
theorem eL_law_336 : decode code 336 = .ok (.if_icmp .eq 1136, 3) := by decide +kernel
theorem eL_law_339 : decode code 339 = .ok (.iconst 0, 1) := by decide +kernel
theorem eL_law_340 : decode code 340 = .ok (.ireturn, 1) := by decide +kernel
theorem eL_law_341 : decode code 341 = .ok (.aload_n 1, 1) := by decide +kernel
theorem eL_law_342 : decode code 342 = .ok (.aload_n 0, 1) := by decide +kernel
theorem eL_law_343 : decode code 343 = .ok (.iload_n 3, 1) := by decide +kernel
theorem eL_law_344 : decode code 344 = .ok (.iconst 1, 1) := by decide +kernel
theorem eL_law_345 : decode code 345 = .ok (.iadd, 1) := by decide +kernel
theorem eL_law_346 : decode code 346 = .ok (.iaload, 1) := by decide +kernel
theorem eL_law_347 : decode code 347 = .ok (.aload_n 0, 1) := by decide +kernel
theorem eL_law_348 : decode code 348 = .ok (.iload_n 3, 1) := by decide +kernel
theorem eL_law_349 : decode code 349 = .ok (.iconst 2, 1) := by decide +kernel
theorem eL_law_350 : decode code 350 = .ok (.iadd, 1) := by decide +kernel
theorem eL_law_351 : decode code 351 = .ok (.iaload, 1) := by decide +kernel
theorem eL_law_352 : decode code 352 = .ok (.invokevirtual 27, 3) := by decide +kernel
theorem eL_law_355 : decode code 355 = .ok (.aload_n 2, 1) := by decide +kernel
theorem eL_law_356 : decode code 356 = .ok (.aload_n 0, 1) := by decide +kernel
theorem eL_law_357 : decode code 357 = .ok (.iload_n 3, 1) := by decide +kernel
theorem eL_law_358 : decode code 358 = .ok (.iconst 1, 1) := by decide +kernel
theorem eL_law_359 : decode code 359 = .ok (.iadd, 1) := by decide +kernel
theorem eL_law_360 : decode code 360 = .ok (.iaload, 1) := by decide +kernel
theorem eL_law_361 : decode code 361 = .ok (.aload_n 0, 1) := by decide +kernel
theorem eL_law_362 : decode code 362 = .ok (.iload_n 3, 1) := by decide +kernel
theorem eL_law_363 : decode code 363 = .ok (.iconst 2, 1) := by decide +kernel
theorem eL_law_364 : decode code 364 = .ok (.iadd, 1) := by decide +kernel
theorem eL_law_365 : decode code 365 = .ok (.iaload, 1) := by decide +kernel
theorem eL_law_366 : decode code 366 = .ok (.invokevirtual 31, 3) := by decide +kernel
theorem eL_law_369 : decode code 369 = .ok (.if_icmp .eq 1103, 3) := by decide +kernel
theorem eL_law_372 : decode code 372 = .ok (.iconst 0, 1) := by decide +kernel
theorem eL_law_373 : decode code 373 = .ok (.ireturn, 1) := by decide +kernel
theorem eL_law_374 : decode code 374 = .ok (.aload_n 1, 1) := by decide +kernel
theorem eL_law_375 : decode code 375 = .ok (.aload_n 0, 1) := by decide +kernel
theorem eL_law_376 : decode code 376 = .ok (.iload_n 3, 1) := by decide +kernel
theorem eL_law_377 : decode code 377 = .ok (.iconst 1, 1) := by decide +kernel
theorem eL_law_378 : decode code 378 = .ok (.iadd, 1) := by decide +kernel
theorem eL_law_379 : decode code 379 = .ok (.iaload, 1) := by decide +kernel
theorem eL_law_380 : decode code 380 = .ok (.aload_n 0, 1) := by decide +kernel
theorem eL_law_381 : decode code 381 = .ok (.iload_n 3, 1) := by decide +kernel
theorem eL_law_382 : decode code 382 = .ok (.iconst 2, 1) := by decide +kernel
theorem eL_law_383 : decode code 383 = .ok (.iadd, 1) := by decide +kernel
theorem eL_law_384 : decode code 384 = .ok (.iaload, 1) := by decide +kernel
theorem eL_law_385 : decode code 385 = .ok (.invokevirtual 32, 3) := by decide +kernel
theorem eL_law_388 : decode code 388 = .ok (.aload_n 2, 1) := by decide +kernel
theorem eL_law_389 : decode code 389 = .ok (.aload_n 0, 1) := by decide +kernel
theorem eL_law_390 : decode code 390 = .ok (.iload_n 3, 1) := by decide +kernel
theorem eL_law_391 : decode code 391 = .ok (.iconst 1, 1) := by decide +kernel
theorem eL_law_392 : decode code 392 = .ok (.iadd, 1) := by decide +kernel
theorem eL_law_393 : decode code 393 = .ok (.iaload, 1) := by decide +kernel
theorem eL_law_394 : decode code 394 = .ok (.aload_n 0, 1) := by decide +kernel
theorem eL_law_395 : decode code 395 = .ok (.iload_n 3, 1) := by decide +kernel
theorem eL_law_396 : decode code 396 = .ok (.iconst 2, 1) := by decide +kernel
theorem eL_law_397 : decode code 397 = .ok (.iadd, 1) := by decide +kernel
theorem eL_law_398 : decode code 398 = .ok (.iaload, 1) := by decide +kernel
theorem eL_law_399 : decode code 399 = .ok (.invokevirtual 35, 3) := by decide +kernel
theorem eL_law_402 : decode code 402 = .ok (.if_icmp .eq 1070, 3) := by decide +kernel
theorem eL_law_405 : decode code 405 = .ok (.iconst 0, 1) := by decide +kernel
theorem eL_law_406 : decode code 406 = .ok (.ireturn, 1) := by decide +kernel
theorem eL_law_407 : decode code 407 = .ok (.aload_n 1, 1) := by decide +kernel
theorem eL_law_408 : decode code 408 = .ok (.aload_n 0, 1) := by decide +kernel
theorem eL_law_409 : decode code 409 = .ok (.iload_n 3, 1) := by decide +kernel
theorem eL_law_410 : decode code 410 = .ok (.iconst 1, 1) := by decide +kernel
theorem eL_law_411 : decode code 411 = .ok (.iadd, 1) := by decide +kernel
theorem eL_law_412 : decode code 412 = .ok (.iaload, 1) := by decide +kernel
theorem eL_law_413 : decode code 413 = .ok (.invokevirtual 36, 3) := by decide +kernel
theorem eL_law_416 : decode code 416 = .ok (.aload_n 2, 1) := by decide +kernel
theorem eL_law_417 : decode code 417 = .ok (.aload_n 0, 1) := by decide +kernel
theorem eL_law_418 : decode code 418 = .ok (.iload_n 3, 1) := by decide +kernel
theorem eL_law_419 : decode code 419 = .ok (.iconst 1, 1) := by decide +kernel
theorem eL_law_420 : decode code 420 = .ok (.iadd, 1) := by decide +kernel
theorem eL_law_421 : decode code 421 = .ok (.iaload, 1) := by decide +kernel
theorem eL_law_422 : decode code 422 = .ok (.invokevirtual 39, 3) := by decide +kernel
theorem eL_law_425 : decode code 425 = .ok (.if_icmp .eq 1047, 3) := by decide +kernel
theorem eL_law_428 : decode code 428 = .ok (.iconst 0, 1) := by decide +kernel
theorem eL_law_429 : decode code 429 = .ok (.ireturn, 1) := by decide +kernel
theorem eL_law_430 : decode code 430 = .ok (.aload_n 1, 1) := by decide +kernel
theorem eL_law_431 : decode code 431 = .ok (.aload_n 0, 1) := by decide +kernel
theorem eL_law_432 : decode code 432 = .ok (.iload_n 3, 1) := by decide +kernel
theorem eL_law_433 : decode code 433 = .ok (.iconst 1, 1) := by decide +kernel
theorem eL_law_434 : decode code 434 = .ok (.iadd, 1) := by decide +kernel
theorem eL_law_435 : decode code 435 = .ok (.iaload, 1) := by decide +kernel
theorem eL_law_436 : decode code 436 = .ok (.aload_n 0, 1) := by decide +kernel
theorem eL_law_437 : decode code 437 = .ok (.iload_n 3, 1) := by decide +kernel
theorem eL_law_438 : decode code 438 = .ok (.iconst 2, 1) := by decide +kernel
theorem eL_law_439 : decode code 439 = .ok (.iadd, 1) := by decide +kernel
theorem eL_law_440 : decode code 440 = .ok (.iaload, 1) := by decide +kernel
theorem eL_law_441 : decode code 441 = .ok (.invokevirtual 40, 3) := by decide +kernel
theorem eL_law_444 : decode code 444 = .ok (.aload_n 2, 1) := by decide +kernel
theorem eL_law_445 : decode code 445 = .ok (.aload_n 0, 1) := by decide +kernel
theorem eL_law_446 : decode code 446 = .ok (.iload_n 3, 1) := by decide +kernel
theorem eL_law_447 : decode code 447 = .ok (.iconst 1, 1) := by decide +kernel
theorem eL_law_448 : decode code 448 = .ok (.iadd, 1) := by decide +kernel
theorem eL_law_449 : decode code 449 = .ok (.iaload, 1) := by decide +kernel
theorem eL_law_450 : decode code 450 = .ok (.aload_n 0, 1) := by decide +kernel
theorem eL_law_451 : decode code 451 = .ok (.iload_n 3, 1) := by decide +kernel
theorem eL_law_452 : decode code 452 = .ok (.iconst 2, 1) := by decide +kernel
theorem eL_law_453 : decode code 453 = .ok (.iadd, 1) := by decide +kernel
theorem eL_law_454 : decode code 454 = .ok (.iaload, 1) := by decide +kernel
theorem eL_law_455 : decode code 455 = .ok (.invokevirtual 43, 3) := by decide +kernel
theorem eL_law_458 : decode code 458 = .ok (.if_icmp .eq 1014, 3) := by decide +kernel
theorem eL_law_461 : decode code 461 = .ok (.iconst 0, 1) := by decide +kernel
theorem eL_law_462 : decode code 462 = .ok (.ireturn, 1) := by decide +kernel
theorem eL_law_463 : decode code 463 = .ok (.aload_n 1, 1) := by decide +kernel
theorem eL_law_464 : decode code 464 = .ok (.aload_n 0, 1) := by decide +kernel
theorem eL_law_465 : decode code 465 = .ok (.iload_n 3, 1) := by decide +kernel
theorem eL_law_466 : decode code 466 = .ok (.iconst 1, 1) := by decide +kernel
theorem eL_law_467 : decode code 467 = .ok (.iadd, 1) := by decide +kernel
theorem eL_law_468 : decode code 468 = .ok (.iaload, 1) := by decide +kernel
theorem eL_law_469 : decode code 469 = .ok (.aload_n 0, 1) := by decide +kernel
theorem eL_law_470 : decode code 470 = .ok (.iload_n 3, 1) := by decide +kernel
theorem eL_law_471 : decode code 471 = .ok (.iconst 2, 1) := by decide +kernel
theorem eL_law_472 : decode code 472 = .ok (.iadd, 1) := by decide +kernel
theorem eL_law_473 : decode code 473 = .ok (.iaload, 1) := by decide +kernel
theorem eL_law_474 : decode code 474 = .ok (.aload_n 0, 1) := by decide +kernel
theorem eL_law_475 : decode code 475 = .ok (.iload_n 3, 1) := by decide +kernel
theorem eL_law_476 : decode code 476 = .ok (.iconst 3, 1) := by decide +kernel
theorem eL_law_477 : decode code 477 = .ok (.iadd, 1) := by decide +kernel
theorem eL_law_478 : decode code 478 = .ok (.iaload, 1) := by decide +kernel
theorem eL_law_479 : decode code 479 = .ok (.invokevirtual 44, 3) := by decide +kernel
theorem eL_law_482 : decode code 482 = .ok (.aload_n 2, 1) := by decide +kernel
theorem eL_law_483 : decode code 483 = .ok (.aload_n 0, 1) := by decide +kernel
theorem eL_law_484 : decode code 484 = .ok (.iload_n 3, 1) := by decide +kernel
theorem eL_law_485 : decode code 485 = .ok (.iconst 1, 1) := by decide +kernel
theorem eL_law_486 : decode code 486 = .ok (.iadd, 1) := by decide +kernel
theorem eL_law_487 : decode code 487 = .ok (.iaload, 1) := by decide +kernel
theorem eL_law_488 : decode code 488 = .ok (.aload_n 0, 1) := by decide +kernel
theorem eL_law_489 : decode code 489 = .ok (.iload_n 3, 1) := by decide +kernel
theorem eL_law_490 : decode code 490 = .ok (.iconst 2, 1) := by decide +kernel
theorem eL_law_491 : decode code 491 = .ok (.iadd, 1) := by decide +kernel
theorem eL_law_492 : decode code 492 = .ok (.iaload, 1) := by decide +kernel
theorem eL_law_493 : decode code 493 = .ok (.aload_n 0, 1) := by decide +kernel
theorem eL_law_494 : decode code 494 = .ok (.iload_n 3, 1) := by decide +kernel
theorem eL_law_495 : decode code 495 = .ok (.iconst 3, 1) := by decide +kernel
theorem eL_law_496 : decode code 496 = .ok (.iadd, 1) := by decide +kernel
theorem eL_law_497 : decode code 497 = .ok (.iaload, 1) := by decide +kernel
theorem eL_law_498 : decode code 498 = .ok (.invokevirtual 48, 3) := by decide +kernel
theorem eL_law_501 : decode code 501 = .ok (.if_icmp .eq 971, 3) := by decide +kernel
theorem eL_law_504 : decode code 504 = .ok (.iconst 0, 1) := by decide +kernel
theorem eL_law_505 : decode code 505 = .ok (.ireturn, 1) := by decide +kernel
theorem eL_law_506 : decode code 506 = .ok (.aload_n 1, 1) := by decide +kernel
theorem eL_law_507 : decode code 507 = .ok (.aload_n 0, 1) := by decide +kernel
theorem eL_law_508 : decode code 508 = .ok (.iload_n 3, 1) := by decide +kernel
theorem eL_law_509 : decode code 509 = .ok (.iconst 1, 1) := by decide +kernel
theorem eL_law_510 : decode code 510 = .ok (.iadd, 1) := by decide +kernel
theorem eL_law_511 : decode code 511 = .ok (.iaload, 1) := by decide +kernel
theorem eL_law_512 : decode code 512 = .ok (.invokevirtual 49, 3) := by decide +kernel
theorem eL_law_515 : decode code 515 = .ok (.aload_n 2, 1) := by decide +kernel
theorem eL_law_516 : decode code 516 = .ok (.aload_n 0, 1) := by decide +kernel
theorem eL_law_517 : decode code 517 = .ok (.iload_n 3, 1) := by decide +kernel
theorem eL_law_518 : decode code 518 = .ok (.iconst 1, 1) := by decide +kernel
theorem eL_law_519 : decode code 519 = .ok (.iadd, 1) := by decide +kernel
theorem eL_law_520 : decode code 520 = .ok (.iaload, 1) := by decide +kernel
theorem eL_law_521 : decode code 521 = .ok (.invokevirtual 52, 3) := by decide +kernel
theorem eL_law_524 : decode code 524 = .ok (.if_icmp .eq 948, 3) := by decide +kernel
theorem eL_law_527 : decode code 527 = .ok (.iconst 0, 1) := by decide +kernel
theorem eL_law_528 : decode code 528 = .ok (.ireturn, 1) := by decide +kernel
theorem eL_law_529 : decode code 529 = .ok (.aload_n 1, 1) := by decide +kernel
theorem eL_law_530 : decode code 530 = .ok (.aload_n 0, 1) := by decide +kernel
theorem eL_law_531 : decode code 531 = .ok (.iload_n 3, 1) := by decide +kernel
theorem eL_law_532 : decode code 532 = .ok (.iconst 1, 1) := by decide +kernel
theorem eL_law_533 : decode code 533 = .ok (.iadd, 1) := by decide +kernel
theorem eL_law_534 : decode code 534 = .ok (.iaload, 1) := by decide +kernel
theorem eL_law_535 : decode code 535 = .ok (.invokevirtual 53, 3) := by decide +kernel
theorem eL_law_538 : decode code 538 = .ok (.aload_n 2, 1) := by decide +kernel
theorem eL_law_539 : decode code 539 = .ok (.aload_n 0, 1) := by decide +kernel
theorem eL_law_540 : decode code 540 = .ok (.iload_n 3, 1) := by decide +kernel
theorem eL_law_541 : decode code 541 = .ok (.iconst 1, 1) := by decide +kernel
theorem eL_law_542 : decode code 542 = .ok (.iadd, 1) := by decide +kernel
theorem eL_law_543 : decode code 543 = .ok (.iaload, 1) := by decide +kernel
theorem eL_law_544 : decode code 544 = .ok (.invokevirtual 56, 3) := by decide +kernel
theorem eL_law_547 : decode code 547 = .ok (.if_icmp .eq 925, 3) := by decide +kernel
theorem eL_law_550 : decode code 550 = .ok (.iconst 0, 1) := by decide +kernel
theorem eL_law_551 : decode code 551 = .ok (.ireturn, 1) := by decide +kernel
theorem eL_law_552 : decode code 552 = .ok (.aload_n 1, 1) := by decide +kernel
theorem eL_law_553 : decode code 553 = .ok (.aload_n 0, 1) := by decide +kernel
theorem eL_law_554 : decode code 554 = .ok (.iload_n 3, 1) := by decide +kernel
theorem eL_law_555 : decode code 555 = .ok (.iconst 1, 1) := by decide +kernel
theorem eL_law_556 : decode code 556 = .ok (.iadd, 1) := by decide +kernel
theorem eL_law_557 : decode code 557 = .ok (.iaload, 1) := by decide +kernel
theorem eL_law_558 : decode code 558 = .ok (.invokevirtual 57, 3) := by decide +kernel
theorem eL_law_561 : decode code 561 = .ok (.aload_n 2, 1) := by decide +kernel
theorem eL_law_562 : decode code 562 = .ok (.aload_n 0, 1) := by decide +kernel
theorem eL_law_563 : decode code 563 = .ok (.iload_n 3, 1) := by decide +kernel
theorem eL_law_564 : decode code 564 = .ok (.iconst 1, 1) := by decide +kernel
theorem eL_law_565 : decode code 565 = .ok (.iadd, 1) := by decide +kernel
theorem eL_law_566 : decode code 566 = .ok (.iaload, 1) := by decide +kernel
theorem eL_law_567 : decode code 567 = .ok (.invokevirtual 60, 3) := by decide +kernel
theorem eL_law_570 : decode code 570 = .ok (.if_icmp .eq 902, 3) := by decide +kernel
theorem eL_law_573 : decode code 573 = .ok (.iconst 0, 1) := by decide +kernel
theorem eL_law_574 : decode code 574 = .ok (.ireturn, 1) := by decide +kernel
theorem eL_law_575 : decode code 575 = .ok (.aload_n 1, 1) := by decide +kernel
theorem eL_law_576 : decode code 576 = .ok (.aload_n 0, 1) := by decide +kernel
theorem eL_law_577 : decode code 577 = .ok (.iload_n 3, 1) := by decide +kernel
theorem eL_law_578 : decode code 578 = .ok (.iconst 1, 1) := by decide +kernel
theorem eL_law_579 : decode code 579 = .ok (.iadd, 1) := by decide +kernel
theorem eL_law_580 : decode code 580 = .ok (.iaload, 1) := by decide +kernel
theorem eL_law_581 : decode code 581 = .ok (.invokevirtual 61, 3) := by decide +kernel
theorem eL_law_584 : decode code 584 = .ok (.aload_n 2, 1) := by decide +kernel
theorem eL_law_585 : decode code 585 = .ok (.aload_n 0, 1) := by decide +kernel
theorem eL_law_586 : decode code 586 = .ok (.iload_n 3, 1) := by decide +kernel
theorem eL_law_587 : decode code 587 = .ok (.iconst 1, 1) := by decide +kernel
theorem eL_law_588 : decode code 588 = .ok (.iadd, 1) := by decide +kernel
theorem eL_law_589 : decode code 589 = .ok (.iaload, 1) := by decide +kernel
theorem eL_law_590 : decode code 590 = .ok (.invokevirtual 64, 3) := by decide +kernel
theorem eL_law_593 : decode code 593 = .ok (.if_icmp .eq 879, 3) := by decide +kernel
theorem eL_law_596 : decode code 596 = .ok (.iconst 0, 1) := by decide +kernel
theorem eL_law_597 : decode code 597 = .ok (.ireturn, 1) := by decide +kernel
theorem eL_law_598 : decode code 598 = .ok (.aload_n 1, 1) := by decide +kernel
theorem eL_law_599 : decode code 599 = .ok (.aload_n 0, 1) := by decide +kernel
theorem eL_law_600 : decode code 600 = .ok (.iload_n 3, 1) := by decide +kernel
theorem eL_law_601 : decode code 601 = .ok (.iconst 1, 1) := by decide +kernel
theorem eL_law_602 : decode code 602 = .ok (.iadd, 1) := by decide +kernel
theorem eL_law_603 : decode code 603 = .ok (.iaload, 1) := by decide +kernel
theorem eL_law_604 : decode code 604 = .ok (.invokevirtual 65, 3) := by decide +kernel
theorem eL_law_607 : decode code 607 = .ok (.aload_n 2, 1) := by decide +kernel
theorem eL_law_608 : decode code 608 = .ok (.aload_n 0, 1) := by decide +kernel
theorem eL_law_609 : decode code 609 = .ok (.iload_n 3, 1) := by decide +kernel
theorem eL_law_610 : decode code 610 = .ok (.iconst 1, 1) := by decide +kernel
theorem eL_law_611 : decode code 611 = .ok (.iadd, 1) := by decide +kernel
theorem eL_law_612 : decode code 612 = .ok (.iaload, 1) := by decide +kernel
theorem eL_law_613 : decode code 613 = .ok (.invokevirtual 68, 3) := by decide +kernel
theorem eL_law_616 : decode code 616 = .ok (.if_icmp .eq 856, 3) := by decide +kernel
theorem eL_law_619 : decode code 619 = .ok (.iconst 0, 1) := by decide +kernel
theorem eL_law_620 : decode code 620 = .ok (.ireturn, 1) := by decide +kernel
theorem eL_law_621 : decode code 621 = .ok (.aload_n 1, 1) := by decide +kernel
theorem eL_law_622 : decode code 622 = .ok (.aload_n 0, 1) := by decide +kernel
theorem eL_law_623 : decode code 623 = .ok (.iload_n 3, 1) := by decide +kernel
theorem eL_law_624 : decode code 624 = .ok (.iconst 1, 1) := by decide +kernel
theorem eL_law_625 : decode code 625 = .ok (.iadd, 1) := by decide +kernel
theorem eL_law_626 : decode code 626 = .ok (.iaload, 1) := by decide +kernel
theorem eL_law_627 : decode code 627 = .ok (.invokevirtual 69, 3) := by decide +kernel
theorem eL_law_630 : decode code 630 = .ok (.aload_n 2, 1) := by decide +kernel
theorem eL_law_631 : decode code 631 = .ok (.aload_n 0, 1) := by decide +kernel
theorem eL_law_632 : decode code 632 = .ok (.iload_n 3, 1) := by decide +kernel
theorem eL_law_633 : decode code 633 = .ok (.iconst 1, 1) := by decide +kernel
theorem eL_law_634 : decode code 634 = .ok (.iadd, 1) := by decide +kernel
theorem eL_law_635 : decode code 635 = .ok (.iaload, 1) := by decide +kernel
theorem eL_law_636 : decode code 636 = .ok (.invokevirtual 72, 3) := by decide +kernel
theorem eL_law_639 : decode code 639 = .ok (.if_icmp .eq 833, 3) := by decide +kernel
theorem eL_law_642 : decode code 642 = .ok (.iconst 0, 1) := by decide +kernel
theorem eL_law_643 : decode code 643 = .ok (.ireturn, 1) := by decide +kernel
theorem eL_law_644 : decode code 644 = .ok (.aload_n 1, 1) := by decide +kernel
theorem eL_law_645 : decode code 645 = .ok (.aload_n 0, 1) := by decide +kernel
theorem eL_law_646 : decode code 646 = .ok (.iload_n 3, 1) := by decide +kernel
theorem eL_law_647 : decode code 647 = .ok (.iconst 1, 1) := by decide +kernel
theorem eL_law_648 : decode code 648 = .ok (.iadd, 1) := by decide +kernel
theorem eL_law_649 : decode code 649 = .ok (.iaload, 1) := by decide +kernel
theorem eL_law_650 : decode code 650 = .ok (.aload_n 0, 1) := by decide +kernel
theorem eL_law_651 : decode code 651 = .ok (.iload_n 3, 1) := by decide +kernel
theorem eL_law_652 : decode code 652 = .ok (.iconst 2, 1) := by decide +kernel
theorem eL_law_653 : decode code 653 = .ok (.iadd, 1) := by decide +kernel
theorem eL_law_654 : decode code 654 = .ok (.iaload, 1) := by decide +kernel
theorem eL_law_655 : decode code 655 = .ok (.invokevirtual 73, 3) := by decide +kernel
theorem eL_law_658 : decode code 658 = .ok (.aload_n 2, 1) := by decide +kernel
theorem eL_law_659 : decode code 659 = .ok (.aload_n 0, 1) := by decide +kernel
theorem eL_law_660 : decode code 660 = .ok (.iload_n 3, 1) := by decide +kernel
theorem eL_law_661 : decode code 661 = .ok (.iconst 1, 1) := by decide +kernel
theorem eL_law_662 : decode code 662 = .ok (.iadd, 1) := by decide +kernel
theorem eL_law_663 : decode code 663 = .ok (.iaload, 1) := by decide +kernel
theorem eL_law_664 : decode code 664 = .ok (.aload_n 0, 1) := by decide +kernel
theorem eL_law_665 : decode code 665 = .ok (.iload_n 3, 1) := by decide +kernel
theorem eL_law_666 : decode code 666 = .ok (.iconst 2, 1) := by decide +kernel
theorem eL_law_667 : decode code 667 = .ok (.iadd, 1) := by decide +kernel
theorem eL_law_668 : decode code 668 = .ok (.iaload, 1) := by decide +kernel
theorem eL_law_669 : decode code 669 = .ok (.invokevirtual 76, 3) := by decide +kernel
theorem eL_law_672 : decode code 672 = .ok (.if_icmp .eq 800, 3) := by decide +kernel
theorem eL_law_675 : decode code 675 = .ok (.iconst 0, 1) := by decide +kernel
theorem eL_law_676 : decode code 676 = .ok (.ireturn, 1) := by decide +kernel
theorem eL_law_677 : decode code 677 = .ok (.aload_n 1, 1) := by decide +kernel
theorem eL_law_678 : decode code 678 = .ok (.aload_n 0, 1) := by decide +kernel
theorem eL_law_679 : decode code 679 = .ok (.iload_n 3, 1) := by decide +kernel
theorem eL_law_680 : decode code 680 = .ok (.iconst 1, 1) := by decide +kernel
theorem eL_law_681 : decode code 681 = .ok (.iadd, 1) := by decide +kernel
theorem eL_law_682 : decode code 682 = .ok (.iaload, 1) := by decide +kernel
theorem eL_law_683 : decode code 683 = .ok (.invokevirtual 77, 3) := by decide +kernel
theorem eL_law_686 : decode code 686 = .ok (.aload_n 2, 1) := by decide +kernel
theorem eL_law_687 : decode code 687 = .ok (.aload_n 0, 1) := by decide +kernel
theorem eL_law_688 : decode code 688 = .ok (.iload_n 3, 1) := by decide +kernel
theorem eL_law_689 : decode code 689 = .ok (.iconst 1, 1) := by decide +kernel
theorem eL_law_690 : decode code 690 = .ok (.iadd, 1) := by decide +kernel
theorem eL_law_691 : decode code 691 = .ok (.iaload, 1) := by decide +kernel
theorem eL_law_692 : decode code 692 = .ok (.invokevirtual 80, 3) := by decide +kernel
theorem eL_law_695 : decode code 695 = .ok (.if_icmp .eq 777, 3) := by decide +kernel
theorem eL_law_698 : decode code 698 = .ok (.iconst 0, 1) := by decide +kernel
theorem eL_law_699 : decode code 699 = .ok (.ireturn, 1) := by decide +kernel
theorem eL_law_700 : decode code 700 = .ok (.aload_n 1, 1) := by decide +kernel
theorem eL_law_701 : decode code 701 = .ok (.aload_n 0, 1) := by decide +kernel
theorem eL_law_702 : decode code 702 = .ok (.iload_n 3, 1) := by decide +kernel
theorem eL_law_703 : decode code 703 = .ok (.iconst 1, 1) := by decide +kernel
theorem eL_law_704 : decode code 704 = .ok (.iadd, 1) := by decide +kernel
theorem eL_law_705 : decode code 705 = .ok (.iaload, 1) := by decide +kernel
theorem eL_law_706 : decode code 706 = .ok (.aload_n 0, 1) := by decide +kernel
theorem eL_law_707 : decode code 707 = .ok (.iload_n 3, 1) := by decide +kernel
theorem eL_law_708 : decode code 708 = .ok (.iconst 2, 1) := by decide +kernel
theorem eL_law_709 : decode code 709 = .ok (.iadd, 1) := by decide +kernel
theorem eL_law_710 : decode code 710 = .ok (.iaload, 1) := by decide +kernel
theorem eL_law_711 : decode code 711 = .ok (.invokevirtual 81, 3) := by decide +kernel
theorem eL_law_714 : decode code 714 = .ok (.aload_n 2, 1) := by decide +kernel
theorem eL_law_715 : decode code 715 = .ok (.aload_n 0, 1) := by decide +kernel
theorem eL_law_716 : decode code 716 = .ok (.iload_n 3, 1) := by decide +kernel
theorem eL_law_717 : decode code 717 = .ok (.iconst 1, 1) := by decide +kernel
theorem eL_law_718 : decode code 718 = .ok (.iadd, 1) := by decide +kernel
theorem eL_law_719 : decode code 719 = .ok (.iaload, 1) := by decide +kernel
theorem eL_law_720 : decode code 720 = .ok (.aload_n 0, 1) := by decide +kernel
theorem eL_law_721 : decode code 721 = .ok (.iload_n 3, 1) := by decide +kernel
theorem eL_law_722 : decode code 722 = .ok (.iconst 2, 1) := by decide +kernel
theorem eL_law_723 : decode code 723 = .ok (.iadd, 1) := by decide +kernel
theorem eL_law_724 : decode code 724 = .ok (.iaload, 1) := by decide +kernel
theorem eL_law_725 : decode code 725 = .ok (.invokevirtual 84, 3) := by decide +kernel
theorem eL_law_728 : decode code 728 = .ok (.if_icmp .eq 744, 3) := by decide +kernel
theorem eL_law_731 : decode code 731 = .ok (.iconst 0, 1) := by decide +kernel
theorem eL_law_732 : decode code 732 = .ok (.ireturn, 1) := by decide +kernel
theorem eL_law_733 : decode code 733 = .ok (.aload_n 1, 1) := by decide +kernel
theorem eL_law_734 : decode code 734 = .ok (.invokevirtual 85, 3) := by decide +kernel
theorem eL_law_737 : decode code 737 = .ok (.aload_n 2, 1) := by decide +kernel
theorem eL_law_738 : decode code 738 = .ok (.invokevirtual 89, 3) := by decide +kernel
theorem eL_law_741 : decode code 741 = .ok (.if_icmp .eq 731, 3) := by decide +kernel
theorem eL_law_744 : decode code 744 = .ok (.iconst 0, 1) := by decide +kernel
theorem eL_law_745 : decode code 745 = .ok (.ireturn, 1) := by decide +kernel
theorem eL_law_746 : decode code 746 = .ok (.aload_n 1, 1) := by decide +kernel
theorem eL_law_747 : decode code 747 = .ok (.invokevirtual 90, 3) := by decide +kernel
theorem eL_law_750 : decode code 750 = .ok (.aload_n 2, 1) := by decide +kernel
theorem eL_law_751 : decode code 751 = .ok (.invokevirtual 93, 3) := by decide +kernel
theorem eL_law_754 : decode code 754 = .ok (.if_icmp .eq 718, 3) := by decide +kernel
theorem eL_law_757 : decode code 757 = .ok (.iconst 0, 1) := by decide +kernel
theorem eL_law_758 : decode code 758 = .ok (.ireturn, 1) := by decide +kernel
theorem eL_law_759 : decode code 759 = .ok (.aload_n 1, 1) := by decide +kernel
theorem eL_law_760 : decode code 760 = .ok (.aload_n 0, 1) := by decide +kernel
theorem eL_law_761 : decode code 761 = .ok (.iload_n 3, 1) := by decide +kernel
theorem eL_law_762 : decode code 762 = .ok (.iconst 1, 1) := by decide +kernel
theorem eL_law_763 : decode code 763 = .ok (.iadd, 1) := by decide +kernel
theorem eL_law_764 : decode code 764 = .ok (.iaload, 1) := by decide +kernel
theorem eL_law_765 : decode code 765 = .ok (.aload_n 0, 1) := by decide +kernel
theorem eL_law_766 : decode code 766 = .ok (.iload_n 3, 1) := by decide +kernel
theorem eL_law_767 : decode code 767 = .ok (.iconst 2, 1) := by decide +kernel
theorem eL_law_768 : decode code 768 = .ok (.iadd, 1) := by decide +kernel
theorem eL_law_769 : decode code 769 = .ok (.iaload, 1) := by decide +kernel
theorem eL_law_770 : decode code 770 = .ok (.invokevirtual 94, 3) := by decide +kernel
theorem eL_law_773 : decode code 773 = .ok (.aload_n 2, 1) := by decide +kernel
theorem eL_law_774 : decode code 774 = .ok (.aload_n 0, 1) := by decide +kernel
theorem eL_law_775 : decode code 775 = .ok (.iload_n 3, 1) := by decide +kernel
theorem eL_law_776 : decode code 776 = .ok (.iconst 1, 1) := by decide +kernel
theorem eL_law_777 : decode code 777 = .ok (.iadd, 1) := by decide +kernel
theorem eL_law_778 : decode code 778 = .ok (.iaload, 1) := by decide +kernel
theorem eL_law_779 : decode code 779 = .ok (.aload_n 0, 1) := by decide +kernel
theorem eL_law_780 : decode code 780 = .ok (.iload_n 3, 1) := by decide +kernel
theorem eL_law_781 : decode code 781 = .ok (.iconst 2, 1) := by decide +kernel
theorem eL_law_782 : decode code 782 = .ok (.iadd, 1) := by decide +kernel
theorem eL_law_783 : decode code 783 = .ok (.iaload, 1) := by decide +kernel
theorem eL_law_784 : decode code 784 = .ok (.invokevirtual 97, 3) := by decide +kernel
theorem eL_law_787 : decode code 787 = .ok (.if_icmp .eq 685, 3) := by decide +kernel
theorem eL_law_790 : decode code 790 = .ok (.iconst 0, 1) := by decide +kernel
theorem eL_law_791 : decode code 791 = .ok (.ireturn, 1) := by decide +kernel
theorem eL_law_792 : decode code 792 = .ok (.aload_n 1, 1) := by decide +kernel
theorem eL_law_793 : decode code 793 = .ok (.aload_n 0, 1) := by decide +kernel
theorem eL_law_794 : decode code 794 = .ok (.iload_n 3, 1) := by decide +kernel
theorem eL_law_795 : decode code 795 = .ok (.iconst 1, 1) := by decide +kernel
theorem eL_law_796 : decode code 796 = .ok (.iadd, 1) := by decide +kernel
theorem eL_law_797 : decode code 797 = .ok (.iaload, 1) := by decide +kernel
theorem eL_law_798 : decode code 798 = .ok (.aload_n 0, 1) := by decide +kernel
theorem eL_law_799 : decode code 799 = .ok (.iload_n 3, 1) := by decide +kernel
theorem eL_law_800 : decode code 800 = .ok (.iconst 2, 1) := by decide +kernel
theorem eL_law_801 : decode code 801 = .ok (.iadd, 1) := by decide +kernel
theorem eL_law_802 : decode code 802 = .ok (.iaload, 1) := by decide +kernel
theorem eL_law_803 : decode code 803 = .ok (.invokevirtual 98, 3) := by decide +kernel
theorem eL_law_806 : decode code 806 = .ok (.aload_n 2, 1) := by decide +kernel
theorem eL_law_807 : decode code 807 = .ok (.aload_n 0, 1) := by decide +kernel
theorem eL_law_808 : decode code 808 = .ok (.iload_n 3, 1) := by decide +kernel
theorem eL_law_809 : decode code 809 = .ok (.iconst 1, 1) := by decide +kernel
theorem eL_law_810 : decode code 810 = .ok (.iadd, 1) := by decide +kernel
theorem eL_law_811 : decode code 811 = .ok (.iaload, 1) := by decide +kernel
theorem eL_law_812 : decode code 812 = .ok (.aload_n 0, 1) := by decide +kernel
theorem eL_law_813 : decode code 813 = .ok (.iload_n 3, 1) := by decide +kernel
theorem eL_law_814 : decode code 814 = .ok (.iconst 2, 1) := by decide +kernel
theorem eL_law_815 : decode code 815 = .ok (.iadd, 1) := by decide +kernel
theorem eL_law_816 : decode code 816 = .ok (.iaload, 1) := by decide +kernel
theorem eL_law_817 : decode code 817 = .ok (.invokevirtual 101, 3) := by decide +kernel
theorem eL_law_820 : decode code 820 = .ok (.if_icmp .eq 652, 3) := by decide +kernel
theorem eL_law_823 : decode code 823 = .ok (.iconst 0, 1) := by decide +kernel
theorem eL_law_824 : decode code 824 = .ok (.ireturn, 1) := by decide +kernel
theorem eL_law_825 : decode code 825 = .ok (.aload_n 1, 1) := by decide +kernel
theorem eL_law_826 : decode code 826 = .ok (.aload_n 0, 1) := by decide +kernel
theorem eL_law_827 : decode code 827 = .ok (.iload_n 3, 1) := by decide +kernel
theorem eL_law_828 : decode code 828 = .ok (.iconst 1, 1) := by decide +kernel
theorem eL_law_829 : decode code 829 = .ok (.iadd, 1) := by decide +kernel
theorem eL_law_830 : decode code 830 = .ok (.iaload, 1) := by decide +kernel
theorem eL_law_831 : decode code 831 = .ok (.invokevirtual 102, 3) := by decide +kernel
theorem eL_law_834 : decode code 834 = .ok (.aload_n 2, 1) := by decide +kernel
theorem eL_law_835 : decode code 835 = .ok (.aload_n 0, 1) := by decide +kernel
theorem eL_law_836 : decode code 836 = .ok (.iload_n 3, 1) := by decide +kernel
theorem eL_law_837 : decode code 837 = .ok (.iconst 1, 1) := by decide +kernel
theorem eL_law_838 : decode code 838 = .ok (.iadd, 1) := by decide +kernel
theorem eL_law_839 : decode code 839 = .ok (.iaload, 1) := by decide +kernel
theorem eL_law_840 : decode code 840 = .ok (.invokevirtual 106, 3) := by decide +kernel
theorem eL_law_843 : decode code 843 = .ok (.lcmp, 1) := by decide +kernel
theorem eL_law_844 : decode code 844 = .ok (.ifCond .eq 628, 3) := by decide +kernel
theorem eL_law_847 : decode code 847 = .ok (.iconst 0, 1) := by decide +kernel
theorem eL_law_848 : decode code 848 = .ok (.ireturn, 1) := by decide +kernel
theorem eL_law_849 : decode code 849 = .ok (.aload_n 1, 1) := by decide +kernel
theorem eL_law_850 : decode code 850 = .ok (.aload_n 0, 1) := by decide +kernel
theorem eL_law_851 : decode code 851 = .ok (.iload_n 3, 1) := by decide +kernel
theorem eL_law_852 : decode code 852 = .ok (.iconst 1, 1) := by decide +kernel
theorem eL_law_853 : decode code 853 = .ok (.iadd, 1) := by decide +kernel
theorem eL_law_854 : decode code 854 = .ok (.iaload, 1) := by decide +kernel
theorem eL_law_855 : decode code 855 = .ok (.invokevirtual 107, 3) := by decide +kernel
theorem eL_law_858 : decode code 858 = .ok (.aload_n 2, 1) := by decide +kernel
theorem eL_law_859 : decode code 859 = .ok (.aload_n 0, 1) := by decide +kernel
theorem eL_law_860 : decode code 860 = .ok (.iload_n 3, 1) := by decide +kernel
theorem eL_law_861 : decode code 861 = .ok (.iconst 1, 1) := by decide +kernel
theorem eL_law_862 : decode code 862 = .ok (.iadd, 1) := by decide +kernel
theorem eL_law_863 : decode code 863 = .ok (.iaload, 1) := by decide +kernel
theorem eL_law_864 : decode code 864 = .ok (.invokevirtual 110, 3) := by decide +kernel
theorem eL_law_867 : decode code 867 = .ok (.if_icmp .eq 605, 3) := by decide +kernel
theorem eL_law_870 : decode code 870 = .ok (.iconst 0, 1) := by decide +kernel
theorem eL_law_871 : decode code 871 = .ok (.ireturn, 1) := by decide +kernel
theorem eL_law_872 : decode code 872 = .ok (.aload_n 1, 1) := by decide +kernel
theorem eL_law_873 : decode code 873 = .ok (.invokevirtual 111, 3) := by decide +kernel
theorem eL_law_876 : decode code 876 = .ok (.aload_n 2, 1) := by decide +kernel
theorem eL_law_877 : decode code 877 = .ok (.invokevirtual 114, 3) := by decide +kernel
theorem eL_law_880 : decode code 880 = .ok (.if_icmp .eq 592, 3) := by decide +kernel
theorem eL_law_883 : decode code 883 = .ok (.iconst 0, 1) := by decide +kernel
theorem eL_law_884 : decode code 884 = .ok (.ireturn, 1) := by decide +kernel
theorem eL_law_885 : decode code 885 = .ok (.aload_n 1, 1) := by decide +kernel
theorem eL_law_886 : decode code 886 = .ok (.invokevirtual 115, 3) := by decide +kernel
theorem eL_law_889 : decode code 889 = .ok (.aload_n 2, 1) := by decide +kernel
theorem eL_law_890 : decode code 890 = .ok (.invokevirtual 118, 3) := by decide +kernel
theorem eL_law_893 : decode code 893 = .ok (.if_icmp .eq 579, 3) := by decide +kernel
theorem eL_law_896 : decode code 896 = .ok (.iconst 0, 1) := by decide +kernel
theorem eL_law_897 : decode code 897 = .ok (.ireturn, 1) := by decide +kernel
theorem eL_law_898 : decode code 898 = .ok (.aload_n 1, 1) := by decide +kernel
theorem eL_law_899 : decode code 899 = .ok (.aload_n 0, 1) := by decide +kernel
theorem eL_law_900 : decode code 900 = .ok (.iload_n 3, 1) := by decide +kernel
theorem eL_law_901 : decode code 901 = .ok (.iconst 1, 1) := by decide +kernel
theorem eL_law_902 : decode code 902 = .ok (.iadd, 1) := by decide +kernel
theorem eL_law_903 : decode code 903 = .ok (.iaload, 1) := by decide +kernel
theorem eL_law_904 : decode code 904 = .ok (.aload_n 0, 1) := by decide +kernel
theorem eL_law_905 : decode code 905 = .ok (.iload_n 3, 1) := by decide +kernel
theorem eL_law_906 : decode code 906 = .ok (.iconst 2, 1) := by decide +kernel
theorem eL_law_907 : decode code 907 = .ok (.iadd, 1) := by decide +kernel
theorem eL_law_908 : decode code 908 = .ok (.iaload, 1) := by decide +kernel
theorem eL_law_909 : decode code 909 = .ok (.aload_n 0, 1) := by decide +kernel
theorem eL_law_910 : decode code 910 = .ok (.iload_n 3, 1) := by decide +kernel
theorem eL_law_911 : decode code 911 = .ok (.iconst 3, 1) := by decide +kernel
theorem eL_law_912 : decode code 912 = .ok (.iadd, 1) := by decide +kernel
theorem eL_law_913 : decode code 913 = .ok (.iaload, 1) := by decide +kernel
theorem eL_law_914 : decode code 914 = .ok (.invokevirtual 119, 3) := by decide +kernel
theorem eL_law_917 : decode code 917 = .ok (.aload_n 2, 1) := by decide +kernel
theorem eL_law_918 : decode code 918 = .ok (.aload_n 0, 1) := by decide +kernel
theorem eL_law_919 : decode code 919 = .ok (.iload_n 3, 1) := by decide +kernel
theorem eL_law_920 : decode code 920 = .ok (.iconst 1, 1) := by decide +kernel
theorem eL_law_921 : decode code 921 = .ok (.iadd, 1) := by decide +kernel
theorem eL_law_922 : decode code 922 = .ok (.iaload, 1) := by decide +kernel
theorem eL_law_923 : decode code 923 = .ok (.aload_n 0, 1) := by decide +kernel
theorem eL_law_924 : decode code 924 = .ok (.iload_n 3, 1) := by decide +kernel
theorem eL_law_925 : decode code 925 = .ok (.iconst 2, 1) := by decide +kernel
theorem eL_law_926 : decode code 926 = .ok (.iadd, 1) := by decide +kernel
theorem eL_law_927 : decode code 927 = .ok (.iaload, 1) := by decide +kernel
theorem eL_law_928 : decode code 928 = .ok (.aload_n 0, 1) := by decide +kernel
theorem eL_law_929 : decode code 929 = .ok (.iload_n 3, 1) := by decide +kernel
theorem eL_law_930 : decode code 930 = .ok (.iconst 3, 1) := by decide +kernel
theorem eL_law_931 : decode code 931 = .ok (.iadd, 1) := by decide +kernel
theorem eL_law_932 : decode code 932 = .ok (.iaload, 1) := by decide +kernel
theorem eL_law_933 : decode code 933 = .ok (.invokevirtual 122, 3) := by decide +kernel
theorem eL_law_936 : decode code 936 = .ok (.if_icmp .eq 536, 3) := by decide +kernel
theorem eL_law_939 : decode code 939 = .ok (.iconst 0, 1) := by decide +kernel
theorem eL_law_940 : decode code 940 = .ok (.ireturn, 1) := by decide +kernel
theorem eL_law_941 : decode code 941 = .ok (.aload_n 1, 1) := by decide +kernel
theorem eL_law_942 : decode code 942 = .ok (.invokevirtual 123, 3) := by decide +kernel
theorem eL_law_945 : decode code 945 = .ok (.aload_n 2, 1) := by decide +kernel
theorem eL_law_946 : decode code 946 = .ok (.invokevirtual 126, 3) := by decide +kernel
theorem eL_law_949 : decode code 949 = .ok (.if_icmp .eq 523, 3) := by decide +kernel
theorem eL_law_952 : decode code 952 = .ok (.iconst 0, 1) := by decide +kernel
theorem eL_law_953 : decode code 953 = .ok (.ireturn, 1) := by decide +kernel
theorem eL_law_954 : decode code 954 = .ok (.aload_n 1, 1) := by decide +kernel
theorem eL_law_955 : decode code 955 = .ok (.aload_n 0, 1) := by decide +kernel
theorem eL_law_956 : decode code 956 = .ok (.iload_n 3, 1) := by decide +kernel
theorem eL_law_957 : decode code 957 = .ok (.iconst 1, 1) := by decide +kernel
theorem eL_law_958 : decode code 958 = .ok (.iadd, 1) := by decide +kernel
theorem eL_law_959 : decode code 959 = .ok (.iaload, 1) := by decide +kernel
theorem eL_law_960 : decode code 960 = .ok (.invokevirtual 127, 3) := by decide +kernel
theorem eL_law_963 : decode code 963 = .ok (.aload_n 2, 1) := by decide +kernel
theorem eL_law_964 : decode code 964 = .ok (.aload_n 0, 1) := by decide +kernel
theorem eL_law_965 : decode code 965 = .ok (.iload_n 3, 1) := by decide +kernel
theorem eL_law_966 : decode code 966 = .ok (.iconst 1, 1) := by decide +kernel
theorem eL_law_967 : decode code 967 = .ok (.iadd, 1) := by decide +kernel
theorem eL_law_968 : decode code 968 = .ok (.iaload, 1) := by decide +kernel
theorem eL_law_969 : decode code 969 = .ok (.invokevirtual 130, 3) := by decide +kernel
theorem eL_law_972 : decode code 972 = .ok (.if_icmp .eq 500, 3) := by decide +kernel
theorem eL_law_975 : decode code 975 = .ok (.iconst 0, 1) := by decide +kernel
theorem eL_law_976 : decode code 976 = .ok (.ireturn, 1) := by decide +kernel
theorem eL_law_977 : decode code 977 = .ok (.aload_n 1, 1) := by decide +kernel
theorem eL_law_978 : decode code 978 = .ok (.invokevirtual 131, 3) := by decide +kernel
theorem eL_law_981 : decode code 981 = .ok (.aload_n 2, 1) := by decide +kernel
theorem eL_law_982 : decode code 982 = .ok (.invokevirtual 134, 3) := by decide +kernel
theorem eL_law_985 : decode code 985 = .ok (.if_icmp .eq 487, 3) := by decide +kernel
theorem eL_law_988 : decode code 988 = .ok (.iconst 0, 1) := by decide +kernel
theorem eL_law_989 : decode code 989 = .ok (.ireturn, 1) := by decide +kernel
theorem eL_law_990 : decode code 990 = .ok (.aload_n 1, 1) := by decide +kernel
theorem eL_law_991 : decode code 991 = .ok (.aload_n 0, 1) := by decide +kernel
theorem eL_law_992 : decode code 992 = .ok (.iload_n 3, 1) := by decide +kernel
theorem eL_law_993 : decode code 993 = .ok (.iconst 1, 1) := by decide +kernel
theorem eL_law_994 : decode code 994 = .ok (.iadd, 1) := by decide +kernel
theorem eL_law_995 : decode code 995 = .ok (.iaload, 1) := by decide +kernel
theorem eL_law_996 : decode code 996 = .ok (.aload_n 0, 1) := by decide +kernel
theorem eL_law_997 : decode code 997 = .ok (.iload_n 3, 1) := by decide +kernel
theorem eL_law_998 : decode code 998 = .ok (.iconst 2, 1) := by decide +kernel
theorem eL_law_999 : decode code 999 = .ok (.iadd, 1) := by decide +kernel
theorem eL_law_1000 : decode code 1000 = .ok (.iaload, 1) := by decide +kernel
theorem eL_law_1001 : decode code 1001 = .ok (.invokevirtual 135, 3) := by decide +kernel
theorem eL_law_1004 : decode code 1004 = .ok (.aload_n 2, 1) := by decide +kernel
theorem eL_law_1005 : decode code 1005 = .ok (.aload_n 0, 1) := by decide +kernel
theorem eL_law_1006 : decode code 1006 = .ok (.iload_n 3, 1) := by decide +kernel
theorem eL_law_1007 : decode code 1007 = .ok (.iconst 1, 1) := by decide +kernel
theorem eL_law_1008 : decode code 1008 = .ok (.iadd, 1) := by decide +kernel
theorem eL_law_1009 : decode code 1009 = .ok (.iaload, 1) := by decide +kernel
theorem eL_law_1010 : decode code 1010 = .ok (.aload_n 0, 1) := by decide +kernel
theorem eL_law_1011 : decode code 1011 = .ok (.iload_n 3, 1) := by decide +kernel
theorem eL_law_1012 : decode code 1012 = .ok (.iconst 2, 1) := by decide +kernel
theorem eL_law_1013 : decode code 1013 = .ok (.iadd, 1) := by decide +kernel
theorem eL_law_1014 : decode code 1014 = .ok (.iaload, 1) := by decide +kernel
theorem eL_law_1015 : decode code 1015 = .ok (.invokevirtual 138, 3) := by decide +kernel
theorem eL_law_1018 : decode code 1018 = .ok (.if_icmp .eq 454, 3) := by decide +kernel
theorem eL_law_1021 : decode code 1021 = .ok (.iconst 0, 1) := by decide +kernel
theorem eL_law_1022 : decode code 1022 = .ok (.ireturn, 1) := by decide +kernel
theorem eL_law_1023 : decode code 1023 = .ok (.aload_n 1, 1) := by decide +kernel
theorem eL_law_1024 : decode code 1024 = .ok (.aload_n 0, 1) := by decide +kernel
theorem eL_law_1025 : decode code 1025 = .ok (.iload_n 3, 1) := by decide +kernel
theorem eL_law_1026 : decode code 1026 = .ok (.iconst 1, 1) := by decide +kernel
theorem eL_law_1027 : decode code 1027 = .ok (.iadd, 1) := by decide +kernel
theorem eL_law_1028 : decode code 1028 = .ok (.iaload, 1) := by decide +kernel
theorem eL_law_1029 : decode code 1029 = .ok (.invokevirtual 139, 3) := by decide +kernel
theorem eL_law_1032 : decode code 1032 = .ok (.aload_n 2, 1) := by decide +kernel
theorem eL_law_1033 : decode code 1033 = .ok (.aload_n 0, 1) := by decide +kernel
theorem eL_law_1034 : decode code 1034 = .ok (.iload_n 3, 1) := by decide +kernel
theorem eL_law_1035 : decode code 1035 = .ok (.iconst 1, 1) := by decide +kernel
theorem eL_law_1036 : decode code 1036 = .ok (.iadd, 1) := by decide +kernel
theorem eL_law_1037 : decode code 1037 = .ok (.iaload, 1) := by decide +kernel
theorem eL_law_1038 : decode code 1038 = .ok (.invokevirtual 142, 3) := by decide +kernel
theorem eL_law_1041 : decode code 1041 = .ok (.if_icmp .eq 431, 3) := by decide +kernel
theorem eL_law_1044 : decode code 1044 = .ok (.iconst 0, 1) := by decide +kernel
theorem eL_law_1045 : decode code 1045 = .ok (.ireturn, 1) := by decide +kernel
theorem eL_law_1046 : decode code 1046 = .ok (.aload_n 1, 1) := by decide +kernel
theorem eL_law_1047 : decode code 1047 = .ok (.invokevirtual 143, 3) := by decide +kernel
theorem eL_law_1050 : decode code 1050 = .ok (.aload_n 2, 1) := by decide +kernel
theorem eL_law_1051 : decode code 1051 = .ok (.invokevirtual 146, 3) := by decide +kernel
theorem eL_law_1054 : decode code 1054 = .ok (.if_icmp .eq 418, 3) := by decide +kernel
theorem eL_law_1057 : decode code 1057 = .ok (.iconst 0, 1) := by decide +kernel
theorem eL_law_1058 : decode code 1058 = .ok (.ireturn, 1) := by decide +kernel
theorem eL_law_1059 : decode code 1059 = .ok (.aload_n 1, 1) := by decide +kernel
theorem eL_law_1060 : decode code 1060 = .ok (.invokevirtual 147, 3) := by decide +kernel
theorem eL_law_1063 : decode code 1063 = .ok (.aload_n 2, 1) := by decide +kernel
theorem eL_law_1064 : decode code 1064 = .ok (.invokevirtual 150, 3) := by decide +kernel
theorem eL_law_1067 : decode code 1067 = .ok (.if_icmp .eq 405, 3) := by decide +kernel
theorem eL_law_1070 : decode code 1070 = .ok (.iconst 0, 1) := by decide +kernel
theorem eL_law_1071 : decode code 1071 = .ok (.ireturn, 1) := by decide +kernel
theorem eL_law_1072 : decode code 1072 = .ok (.aload_n 1, 1) := by decide +kernel
theorem eL_law_1073 : decode code 1073 = .ok (.invokevirtual 151, 3) := by decide +kernel
theorem eL_law_1076 : decode code 1076 = .ok (.aload_n 2, 1) := by decide +kernel
theorem eL_law_1077 : decode code 1077 = .ok (.invokevirtual 154, 3) := by decide +kernel
theorem eL_law_1080 : decode code 1080 = .ok (.if_icmp .eq 392, 3) := by decide +kernel
theorem eL_law_1083 : decode code 1083 = .ok (.iconst 0, 1) := by decide +kernel
theorem eL_law_1084 : decode code 1084 = .ok (.ireturn, 1) := by decide +kernel
theorem eL_law_1085 : decode code 1085 = .ok (.aload_n 1, 1) := by decide +kernel
theorem eL_law_1086 : decode code 1086 = .ok (.invokevirtual 155, 3) := by decide +kernel
theorem eL_law_1089 : decode code 1089 = .ok (.aload_n 2, 1) := by decide +kernel
theorem eL_law_1090 : decode code 1090 = .ok (.invokevirtual 158, 3) := by decide +kernel
theorem eL_law_1093 : decode code 1093 = .ok (.if_icmp .eq 379, 3) := by decide +kernel
theorem eL_law_1096 : decode code 1096 = .ok (.iconst 0, 1) := by decide +kernel
theorem eL_law_1097 : decode code 1097 = .ok (.ireturn, 1) := by decide +kernel
theorem eL_law_1098 : decode code 1098 = .ok (.aload_n 1, 1) := by decide +kernel
theorem eL_law_1099 : decode code 1099 = .ok (.aload_n 0, 1) := by decide +kernel
theorem eL_law_1100 : decode code 1100 = .ok (.iload_n 3, 1) := by decide +kernel
theorem eL_law_1101 : decode code 1101 = .ok (.iconst 1, 1) := by decide +kernel
theorem eL_law_1102 : decode code 1102 = .ok (.iadd, 1) := by decide +kernel
theorem eL_law_1103 : decode code 1103 = .ok (.iaload, 1) := by decide +kernel
theorem eL_law_1104 : decode code 1104 = .ok (.aload_n 0, 1) := by decide +kernel
theorem eL_law_1105 : decode code 1105 = .ok (.iload_n 3, 1) := by decide +kernel
theorem eL_law_1106 : decode code 1106 = .ok (.iconst 2, 1) := by decide +kernel
theorem eL_law_1107 : decode code 1107 = .ok (.iadd, 1) := by decide +kernel
theorem eL_law_1108 : decode code 1108 = .ok (.iaload, 1) := by decide +kernel
theorem eL_law_1109 : decode code 1109 = .ok (.aload_n 0, 1) := by decide +kernel
theorem eL_law_1110 : decode code 1110 = .ok (.iload_n 3, 1) := by decide +kernel
theorem eL_law_1111 : decode code 1111 = .ok (.iconst 3, 1) := by decide +kernel
theorem eL_law_1112 : decode code 1112 = .ok (.iadd, 1) := by decide +kernel
theorem eL_law_1113 : decode code 1113 = .ok (.iaload, 1) := by decide +kernel
theorem eL_law_1114 : decode code 1114 = .ok (.invokevirtual 159, 3) := by decide +kernel
theorem eL_law_1117 : decode code 1117 = .ok (.aload_n 2, 1) := by decide +kernel
theorem eL_law_1118 : decode code 1118 = .ok (.aload_n 0, 1) := by decide +kernel
theorem eL_law_1119 : decode code 1119 = .ok (.iload_n 3, 1) := by decide +kernel
theorem eL_law_1120 : decode code 1120 = .ok (.iconst 1, 1) := by decide +kernel
theorem eL_law_1121 : decode code 1121 = .ok (.iadd, 1) := by decide +kernel
theorem eL_law_1122 : decode code 1122 = .ok (.iaload, 1) := by decide +kernel
theorem eL_law_1123 : decode code 1123 = .ok (.aload_n 0, 1) := by decide +kernel
theorem eL_law_1124 : decode code 1124 = .ok (.iload_n 3, 1) := by decide +kernel
theorem eL_law_1125 : decode code 1125 = .ok (.iconst 2, 1) := by decide +kernel
theorem eL_law_1126 : decode code 1126 = .ok (.iadd, 1) := by decide +kernel
theorem eL_law_1127 : decode code 1127 = .ok (.iaload, 1) := by decide +kernel
theorem eL_law_1128 : decode code 1128 = .ok (.aload_n 0, 1) := by decide +kernel
theorem eL_law_1129 : decode code 1129 = .ok (.iload_n 3, 1) := by decide +kernel
theorem eL_law_1130 : decode code 1130 = .ok (.iconst 3, 1) := by decide +kernel
theorem eL_law_1131 : decode code 1131 = .ok (.iadd, 1) := by decide +kernel
theorem eL_law_1132 : decode code 1132 = .ok (.iaload, 1) := by decide +kernel
theorem eL_law_1133 : decode code 1133 = .ok (.invokevirtual 162, 3) := by decide +kernel
theorem eL_law_1136 : decode code 1136 = .ok (.if_icmp .eq 336, 3) := by decide +kernel
theorem eL_law_1139 : decode code 1139 = .ok (.iconst 0, 1) := by decide +kernel
theorem eL_law_1140 : decode code 1140 = .ok (.ireturn, 1) := by decide +kernel
theorem eL_law_1141 : decode code 1141 = .ok (.aload_n 1, 1) := by decide +kernel
theorem eL_law_1142 : decode code 1142 = .ok (.aload_n 0, 1) := by decide +kernel
theorem eL_law_1143 : decode code 1143 = .ok (.iload_n 3, 1) := by decide +kernel
theorem eL_law_1144 : decode code 1144 = .ok (.iconst 1, 1) := by decide +kernel
theorem eL_law_1145 : decode code 1145 = .ok (.iadd, 1) := by decide +kernel
theorem eL_law_1146 : decode code 1146 = .ok (.iaload, 1) := by decide +kernel
theorem eL_law_1147 : decode code 1147 = .ok (.invokevirtual 163, 3) := by decide +kernel
theorem eL_law_1150 : decode code 1150 = .ok (.aload_n 2, 1) := by decide +kernel
theorem eL_law_1151 : decode code 1151 = .ok (.aload_n 0, 1) := by decide +kernel
theorem eL_law_1152 : decode code 1152 = .ok (.iload_n 3, 1) := by decide +kernel
theorem eL_law_1153 : decode code 1153 = .ok (.iconst 1, 1) := by decide +kernel
theorem eL_law_1154 : decode code 1154 = .ok (.iadd, 1) := by decide +kernel
theorem eL_law_1155 : decode code 1155 = .ok (.iaload, 1) := by decide +kernel
theorem eL_law_1156 : decode code 1156 = .ok (.invokevirtual 166, 3) := by decide +kernel
theorem eL_law_1159 : decode code 1159 = .ok (.if_icmp .eq 313, 3) := by decide +kernel
theorem eL_law_1162 : decode code 1162 = .ok (.iconst 0, 1) := by decide +kernel
theorem eL_law_1163 : decode code 1163 = .ok (.ireturn, 1) := by decide +kernel
theorem eL_law_1164 : decode code 1164 = .ok (.aload_n 1, 1) := by decide +kernel
theorem eL_law_1165 : decode code 1165 = .ok (.aload_n 0, 1) := by decide +kernel
theorem eL_law_1166 : decode code 1166 = .ok (.iload_n 3, 1) := by decide +kernel
theorem eL_law_1167 : decode code 1167 = .ok (.iconst 1, 1) := by decide +kernel
theorem eL_law_1168 : decode code 1168 = .ok (.iadd, 1) := by decide +kernel
theorem eL_law_1169 : decode code 1169 = .ok (.iaload, 1) := by decide +kernel
theorem eL_law_1170 : decode code 1170 = .ok (.invokevirtual 167, 3) := by decide +kernel
theorem eL_law_1173 : decode code 1173 = .ok (.aload_n 2, 1) := by decide +kernel
theorem eL_law_1174 : decode code 1174 = .ok (.aload_n 0, 1) := by decide +kernel
theorem eL_law_1175 : decode code 1175 = .ok (.iload_n 3, 1) := by decide +kernel
theorem eL_law_1176 : decode code 1176 = .ok (.iconst 1, 1) := by decide +kernel
theorem eL_law_1177 : decode code 1177 = .ok (.iadd, 1) := by decide +kernel
theorem eL_law_1178 : decode code 1178 = .ok (.iaload, 1) := by decide +kernel
theorem eL_law_1179 : decode code 1179 = .ok (.invokevirtual 170, 3) := by decide +kernel
theorem eL_law_1182 : decode code 1182 = .ok (.if_icmp .eq 290, 3) := by decide +kernel
theorem eL_law_1185 : decode code 1185 = .ok (.iconst 0, 1) := by decide +kernel
theorem eL_law_1186 : decode code 1186 = .ok (.ireturn, 1) := by decide +kernel
theorem eL_law_1187 : decode code 1187 = .ok (.aload_n 1, 1) := by decide +kernel
theorem eL_law_1188 : decode code 1188 = .ok (.aload_n 0, 1) := by decide +kernel
theorem eL_law_1189 : decode code 1189 = .ok (.iload_n 3, 1) := by decide +kernel
theorem eL_law_1190 : decode code 1190 = .ok (.iconst 1, 1) := by decide +kernel
theorem eL_law_1191 : decode code 1191 = .ok (.iadd, 1) := by decide +kernel
theorem eL_law_1192 : decode code 1192 = .ok (.iaload, 1) := by decide +kernel
theorem eL_law_1193 : decode code 1193 = .ok (.aload_n 0, 1) := by decide +kernel
theorem eL_law_1194 : decode code 1194 = .ok (.iload_n 3, 1) := by decide +kernel
theorem eL_law_1195 : decode code 1195 = .ok (.iconst 2, 1) := by decide +kernel
theorem eL_law_1196 : decode code 1196 = .ok (.iadd, 1) := by decide +kernel
theorem eL_law_1197 : decode code 1197 = .ok (.iaload, 1) := by decide +kernel
theorem eL_law_1198 : decode code 1198 = .ok (.invokevirtual 171, 3) := by decide +kernel
theorem eL_law_1201 : decode code 1201 = .ok (.aload_n 2, 1) := by decide +kernel
theorem eL_law_1202 : decode code 1202 = .ok (.aload_n 0, 1) := by decide +kernel
theorem eL_law_1203 : decode code 1203 = .ok (.iload_n 3, 1) := by decide +kernel
theorem eL_law_1204 : decode code 1204 = .ok (.iconst 1, 1) := by decide +kernel
theorem eL_law_1205 : decode code 1205 = .ok (.iadd, 1) := by decide +kernel
theorem eL_law_1206 : decode code 1206 = .ok (.iaload, 1) := by decide +kernel
theorem eL_law_1207 : decode code 1207 = .ok (.aload_n 0, 1) := by decide +kernel
theorem eL_law_1208 : decode code 1208 = .ok (.iload_n 3, 1) := by decide +kernel
theorem eL_law_1209 : decode code 1209 = .ok (.iconst 2, 1) := by decide +kernel
theorem eL_law_1210 : decode code 1210 = .ok (.iadd, 1) := by decide +kernel
theorem eL_law_1211 : decode code 1211 = .ok (.iaload, 1) := by decide +kernel
theorem eL_law_1212 : decode code 1212 = .ok (.invokevirtual 174, 3) := by decide +kernel
theorem eL_law_1215 : decode code 1215 = .ok (.if_icmp .eq 257, 3) := by decide +kernel
theorem eL_law_1218 : decode code 1218 = .ok (.iconst 0, 1) := by decide +kernel
theorem eL_law_1219 : decode code 1219 = .ok (.ireturn, 1) := by decide +kernel
theorem eL_law_1220 : decode code 1220 = .ok (.aload_n 1, 1) := by decide +kernel
theorem eL_law_1221 : decode code 1221 = .ok (.aload_n 0, 1) := by decide +kernel
theorem eL_law_1222 : decode code 1222 = .ok (.iload_n 3, 1) := by decide +kernel
theorem eL_law_1223 : decode code 1223 = .ok (.iconst 1, 1) := by decide +kernel
theorem eL_law_1224 : decode code 1224 = .ok (.iadd, 1) := by decide +kernel
theorem eL_law_1225 : decode code 1225 = .ok (.iaload, 1) := by decide +kernel
theorem eL_law_1226 : decode code 1226 = .ok (.aload_n 0, 1) := by decide +kernel
theorem eL_law_1227 : decode code 1227 = .ok (.iload_n 3, 1) := by decide +kernel
theorem eL_law_1228 : decode code 1228 = .ok (.iconst 2, 1) := by decide +kernel
theorem eL_law_1229 : decode code 1229 = .ok (.iadd, 1) := by decide +kernel
theorem eL_law_1230 : decode code 1230 = .ok (.iaload, 1) := by decide +kernel
theorem eL_law_1231 : decode code 1231 = .ok (.invokevirtual 175, 3) := by decide +kernel
theorem eL_law_1234 : decode code 1234 = .ok (.aload_n 2, 1) := by decide +kernel
theorem eL_law_1235 : decode code 1235 = .ok (.aload_n 0, 1) := by decide +kernel
theorem eL_law_1236 : decode code 1236 = .ok (.iload_n 3, 1) := by decide +kernel
theorem eL_law_1237 : decode code 1237 = .ok (.iconst 1, 1) := by decide +kernel
theorem eL_law_1238 : decode code 1238 = .ok (.iadd, 1) := by decide +kernel
theorem eL_law_1239 : decode code 1239 = .ok (.iaload, 1) := by decide +kernel
theorem eL_law_1240 : decode code 1240 = .ok (.aload_n 0, 1) := by decide +kernel
theorem eL_law_1241 : decode code 1241 = .ok (.iload_n 3, 1) := by decide +kernel
theorem eL_law_1242 : decode code 1242 = .ok (.iconst 2, 1) := by decide +kernel
theorem eL_law_1243 : decode code 1243 = .ok (.iadd, 1) := by decide +kernel
theorem eL_law_1244 : decode code 1244 = .ok (.iaload, 1) := by decide +kernel
theorem eL_law_1245 : decode code 1245 = .ok (.invokevirtual 178, 3) := by decide +kernel
theorem eL_law_1248 : decode code 1248 = .ok (.if_icmp .eq 224, 3) := by decide +kernel
theorem eL_law_1251 : decode code 1251 = .ok (.iconst 0, 1) := by decide +kernel
theorem eL_law_1252 : decode code 1252 = .ok (.ireturn, 1) := by decide +kernel
theorem eL_law_1253 : decode code 1253 = .ok (.aload_n 1, 1) := by decide +kernel
theorem eL_law_1254 : decode code 1254 = .ok (.aload_n 0, 1) := by decide +kernel
theorem eL_law_1255 : decode code 1255 = .ok (.iload_n 3, 1) := by decide +kernel
theorem eL_law_1256 : decode code 1256 = .ok (.iconst 1, 1) := by decide +kernel
theorem eL_law_1257 : decode code 1257 = .ok (.iadd, 1) := by decide +kernel
theorem eL_law_1258 : decode code 1258 = .ok (.iaload, 1) := by decide +kernel
theorem eL_law_1259 : decode code 1259 = .ok (.aload_n 0, 1) := by decide +kernel
theorem eL_law_1260 : decode code 1260 = .ok (.iload_n 3, 1) := by decide +kernel
theorem eL_law_1261 : decode code 1261 = .ok (.iconst 2, 1) := by decide +kernel
theorem eL_law_1262 : decode code 1262 = .ok (.iadd, 1) := by decide +kernel
theorem eL_law_1263 : decode code 1263 = .ok (.iaload, 1) := by decide +kernel
theorem eL_law_1264 : decode code 1264 = .ok (.aload_n 0, 1) := by decide +kernel
theorem eL_law_1265 : decode code 1265 = .ok (.iload_n 3, 1) := by decide +kernel
theorem eL_law_1266 : decode code 1266 = .ok (.iconst 3, 1) := by decide +kernel
theorem eL_law_1267 : decode code 1267 = .ok (.iadd, 1) := by decide +kernel
theorem eL_law_1268 : decode code 1268 = .ok (.iaload, 1) := by decide +kernel
theorem eL_law_1269 : decode code 1269 = .ok (.invokevirtual 179, 3) := by decide +kernel
theorem eL_law_1272 : decode code 1272 = .ok (.aload_n 2, 1) := by decide +kernel
theorem eL_law_1273 : decode code 1273 = .ok (.aload_n 0, 1) := by decide +kernel
