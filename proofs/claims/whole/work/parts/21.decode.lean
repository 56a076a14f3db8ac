theorem eX0_init_0 : decode (mB MX0_init) 0 = .ok (.aload_n 0, 1) := by decide +kernel
theorem eX0_init_1 : decode (mB MX0_init) 1 = .ok (.invokespecial 3, 3) := by decide +kernel
theorem eX0_init_4 : decode (mB MX0_init) 4 = .ok (.aload_n 0, 1) := by decide +kernel
theorem eX0_init_5 : decode (mB MX0_init) 5 = .ok (.bipush 40, 2) := by decide +kernel
theorem eX0_init_7 : decode (mB MX0_init) 7 = .ok (.newarray .int, 2) := by decide +kernel
theorem eX0_init_9 : decode (mB MX0_init) 9 = .ok (.putfield 9, 3) := by decide +kernel
theorem eX0_init_12 : decode (mB MX0_init) 12 = .ok (.aload_n 0, 1) := by decide +kernel
theorem eX0_init_13 : decode (mB MX0_init) 13 = .ok (.bipush 40, 2) := by decide +kernel
theorem eX0_init_15 : decode (mB MX0_init) 15 = .ok (.newarray .int, 2) := by decide +kernel
theorem eX0_init_17 : decode (mB MX0_init) 17 = .ok (.putfield 15, 3) := by decide +kernel
theorem eX0_init_20 : decode (mB MX0_init) 20 = .ok (.aload_n 0, 1) := by decide +kernel
theorem eX0_init_21 : decode (mB MX0_init) 21 = .ok (.bipush 40, 2) := by decide +kernel
theorem eX0_init_23 : decode (mB MX0_init) 23 = .ok (.newarray .int, 2) := by decide +kernel
theorem eX0_init_25 : decode (mB MX0_init) 25 = .ok (.putfield 18, 3) := by decide +kernel
theorem eX0_init_28 : decode (mB MX0_init) 28 = .ok (.aload_n 0, 1) := by decide +kernel
theorem eX0_init_29 : decode (mB MX0_init) 29 = .ok (.iconst 0, 1) := by decide +kernel
theorem eX0_init_30 : decode (mB MX0_init) 30 = .ok (.newarray .long, 2) := by decide +kernel
theorem eX0_init_32 : decode (mB MX0_init) 32 = .ok (.putfield 21, 3) := by decide +kernel
theorem eX0_init_35 : decode (mB MX0_init) 35 = .ok (.aload_n 0, 1) := by decide +kernel
theorem eX0_init_36 : decode (mB MX0_init) 36 = .ok (.lconst 0, 1) := by decide +kernel
theorem eX0_init_37 : decode (mB MX0_init) 37 = .ok (.putfield 25, 3) := by decide +kernel
theorem eX0_init_40 : decode (mB MX0_init) 40 = .ok (.aload_n 0, 1) := by decide +kernel
theorem eX0_init_41 : decode (mB MX0_init) 41 = .ok (.bipush 40, 2) := by decide +kernel
theorem eX0_init_43 : decode (mB MX0_init) 43 = .ok (.newarray .int, 2) := by decide +kernel
theorem eX0_init_45 : decode (mB MX0_init) 45 = .ok (.putfield 29, 3) := by decide +kernel
theorem eX0_init_48 : decode (mB MX0_init) 48 = .ok (.return_, 1) := by decide +kernel
theorem eX0_lookAt_0 : decode (mB MX0_lookAt) 0 = .ok (.aload_n 0, 1) := by decide +kernel
theorem eX0_lookAt_1 : decode (mB MX0_lookAt) 1 = .ok (.getfield 32, 3) := by decide +kernel
theorem eX0_lookAt_4 : decode (mB MX0_lookAt) 4 = .ok (.aload_n 1, 1) := by decide +kernel
theorem eX0_lookAt_5 : decode (mB MX0_lookAt) 5 = .ok (.if_acmp .ne 12, 3) := by decide +kernel
theorem eX0_lookAt_8 : decode (mB MX0_lookAt) 8 = .ok (.aload_n 0, 1) := by decide +kernel
theorem eX0_lookAt_9 : decode (mB MX0_lookAt) 9 = .ok (.getfield 36, 3) := by decide +kernel
theorem eX0_lookAt_12 : decode (mB MX0_lookAt) 12 = .ok (.iload_n 2, 1) := by decide +kernel
theorem eX0_lookAt_13 : decode (mB MX0_lookAt) 13 = .ok (.if_icmp .ne 4, 3) := by decide +kernel
theorem eX0_lookAt_16 : decode (mB MX0_lookAt) 16 = .ok (.return_, 1) := by decide +kernel
theorem eX0_lookAt_17 : decode (mB MX0_lookAt) 17 = .ok (.aload_n 0, 1) := by decide +kernel
theorem eX0_lookAt_18 : decode (mB MX0_lookAt) 18 = .ok (.aload_n 1, 1) := by decide +kernel
theorem eX0_lookAt_19 : decode (mB MX0_lookAt) 19 = .ok (.putfield 32, 3) := by decide +kernel
theorem eX0_lookAt_22 : decode (mB MX0_lookAt) 22 = .ok (.aload_n 0, 1) := by decide +kernel
theorem eX0_lookAt_23 : decode (mB MX0_lookAt) 23 = .ok (.iload_n 2, 1) := by decide +kernel
theorem eX0_lookAt_24 : decode (mB MX0_lookAt) 24 = .ok (.putfield 36, 3) := by decide +kernel
theorem eX0_lookAt_27 : decode (mB MX0_lookAt) 27 = .ok (.aload_n 0, 1) := by decide +kernel
theorem eX0_lookAt_28 : decode (mB MX0_lookAt) 28 = .ok (.bipush 40, 2) := by decide +kernel
theorem eX0_lookAt_30 : decode (mB MX0_lookAt) 30 = .ok (.aload_n 0, 1) := by decide +kernel
theorem eX0_lookAt_31 : decode (mB MX0_lookAt) 31 = .ok (.getfield 32, 3) := by decide +kernel
theorem eX0_lookAt_34 : decode (mB MX0_lookAt) 34 = .ok (.aload_n 0, 1) := by decide +kernel
theorem eX0_lookAt_35 : decode (mB MX0_lookAt) 35 = .ok (.getfield 36, 3) := by decide +kernel
theorem eX0_lookAt_38 : decode (mB MX0_lookAt) 38 = .ok (.invokevirtual 40, 3) := by decide +kernel
theorem eX0_lookAt_41 : decode (mB MX0_lookAt) 41 = .ok (.invokestatic 46, 3) := by decide +kernel
theorem eX0_lookAt_44 : decode (mB MX0_lookAt) 44 = .ok (.putfield 52, 3) := by decide +kernel
theorem eX0_lookAt_47 : decode (mB MX0_lookAt) 47 = .ok (.aload_n 0, 1) := by decide +kernel
theorem eX0_lookAt_48 : decode (mB MX0_lookAt) 48 = .ok (.iconst 0, 1) := by decide +kernel
theorem eX0_lookAt_49 : decode (mB MX0_lookAt) 49 = .ok (.putfield 55, 3) := by decide +kernel
theorem eX0_lookAt_52 : decode (mB MX0_lookAt) 52 = .ok (.aload_n 0, 1) := by decide +kernel
theorem eX0_lookAt_53 : decode (mB MX0_lookAt) 53 = .ok (.dup, 1) := by decide +kernel
theorem eX0_lookAt_54 : decode (mB MX0_lookAt) 54 = .ok (.getfield 25, 3) := by decide +kernel
theorem eX0_lookAt_57 : decode (mB MX0_lookAt) 57 = .ok (.lconst 1, 1) := by decide +kernel
theorem eX0_lookAt_58 : decode (mB MX0_lookAt) 58 = .ok (.ladd, 1) := by decide +kernel
theorem eX0_lookAt_59 : decode (mB MX0_lookAt) 59 = .ok (.putfield 25, 3) := by decide +kernel
theorem eX0_lookAt_62 : decode (mB MX0_lookAt) 62 = .ok (.iconst 0, 1) := by decide +kernel
theorem eX0_lookAt_63 : decode (mB MX0_lookAt) 63 = .ok (.istore_n 3, 1) := by decide +kernel
theorem eX0_lookAt_64 : decode (mB MX0_lookAt) 64 = .ok (.iload_n 3, 1) := by decide +kernel
theorem eX0_lookAt_65 : decode (mB MX0_lookAt) 65 = .ok (.aload_n 0, 1) := by decide +kernel
theorem eX0_lookAt_66 : decode (mB MX0_lookAt) 66 = .ok (.getfield 52, 3) := by decide +kernel
theorem eX0_lookAt_69 : decode (mB MX0_lookAt) 69 = .ok (.if_icmp .ge 101, 3) := by decide +kernel
theorem eX0_lookAt_72 : decode (mB MX0_lookAt) 72 = .ok (.aload_n 0, 1) := by decide +kernel
theorem eX0_lookAt_73 : decode (mB MX0_lookAt) 73 = .ok (.getfield 32, 3) := by decide +kernel
theorem eX0_lookAt_76 : decode (mB MX0_lookAt) 76 = .ok (.aload_n 0, 1) := by decide +kernel
theorem eX0_lookAt_77 : decode (mB MX0_lookAt) 77 = .ok (.getfield 36, 3) := by decide +kernel
theorem eX0_lookAt_80 : decode (mB MX0_lookAt) 80 = .ok (.iload_n 3, 1) := by decide +kernel
theorem eX0_lookAt_81 : decode (mB MX0_lookAt) 81 = .ok (.invokevirtual 58, 3) := by decide +kernel
theorem eX0_lookAt_84 : decode (mB MX0_lookAt) 84 = .ok (.istore 4, 2) := by decide +kernel
theorem eX0_lookAt_86 : decode (mB MX0_lookAt) 86 = .ok (.iload 4, 2) := by decide +kernel
theorem eX0_lookAt_88 : decode (mB MX0_lookAt) 88 = .ok (.ifCond .lt 76, 3) := by decide +kernel
theorem eX0_lookAt_91 : decode (mB MX0_lookAt) 91 = .ok (.aload_n 0, 1) := by decide +kernel
theorem eX0_lookAt_92 : decode (mB MX0_lookAt) 92 = .ok (.getfield 9, 3) := by decide +kernel
theorem eX0_lookAt_95 : decode (mB MX0_lookAt) 95 = .ok (.iload_n 3, 1) := by decide +kernel
theorem eX0_lookAt_96 : decode (mB MX0_lookAt) 96 = .ok (.aload_n 0, 1) := by decide +kernel
theorem eX0_lookAt_97 : decode (mB MX0_lookAt) 97 = .ok (.getfield 32, 3) := by decide +kernel
theorem eX0_lookAt_100 : decode (mB MX0_lookAt) 100 = .ok (.getfield 61, 3) := by decide +kernel
theorem eX0_lookAt_103 : decode (mB MX0_lookAt) 103 = .ok (.iload 4, 2) := by decide +kernel
theorem eX0_lookAt_105 : decode (mB MX0_lookAt) 105 = .ok (.iaload, 1) := by decide +kernel
theorem eX0_lookAt_106 : decode (mB MX0_lookAt) 106 = .ok (.iastore, 1) := by decide +kernel
theorem eX0_lookAt_107 : decode (mB MX0_lookAt) 107 = .ok (.aload_n 0, 1) := by decide +kernel
theorem eX0_lookAt_108 : decode (mB MX0_lookAt) 108 = .ok (.getfield 15, 3) := by decide +kernel
theorem eX0_lookAt_111 : decode (mB MX0_lookAt) 111 = .ok (.iload_n 3, 1) := by decide +kernel
theorem eX0_lookAt_112 : decode (mB MX0_lookAt) 112 = .ok (.aload_n 0, 1) := by decide +kernel
theorem eX0_lookAt_113 : decode (mB MX0_lookAt) 113 = .ok (.getfield 32, 3) := by decide +kernel
theorem eX0_lookAt_116 : decode (mB MX0_lookAt) 116 = .ok (.getfield 62, 3) := by decide +kernel
theorem eX0_lookAt_119 : decode (mB MX0_lookAt) 119 = .ok (.iload 4, 2) := by decide +kernel
theorem eX0_lookAt_121 : decode (mB MX0_lookAt) 121 = .ok (.iaload, 1) := by decide +kernel
theorem eX0_lookAt_122 : decode (mB MX0_lookAt) 122 = .ok (.iastore, 1) := by decide +kernel
theorem eX0_lookAt_123 : decode (mB MX0_lookAt) 123 = .ok (.aload_n 0, 1) := by decide +kernel
theorem eX0_lookAt_124 : decode (mB MX0_lookAt) 124 = .ok (.getfield 18, 3) := by decide +kernel
theorem eX0_lookAt_127 : decode (mB MX0_lookAt) 127 = .ok (.iload_n 3, 1) := by decide +kernel
theorem eX0_lookAt_128 : decode (mB MX0_lookAt) 128 = .ok (.aload_n 0, 1) := by decide +kernel
theorem eX0_lookAt_129 : decode (mB MX0_lookAt) 129 = .ok (.getfield 32, 3) := by decide +kernel
theorem eX0_lookAt_132 : decode (mB MX0_lookAt) 132 = .ok (.iload 4, 2) := by decide +kernel
theorem eX0_lookAt_134 : decode (mB MX0_lookAt) 134 = .ok (.aload_n 0, 1) := by decide +kernel
theorem eX0_lookAt_135 : decode (mB MX0_lookAt) 135 = .ok (.getfield 36, 3) := by decide +kernel
theorem eX0_lookAt_138 : decode (mB MX0_lookAt) 138 = .ok (.invokevirtual 65, 3) := by decide +kernel
theorem eX0_lookAt_141 : decode (mB MX0_lookAt) 141 = .ok (.iastore, 1) := by decide +kernel
theorem eX0_lookAt_142 : decode (mB MX0_lookAt) 142 = .ok (.aload_n 0, 1) := by decide +kernel
theorem eX0_lookAt_143 : decode (mB MX0_lookAt) 143 = .ok (.dup, 1) := by decide +kernel
theorem eX0_lookAt_144 : decode (mB MX0_lookAt) 144 = .ok (.getfield 55, 3) := by decide +kernel
theorem eX0_lookAt_147 : decode (mB MX0_lookAt) 147 = .ok (.aload_n 0, 1) := by decide +kernel
theorem eX0_lookAt_148 : decode (mB MX0_lookAt) 148 = .ok (.getfield 9, 3) := by decide +kernel
theorem eX0_lookAt_151 : decode (mB MX0_lookAt) 151 = .ok (.iload_n 3, 1) := by decide +kernel
theorem eX0_lookAt_152 : decode (mB MX0_lookAt) 152 = .ok (.iaload, 1) := by decide +kernel
theorem eX0_lookAt_153 : decode (mB MX0_lookAt) 153 = .ok (.aload_n 0, 1) := by decide +kernel
theorem eX0_lookAt_154 : decode (mB MX0_lookAt) 154 = .ok (.getfield 15, 3) := by decide +kernel
theorem eX0_lookAt_157 : decode (mB MX0_lookAt) 157 = .ok (.iload_n 3, 1) := by decide +kernel
theorem eX0_lookAt_158 : decode (mB MX0_lookAt) 158 = .ok (.iaload, 1) := by decide +kernel
theorem eX0_lookAt_159 : decode (mB MX0_lookAt) 159 = .ok (.ior, 1) := by decide +kernel
theorem eX0_lookAt_160 : decode (mB MX0_lookAt) 160 = .ok (.ior, 1) := by decide +kernel
theorem eX0_lookAt_161 : decode (mB MX0_lookAt) 161 = .ok (.putfield 55, 3) := by decide +kernel
theorem eX0_lookAt_164 : decode (mB MX0_lookAt) 164 = .ok (.iinc 3 1, 3) := by decide +kernel
theorem eX0_lookAt_167 : decode (mB MX0_lookAt) 167 = .ok (.goto (-103), 3) := by decide +kernel
theorem eX0_lookAt_170 : decode (mB MX0_lookAt) 170 = .ok (.return_, 1) := by decide +kernel
theorem eX0_solve_0 : decode (mB MX0_solve) 0 = .ok (.aload_n 0, 1) := by decide +kernel
theorem eX0_solve_1 : decode (mB MX0_solve) 1 = .ok (.aload_n 1, 1) := by decide +kernel
theorem eX0_solve_2 : decode (mB MX0_solve) 2 = .ok (.aload_n 2, 1) := by decide +kernel
theorem eX0_solve_3 : decode (mB MX0_solve) 3 = .ok (.getfield 68, 3) := by decide +kernel
theorem eX0_solve_6 : decode (mB MX0_solve) 6 = .ok (.invokevirtual 71, 3) := by decide +kernel
theorem eX0_solve_9 : decode (mB MX0_solve) 9 = .ok (.aload_n 0, 1) := by decide +kernel
theorem eX0_solve_10 : decode (mB MX0_solve) 10 = .ok (.getfield 32, 3) := by decide +kernel
theorem eX0_solve_13 : decode (mB MX0_solve) 13 = .ok (.aload_n 2, 1) := by decide +kernel
theorem eX0_solve_14 : decode (mB MX0_solve) 14 = .ok (.iconst 1, 1) := by decide +kernel
theorem eX0_solve_15 : decode (mB MX0_solve) 15 = .ok (.invokevirtual 75, 3) := by decide +kernel
theorem eX0_solve_18 : decode (mB MX0_solve) 18 = .ok (.istore 4, 2) := by decide +kernel
theorem eX0_solve_20 : decode (mB MX0_solve) 20 = .ok (.aload_n 0, 1) := by decide +kernel
theorem eX0_solve_21 : decode (mB MX0_solve) 21 = .ok (.getfield 32, 3) := by decide +kernel
theorem eX0_solve_24 : decode (mB MX0_solve) 24 = .ok (.aload_n 2, 1) := by decide +kernel
theorem eX0_solve_25 : decode (mB MX0_solve) 25 = .ok (.iconst 2, 1) := by decide +kernel
theorem eX0_solve_26 : decode (mB MX0_solve) 26 = .ok (.invokevirtual 75, 3) := by decide +kernel
theorem eX0_solve_29 : decode (mB MX0_solve) 29 = .ok (.istore 5, 2) := by decide +kernel
theorem eX0_solve_31 : decode (mB MX0_solve) 31 = .ok (.iload 4, 2) := by decide +kernel
theorem eX0_solve_33 : decode (mB MX0_solve) 33 = .ok (.aload_n 0, 1) := by decide +kernel
theorem eX0_solve_34 : decode (mB MX0_solve) 34 = .ok (.getfield 55, 3) := by decide +kernel
theorem eX0_solve_37 : decode (mB MX0_solve) 37 = .ok (.iconst (-1), 1) := by decide +kernel
theorem eX0_solve_38 : decode (mB MX0_solve) 38 = .ok (.ixor, 1) := by decide +kernel
theorem eX0_solve_39 : decode (mB MX0_solve) 39 = .ok (.iand, 1) := by decide +kernel
theorem eX0_solve_40 : decode (mB MX0_solve) 40 = .ok (.ifCond .eq 5, 3) := by decide +kernel
theorem eX0_solve_43 : decode (mB MX0_solve) 43 = .ok (.iconst 0, 1) := by decide +kernel
theorem eX0_solve_44 : decode (mB MX0_solve) 44 = .ok (.ireturn, 1) := by decide +kernel
theorem eX0_solve_45 : decode (mB MX0_solve) 45 = .ok (.aload_n 0, 1) := by decide +kernel
theorem eX0_solve_46 : decode (mB MX0_solve) 46 = .ok (.getfield 21, 3) := by decide +kernel
theorem eX0_solve_49 : decode (mB MX0_solve) 49 = .ok (.arraylength, 1) := by decide +kernel
theorem eX0_solve_50 : decode (mB MX0_solve) 50 = .ok (.ifCond .ne 12, 3) := by decide +kernel
theorem eX0_solve_53 : decode (mB MX0_solve) 53 = .ok (.aload_n 0, 1) := by decide +kernel
theorem eX0_solve_54 : decode (mB MX0_solve) 54 = .ok (.sipush 2048, 3) := by decide +kernel
theorem eX0_solve_57 : decode (mB MX0_solve) 57 = .ok (.newarray .long, 2) := by decide +kernel
theorem eX0_solve_59 : decode (mB MX0_solve) 59 = .ok (.putfield 21, 3) := by decide +kernel
theorem eX0_solve_62 : decode (mB MX0_solve) 62 = .ok (.aload_n 0, 1) := by decide +kernel
theorem eX0_solve_63 : decode (mB MX0_solve) 63 = .ok (.iconst 0, 1) := by decide +kernel
theorem eX0_solve_64 : decode (mB MX0_solve) 64 = .ok (.putfield 79, 3) := by decide +kernel
theorem eX0_solve_67 : decode (mB MX0_solve) 67 = .ok (.aload_n 0, 1) := by decide +kernel
theorem eX0_solve_68 : decode (mB MX0_solve) 68 = .ok (.iconst 0, 1) := by decide +kernel
theorem eX0_solve_69 : decode (mB MX0_solve) 69 = .ok (.putfield 82, 3) := by decide +kernel
theorem eX0_solve_72 : decode (mB MX0_solve) 72 = .ok (.iconst 0, 1) := by decide +kernel
theorem eX0_solve_73 : decode (mB MX0_solve) 73 = .ok (.istore 6, 2) := by decide +kernel
theorem eX0_solve_75 : decode (mB MX0_solve) 75 = .ok (.iload 6, 2) := by decide +kernel
theorem eX0_solve_77 : decode (mB MX0_solve) 77 = .ok (.aload_n 0, 1) := by decide +kernel
theorem eX0_solve_78 : decode (mB MX0_solve) 78 = .ok (.getfield 52, 3) := by decide +kernel
theorem eX0_solve_81 : decode (mB MX0_solve) 81 = .ok (.if_icmp .ge 17, 3) := by decide +kernel
theorem eX0_solve_84 : decode (mB MX0_solve) 84 = .ok (.aload_n 0, 1) := by decide +kernel
theorem eX0_solve_85 : decode (mB MX0_solve) 85 = .ok (.getfield 29, 3) := by decide +kernel
theorem eX0_solve_88 : decode (mB MX0_solve) 88 = .ok (.iload 6, 2) := by decide +kernel
theorem eX0_solve_90 : decode (mB MX0_solve) 90 = .ok (.iconst 0, 1) := by decide +kernel
theorem eX0_solve_91 : decode (mB MX0_solve) 91 = .ok (.iastore, 1) := by decide +kernel
theorem eX0_solve_92 : decode (mB MX0_solve) 92 = .ok (.iinc 6 1, 3) := by decide +kernel
theorem eX0_solve_95 : decode (mB MX0_solve) 95 = .ok (.goto (-20), 3) := by decide +kernel
theorem eX0_solve_98 : decode (mB MX0_solve) 98 = .ok (.iconst 0, 1) := by decide +kernel
theorem eX0_solve_99 : decode (mB MX0_solve) 99 = .ok (.istore 6, 2) := by decide +kernel
theorem eX0_solve_101 : decode (mB MX0_solve) 101 = .ok (.iload 6, 2) := by decide +kernel
theorem eX0_solve_103 : decode (mB MX0_solve) 103 = .ok (.bipush 20, 2) := by decide +kernel
theorem eX0_solve_105 : decode (mB MX0_solve) 105 = .ok (.if_icmp .ge 88, 3) := by decide +kernel
theorem eX0_solve_108 : decode (mB MX0_solve) 108 = .ok (.iload 4, 2) := by decide +kernel
theorem eX0_solve_110 : decode (mB MX0_solve) 110 = .ok (.ifCond .eq 83, 3) := by decide +kernel
theorem eX0_solve_113 : decode (mB MX0_solve) 113 = .ok (.aload_n 0, 1) := by decide +kernel
theorem eX0_solve_114 : decode (mB MX0_solve) 114 = .ok (.iload 4, 2) := by decide +kernel
theorem eX0_solve_116 : decode (mB MX0_solve) 116 = .ok (.iload 5, 2) := by decide +kernel
theorem eX0_solve_118 : decode (mB MX0_solve) 118 = .ok (.iload_n 3, 1) := by decide +kernel
theorem eX0_solve_119 : decode (mB MX0_solve) 119 = .ok (.invokevirtual 85, 3) := by decide +kernel
theorem eX0_solve_122 : decode (mB MX0_solve) 122 = .ok (.istore 7, 2) := by decide +kernel
theorem eX0_solve_124 : decode (mB MX0_solve) 124 = .ok (.aload_n 0, 1) := by decide +kernel
theorem eX0_solve_125 : decode (mB MX0_solve) 125 = .ok (.getfield 29, 3) := by decide +kernel
theorem eX0_solve_128 : decode (mB MX0_solve) 128 = .ok (.iload 7, 2) := by decide +kernel
theorem eX0_solve_130 : decode (mB MX0_solve) 130 = .ok (.dup2, 1) := by decide +kernel
theorem eX0_solve_131 : decode (mB MX0_solve) 131 = .ok (.iaload, 1) := by decide +kernel
theorem eX0_solve_132 : decode (mB MX0_solve) 132 = .ok (.iconst 1, 1) := by decide +kernel
theorem eX0_solve_133 : decode (mB MX0_solve) 133 = .ok (.iadd, 1) := by decide +kernel
theorem eX0_solve_134 : decode (mB MX0_solve) 134 = .ok (.iastore, 1) := by decide +kernel
theorem eX0_solve_135 : decode (mB MX0_solve) 135 = .ok (.aload_n 0, 1) := by decide +kernel
theorem eX0_solve_136 : decode (mB MX0_solve) 136 = .ok (.dup, 1) := by decide +kernel
theorem eX0_solve_137 : decode (mB MX0_solve) 137 = .ok (.getfield 79, 3) := by decide +kernel
theorem eX0_solve_140 : decode (mB MX0_solve) 140 = .ok (.iconst 1, 1) := by decide +kernel
theorem eX0_solve_141 : decode (mB MX0_solve) 141 = .ok (.iadd, 1) := by decide +kernel
theorem eX0_solve_142 : decode (mB MX0_solve) 142 = .ok (.putfield 79, 3) := by decide +kernel
theorem eX0_solve_145 : decode (mB MX0_solve) 145 = .ok (.aload_n 0, 1) := by decide +kernel
theorem eX0_solve_146 : decode (mB MX0_solve) 146 = .ok (.dup, 1) := by decide +kernel
theorem eX0_solve_147 : decode (mB MX0_solve) 147 = .ok (.getfield 82, 3) := by decide +kernel
theorem eX0_solve_150 : decode (mB MX0_solve) 150 = .ok (.aload_n 0, 1) := by decide +kernel
theorem eX0_solve_151 : decode (mB MX0_solve) 151 = .ok (.getfield 18, 3) := by decide +kernel
theorem eX0_solve_154 : decode (mB MX0_solve) 154 = .ok (.iload 7, 2) := by decide +kernel
theorem eX0_solve_156 : decode (mB MX0_solve) 156 = .ok (.iaload, 1) := by decide +kernel
theorem eX0_solve_157 : decode (mB MX0_solve) 157 = .ok (.iadd, 1) := by decide +kernel
theorem eX0_solve_158 : decode (mB MX0_solve) 158 = .ok (.putfield 82, 3) := by decide +kernel
theorem eX0_solve_161 : decode (mB MX0_solve) 161 = .ok (.aload_n 0, 1) := by decide +kernel
theorem eX0_solve_162 : decode (mB MX0_solve) 162 = .ok (.iload 7, 2) := by decide +kernel
theorem eX0_solve_164 : decode (mB MX0_solve) 164 = .ok (.iload 4, 2) := by decide +kernel
theorem eX0_solve_166 : decode (mB MX0_solve) 166 = .ok (.iload 5, 2) := by decide +kernel
theorem eX0_solve_168 : decode (mB MX0_solve) 168 = .ok (.invokevirtual 89, 3) := by decide +kernel
theorem eX0_solve_171 : decode (mB MX0_solve) 171 = .ok (.istore 8, 2) := by decide +kernel
theorem eX0_solve_173 : decode (mB MX0_solve) 173 = .ok (.aload_n 0, 1) := by decide +kernel
theorem eX0_solve_174 : decode (mB MX0_solve) 174 = .ok (.iload 7, 2) := by decide +kernel
theorem eX0_solve_176 : decode (mB MX0_solve) 176 = .ok (.iload 5, 2) := by decide +kernel
theorem eX0_solve_178 : decode (mB MX0_solve) 178 = .ok (.invokevirtual 92, 3) := by decide +kernel
theorem eX0_solve_181 : decode (mB MX0_solve) 181 = .ok (.istore 5, 2) := by decide +kernel
theorem eX0_solve_183 : decode (mB MX0_solve) 183 = .ok (.iload 8, 2) := by decide +kernel
theorem eX0_solve_185 : decode (mB MX0_solve) 185 = .ok (.istore 4, 2) := by decide +kernel
theorem eX0_solve_187 : decode (mB MX0_solve) 187 = .ok (.iinc 6 1, 3) := by decide +kernel
theorem eX0_solve_190 : decode (mB MX0_solve) 190 = .ok (.goto (-89), 3) := by decide +kernel
theorem eX0_solve_193 : decode (mB MX0_solve) 193 = .ok (.iconst 1, 1) := by decide +kernel
theorem eX0_solve_194 : decode (mB MX0_solve) 194 = .ok (.ireturn, 1) := by decide +kernel
theorem eX0_firstOfLeast_0 : decode (mB MX0_firstOfLeast) 0 = .ok (.iload_n 1, 1) := by decide +kernel
theorem eX0_firstOfLeast_1 : decode (mB MX0_firstOfLeast) 1 = .ok (.iload_n 1, 1) := by decide +kernel
theorem eX0_firstOfLeast_2 : decode (mB MX0_firstOfLeast) 2 = .ok (.ineg, 1) := by decide +kernel
theorem eX0_firstOfLeast_3 : decode (mB MX0_firstOfLeast) 3 = .ok (.iand, 1) := by decide +kernel
theorem eX0_firstOfLeast_4 : decode (mB MX0_firstOfLeast) 4 = .ok (.istore 4, 2) := by decide +kernel
theorem eX0_firstOfLeast_6 : decode (mB MX0_firstOfLeast) 6 = .ok (.sipush 30000, 3) := by decide +kernel
theorem eX0_firstOfLeast_9 : decode (mB MX0_firstOfLeast) 9 = .ok (.istore 5, 2) := by decide +kernel
theorem eX0_firstOfLeast_11 : decode (mB MX0_firstOfLeast) 11 = .ok (.iconst 0, 1) := by decide +kernel
theorem eX0_firstOfLeast_12 : decode (mB MX0_firstOfLeast) 12 = .ok (.istore 6, 2) := by decide +kernel
theorem eX0_firstOfLeast_14 : decode (mB MX0_firstOfLeast) 14 = .ok (.iconst 0, 1) := by decide +kernel
theorem eX0_firstOfLeast_15 : decode (mB MX0_firstOfLeast) 15 = .ok (.istore 7, 2) := by decide +kernel
theorem eX0_firstOfLeast_17 : decode (mB MX0_firstOfLeast) 17 = .ok (.iload 7, 2) := by decide +kernel
theorem eX0_firstOfLeast_19 : decode (mB MX0_firstOfLeast) 19 = .ok (.aload_n 0, 1) := by decide +kernel
theorem eX0_firstOfLeast_20 : decode (mB MX0_firstOfLeast) 20 = .ok (.getfield 52, 3) := by decide +kernel
theorem eX0_firstOfLeast_23 : decode (mB MX0_firstOfLeast) 23 = .ok (.if_icmp .ge 57, 3) := by decide +kernel
theorem eX0_firstOfLeast_26 : decode (mB MX0_firstOfLeast) 26 = .ok (.aload_n 0, 1) := by decide +kernel
theorem eX0_firstOfLeast_27 : decode (mB MX0_firstOfLeast) 27 = .ok (.getfield 9, 3) := by decide +kernel
theorem eX0_firstOfLeast_30 : decode (mB MX0_firstOfLeast) 30 = .ok (.iload 7, 2) := by decide +kernel
theorem eX0_firstOfLeast_32 : decode (mB MX0_firstOfLeast) 32 = .ok (.iaload, 1) := by decide +kernel
theorem eX0_firstOfLeast_33 : decode (mB MX0_firstOfLeast) 33 = .ok (.aload_n 0, 1) := by decide +kernel
theorem eX0_firstOfLeast_34 : decode (mB MX0_firstOfLeast) 34 = .ok (.getfield 15, 3) := by decide +kernel
theorem eX0_firstOfLeast_37 : decode (mB MX0_firstOfLeast) 37 = .ok (.iload 7, 2) := by decide +kernel
theorem eX0_firstOfLeast_39 : decode (mB MX0_firstOfLeast) 39 = .ok (.iaload, 1) := by decide +kernel
theorem eX0_firstOfLeast_40 : decode (mB MX0_firstOfLeast) 40 = .ok (.ior, 1) := by decide +kernel
theorem eX0_firstOfLeast_41 : decode (mB MX0_firstOfLeast) 41 = .ok (.iload 4, 2) := by decide +kernel
theorem eX0_firstOfLeast_43 : decode (mB MX0_firstOfLeast) 43 = .ok (.iand, 1) := by decide +kernel
theorem eX0_firstOfLeast_44 : decode (mB MX0_firstOfLeast) 44 = .ok (.ifCond .eq 30, 3) := by decide +kernel
theorem eX0_firstOfLeast_47 : decode (mB MX0_firstOfLeast) 47 = .ok (.aload_n 0, 1) := by decide +kernel
theorem eX0_firstOfLeast_48 : decode (mB MX0_firstOfLeast) 48 = .ok (.iload 7, 2) := by decide +kernel
theorem eX0_firstOfLeast_50 : decode (mB MX0_firstOfLeast) 50 = .ok (.iload_n 1, 1) := by decide +kernel
theorem eX0_firstOfLeast_51 : decode (mB MX0_firstOfLeast) 51 = .ok (.iload_n 2, 1) := by decide +kernel
theorem eX0_firstOfLeast_52 : decode (mB MX0_firstOfLeast) 52 = .ok (.iload_n 3, 1) := by decide +kernel
theorem eX0_firstOfLeast_53 : decode (mB MX0_firstOfLeast) 53 = .ok (.iconst 0, 1) := by decide +kernel
theorem eX0_firstOfLeast_54 : decode (mB MX0_firstOfLeast) 54 = .ok (.invokevirtual 95, 3) := by decide +kernel
theorem eX0_firstOfLeast_57 : decode (mB MX0_firstOfLeast) 57 = .ok (.istore 8, 2) := by decide +kernel
theorem eX0_firstOfLeast_59 : decode (mB MX0_firstOfLeast) 59 = .ok (.iload 8, 2) := by decide +kernel
theorem eX0_firstOfLeast_61 : decode (mB MX0_firstOfLeast) 61 = .ok (.iload 5, 2) := by decide +kernel
theorem eX0_firstOfLeast_63 : decode (mB MX0_firstOfLeast) 63 = .ok (.if_icmp .ge 11, 3) := by decide +kernel
theorem eX0_firstOfLeast_66 : decode (mB MX0_firstOfLeast) 66 = .ok (.iload 8, 2) := by decide +kernel
theorem eX0_firstOfLeast_68 : decode (mB MX0_firstOfLeast) 68 = .ok (.istore 5, 2) := by decide +kernel
theorem eX0_firstOfLeast_70 : decode (mB MX0_firstOfLeast) 70 = .ok (.iload 7, 2) := by decide +kernel
theorem eX0_firstOfLeast_72 : decode (mB MX0_firstOfLeast) 72 = .ok (.istore 6, 2) := by decide +kernel
theorem eX0_firstOfLeast_74 : decode (mB MX0_firstOfLeast) 74 = .ok (.iinc 7 1, 3) := by decide +kernel
theorem eX0_firstOfLeast_77 : decode (mB MX0_firstOfLeast) 77 = .ok (.goto (-60), 3) := by decide +kernel
theorem eX0_firstOfLeast_80 : decode (mB MX0_firstOfLeast) 80 = .ok (.iload 6, 2) := by decide +kernel
theorem eX0_firstOfLeast_82 : decode (mB MX0_firstOfLeast) 82 = .ok (.ireturn, 1) := by decide +kernel
theorem eX0_paidFrom_0 : decode (mB MX0_paidFrom) 0 = .ok (.aload_n 0, 1) := by decide +kernel
theorem eX0_paidFrom_1 : decode (mB MX0_paidFrom) 1 = .ok (.iload_n 1, 1) := by decide +kernel
theorem eX0_paidFrom_2 : decode (mB MX0_paidFrom) 2 = .ok (.iload_n 2, 1) := by decide +kernel
theorem eX0_paidFrom_3 : decode (mB MX0_paidFrom) 3 = .ok (.iload_n 3, 1) := by decide +kernel
theorem eX0_paidFrom_4 : decode (mB MX0_paidFrom) 4 = .ok (.invokevirtual 89, 3) := by decide +kernel
theorem eX0_paidFrom_7 : decode (mB MX0_paidFrom) 7 = .ok (.istore 6, 2) := by decide +kernel
theorem eX0_paidFrom_9 : decode (mB MX0_paidFrom) 9 = .ok (.iload 4, 2) := by decide +kernel
theorem eX0_paidFrom_11 : decode (mB MX0_paidFrom) 11 = .ok (.ifCond .ne 12, 3) := by decide +kernel
theorem eX0_paidFrom_14 : decode (mB MX0_paidFrom) 14 = .ok (.aload_n 0, 1) := by decide +kernel
theorem eX0_paidFrom_15 : decode (mB MX0_paidFrom) 15 = .ok (.getfield 18, 3) := by decide +kernel
theorem eX0_paidFrom_18 : decode (mB MX0_paidFrom) 18 = .ok (.iload_n 1, 1) := by decide +kernel
theorem eX0_paidFrom_19 : decode (mB MX0_paidFrom) 19 = .ok (.iaload, 1) := by decide +kernel
theorem eX0_paidFrom_20 : decode (mB MX0_paidFrom) 20 = .ok (.goto 4, 3) := by decide +kernel
theorem eX0_paidFrom_23 : decode (mB MX0_paidFrom) 23 = .ok (.iconst 1, 1) := by decide +kernel
theorem eX0_paidFrom_24 : decode (mB MX0_paidFrom) 24 = .ok (.aload_n 0, 1) := by decide +kernel
theorem eX0_paidFrom_25 : decode (mB MX0_paidFrom) 25 = .ok (.iload 6, 2) := by decide +kernel
theorem eX0_paidFrom_27 : decode (mB MX0_paidFrom) 27 = .ok (.aload_n 0, 1) := by decide +kernel
theorem eX0_paidFrom_28 : decode (mB MX0_paidFrom) 28 = .ok (.iload_n 1, 1) := by decide +kernel
theorem eX0_paidFrom_29 : decode (mB MX0_paidFrom) 29 = .ok (.iload_n 3, 1) := by decide +kernel
theorem eX0_paidFrom_30 : decode (mB MX0_paidFrom) 30 = .ok (.invokevirtual 92, 3) := by decide +kernel
theorem eX0_paidFrom_33 : decode (mB MX0_paidFrom) 33 = .ok (.iload 4, 2) := by decide +kernel
theorem eX0_paidFrom_35 : decode (mB MX0_paidFrom) 35 = .ok (.iload 5, 2) := by decide +kernel
theorem eX0_paidFrom_37 : decode (mB MX0_paidFrom) 37 = .ok (.iconst 1, 1) := by decide +kernel
theorem eX0_paidFrom_38 : decode (mB MX0_paidFrom) 38 = .ok (.iadd, 1) := by decide +kernel
theorem eX0_paidFrom_39 : decode (mB MX0_paidFrom) 39 = .ok (.invokevirtual 99, 3) := by decide +kernel
theorem eX0_paidFrom_42 : decode (mB MX0_paidFrom) 42 = .ok (.iadd, 1) := by decide +kernel
theorem eX0_paidFrom_43 : decode (mB MX0_paidFrom) 43 = .ok (.ireturn, 1) := by decide +kernel
theorem eX0_leastPrice_0 : decode (mB MX0_leastPrice) 0 = .ok (.iload_n 1, 1) := by decide +kernel
theorem eX0_leastPrice_1 : decode (mB MX0_leastPrice) 1 = .ok (.ifCond .ne 5, 3) := by decide +kernel
theorem eX0_leastPrice_4 : decode (mB MX0_leastPrice) 4 = .ok (.iconst 0, 1) := by decide +kernel
theorem eX0_leastPrice_5 : decode (mB MX0_leastPrice) 5 = .ok (.ireturn, 1) := by decide +kernel
theorem eX0_leastPrice_6 : decode (mB MX0_leastPrice) 6 = .ok (.iload 4, 2) := by decide +kernel
theorem eX0_leastPrice_8 : decode (mB MX0_leastPrice) 8 = .ok (.bipush 20, 2) := by decide +kernel
theorem eX0_leastPrice_10 : decode (mB MX0_leastPrice) 10 = .ok (.if_icmp .le 7, 3) := by decide +kernel
theorem eX0_leastPrice_13 : decode (mB MX0_leastPrice) 13 = .ok (.sipush 30000, 3) := by decide +kernel
theorem eX0_leastPrice_16 : decode (mB MX0_leastPrice) 16 = .ok (.ireturn, 1) := by decide +kernel
theorem eX0_leastPrice_17 : decode (mB MX0_leastPrice) 17 = .ok (.iload_n 1, 1) := by decide +kernel
theorem eX0_leastPrice_18 : decode (mB MX0_leastPrice) 18 = .ok (.bipush 10, 2) := by decide +kernel
theorem eX0_leastPrice_20 : decode (mB MX0_leastPrice) 20 = .ok (.ishl, 1) := by decide +kernel
theorem eX0_leastPrice_21 : decode (mB MX0_leastPrice) 21 = .ok (.iload_n 2, 1) := by decide +kernel
theorem eX0_leastPrice_22 : decode (mB MX0_leastPrice) 22 = .ok (.ior, 1) := by decide +kernel
theorem eX0_leastPrice_23 : decode (mB MX0_leastPrice) 23 = .ok (.iconst 2, 1) := by decide +kernel
theorem eX0_leastPrice_24 : decode (mB MX0_leastPrice) 24 = .ok (.imul, 1) := by decide +kernel
theorem eX0_leastPrice_25 : decode (mB MX0_leastPrice) 25 = .ok (.iload_n 3, 1) := by decide +kernel
theorem eX0_leastPrice_26 : decode (mB MX0_leastPrice) 26 = .ok (.iadd, 1) := by decide +kernel
theorem eX0_leastPrice_27 : decode (mB MX0_leastPrice) 27 = .ok (.istore 5, 2) := by decide +kernel
theorem eX0_leastPrice_29 : decode (mB MX0_leastPrice) 29 = .ok (.iload 5, 2) := by decide +kernel
theorem eX0_leastPrice_31 : decode (mB MX0_leastPrice) 31 = .ok (.ldc 103, 2) := by decide +kernel
theorem eX0_leastPrice_33 : decode (mB MX0_leastPrice) 33 = .ok (.imul, 1) := by decide +kernel
theorem eX0_leastPrice_34 : decode (mB MX0_leastPrice) 34 = .ok (.bipush 21, 2) := by decide +kernel
theorem eX0_leastPrice_36 : decode (mB MX0_leastPrice) 36 = .ok (.iushr, 1) := by decide +kernel
theorem eX0_leastPrice_37 : decode (mB MX0_leastPrice) 37 = .ok (.istore 6, 2) := by decide +kernel
theorem eX0_leastPrice_39 : decode (mB MX0_leastPrice) 39 = .ok (.aload_n 0, 1) := by decide +kernel
theorem eX0_leastPrice_40 : decode (mB MX0_leastPrice) 40 = .ok (.getfield 25, 3) := by decide +kernel
theorem eX0_leastPrice_43 : decode (mB MX0_leastPrice) 43 = .ok (.bipush 21, 2) := by decide +kernel
theorem eX0_leastPrice_45 : decode (mB MX0_leastPrice) 45 = .ok (.lshl, 1) := by decide +kernel
theorem eX0_leastPrice_46 : decode (mB MX0_leastPrice) 46 = .ok (.iload 5, 2) := by decide +kernel
theorem eX0_leastPrice_48 : decode (mB MX0_leastPrice) 48 = .ok (.i2l, 1) := by decide +kernel
theorem eX0_leastPrice_49 : decode (mB MX0_leastPrice) 49 = .ok (.lor, 1) := by decide +kernel
theorem eX0_leastPrice_50 : decode (mB MX0_leastPrice) 50 = .ok (.lstore 7, 2) := by decide +kernel
theorem eX0_leastPrice_52 : decode (mB MX0_leastPrice) 52 = .ok (.iload 6, 2) := by decide +kernel
theorem eX0_leastPrice_54 : decode (mB MX0_leastPrice) 54 = .ok (.aload_n 0, 1) := by decide +kernel
theorem eX0_leastPrice_55 : decode (mB MX0_leastPrice) 55 = .ok (.getfield 21, 3) := by decide +kernel
theorem eX0_leastPrice_58 : decode (mB MX0_leastPrice) 58 = .ok (.arraylength, 1) := by decide +kernel
theorem eX0_leastPrice_59 : decode (mB MX0_leastPrice) 59 = .ok (.if_icmp .ge 31, 3) := by decide +kernel
theorem eX0_leastPrice_62 : decode (mB MX0_leastPrice) 62 = .ok (.aload_n 0, 1) := by decide +kernel
theorem eX0_leastPrice_63 : decode (mB MX0_leastPrice) 63 = .ok (.getfield 21, 3) := by decide +kernel
theorem eX0_leastPrice_66 : decode (mB MX0_leastPrice) 66 = .ok (.iload 6, 2) := by decide +kernel
theorem eX0_leastPrice_68 : decode (mB MX0_leastPrice) 68 = .ok (.laload, 1) := by decide +kernel
theorem eX0_leastPrice_69 : decode (mB MX0_leastPrice) 69 = .ok (.bipush 16, 2) := by decide +kernel
theorem eX0_leastPrice_71 : decode (mB MX0_leastPrice) 71 = .ok (.lushr, 1) := by decide +kernel
theorem eX0_leastPrice_72 : decode (mB MX0_leastPrice) 72 = .ok (.lload 7, 2) := by decide +kernel
theorem eX0_leastPrice_74 : decode (mB MX0_leastPrice) 74 = .ok (.lcmp, 1) := by decide +kernel
theorem eX0_leastPrice_75 : decode (mB MX0_leastPrice) 75 = .ok (.ifCond .ne 15, 3) := by decide +kernel
theorem eX0_leastPrice_78 : decode (mB MX0_leastPrice) 78 = .ok (.aload_n 0, 1) := by decide +kernel
theorem eX0_leastPrice_79 : decode (mB MX0_leastPrice) 79 = .ok (.getfield 21, 3) := by decide +kernel
theorem eX0_leastPrice_82 : decode (mB MX0_leastPrice) 82 = .ok (.iload 6, 2) := by decide +kernel
theorem eX0_leastPrice_84 : decode (mB MX0_leastPrice) 84 = .ok (.laload, 1) := by decide +kernel
theorem eX0_leastPrice_85 : decode (mB MX0_leastPrice) 85 = .ok (.l2i, 1) := by decide +kernel
theorem eX0_leastPrice_86 : decode (mB MX0_leastPrice) 86 = .ok (.ldc 104, 2) := by decide +kernel
theorem eX0_leastPrice_88 : decode (mB MX0_leastPrice) 88 = .ok (.iand, 1) := by decide +kernel
theorem eX0_leastPrice_89 : decode (mB MX0_leastPrice) 89 = .ok (.ireturn, 1) := by decide +kernel
theorem eX0_leastPrice_90 : decode (mB MX0_leastPrice) 90 = .ok (.iload_n 1, 1) := by decide +kernel
theorem eX0_leastPrice_91 : decode (mB MX0_leastPrice) 91 = .ok (.iload_n 1, 1) := by decide +kernel
theorem eX0_leastPrice_92 : decode (mB MX0_leastPrice) 92 = .ok (.ineg, 1) := by decide +kernel
theorem eX0_leastPrice_93 : decode (mB MX0_leastPrice) 93 = .ok (.iand, 1) := by decide +kernel
theorem eX0_leastPrice_94 : decode (mB MX0_leastPrice) 94 = .ok (.istore 9, 2) := by decide +kernel
theorem eX0_leastPrice_96 : decode (mB MX0_leastPrice) 96 = .ok (.sipush 30000, 3) := by decide +kernel
theorem eX0_leastPrice_99 : decode (mB MX0_leastPrice) 99 = .ok (.istore 10, 2) := by decide +kernel
theorem eX0_leastPrice_101 : decode (mB MX0_leastPrice) 101 = .ok (.iconst 0, 1) := by decide +kernel
theorem eX0_leastPrice_102 : decode (mB MX0_leastPrice) 102 = .ok (.istore 11, 2) := by decide +kernel
theorem eX0_leastPrice_104 : decode (mB MX0_leastPrice) 104 = .ok (.iload 11, 2) := by decide +kernel
theorem eX0_leastPrice_106 : decode (mB MX0_leastPrice) 106 = .ok (.aload_n 0, 1) := by decide +kernel
theorem eX0_leastPrice_107 : decode (mB MX0_leastPrice) 107 = .ok (.getfield 52, 3) := by decide +kernel
theorem eX0_leastPrice_110 : decode (mB MX0_leastPrice) 110 = .ok (.if_icmp .ge 48, 3) := by decide +kernel
theorem eX0_leastPrice_113 : decode (mB MX0_leastPrice) 113 = .ok (.aload_n 0, 1) := by decide +kernel
theorem eX0_leastPrice_114 : decode (mB MX0_leastPrice) 114 = .ok (.getfield 9, 3) := by decide +kernel
theorem eX0_leastPrice_117 : decode (mB MX0_leastPrice) 117 = .ok (.iload 11, 2) := by decide +kernel
theorem eX0_leastPrice_119 : decode (mB MX0_leastPrice) 119 = .ok (.iaload, 1) := by decide +kernel
theorem eX0_leastPrice_120 : decode (mB MX0_leastPrice) 120 = .ok (.aload_n 0, 1) := by decide +kernel
theorem eX0_leastPrice_121 : decode (mB MX0_leastPrice) 121 = .ok (.getfield 15, 3) := by decide +kernel
theorem eX0_leastPrice_124 : decode (mB MX0_leastPrice) 124 = .ok (.iload 11, 2) := by decide +kernel
theorem eX0_leastPrice_126 : decode (mB MX0_leastPrice) 126 = .ok (.iaload, 1) := by decide +kernel
theorem eX0_leastPrice_127 : decode (mB MX0_leastPrice) 127 = .ok (.ior, 1) := by decide +kernel
theorem eX0_leastPrice_128 : decode (mB MX0_leastPrice) 128 = .ok (.iload 9, 2) := by decide +kernel
theorem eX0_leastPrice_130 : decode (mB MX0_leastPrice) 130 = .ok (.iand, 1) := by decide +kernel
theorem eX0_leastPrice_131 : decode (mB MX0_leastPrice) 131 = .ok (.ifCond .eq 21, 3) := by decide +kernel
theorem eX0_leastPrice_134 : decode (mB MX0_leastPrice) 134 = .ok (.iload 10, 2) := by decide +kernel
theorem eX0_leastPrice_136 : decode (mB MX0_leastPrice) 136 = .ok (.aload_n 0, 1) := by decide +kernel
theorem eX0_leastPrice_137 : decode (mB MX0_leastPrice) 137 = .ok (.iload 11, 2) := by decide +kernel
theorem eX0_leastPrice_139 : decode (mB MX0_leastPrice) 139 = .ok (.iload_n 1, 1) := by decide +kernel
theorem eX0_leastPrice_140 : decode (mB MX0_leastPrice) 140 = .ok (.iload_n 2, 1) := by decide +kernel
theorem eX0_leastPrice_141 : decode (mB MX0_leastPrice) 141 = .ok (.iload_n 3, 1) := by decide +kernel
theorem eX0_leastPrice_142 : decode (mB MX0_leastPrice) 142 = .ok (.iload 4, 2) := by decide +kernel
theorem eX0_leastPrice_144 : decode (mB MX0_leastPrice) 144 = .ok (.invokevirtual 95, 3) := by decide +kernel
theorem eX0_leastPrice_147 : decode (mB MX0_leastPrice) 147 = .ok (.invokestatic 46, 3) := by decide +kernel
theorem eX0_leastPrice_150 : decode (mB MX0_leastPrice) 150 = .ok (.istore 10, 2) := by decide +kernel
theorem eX0_leastPrice_152 : decode (mB MX0_leastPrice) 152 = .ok (.iinc 11 1, 3) := by decide +kernel
theorem eX0_leastPrice_155 : decode (mB MX0_leastPrice) 155 = .ok (.goto (-51), 3) := by decide +kernel
theorem eX0_leastPrice_158 : decode (mB MX0_leastPrice) 158 = .ok (.iload 6, 2) := by decide +kernel
theorem eX0_leastPrice_160 : decode (mB MX0_leastPrice) 160 = .ok (.aload_n 0, 1) := by decide +kernel
theorem eX0_leastPrice_161 : decode (mB MX0_leastPrice) 161 = .ok (.getfield 21, 3) := by decide +kernel
theorem eX0_leastPrice_164 : decode (mB MX0_leastPrice) 164 = .ok (.arraylength, 1) := by decide +kernel
theorem eX0_leastPrice_165 : decode (mB MX0_leastPrice) 165 = .ok (.if_icmp .ge 19, 3) := by decide +kernel
theorem eX0_leastPrice_168 : decode (mB MX0_leastPrice) 168 = .ok (.aload_n 0, 1) := by decide +kernel
theorem eX0_leastPrice_169 : decode (mB MX0_leastPrice) 169 = .ok (.getfield 21, 3) := by decide +kernel
theorem eX0_leastPrice_172 : decode (mB MX0_leastPrice) 172 = .ok (.iload 6, 2) := by decide +kernel
theorem eX0_leastPrice_174 : decode (mB MX0_leastPrice) 174 = .ok (.lload 7, 2) := by decide +kernel
theorem eX0_leastPrice_176 : decode (mB MX0_leastPrice) 176 = .ok (.bipush 16, 2) := by decide +kernel
theorem eX0_leastPrice_178 : decode (mB MX0_leastPrice) 178 = .ok (.lshl, 1) := by decide +kernel
theorem eX0_leastPrice_179 : decode (mB MX0_leastPrice) 179 = .ok (.iload 10, 2) := by decide +kernel
theorem eX0_leastPrice_181 : decode (mB MX0_leastPrice) 181 = .ok (.i2l, 1) := by decide +kernel
theorem eX0_leastPrice_182 : decode (mB MX0_leastPrice) 182 = .ok (.lor, 1) := by decide +kernel
theorem eX0_leastPrice_183 : decode (mB MX0_leastPrice) 183 = .ok (.lastore, 1) := by decide +kernel
theorem eX0_leastPrice_184 : decode (mB MX0_leastPrice) 184 = .ok (.iload 10, 2) := by decide +kernel
theorem eX0_leastPrice_186 : decode (mB MX0_leastPrice) 186 = .ok (.ireturn, 1) := by decide +kernel
theorem eX0_onceBehind_0 : decode (mB MX0_onceBehind) 0 = .ok (.iload_n 2, 1) := by decide +kernel
theorem eX0_onceBehind_1 : decode (mB MX0_onceBehind) 1 = .ok (.aload_n 0, 1) := by decide +kernel
theorem eX0_onceBehind_2 : decode (mB MX0_onceBehind) 2 = .ok (.getfield 9, 3) := by decide +kernel
theorem eX0_onceBehind_5 : decode (mB MX0_onceBehind) 5 = .ok (.iload_n 1, 1) := by decide +kernel
theorem eX0_onceBehind_6 : decode (mB MX0_onceBehind) 6 = .ok (.iaload, 1) := by decide +kernel
theorem eX0_onceBehind_7 : decode (mB MX0_onceBehind) 7 = .ok (.aload_n 0, 1) := by decide +kernel
theorem eX0_onceBehind_8 : decode (mB MX0_onceBehind) 8 = .ok (.getfield 15, 3) := by decide +kernel
theorem eX0_onceBehind_11 : decode (mB MX0_onceBehind) 11 = .ok (.iload_n 1, 1) := by decide +kernel
theorem eX0_onceBehind_12 : decode (mB MX0_onceBehind) 12 = .ok (.iaload, 1) := by decide +kernel
theorem eX0_onceBehind_13 : decode (mB MX0_onceBehind) 13 = .ok (.ior, 1) := by decide +kernel
theorem eX0_onceBehind_14 : decode (mB MX0_onceBehind) 14 = .ok (.iconst (-1), 1) := by decide +kernel
theorem eX0_onceBehind_15 : decode (mB MX0_onceBehind) 15 = .ok (.ixor, 1) := by decide +kernel
theorem eX0_onceBehind_16 : decode (mB MX0_onceBehind) 16 = .ok (.iand, 1) := by decide +kernel
theorem eX0_onceBehind_17 : decode (mB MX0_onceBehind) 17 = .ok (.iload_n 3, 1) := by decide +kernel
theorem eX0_onceBehind_18 : decode (mB MX0_onceBehind) 18 = .ok (.aload_n 0, 1) := by decide +kernel
theorem eX0_onceBehind_19 : decode (mB MX0_onceBehind) 19 = .ok (.getfield 9, 3) := by decide +kernel
theorem eX0_onceBehind_22 : decode (mB MX0_onceBehind) 22 = .ok (.iload_n 1, 1) := by decide +kernel
theorem eX0_onceBehind_23 : decode (mB MX0_onceBehind) 23 = .ok (.iaload, 1) := by decide +kernel
theorem eX0_onceBehind_24 : decode (mB MX0_onceBehind) 24 = .ok (.iand, 1) := by decide +kernel
theorem eX0_onceBehind_25 : decode (mB MX0_onceBehind) 25 = .ok (.ior, 1) := by decide +kernel
theorem eX0_onceBehind_26 : decode (mB MX0_onceBehind) 26 = .ok (.ireturn, 1) := by decide +kernel
theorem eX0_twiceBehind_0 : decode (mB MX0_twiceBehind) 0 = .ok (.iload_n 2, 1) := by decide +kernel
theorem eX0_twiceBehind_1 : decode (mB MX0_twiceBehind) 1 = .ok (.aload_n 0, 1) := by decide +kernel
theorem eX0_twiceBehind_2 : decode (mB MX0_twiceBehind) 2 = .ok (.getfield 9, 3) := by decide +kernel
theorem eX0_twiceBehind_5 : decode (mB MX0_twiceBehind) 5 = .ok (.iload_n 1, 1) := by decide +kernel
theorem eX0_twiceBehind_6 : decode (mB MX0_twiceBehind) 6 = .ok (.iaload, 1) := by decide +kernel
theorem eX0_twiceBehind_7 : decode (mB MX0_twiceBehind) 7 = .ok (.aload_n 0, 1) := by decide +kernel
theorem eX0_twiceBehind_8 : decode (mB MX0_twiceBehind) 8 = .ok (.getfield 15, 3) := by decide +kernel
theorem eX0_twiceBehind_11 : decode (mB MX0_twiceBehind) 11 = .ok (.iload_n 1, 1) := by decide +kernel
theorem eX0_twiceBehind_12 : decode (mB MX0_twiceBehind) 12 = .ok (.iaload, 1) := by decide +kernel
theorem eX0_twiceBehind_13 : decode (mB MX0_twiceBehind) 13 = .ok (.ior, 1) := by decide +kernel
theorem eX0_twiceBehind_14 : decode (mB MX0_twiceBehind) 14 = .ok (.iconst (-1), 1) := by decide +kernel
theorem eX0_twiceBehind_15 : decode (mB MX0_twiceBehind) 15 = .ok (.ixor, 1) := by decide +kernel
theorem eX0_twiceBehind_16 : decode (mB MX0_twiceBehind) 16 = .ok (.iand, 1) := by decide +kernel
theorem eX0_twiceBehind_17 : decode (mB MX0_twiceBehind) 17 = .ok (.ireturn, 1) := by decide +kernel
theorem eX0_countWays_0 : decode (mB MX0_countWays) 0 = .ok (.aload_n 0, 1) := by decide +kernel
theorem eX0_countWays_1 : decode (mB MX0_countWays) 1 = .ok (.aload_n 1, 1) := by decide +kernel
theorem eX0_countWays_2 : decode (mB MX0_countWays) 2 = .ok (.iload_n 2, 1) := by decide +kernel
theorem eX0_countWays_3 : decode (mB MX0_countWays) 3 = .ok (.invokevirtual 71, 3) := by decide +kernel
theorem eX0_countWays_6 : decode (mB MX0_countWays) 6 = .ok (.aload_n 0, 1) := by decide +kernel
theorem eX0_countWays_7 : decode (mB MX0_countWays) 7 = .ok (.iconst 0, 1) := by decide +kernel
theorem eX0_countWays_8 : decode (mB MX0_countWays) 8 = .ok (.iload_n 3, 1) := by decide +kernel
theorem eX0_countWays_9 : decode (mB MX0_countWays) 9 = .ok (.aload_n 0, 1) := by decide +kernel
theorem eX0_countWays_10 : decode (mB MX0_countWays) 10 = .ok (.getfield 32, 3) := by decide +kernel
theorem eX0_countWays_13 : decode (mB MX0_countWays) 13 = .ok (.iconst 1, 1) := by decide +kernel
theorem eX0_countWays_14 : decode (mB MX0_countWays) 14 = .ok (.invokevirtual 105, 3) := by decide +kernel
theorem eX0_countWays_17 : decode (mB MX0_countWays) 17 = .ok (.aload_n 0, 1) := by decide +kernel
theorem eX0_countWays_18 : decode (mB MX0_countWays) 18 = .ok (.getfield 32, 3) := by decide +kernel
theorem eX0_countWays_21 : decode (mB MX0_countWays) 21 = .ok (.iconst 2, 1) := by decide +kernel
theorem eX0_countWays_22 : decode (mB MX0_countWays) 22 = .ok (.invokevirtual 105, 3) := by decide +kernel
theorem eX0_countWays_25 : decode (mB MX0_countWays) 25 = .ok (.invokevirtual 108, 3) := by decide +kernel
theorem eX0_countWays_28 : decode (mB MX0_countWays) 28 = .ok (.ireturn, 1) := by decide +kernel
theorem eX0_waysFrom_0 : decode (mB MX0_waysFrom) 0 = .ok (.iload_n 2, 1) := by decide +kernel
theorem eX0_waysFrom_1 : decode (mB MX0_waysFrom) 1 = .ok (.ifCond .gt 13, 3) := by decide +kernel
theorem eX0_waysFrom_4 : decode (mB MX0_waysFrom) 4 = .ok (.iload_n 3, 1) := by decide +kernel
theorem eX0_waysFrom_5 : decode (mB MX0_waysFrom) 5 = .ok (.ifCond .ne 7, 3) := by decide +kernel
theorem eX0_waysFrom_8 : decode (mB MX0_waysFrom) 8 = .ok (.iconst 1, 1) := by decide +kernel
theorem eX0_waysFrom_9 : decode (mB MX0_waysFrom) 9 = .ok (.goto 4, 3) := by decide +kernel
theorem eX0_waysFrom_12 : decode (mB MX0_waysFrom) 12 = .ok (.iconst 0, 1) := by decide +kernel
theorem eX0_waysFrom_13 : decode (mB MX0_waysFrom) 13 = .ok (.ireturn, 1) := by decide +kernel
theorem eX0_waysFrom_14 : decode (mB MX0_waysFrom) 14 = .ok (.iconst 0, 1) := by decide +kernel
theorem eX0_waysFrom_15 : decode (mB MX0_waysFrom) 15 = .ok (.istore 5, 2) := by decide +kernel
theorem eX0_waysFrom_17 : decode (mB MX0_waysFrom) 17 = .ok (.iload_n 1, 1) := by decide +kernel
theorem eX0_waysFrom_18 : decode (mB MX0_waysFrom) 18 = .ok (.istore 6, 2) := by decide +kernel
theorem eX0_waysFrom_20 : decode (mB MX0_waysFrom) 20 = .ok (.iload 6, 2) := by decide +kernel
theorem eX0_waysFrom_22 : decode (mB MX0_waysFrom) 22 = .ok (.aload_n 0, 1) := by decide +kernel
theorem eX0_waysFrom_23 : decode (mB MX0_waysFrom) 23 = .ok (.getfield 52, 3) := by decide +kernel
theorem eX0_waysFrom_26 : decode (mB MX0_waysFrom) 26 = .ok (.if_icmp .ge 40, 3) := by decide +kernel
theorem eX0_waysFrom_29 : decode (mB MX0_waysFrom) 29 = .ok (.iload 5, 2) := by decide +kernel
theorem eX0_waysFrom_31 : decode (mB MX0_waysFrom) 31 = .ok (.aload_n 0, 1) := by decide +kernel
theorem eX0_waysFrom_32 : decode (mB MX0_waysFrom) 32 = .ok (.iload 6, 2) := by decide +kernel
theorem eX0_waysFrom_34 : decode (mB MX0_waysFrom) 34 = .ok (.iload_n 2, 1) := by decide +kernel
theorem eX0_waysFrom_35 : decode (mB MX0_waysFrom) 35 = .ok (.iconst 1, 1) := by decide +kernel
theorem eX0_waysFrom_36 : decode (mB MX0_waysFrom) 36 = .ok (.isub, 1) := by decide +kernel
theorem eX0_waysFrom_37 : decode (mB MX0_waysFrom) 37 = .ok (.aload_n 0, 1) := by decide +kernel
theorem eX0_waysFrom_38 : decode (mB MX0_waysFrom) 38 = .ok (.iload 6, 2) := by decide +kernel
theorem eX0_waysFrom_40 : decode (mB MX0_waysFrom) 40 = .ok (.iload_n 3, 1) := by decide +kernel
theorem eX0_waysFrom_41 : decode (mB MX0_waysFrom) 41 = .ok (.iload 4, 2) := by decide +kernel
theorem eX0_waysFrom_43 : decode (mB MX0_waysFrom) 43 = .ok (.invokevirtual 89, 3) := by decide +kernel
theorem eX0_waysFrom_46 : decode (mB MX0_waysFrom) 46 = .ok (.aload_n 0, 1) := by decide +kernel
theorem eX0_waysFrom_47 : decode (mB MX0_waysFrom) 47 = .ok (.iload 6, 2) := by decide +kernel
theorem eX0_waysFrom_49 : decode (mB MX0_waysFrom) 49 = .ok (.iload 4, 2) := by decide +kernel
theorem eX0_waysFrom_51 : decode (mB MX0_waysFrom) 51 = .ok (.invokevirtual 92, 3) := by decide +kernel
theorem eX0_waysFrom_54 : decode (mB MX0_waysFrom) 54 = .ok (.invokevirtual 108, 3) := by decide +kernel
theorem eX0_waysFrom_57 : decode (mB MX0_waysFrom) 57 = .ok (.iadd, 1) := by decide +kernel
theorem eX0_waysFrom_58 : decode (mB MX0_waysFrom) 58 = .ok (.istore 5, 2) := by decide +kernel
theorem eX0_waysFrom_60 : decode (mB MX0_waysFrom) 60 = .ok (.iinc 6 1, 3) := by decide +kernel
theorem eX0_waysFrom_63 : decode (mB MX0_waysFrom) 63 = .ok (.goto (-43), 3) := by decide +kernel
theorem eX0_waysFrom_66 : decode (mB MX0_waysFrom) 66 = .ok (.iload 5, 2) := by decide +kernel
theorem eX0_waysFrom_68 : decode (mB MX0_waysFrom) 68 = .ok (.ireturn, 1) := by decide +kernel
theorem eX0_bestFor_0 : decode (mB MX0_bestFor) 0 = .ok (.aload_n 0, 1) := by decide +kernel
theorem eX0_bestFor_1 : decode (mB MX0_bestFor) 1 = .ok (.aload_n 1, 1) := by decide +kernel
theorem eX0_bestFor_2 : decode (mB MX0_bestFor) 2 = .ok (.iload_n 2, 1) := by decide +kernel
theorem eX0_bestFor_3 : decode (mB MX0_bestFor) 3 = .ok (.invokevirtual 71, 3) := by decide +kernel
theorem eX0_bestFor_6 : decode (mB MX0_bestFor) 6 = .ok (.iconst (-1), 1) := by decide +kernel
theorem eX0_bestFor_7 : decode (mB MX0_bestFor) 7 = .ok (.istore 4, 2) := by decide +kernel
theorem eX0_bestFor_9 : decode (mB MX0_bestFor) 9 = .ok (.iconst 0, 1) := by decide +kernel
theorem eX0_bestFor_10 : decode (mB MX0_bestFor) 10 = .ok (.istore 5, 2) := by decide +kernel
theorem eX0_bestFor_12 : decode (mB MX0_bestFor) 12 = .ok (.iload 5, 2) := by decide +kernel
theorem eX0_bestFor_14 : decode (mB MX0_bestFor) 14 = .ok (.aload_n 0, 1) := by decide +kernel
theorem eX0_bestFor_15 : decode (mB MX0_bestFor) 15 = .ok (.getfield 52, 3) := by decide +kernel
theorem eX0_bestFor_18 : decode (mB MX0_bestFor) 18 = .ok (.if_icmp .ge 87, 3) := by decide +kernel
theorem eX0_bestFor_21 : decode (mB MX0_bestFor) 21 = .ok (.iload_n 3, 1) := by decide +kernel
theorem eX0_bestFor_22 : decode (mB MX0_bestFor) 22 = .ok (.ifCond .lt 25, 3) := by decide +kernel
theorem eX0_bestFor_25 : decode (mB MX0_bestFor) 25 = .ok (.aload_n 0, 1) := by decide +kernel
theorem eX0_bestFor_26 : decode (mB MX0_bestFor) 26 = .ok (.getfield 9, 3) := by decide +kernel
theorem eX0_bestFor_29 : decode (mB MX0_bestFor) 29 = .ok (.iload 5, 2) := by decide +kernel
theorem eX0_bestFor_31 : decode (mB MX0_bestFor) 31 = .ok (.iaload, 1) := by decide +kernel
theorem eX0_bestFor_32 : decode (mB MX0_bestFor) 32 = .ok (.aload_n 0, 1) := by decide +kernel
theorem eX0_bestFor_33 : decode (mB MX0_bestFor) 33 = .ok (.getfield 15, 3) := by decide +kernel
theorem eX0_bestFor_36 : decode (mB MX0_bestFor) 36 = .ok (.iload 5, 2) := by decide +kernel
theorem eX0_bestFor_38 : decode (mB MX0_bestFor) 38 = .ok (.iaload, 1) := by decide +kernel
theorem eX0_bestFor_39 : decode (mB MX0_bestFor) 39 = .ok (.ior, 1) := by decide +kernel
theorem eX0_bestFor_40 : decode (mB MX0_bestFor) 40 = .ok (.iload_n 3, 1) := by decide +kernel
theorem eX0_bestFor_41 : decode (mB MX0_bestFor) 41 = .ok (.ishr, 1) := by decide +kernel
theorem eX0_bestFor_42 : decode (mB MX0_bestFor) 42 = .ok (.iconst 1, 1) := by decide +kernel
theorem eX0_bestFor_43 : decode (mB MX0_bestFor) 43 = .ok (.iand, 1) := by decide +kernel
theorem eX0_bestFor_44 : decode (mB MX0_bestFor) 44 = .ok (.ifCond .eq 7, 3) := by decide +kernel
theorem eX0_bestFor_47 : decode (mB MX0_bestFor) 47 = .ok (.iconst 1, 1) := by decide +kernel
theorem eX0_bestFor_48 : decode (mB MX0_bestFor) 48 = .ok (.goto 4, 3) := by decide +kernel
theorem eX0_bestFor_51 : decode (mB MX0_bestFor) 51 = .ok (.iconst 0, 1) := by decide +kernel
theorem eX0_bestFor_52 : decode (mB MX0_bestFor) 52 = .ok (.istore 6, 2) := by decide +kernel
theorem eX0_bestFor_54 : decode (mB MX0_bestFor) 54 = .ok (.iload 6, 2) := by decide +kernel
theorem eX0_bestFor_56 : decode (mB MX0_bestFor) 56 = .ok (.ifCond .eq 43, 3) := by decide +kernel
theorem eX0_bestFor_59 : decode (mB MX0_bestFor) 59 = .ok (.iload 4, 2) := by decide +kernel
theorem eX0_bestFor_61 : decode (mB MX0_bestFor) 61 = .ok (.ifCond .lt 34, 3) := by decide +kernel
theorem eX0_bestFor_64 : decode (mB MX0_bestFor) 64 = .ok (.aload_n 0, 1) := by decide +kernel
theorem eX0_bestFor_65 : decode (mB MX0_bestFor) 65 = .ok (.getfield 18, 3) := by decide +kernel
theorem eX0_bestFor_68 : decode (mB MX0_bestFor) 68 = .ok (.iload 5, 2) := by decide +kernel
theorem eX0_bestFor_70 : decode (mB MX0_bestFor) 70 = .ok (.iaload, 1) := by decide +kernel
theorem eX0_bestFor_71 : decode (mB MX0_bestFor) 71 = .ok (.aload_n 0, 1) := by decide +kernel
theorem eX0_bestFor_72 : decode (mB MX0_bestFor) 72 = .ok (.iload 4, 2) := by decide +kernel
theorem eX0_bestFor_74 : decode (mB MX0_bestFor) 74 = .ok (.invokevirtual 111, 3) := by decide +kernel
theorem eX0_bestFor_77 : decode (mB MX0_bestFor) 77 = .ok (.imul, 1) := by decide +kernel
theorem eX0_bestFor_78 : decode (mB MX0_bestFor) 78 = .ok (.aload_n 0, 1) := by decide +kernel
theorem eX0_bestFor_79 : decode (mB MX0_bestFor) 79 = .ok (.getfield 18, 3) := by decide +kernel
theorem eX0_bestFor_82 : decode (mB MX0_bestFor) 82 = .ok (.iload 4, 2) := by decide +kernel
theorem eX0_bestFor_84 : decode (mB MX0_bestFor) 84 = .ok (.iaload, 1) := by decide +kernel
theorem eX0_bestFor_85 : decode (mB MX0_bestFor) 85 = .ok (.aload_n 0, 1) := by decide +kernel
theorem eX0_bestFor_86 : decode (mB MX0_bestFor) 86 = .ok (.iload 5, 2) := by decide +kernel
theorem eX0_bestFor_88 : decode (mB MX0_bestFor) 88 = .ok (.invokevirtual 111, 3) := by decide +kernel
theorem eX0_bestFor_91 : decode (mB MX0_bestFor) 91 = .ok (.imul, 1) := by decide +kernel
theorem eX0_bestFor_92 : decode (mB MX0_bestFor) 92 = .ok (.if_icmp .ge 7, 3) := by decide +kernel
theorem eX0_bestFor_95 : decode (mB MX0_bestFor) 95 = .ok (.iload 5, 2) := by decide +kernel
theorem eX0_bestFor_97 : decode (mB MX0_bestFor) 97 = .ok (.istore 4, 2) := by decide +kernel
theorem eX0_bestFor_99 : decode (mB MX0_bestFor) 99 = .ok (.iinc 5 1, 3) := by decide +kernel
theorem eX0_bestFor_102 : decode (mB MX0_bestFor) 102 = .ok (.goto (-90), 3) := by decide +kernel
theorem eX0_bestFor_105 : decode (mB MX0_bestFor) 105 = .ok (.iload 4, 2) := by decide +kernel
theorem eX0_bestFor_107 : decode (mB MX0_bestFor) 107 = .ok (.ireturn, 1) := by decide +kernel
theorem eX0_usesOf_0 : decode (mB MX0_usesOf) 0 = .ok (.aload_n 0, 1) := by decide +kernel
theorem eX0_usesOf_1 : decode (mB MX0_usesOf) 1 = .ok (.getfield 9, 3) := by decide +kernel
theorem eX0_usesOf_4 : decode (mB MX0_usesOf) 4 = .ok (.iload_n 1, 1) := by decide +kernel
theorem eX0_usesOf_5 : decode (mB MX0_usesOf) 5 = .ok (.iaload, 1) := by decide +kernel
theorem eX0_usesOf_6 : decode (mB MX0_usesOf) 6 = .ok (.invokestatic 114, 3) := by decide +kernel
theorem eX0_usesOf_9 : decode (mB MX0_usesOf) 9 = .ok (.iconst 2, 1) := by decide +kernel
theorem eX0_usesOf_10 : decode (mB MX0_usesOf) 10 = .ok (.aload_n 0, 1) := by decide +kernel
theorem eX0_usesOf_11 : decode (mB MX0_usesOf) 11 = .ok (.getfield 15, 3) := by decide +kernel
theorem eX0_usesOf_14 : decode (mB MX0_usesOf) 14 = .ok (.iload_n 1, 1) := by decide +kernel
theorem eX0_usesOf_15 : decode (mB MX0_usesOf) 15 = .ok (.iaload, 1) := by decide +kernel
theorem eX0_usesOf_16 : decode (mB MX0_usesOf) 16 = .ok (.invokestatic 114, 3) := by decide +kernel
theorem eX0_usesOf_19 : decode (mB MX0_usesOf) 19 = .ok (.imul, 1) := by decide +kernel
theorem eX0_usesOf_20 : decode (mB MX0_usesOf) 20 = .ok (.iadd, 1) := by decide +kernel
theorem eX0_usesOf_21 : decode (mB MX0_usesOf) 21 = .ok (.ireturn, 1) := by decide +kernel
theorem eX0_tellBound_0 : decode (mB MX0_tellBound) 0 = .ok (.aload_n 3, 1) := by decide +kernel
theorem eX0_tellBound_1 : decode (mB MX0_tellBound) 1 = .ok (.lconst 0, 1) := by decide +kernel
theorem eX0_tellBound_2 : decode (mB MX0_tellBound) 2 = .ok (.lconst 1, 1) := by decide +kernel
theorem eX0_tellBound_3 : decode (mB MX0_tellBound) 3 = .ok (.invokevirtual 119, 3) := by decide +kernel
theorem eX0_tellBound_6 : decode (mB MX0_tellBound) 6 = .ok (.iconst 0, 1) := by decide +kernel
theorem eX0_tellBound_7 : decode (mB MX0_tellBound) 7 = .ok (.istore 4, 2) := by decide +kernel
theorem eX0_tellBound_9 : decode (mB MX0_tellBound) 9 = .ok (.iload 4, 2) := by decide +kernel
theorem eX0_tellBound_11 : decode (mB MX0_tellBound) 11 = .ok (.aload_n 1, 1) := by decide +kernel
theorem eX0_tellBound_12 : decode (mB MX0_tellBound) 12 = .ok (.getfield 125, 3) := by decide +kernel
theorem eX0_tellBound_15 : decode (mB MX0_tellBound) 15 = .ok (.if_icmp .ge 64, 3) := by decide +kernel
theorem eX0_tellBound_18 : decode (mB MX0_tellBound) 18 = .ok (.aload_n 1, 1) := by decide +kernel
theorem eX0_tellBound_19 : decode (mB MX0_tellBound) 19 = .ok (.getfield 128, 3) := by decide +kernel
theorem eX0_tellBound_22 : decode (mB MX0_tellBound) 22 = .ok (.iload 4, 2) := by decide +kernel
theorem eX0_tellBound_24 : decode (mB MX0_tellBound) 24 = .ok (.iaload, 1) := by decide +kernel
theorem eX0_tellBound_25 : decode (mB MX0_tellBound) 25 = .ok (.ifCond .le 48, 3) := by decide +kernel
theorem eX0_tellBound_28 : decode (mB MX0_tellBound) 28 = .ok (.aload_n 0, 1) := by decide +kernel
theorem eX0_tellBound_29 : decode (mB MX0_tellBound) 29 = .ok (.aload_n 1, 1) := by decide +kernel
theorem eX0_tellBound_30 : decode (mB MX0_tellBound) 30 = .ok (.iload_n 2, 1) := by decide +kernel
theorem eX0_tellBound_31 : decode (mB MX0_tellBound) 31 = .ok (.iload 4, 2) := by decide +kernel
theorem eX0_tellBound_33 : decode (mB MX0_tellBound) 33 = .ok (.invokevirtual 131, 3) := by decide +kernel
theorem eX0_tellBound_36 : decode (mB MX0_tellBound) 36 = .ok (.istore 5, 2) := by decide +kernel
theorem eX0_tellBound_38 : decode (mB MX0_tellBound) 38 = .ok (.iload 5, 2) := by decide +kernel
theorem eX0_tellBound_40 : decode (mB MX0_tellBound) 40 = .ok (.ifCond .ge 5, 3) := by decide +kernel
theorem eX0_tellBound_43 : decode (mB MX0_tellBound) 43 = .ok (.iconst 0, 1) := by decide +kernel
theorem eX0_tellBound_44 : decode (mB MX0_tellBound) 44 = .ok (.ireturn, 1) := by decide +kernel
theorem eX0_tellBound_45 : decode (mB MX0_tellBound) 45 = .ok (.aload_n 3, 1) := by decide +kernel
theorem eX0_tellBound_46 : decode (mB MX0_tellBound) 46 = .ok (.aload_n 1, 1) := by decide +kernel
theorem eX0_tellBound_47 : decode (mB MX0_tellBound) 47 = .ok (.getfield 128, 3) := by decide +kernel
theorem eX0_tellBound_50 : decode (mB MX0_tellBound) 50 = .ok (.iload 4, 2) := by decide +kernel
theorem eX0_tellBound_52 : decode (mB MX0_tellBound) 52 = .ok (.iaload, 1) := by decide +kernel
theorem eX0_tellBound_53 : decode (mB MX0_tellBound) 53 = .ok (.i2l, 1) := by decide +kernel
theorem eX0_tellBound_54 : decode (mB MX0_tellBound) 54 = .ok (.aload_n 0, 1) := by decide +kernel
theorem eX0_tellBound_55 : decode (mB MX0_tellBound) 55 = .ok (.getfield 18, 3) := by decide +kernel
theorem eX0_tellBound_58 : decode (mB MX0_tellBound) 58 = .ok (.iload 5, 2) := by decide +kernel
theorem eX0_tellBound_60 : decode (mB MX0_tellBound) 60 = .ok (.iaload, 1) := by decide +kernel
theorem eX0_tellBound_61 : decode (mB MX0_tellBound) 61 = .ok (.i2l, 1) := by decide +kernel
theorem eX0_tellBound_62 : decode (mB MX0_tellBound) 62 = .ok (.lmul, 1) := by decide +kernel
theorem eX0_tellBound_63 : decode (mB MX0_tellBound) 63 = .ok (.aload_n 0, 1) := by decide +kernel
theorem eX0_tellBound_64 : decode (mB MX0_tellBound) 64 = .ok (.iload 5, 2) := by decide +kernel
theorem eX0_tellBound_66 : decode (mB MX0_tellBound) 66 = .ok (.invokevirtual 111, 3) := by decide +kernel
theorem eX0_tellBound_69 : decode (mB MX0_tellBound) 69 = .ok (.i2l, 1) := by decide +kernel
theorem eX0_tellBound_70 : decode (mB MX0_tellBound) 70 = .ok (.invokevirtual 135, 3) := by decide +kernel
theorem eX0_tellBound_73 : decode (mB MX0_tellBound) 73 = .ok (.iinc 4 1, 3) := by decide +kernel
theorem eX0_tellBound_76 : decode (mB MX0_tellBound) 76 = .ok (.goto (-67), 3) := by decide +kernel
theorem eX0_tellBound_79 : decode (mB MX0_tellBound) 79 = .ok (.iconst 1, 1) := by decide +kernel
theorem eX0_tellBound_80 : decode (mB MX0_tellBound) 80 = .ok (.ireturn, 1) := by decide +kernel
theorem eX0_withoutUse_0 : decode (mB MX0_withoutUse) 0 = .ok (.aload_n 0, 1) := by decide +kernel
theorem eX0_withoutUse_1 : decode (mB MX0_withoutUse) 1 = .ok (.aload_n 1, 1) := by decide +kernel
theorem eX0_withoutUse_2 : decode (mB MX0_withoutUse) 2 = .ok (.iload_n 2, 1) := by decide +kernel
theorem eX0_withoutUse_3 : decode (mB MX0_withoutUse) 3 = .ok (.invokevirtual 71, 3) := by decide +kernel
theorem eX0_withoutUse_6 : decode (mB MX0_withoutUse) 6 = .ok (.iconst 1, 1) := by decide +kernel
theorem eX0_withoutUse_7 : decode (mB MX0_withoutUse) 7 = .ok (.aload_n 0, 1) := by decide +kernel
theorem eX0_withoutUse_8 : decode (mB MX0_withoutUse) 8 = .ok (.getfield 32, 3) := by decide +kernel
theorem eX0_withoutUse_11 : decode (mB MX0_withoutUse) 11 = .ok (.getfield 125, 3) := by decide +kernel
theorem eX0_withoutUse_14 : decode (mB MX0_withoutUse) 14 = .ok (.ishl, 1) := by decide +kernel
theorem eX0_withoutUse_15 : decode (mB MX0_withoutUse) 15 = .ok (.iconst 1, 1) := by decide +kernel
theorem eX0_withoutUse_16 : decode (mB MX0_withoutUse) 16 = .ok (.isub, 1) := by decide +kernel
theorem eX0_withoutUse_17 : decode (mB MX0_withoutUse) 17 = .ok (.aload_n 0, 1) := by decide +kernel
theorem eX0_withoutUse_18 : decode (mB MX0_withoutUse) 18 = .ok (.getfield 55, 3) := by decide +kernel
theorem eX0_withoutUse_21 : decode (mB MX0_withoutUse) 21 = .ok (.iconst (-1), 1) := by decide +kernel
theorem eX0_withoutUse_22 : decode (mB MX0_withoutUse) 22 = .ok (.ixor, 1) := by decide +kernel
theorem eX0_withoutUse_23 : decode (mB MX0_withoutUse) 23 = .ok (.iand, 1) := by decide +kernel
theorem eX0_withoutUse_24 : decode (mB MX0_withoutUse) 24 = .ok (.ireturn, 1) := by decide +kernel
theorem eX1_init_0 : decode (mB MX1_init) 0 = .ok (.aload_n 0, 1) := by decide +kernel
theorem eX1_init_1 : decode (mB MX1_init) 1 = .ok (.invokespecial 1, 3) := by decide +kernel
theorem eX1_init_4 : decode (mB MX1_init) 4 = .ok (.aload_n 0, 1) := by decide +kernel
theorem eX1_init_5 : decode (mB MX1_init) 5 = .ok (.lconst 0, 1) := by decide +kernel
theorem eX1_init_6 : decode (mB MX1_init) 6 = .ok (.putfield 7, 3) := by decide +kernel
theorem eX1_init_9 : decode (mB MX1_init) 9 = .ok (.aload_n 0, 1) := by decide +kernel
theorem eX1_init_10 : decode (mB MX1_init) 10 = .ok (.lconst 1, 1) := by decide +kernel
theorem eX1_init_11 : decode (mB MX1_init) 11 = .ok (.putfield 13, 3) := by decide +kernel
theorem eX1_init_14 : decode (mB MX1_init) 14 = .ok (.return_, 1) := by decide +kernel
theorem eX1_begin_0 : decode (mB MX1_begin) 0 = .ok (.lload_n 1, 1) := by decide +kernel
theorem eX1_begin_1 : decode (mB MX1_begin) 1 = .ok (.lload_n 3, 1) := by decide +kernel
theorem eX1_begin_2 : decode (mB MX1_begin) 2 = .ok (.invokestatic 16, 3) := by decide +kernel
theorem eX1_begin_5 : decode (mB MX1_begin) 5 = .ok (.lstore 5, 2) := by decide +kernel
theorem eX1_begin_7 : decode (mB MX1_begin) 7 = .ok (.aload_n 0, 1) := by decide +kernel
theorem eX1_begin_8 : decode (mB MX1_begin) 8 = .ok (.lload 5, 2) := by decide +kernel
theorem eX1_begin_10 : decode (mB MX1_begin) 10 = .ok (.lconst 0, 1) := by decide +kernel
theorem eX1_begin_11 : decode (mB MX1_begin) 11 = .ok (.lcmp, 1) := by decide +kernel
theorem eX1_begin_12 : decode (mB MX1_begin) 12 = .ok (.ifCond .ne 7, 3) := by decide +kernel
theorem eX1_begin_15 : decode (mB MX1_begin) 15 = .ok (.lload_n 1, 1) := by decide +kernel
theorem eX1_begin_16 : decode (mB MX1_begin) 16 = .ok (.goto 7, 3) := by decide +kernel
theorem eX1_begin_19 : decode (mB MX1_begin) 19 = .ok (.lload_n 1, 1) := by decide +kernel
theorem eX1_begin_20 : decode (mB MX1_begin) 20 = .ok (.lload 5, 2) := by decide +kernel
theorem eX1_begin_22 : decode (mB MX1_begin) 22 = .ok (.ldiv, 1) := by decide +kernel
theorem eX1_begin_23 : decode (mB MX1_begin) 23 = .ok (.putfield 7, 3) := by decide +kernel
theorem eX1_begin_26 : decode (mB MX1_begin) 26 = .ok (.aload_n 0, 1) := by decide +kernel
theorem eX1_begin_27 : decode (mB MX1_begin) 27 = .ok (.lload 5, 2) := by decide +kernel
theorem eX1_begin_29 : decode (mB MX1_begin) 29 = .ok (.lconst 0, 1) := by decide +kernel
theorem eX1_begin_30 : decode (mB MX1_begin) 30 = .ok (.lcmp, 1) := by decide +kernel
theorem eX1_begin_31 : decode (mB MX1_begin) 31 = .ok (.ifCond .ne 7, 3) := by decide +kernel
theorem eX1_begin_34 : decode (mB MX1_begin) 34 = .ok (.lload_n 3, 1) := by decide +kernel
theorem eX1_begin_35 : decode (mB MX1_begin) 35 = .ok (.goto 7, 3) := by decide +kernel
theorem eX1_begin_38 : decode (mB MX1_begin) 38 = .ok (.lload_n 3, 1) := by decide +kernel
theorem eX1_begin_39 : decode (mB MX1_begin) 39 = .ok (.lload 5, 2) := by decide +kernel
theorem eX1_begin_41 : decode (mB MX1_begin) 41 = .ok (.ldiv, 1) := by decide +kernel
theorem eX1_begin_42 : decode (mB MX1_begin) 42 = .ok (.putfield 13, 3) := by decide +kernel
theorem eX1_begin_45 : decode (mB MX1_begin) 45 = .ok (.return_, 1) := by decide +kernel
theorem eX1_add_0 : decode (mB MX1_add) 0 = .ok (.aload_n 0, 1) := by decide +kernel
theorem eX1_add_1 : decode (mB MX1_add) 1 = .ok (.aload_n 0, 1) := by decide +kernel
theorem eX1_add_2 : decode (mB MX1_add) 2 = .ok (.getfield 7, 3) := by decide +kernel
theorem eX1_add_5 : decode (mB MX1_add) 5 = .ok (.lload_n 3, 1) := by decide +kernel
theorem eX1_add_6 : decode (mB MX1_add) 6 = .ok (.lmul, 1) := by decide +kernel
theorem eX1_add_7 : decode (mB MX1_add) 7 = .ok (.lload_n 1, 1) := by decide +kernel
theorem eX1_add_8 : decode (mB MX1_add) 8 = .ok (.aload_n 0, 1) := by decide +kernel
theorem eX1_add_9 : decode (mB MX1_add) 9 = .ok (.getfield 13, 3) := by decide +kernel
theorem eX1_add_12 : decode (mB MX1_add) 12 = .ok (.lmul, 1) := by decide +kernel
theorem eX1_add_13 : decode (mB MX1_add) 13 = .ok (.ladd, 1) := by decide +kernel
theorem eX1_add_14 : decode (mB MX1_add) 14 = .ok (.aload_n 0, 1) := by decide +kernel
theorem eX1_add_15 : decode (mB MX1_add) 15 = .ok (.getfield 13, 3) := by decide +kernel
theorem eX1_add_18 : decode (mB MX1_add) 18 = .ok (.lload_n 3, 1) := by decide +kernel
theorem eX1_add_19 : decode (mB MX1_add) 19 = .ok (.lmul, 1) := by decide +kernel
theorem eX1_add_20 : decode (mB MX1_add) 20 = .ok (.invokevirtual 20, 3) := by decide +kernel
theorem eX1_add_23 : decode (mB MX1_add) 23 = .ok (.return_, 1) := by decide +kernel
theorem eX1_part_0 : decode (mB MX1_part) 0 = .ok (.iload_n 1, 1) := by decide +kernel
theorem eX1_part_1 : decode (mB MX1_part) 1 = .ok (.ifCond .ne 10, 3) := by decide +kernel
theorem eX1_part_4 : decode (mB MX1_part) 4 = .ok (.aload_n 0, 1) := by decide +kernel
theorem eX1_part_5 : decode (mB MX1_part) 5 = .ok (.getfield 7, 3) := by decide +kernel
theorem eX1_part_8 : decode (mB MX1_part) 8 = .ok (.goto 7, 3) := by decide +kernel
theorem eX1_part_11 : decode (mB MX1_part) 11 = .ok (.aload_n 0, 1) := by decide +kernel
theorem eX1_part_12 : decode (mB MX1_part) 12 = .ok (.getfield 13, 3) := by decide +kernel
theorem eX1_part_15 : decode (mB MX1_part) 15 = .ok (.lreturn, 1) := by decide +kernel
theorem eX1_commonDivisor_0 : decode (mB MX1_commonDivisor) 0 = .ok (.lload_n 0, 1) := by decide +kernel
theorem eX1_commonDivisor_1 : decode (mB MX1_commonDivisor) 1 = .ok (.lstore 4, 2) := by decide +kernel
theorem eX1_commonDivisor_3 : decode (mB MX1_commonDivisor) 3 = .ok (.lload_n 2, 1) := by decide +kernel
theorem eX1_commonDivisor_4 : decode (mB MX1_commonDivisor) 4 = .ok (.lstore 6, 2) := by decide +kernel
theorem eX1_commonDivisor_6 : decode (mB MX1_commonDivisor) 6 = .ok (.iconst 0, 1) := by decide +kernel
theorem eX1_commonDivisor_7 : decode (mB MX1_commonDivisor) 7 = .ok (.istore 8, 2) := by decide +kernel
theorem eX1_commonDivisor_9 : decode (mB MX1_commonDivisor) 9 = .ok (.iload 8, 2) := by decide +kernel
theorem eX1_commonDivisor_11 : decode (mB MX1_commonDivisor) 11 = .ok (.sipush 200, 3) := by decide +kernel
theorem eX1_commonDivisor_14 : decode (mB MX1_commonDivisor) 14 = .ok (.if_icmp .ge 31, 3) := by decide +kernel
theorem eX1_commonDivisor_17 : decode (mB MX1_commonDivisor) 17 = .ok (.lload 6, 2) := by decide +kernel
theorem eX1_commonDivisor_19 : decode (mB MX1_commonDivisor) 19 = .ok (.lconst 0, 1) := by decide +kernel
theorem eX1_commonDivisor_20 : decode (mB MX1_commonDivisor) 20 = .ok (.lcmp, 1) := by decide +kernel
theorem eX1_commonDivisor_21 : decode (mB MX1_commonDivisor) 21 = .ok (.ifCond .eq 24, 3) := by decide +kernel
theorem eX1_commonDivisor_24 : decode (mB MX1_commonDivisor) 24 = .ok (.lload 4, 2) := by decide +kernel
theorem eX1_commonDivisor_26 : decode (mB MX1_commonDivisor) 26 = .ok (.lload 6, 2) := by decide +kernel
theorem eX1_commonDivisor_28 : decode (mB MX1_commonDivisor) 28 = .ok (.lrem, 1) := by decide +kernel
theorem eX1_commonDivisor_29 : decode (mB MX1_commonDivisor) 29 = .ok (.lstore 9, 2) := by decide +kernel
theorem eX1_commonDivisor_31 : decode (mB MX1_commonDivisor) 31 = .ok (.lload 6, 2) := by decide +kernel
theorem eX1_commonDivisor_33 : decode (mB MX1_commonDivisor) 33 = .ok (.lstore 4, 2) := by decide +kernel
theorem eX1_commonDivisor_35 : decode (mB MX1_commonDivisor) 35 = .ok (.lload 9, 2) := by decide +kernel
theorem eX1_commonDivisor_37 : decode (mB MX1_commonDivisor) 37 = .ok (.lstore 6, 2) := by decide +kernel
theorem eX1_commonDivisor_39 : decode (mB MX1_commonDivisor) 39 = .ok (.iinc 8 1, 3) := by decide +kernel
theorem eX1_commonDivisor_42 : decode (mB MX1_commonDivisor) 42 = .ok (.goto (-33), 3) := by decide +kernel
theorem eX1_commonDivisor_45 : decode (mB MX1_commonDivisor) 45 = .ok (.lload 4, 2) := by decide +kernel
theorem eX1_commonDivisor_47 : decode (mB MX1_commonDivisor) 47 = .ok (.lreturn, 1) := by decide +kernel
theorem eX2_init_0 : decode (mB MX2_init) 0 = .ok (.aload_n 0, 1) := by decide +kernel
theorem eX2_init_1 : decode (mB MX2_init) 1 = .ok (.invokespecial 3, 3) := by decide +kernel
theorem eX2_init_4 : decode (mB MX2_init) 4 = .ok (.aload_n 0, 1) := by decide +kernel
theorem eX2_init_5 : decode (mB MX2_init) 5 = .ok (.bipush 10, 2) := by decide +kernel
theorem eX2_init_7 : decode (mB MX2_init) 7 = .ok (.invokestatic 9, 3) := by decide +kernel
theorem eX2_init_10 : decode (mB MX2_init) 10 = .ok (.putfield 13, 3) := by decide +kernel
theorem eX2_init_13 : decode (mB MX2_init) 13 = .ok (.aload_n 0, 1) := by decide +kernel
theorem eX2_init_14 : decode (mB MX2_init) 14 = .ok (.iconst 0, 1) := by decide +kernel
theorem eX2_init_15 : decode (mB MX2_init) 15 = .ok (.putfield 19, 3) := by decide +kernel
theorem eX2_init_18 : decode (mB MX2_init) 18 = .ok (.aload_n 0, 1) := by decide +kernel
theorem eX2_init_19 : decode (mB MX2_init) 19 = .ok (.iconst 0, 1) := by decide +kernel
theorem eX2_init_20 : decode (mB MX2_init) 20 = .ok (.putfield 23, 3) := by decide +kernel
theorem eX2_init_23 : decode (mB MX2_init) 23 = .ok (.return_, 1) := by decide +kernel
theorem eX2_keep_0 : decode (mB MX2_keep) 0 = .ok (.aload_n 0, 1) := by decide +kernel
theorem eX2_keep_1 : decode (mB MX2_keep) 1 = .ok (.getfield 13, 3) := by decide +kernel
theorem eX2_keep_4 : decode (mB MX2_keep) 4 = .ok (.aload_n 0, 1) := by decide +kernel
theorem eX2_keep_5 : decode (mB MX2_keep) 5 = .ok (.getfield 19, 3) := by decide +kernel
theorem eX2_keep_8 : decode (mB MX2_keep) 8 = .ok (.aaload, 1) := by decide +kernel
theorem eX2_keep_9 : decode (mB MX2_keep) 9 = .ok (.aload_n 1, 1) := by decide +kernel
theorem eX2_keep_10 : decode (mB MX2_keep) 10 = .ok (.invokevirtual 26, 3) := by decide +kernel
theorem eX2_keep_13 : decode (mB MX2_keep) 13 = .ok (.aload_n 0, 1) := by decide +kernel
theorem eX2_keep_14 : decode (mB MX2_keep) 14 = .ok (.aload_n 0, 1) := by decide +kernel
theorem eX2_keep_15 : decode (mB MX2_keep) 15 = .ok (.getfield 19, 3) := by decide +kernel
theorem eX2_keep_18 : decode (mB MX2_keep) 18 = .ok (.iconst 1, 1) := by decide +kernel
theorem eX2_keep_19 : decode (mB MX2_keep) 19 = .ok (.iadd, 1) := by decide +kernel
theorem eX2_keep_20 : decode (mB MX2_keep) 20 = .ok (.bipush 10, 2) := by decide +kernel
theorem eX2_keep_22 : decode (mB MX2_keep) 22 = .ok (.irem, 1) := by decide +kernel
theorem eX2_keep_23 : decode (mB MX2_keep) 23 = .ok (.putfield 19, 3) := by decide +kernel
theorem eX2_keep_26 : decode (mB MX2_keep) 26 = .ok (.aload_n 0, 1) := by decide +kernel
theorem eX2_keep_27 : decode (mB MX2_keep) 27 = .ok (.aload_n 0, 1) := by decide +kernel
theorem eX2_keep_28 : decode (mB MX2_keep) 28 = .ok (.getfield 23, 3) := by decide +kernel
theorem eX2_keep_31 : decode (mB MX2_keep) 31 = .ok (.iconst 1, 1) := by decide +kernel
theorem eX2_keep_32 : decode (mB MX2_keep) 32 = .ok (.iadd, 1) := by decide +kernel
theorem eX2_keep_33 : decode (mB MX2_keep) 33 = .ok (.bipush 10, 2) := by decide +kernel
theorem eX2_keep_35 : decode (mB MX2_keep) 35 = .ok (.invokestatic 32, 3) := by decide +kernel
theorem eX2_keep_38 : decode (mB MX2_keep) 38 = .ok (.putfield 23, 3) := by decide +kernel
theorem eX2_keep_41 : decode (mB MX2_keep) 41 = .ok (.return_, 1) := by decide +kernel
theorem eX2_bringBack_0 : decode (mB MX2_bringBack) 0 = .ok (.aload_n 0, 1) := by decide +kernel
theorem eX2_bringBack_1 : decode (mB MX2_bringBack) 1 = .ok (.aload_n 0, 1) := by decide +kernel
theorem eX2_bringBack_2 : decode (mB MX2_bringBack) 2 = .ok (.getfield 19, 3) := by decide +kernel
theorem eX2_bringBack_5 : decode (mB MX2_bringBack) 5 = .ok (.bipush 10, 2) := by decide +kernel
theorem eX2_bringBack_7 : decode (mB MX2_bringBack) 7 = .ok (.iadd, 1) := by decide +kernel
theorem eX2_bringBack_8 : decode (mB MX2_bringBack) 8 = .ok (.iload_n 1, 1) := by decide +kernel
theorem eX2_bringBack_9 : decode (mB MX2_bringBack) 9 = .ok (.isub, 1) := by decide +kernel
theorem eX2_bringBack_10 : decode (mB MX2_bringBack) 10 = .ok (.bipush 10, 2) := by decide +kernel
theorem eX2_bringBack_12 : decode (mB MX2_bringBack) 12 = .ok (.irem, 1) := by decide +kernel
theorem eX2_bringBack_13 : decode (mB MX2_bringBack) 13 = .ok (.putfield 19, 3) := by decide +kernel
theorem eX2_bringBack_16 : decode (mB MX2_bringBack) 16 = .ok (.aload_n 2, 1) := by decide +kernel
theorem eX2_bringBack_17 : decode (mB MX2_bringBack) 17 = .ok (.aload_n 0, 1) := by decide +kernel
theorem eX2_bringBack_18 : decode (mB MX2_bringBack) 18 = .ok (.getfield 13, 3) := by decide +kernel
theorem eX2_bringBack_21 : decode (mB MX2_bringBack) 21 = .ok (.aload_n 0, 1) := by decide +kernel
theorem eX2_bringBack_22 : decode (mB MX2_bringBack) 22 = .ok (.getfield 19, 3) := by decide +kernel
theorem eX2_bringBack_25 : decode (mB MX2_bringBack) 25 = .ok (.aaload, 1) := by decide +kernel
theorem eX2_bringBack_26 : decode (mB MX2_bringBack) 26 = .ok (.invokevirtual 26, 3) := by decide +kernel
theorem eX2_bringBack_29 : decode (mB MX2_bringBack) 29 = .ok (.aload_n 0, 1) := by decide +kernel
theorem eX2_bringBack_30 : decode (mB MX2_bringBack) 30 = .ok (.dup, 1) := by decide +kernel
theorem eX2_bringBack_31 : decode (mB MX2_bringBack) 31 = .ok (.getfield 23, 3) := by decide +kernel
theorem eX2_bringBack_34 : decode (mB MX2_bringBack) 34 = .ok (.iload_n 1, 1) := by decide +kernel
theorem eX2_bringBack_35 : decode (mB MX2_bringBack) 35 = .ok (.isub, 1) := by decide +kernel
theorem eX2_bringBack_36 : decode (mB MX2_bringBack) 36 = .ok (.putfield 23, 3) := by decide +kernel
theorem eX2_bringBack_39 : decode (mB MX2_bringBack) 39 = .ok (.return_, 1) := by decide +kernel
theorem eX2_forget_0 : decode (mB MX2_forget) 0 = .ok (.aload_n 0, 1) := by decide +kernel
theorem eX2_forget_1 : decode (mB MX2_forget) 1 = .ok (.iconst 0, 1) := by decide +kernel
theorem eX2_forget_2 : decode (mB MX2_forget) 2 = .ok (.putfield 23, 3) := by decide +kernel
theorem eX2_forget_5 : decode (mB MX2_forget) 5 = .ok (.return_, 1) := by decide +kernel
theorem eX3_init_0 : decode (mB MX3_init) 0 = .ok (.aload_n 0, 1) := by decide +kernel
theorem eX3_init_1 : decode (mB MX3_init) 1 = .ok (.invokespecial 3, 3) := by decide +kernel
theorem eX3_init_4 : decode (mB MX3_init) 4 = .ok (.aload_n 0, 1) := by decide +kernel
theorem eX3_init_5 : decode (mB MX3_init) 5 = .ok (.sipush 900, 3) := by decide +kernel
theorem eX3_init_8 : decode (mB MX3_init) 8 = .ok (.newarray .int, 2) := by decide +kernel
theorem eX3_init_10 : decode (mB MX3_init) 10 = .ok (.putfield 9, 3) := by decide +kernel
theorem eX3_init_13 : decode (mB MX3_init) 13 = .ok (.aload_n 0, 1) := by decide +kernel
theorem eX3_init_14 : decode (mB MX3_init) 14 = .ok (.iconst 5, 1) := by decide +kernel
theorem eX3_init_15 : decode (mB MX3_init) 15 = .ok (.newarray .int, 2) := by decide +kernel
theorem eX3_init_17 : decode (mB MX3_init) 17 = .ok (.putfield 15, 3) := by decide +kernel
theorem eX3_init_20 : decode (mB MX3_init) 20 = .ok (.aload_n 0, 1) := by decide +kernel
theorem eX3_init_21 : decode (mB MX3_init) 21 = .ok (.bipush 64, 2) := by decide +kernel
theorem eX3_init_23 : decode (mB MX3_init) 23 = .ok (.newarray .int, 2) := by decide +kernel
theorem eX3_init_25 : decode (mB MX3_init) 25 = .ok (.putfield 18, 3) := by decide +kernel
theorem eX3_init_28 : decode (mB MX3_init) 28 = .ok (.return_, 1) := by decide +kernel
theorem eX3_begin_0 : decode (mB MX3_begin) 0 = .ok (.aload_n 0, 1) := by decide +kernel
theorem eX3_begin_1 : decode (mB MX3_begin) 1 = .ok (.iconst 0, 1) := by decide +kernel
theorem eX3_begin_2 : decode (mB MX3_begin) 2 = .ok (.putfield 21, 3) := by decide +kernel
theorem eX3_begin_5 : decode (mB MX3_begin) 5 = .ok (.aload_n 0, 1) := by decide +kernel
theorem eX3_begin_6 : decode (mB MX3_begin) 6 = .ok (.iconst 0, 1) := by decide +kernel
theorem eX3_begin_7 : decode (mB MX3_begin) 7 = .ok (.putfield 25, 3) := by decide +kernel
theorem eX3_begin_10 : decode (mB MX3_begin) 10 = .ok (.aload_n 0, 1) := by decide +kernel
theorem eX3_begin_11 : decode (mB MX3_begin) 11 = .ok (.iconst 0, 1) := by decide +kernel
theorem eX3_begin_12 : decode (mB MX3_begin) 12 = .ok (.putfield 28, 3) := by decide +kernel
theorem eX3_begin_15 : decode (mB MX3_begin) 15 = .ok (.aload_n 0, 1) := by decide +kernel
theorem eX3_begin_16 : decode (mB MX3_begin) 16 = .ok (.iconst 0, 1) := by decide +kernel
theorem eX3_begin_17 : decode (mB MX3_begin) 17 = .ok (.putfield 31, 3) := by decide +kernel
theorem eX3_begin_20 : decode (mB MX3_begin) 20 = .ok (.aload_n 0, 1) := by decide +kernel
theorem eX3_begin_21 : decode (mB MX3_begin) 21 = .ok (.iconst 0, 1) := by decide +kernel
theorem eX3_begin_22 : decode (mB MX3_begin) 22 = .ok (.putfield 34, 3) := by decide +kernel
theorem eX3_begin_25 : decode (mB MX3_begin) 25 = .ok (.return_, 1) := by decide +kernel
theorem eX3_open_0 : decode (mB MX3_open) 0 = .ok (.iload_n 1, 1) := by decide +kernel
theorem eX3_open_1 : decode (mB MX3_open) 1 = .ok (.ifCond .eq 14, 3) := by decide +kernel
theorem eX3_open_4 : decode (mB MX3_open) 4 = .ok (.aload_n 0, 1) := by decide +kernel
theorem eX3_open_5 : decode (mB MX3_open) 5 = .ok (.aload_n 0, 1) := by decide +kernel
theorem eX3_open_6 : decode (mB MX3_open) 6 = .ok (.getfield 21, 3) := by decide +kernel
theorem eX3_open_9 : decode (mB MX3_open) 9 = .ok (.putfield 31, 3) := by decide +kernel
theorem eX3_open_12 : decode (mB MX3_open) 12 = .ok (.goto 11, 3) := by decide +kernel
theorem eX3_open_15 : decode (mB MX3_open) 15 = .ok (.aload_n 0, 1) := by decide +kernel
theorem eX3_open_16 : decode (mB MX3_open) 16 = .ok (.aload_n 0, 1) := by decide +kernel
theorem eX3_open_17 : decode (mB MX3_open) 17 = .ok (.getfield 21, 3) := by decide +kernel
theorem eX3_open_20 : decode (mB MX3_open) 20 = .ok (.putfield 25, 3) := by decide +kernel
theorem eX3_open_23 : decode (mB MX3_open) 23 = .ok (.return_, 1) := by decide +kernel
theorem eX3_close_0 : decode (mB MX3_close) 0 = .ok (.iload_n 1, 1) := by decide +kernel
theorem eX3_close_1 : decode (mB MX3_close) 1 = .ok (.ifCond .eq 14, 3) := by decide +kernel
theorem eX3_close_4 : decode (mB MX3_close) 4 = .ok (.aload_n 0, 1) := by decide +kernel
theorem eX3_close_5 : decode (mB MX3_close) 5 = .ok (.aload_n 0, 1) := by decide +kernel
theorem eX3_close_6 : decode (mB MX3_close) 6 = .ok (.getfield 21, 3) := by decide +kernel
theorem eX3_close_9 : decode (mB MX3_close) 9 = .ok (.putfield 34, 3) := by decide +kernel
theorem eX3_close_12 : decode (mB MX3_close) 12 = .ok (.goto 11, 3) := by decide +kernel
theorem eX3_close_15 : decode (mB MX3_close) 15 = .ok (.aload_n 0, 1) := by decide +kernel
theorem eX3_close_16 : decode (mB MX3_close) 16 = .ok (.aload_n 0, 1) := by decide +kernel
theorem eX3_close_17 : decode (mB MX3_close) 17 = .ok (.getfield 21, 3) := by decide +kernel
theorem eX3_close_20 : decode (mB MX3_close) 20 = .ok (.putfield 28, 3) := by decide +kernel
theorem eX3_close_23 : decode (mB MX3_close) 23 = .ok (.return_, 1) := by decide +kernel
theorem eX3_put_0 : decode (mB MX3_put) 0 = .ok (.aload_n 0, 1) := by decide +kernel
theorem eX3_put_1 : decode (mB MX3_put) 1 = .ok (.getfield 21, 3) := by decide +kernel
theorem eX3_put_4 : decode (mB MX3_put) 4 = .ok (.aload_n 0, 1) := by decide +kernel
theorem eX3_put_5 : decode (mB MX3_put) 5 = .ok (.getfield 9, 3) := by decide +kernel
theorem eX3_put_8 : decode (mB MX3_put) 8 = .ok (.arraylength, 1) := by decide +kernel
theorem eX3_put_9 : decode (mB MX3_put) 9 = .ok (.if_icmp .ge 23, 3) := by decide +kernel
theorem eX3_put_12 : decode (mB MX3_put) 12 = .ok (.aload_n 0, 1) := by decide +kernel
theorem eX3_put_13 : decode (mB MX3_put) 13 = .ok (.getfield 9, 3) := by decide +kernel
theorem eX3_put_16 : decode (mB MX3_put) 16 = .ok (.aload_n 0, 1) := by decide +kernel
theorem eX3_put_17 : decode (mB MX3_put) 17 = .ok (.getfield 21, 3) := by decide +kernel
theorem eX3_put_20 : decode (mB MX3_put) 20 = .ok (.iload_n 1, 1) := by decide +kernel
theorem eX3_put_21 : decode (mB MX3_put) 21 = .ok (.iastore, 1) := by decide +kernel
theorem eX3_put_22 : decode (mB MX3_put) 22 = .ok (.aload_n 0, 1) := by decide +kernel
theorem eX3_put_23 : decode (mB MX3_put) 23 = .ok (.dup, 1) := by decide +kernel
theorem eX3_put_24 : decode (mB MX3_put) 24 = .ok (.getfield 21, 3) := by decide +kernel
theorem eX3_put_27 : decode (mB MX3_put) 27 = .ok (.iconst 1, 1) := by decide +kernel
theorem eX3_put_28 : decode (mB MX3_put) 28 = .ok (.iadd, 1) := by decide +kernel
theorem eX3_put_29 : decode (mB MX3_put) 29 = .ok (.putfield 21, 3) := by decide +kernel
theorem eX3_put_32 : decode (mB MX3_put) 32 = .ok (.return_, 1) := by decide +kernel
theorem eX3_tell_0 : decode (mB MX3_tell) 0 = .ok (.aload_n 0, 1) := by decide +kernel
theorem eX3_tell_1 : decode (mB MX3_tell) 1 = .ok (.getfield 15, 3) := by decide +kernel
theorem eX3_tell_4 : decode (mB MX3_tell) 4 = .ok (.iconst 0, 1) := by decide +kernel
theorem eX3_tell_5 : decode (mB MX3_tell) 5 = .ok (.iload_n 1, 1) := by decide +kernel
theorem eX3_tell_6 : decode (mB MX3_tell) 6 = .ok (.iastore, 1) := by decide +kernel
theorem eX3_tell_7 : decode (mB MX3_tell) 7 = .ok (.aload_n 0, 1) := by decide +kernel
theorem eX3_tell_8 : decode (mB MX3_tell) 8 = .ok (.getfield 15, 3) := by decide +kernel
theorem eX3_tell_11 : decode (mB MX3_tell) 11 = .ok (.iconst 1, 1) := by decide +kernel
theorem eX3_tell_12 : decode (mB MX3_tell) 12 = .ok (.iload_n 2, 1) := by decide +kernel
theorem eX3_tell_13 : decode (mB MX3_tell) 13 = .ok (.iastore, 1) := by decide +kernel
theorem eX3_tell_14 : decode (mB MX3_tell) 14 = .ok (.aload_n 0, 1) := by decide +kernel
theorem eX3_tell_15 : decode (mB MX3_tell) 15 = .ok (.getfield 15, 3) := by decide +kernel
theorem eX3_tell_18 : decode (mB MX3_tell) 18 = .ok (.iconst 2, 1) := by decide +kernel
theorem eX3_tell_19 : decode (mB MX3_tell) 19 = .ok (.iload_n 3, 1) := by decide +kernel
theorem eX3_tell_20 : decode (mB MX3_tell) 20 = .ok (.iastore, 1) := by decide +kernel
theorem eX3_tell_21 : decode (mB MX3_tell) 21 = .ok (.aload_n 0, 1) := by decide +kernel
theorem eX3_tell_22 : decode (mB MX3_tell) 22 = .ok (.getfield 15, 3) := by decide +kernel
theorem eX3_tell_25 : decode (mB MX3_tell) 25 = .ok (.iconst 3, 1) := by decide +kernel
theorem eX3_tell_26 : decode (mB MX3_tell) 26 = .ok (.iload 4, 2) := by decide +kernel
theorem eX3_tell_28 : decode (mB MX3_tell) 28 = .ok (.iastore, 1) := by decide +kernel
theorem eX3_tell_29 : decode (mB MX3_tell) 29 = .ok (.aload_n 0, 1) := by decide +kernel
theorem eX3_tell_30 : decode (mB MX3_tell) 30 = .ok (.getfield 15, 3) := by decide +kernel
theorem eX3_tell_33 : decode (mB MX3_tell) 33 = .ok (.iconst 4, 1) := by decide +kernel
theorem eX3_tell_34 : decode (mB MX3_tell) 34 = .ok (.iload 5, 2) := by decide +kernel
theorem eX3_tell_36 : decode (mB MX3_tell) 36 = .ok (.iastore, 1) := by decide +kernel
theorem eX3_tell_37 : decode (mB MX3_tell) 37 = .ok (.return_, 1) := by decide +kernel
theorem eX3_linkCost_0 : decode (mB MX3_linkCost) 0 = .ok (.aload_n 0, 1) := by decide +kernel
theorem eX3_linkCost_1 : decode (mB MX3_linkCost) 1 = .ok (.getfield 25, 3) := by decide +kernel
theorem eX3_linkCost_4 : decode (mB MX3_linkCost) 4 = .ok (.aload_n 0, 1) := by decide +kernel
theorem eX3_linkCost_5 : decode (mB MX3_linkCost) 5 = .ok (.getfield 28, 3) := by decide +kernel
theorem eX3_linkCost_8 : decode (mB MX3_linkCost) 8 = .ok (.if_icmp .ne 5, 3) := by decide +kernel
theorem eX3_linkCost_11 : decode (mB MX3_linkCost) 11 = .ok (.iload_n 1, 1) := by decide +kernel
theorem eX3_linkCost_12 : decode (mB MX3_linkCost) 12 = .ok (.ireturn, 1) := by decide +kernel
theorem eX3_linkCost_13 : decode (mB MX3_linkCost) 13 = .ok (.iconst 1, 1) := by decide +kernel
theorem eX3_linkCost_14 : decode (mB MX3_linkCost) 14 = .ok (.bipush 99, 2) := by decide +kernel
theorem eX3_linkCost_16 : decode (mB MX3_linkCost) 16 = .ok (.aload_n 0, 1) := by decide +kernel
theorem eX3_linkCost_17 : decode (mB MX3_linkCost) 17 = .ok (.aload_n 0, 1) := by decide +kernel
theorem eX3_linkCost_18 : decode (mB MX3_linkCost) 18 = .ok (.getfield 25, 3) := by decide +kernel
theorem eX3_linkCost_21 : decode (mB MX3_linkCost) 21 = .ok (.aload_n 0, 1) := by decide +kernel
theorem eX3_linkCost_22 : decode (mB MX3_linkCost) 22 = .ok (.getfield 28, 3) := by decide +kernel
theorem eX3_linkCost_25 : decode (mB MX3_linkCost) 25 = .ok (.invokevirtual 37, 3) := by decide +kernel
theorem eX3_linkCost_28 : decode (mB MX3_linkCost) 28 = .ok (.invokestatic 41, 3) := by decide +kernel
theorem eX3_linkCost_31 : decode (mB MX3_linkCost) 31 = .ok (.invokestatic 46, 3) := by decide +kernel
theorem eX3_linkCost_34 : decode (mB MX3_linkCost) 34 = .ok (.ireturn, 1) := by decide +kernel
theorem eX3_mayBe_0 : decode (mB MX3_mayBe) 0 = .ok (.aload_n 0, 1) := by decide +kernel
theorem eX3_mayBe_1 : decode (mB MX3_mayBe) 1 = .ok (.getfield 31, 3) := by decide +kernel
theorem eX3_mayBe_4 : decode (mB MX3_mayBe) 4 = .ok (.aload_n 0, 1) := by decide +kernel
theorem eX3_mayBe_5 : decode (mB MX3_mayBe) 5 = .ok (.getfield 34, 3) := by decide +kernel
theorem eX3_mayBe_8 : decode (mB MX3_mayBe) 8 = .ok (.if_icmp .eq 18, 3) := by decide +kernel
theorem eX3_mayBe_11 : decode (mB MX3_mayBe) 11 = .ok (.aload_n 0, 1) := by decide +kernel
theorem eX3_mayBe_12 : decode (mB MX3_mayBe) 12 = .ok (.aload_n 0, 1) := by decide +kernel
theorem eX3_mayBe_13 : decode (mB MX3_mayBe) 13 = .ok (.getfield 31, 3) := by decide +kernel
theorem eX3_mayBe_16 : decode (mB MX3_mayBe) 16 = .ok (.aload_n 0, 1) := by decide +kernel
theorem eX3_mayBe_17 : decode (mB MX3_mayBe) 17 = .ok (.getfield 34, 3) := by decide +kernel
theorem eX3_mayBe_20 : decode (mB MX3_mayBe) 20 = .ok (.invokevirtual 37, 3) := by decide +kernel
theorem eX3_mayBe_23 : decode (mB MX3_mayBe) 23 = .ok (.ifCond .eq 7, 3) := by decide +kernel
theorem eX3_mayBe_26 : decode (mB MX3_mayBe) 26 = .ok (.iconst 1, 1) := by decide +kernel
theorem eX3_mayBe_27 : decode (mB MX3_mayBe) 27 = .ok (.goto 4, 3) := by decide +kernel
theorem eX3_mayBe_30 : decode (mB MX3_mayBe) 30 = .ok (.iconst 0, 1) := by decide +kernel
theorem eX3_mayBe_31 : decode (mB MX3_mayBe) 31 = .ok (.ireturn, 1) := by decide +kernel
theorem eX3_workOut_0 : decode (mB MX3_workOut) 0 = .ok (.iconst 0, 1) := by decide +kernel
theorem eX3_workOut_1 : decode (mB MX3_workOut) 1 = .ok (.istore_n 3, 1) := by decide +kernel
theorem eX3_workOut_2 : decode (mB MX3_workOut) 2 = .ok (.iload_n 1, 1) := by decide +kernel
theorem eX3_workOut_3 : decode (mB MX3_workOut) 3 = .ok (.istore 4, 2) := by decide +kernel
theorem eX3_workOut_5 : decode (mB MX3_workOut) 5 = .ok (.iload 4, 2) := by decide +kernel
theorem eX3_workOut_7 : decode (mB MX3_workOut) 7 = .ok (.iload_n 2, 1) := by decide +kernel
theorem eX3_workOut_8 : decode (mB MX3_workOut) 8 = .ok (.if_icmp .ge 191, 3) := by decide +kernel
theorem eX3_workOut_11 : decode (mB MX3_workOut) 11 = .ok (.aload_n 0, 1) := by decide +kernel
theorem eX3_workOut_12 : decode (mB MX3_workOut) 12 = .ok (.getfield 9, 3) := by decide +kernel
theorem eX3_workOut_15 : decode (mB MX3_workOut) 15 = .ok (.iload 4, 2) := by decide +kernel
theorem eX3_workOut_17 : decode (mB MX3_workOut) 17 = .ok (.iaload, 1) := by decide +kernel
theorem eX3_workOut_18 : decode (mB MX3_workOut) 18 = .ok (.istore 5, 2) := by decide +kernel
theorem eX3_workOut_20 : decode (mB MX3_workOut) 20 = .ok (.iload 5, 2) := by decide +kernel
theorem eX3_workOut_22 : decode (mB MX3_workOut) 22 = .ok (.sipush 1005, 3) := by decide +kernel
theorem eX3_workOut_25 : decode (mB MX3_workOut) 25 = .ok (.if_icmp .ge 45, 3) := by decide +kernel
theorem eX3_workOut_28 : decode (mB MX3_workOut) 28 = .ok (.iload_n 3, 1) := by decide +kernel
theorem eX3_workOut_29 : decode (mB MX3_workOut) 29 = .ok (.bipush 64, 2) := by decide +kernel
theorem eX3_workOut_31 : decode (mB MX3_workOut) 31 = .ok (.if_icmp .ge 162, 3) := by decide +kernel
theorem eX3_workOut_34 : decode (mB MX3_workOut) 34 = .ok (.aload_n 0, 1) := by decide +kernel
theorem eX3_workOut_35 : decode (mB MX3_workOut) 35 = .ok (.getfield 18, 3) := by decide +kernel
theorem eX3_workOut_38 : decode (mB MX3_workOut) 38 = .ok (.iload_n 3, 1) := by decide +kernel
theorem eX3_workOut_39 : decode (mB MX3_workOut) 39 = .ok (.iload 5, 2) := by decide +kernel
theorem eX3_workOut_41 : decode (mB MX3_workOut) 41 = .ok (.sipush 1000, 3) := by decide +kernel
theorem eX3_workOut_44 : decode (mB MX3_workOut) 44 = .ok (.if_icmp .ge 8, 3) := by decide +kernel
theorem eX3_workOut_47 : decode (mB MX3_workOut) 47 = .ok (.iload 5, 2) := by decide +kernel
theorem eX3_workOut_49 : decode (mB MX3_workOut) 49 = .ok (.goto 14, 3) := by decide +kernel
theorem eX3_workOut_52 : decode (mB MX3_workOut) 52 = .ok (.aload_n 0, 1) := by decide +kernel
theorem eX3_workOut_53 : decode (mB MX3_workOut) 53 = .ok (.getfield 15, 3) := by decide +kernel
theorem eX3_workOut_56 : decode (mB MX3_workOut) 56 = .ok (.iload 5, 2) := by decide +kernel
theorem eX3_workOut_58 : decode (mB MX3_workOut) 58 = .ok (.sipush 1000, 3) := by decide +kernel
theorem eX3_workOut_61 : decode (mB MX3_workOut) 61 = .ok (.isub, 1) := by decide +kernel
theorem eX3_workOut_62 : decode (mB MX3_workOut) 62 = .ok (.iaload, 1) := by decide +kernel
theorem eX3_workOut_63 : decode (mB MX3_workOut) 63 = .ok (.iastore, 1) := by decide +kernel
theorem eX3_workOut_64 : decode (mB MX3_workOut) 64 = .ok (.iinc 3 1, 3) := by decide +kernel
theorem eX3_workOut_67 : decode (mB MX3_workOut) 67 = .ok (.goto 126, 3) := by decide +kernel
theorem eX3_workOut_70 : decode (mB MX3_workOut) 70 = .ok (.iload 5, 2) := by decide +kernel
theorem eX3_workOut_72 : decode (mB MX3_workOut) 72 = .ok (.sipush 1013, 3) := by decide +kernel
theorem eX3_workOut_75 : decode (mB MX3_workOut) 75 = .ok (.if_icmp .ne 28, 3) := by decide +kernel
theorem eX3_workOut_78 : decode (mB MX3_workOut) 78 = .ok (.iload_n 3, 1) := by decide +kernel
theorem eX3_workOut_79 : decode (mB MX3_workOut) 79 = .ok (.ifCond .le 114, 3) := by decide +kernel
theorem eX3_workOut_82 : decode (mB MX3_workOut) 82 = .ok (.aload_n 0, 1) := by decide +kernel
theorem eX3_workOut_83 : decode (mB MX3_workOut) 83 = .ok (.getfield 18, 3) := by decide +kernel
theorem eX3_workOut_86 : decode (mB MX3_workOut) 86 = .ok (.iload_n 3, 1) := by decide +kernel
theorem eX3_workOut_87 : decode (mB MX3_workOut) 87 = .ok (.iconst 1, 1) := by decide +kernel
theorem eX3_workOut_88 : decode (mB MX3_workOut) 88 = .ok (.isub, 1) := by decide +kernel
theorem eX3_workOut_89 : decode (mB MX3_workOut) 89 = .ok (.iconst 1, 1) := by decide +kernel
theorem eX3_workOut_90 : decode (mB MX3_workOut) 90 = .ok (.aload_n 0, 1) := by decide +kernel
theorem eX3_workOut_91 : decode (mB MX3_workOut) 91 = .ok (.getfield 18, 3) := by decide +kernel
theorem eX3_workOut_94 : decode (mB MX3_workOut) 94 = .ok (.iload_n 3, 1) := by decide +kernel
theorem eX3_workOut_95 : decode (mB MX3_workOut) 95 = .ok (.iconst 1, 1) := by decide +kernel
theorem eX3_workOut_96 : decode (mB MX3_workOut) 96 = .ok (.isub, 1) := by decide +kernel
theorem eX3_workOut_97 : decode (mB MX3_workOut) 97 = .ok (.iaload, 1) := by decide +kernel
theorem eX3_workOut_98 : decode (mB MX3_workOut) 98 = .ok (.isub, 1) := by decide +kernel
theorem eX3_workOut_99 : decode (mB MX3_workOut) 99 = .ok (.iastore, 1) := by decide +kernel
theorem eX3_workOut_100 : decode (mB MX3_workOut) 100 = .ok (.goto 93, 3) := by decide +kernel
theorem eX3_workOut_103 : decode (mB MX3_workOut) 103 = .ok (.iload 5, 2) := by decide +kernel
theorem eX3_workOut_105 : decode (mB MX3_workOut) 105 = .ok (.sipush 1014, 3) := by decide +kernel
theorem eX3_workOut_108 : decode (mB MX3_workOut) 108 = .ok (.if_icmp .ne 50, 3) := by decide +kernel
theorem eX3_workOut_111 : decode (mB MX3_workOut) 111 = .ok (.iload_n 3, 1) := by decide +kernel
theorem eX3_workOut_112 : decode (mB MX3_workOut) 112 = .ok (.iconst 2, 1) := by decide +kernel
theorem eX3_workOut_113 : decode (mB MX3_workOut) 113 = .ok (.if_icmp .le 80, 3) := by decide +kernel
theorem eX3_workOut_116 : decode (mB MX3_workOut) 116 = .ok (.iinc 3 (-2), 3) := by decide +kernel
theorem eX3_workOut_119 : decode (mB MX3_workOut) 119 = .ok (.aload_n 0, 1) := by decide +kernel
theorem eX3_workOut_120 : decode (mB MX3_workOut) 120 = .ok (.getfield 18, 3) := by decide +kernel
theorem eX3_workOut_123 : decode (mB MX3_workOut) 123 = .ok (.iload_n 3, 1) := by decide +kernel
theorem eX3_workOut_124 : decode (mB MX3_workOut) 124 = .ok (.iconst 1, 1) := by decide +kernel
theorem eX3_workOut_125 : decode (mB MX3_workOut) 125 = .ok (.isub, 1) := by decide +kernel
theorem eX3_workOut_126 : decode (mB MX3_workOut) 126 = .ok (.aload_n 0, 1) := by decide +kernel
theorem eX3_workOut_127 : decode (mB MX3_workOut) 127 = .ok (.getfield 18, 3) := by decide +kernel
theorem eX3_workOut_130 : decode (mB MX3_workOut) 130 = .ok (.iload_n 3, 1) := by decide +kernel
theorem eX3_workOut_131 : decode (mB MX3_workOut) 131 = .ok (.iconst 1, 1) := by decide +kernel
theorem eX3_workOut_132 : decode (mB MX3_workOut) 132 = .ok (.isub, 1) := by decide +kernel
theorem eX3_workOut_133 : decode (mB MX3_workOut) 133 = .ok (.iaload, 1) := by decide +kernel
theorem eX3_workOut_134 : decode (mB MX3_workOut) 134 = .ok (.ifCond .eq 12, 3) := by decide +kernel
theorem eX3_workOut_137 : decode (mB MX3_workOut) 137 = .ok (.aload_n 0, 1) := by decide +kernel
theorem eX3_workOut_138 : decode (mB MX3_workOut) 138 = .ok (.getfield 18, 3) := by decide +kernel
theorem eX3_workOut_141 : decode (mB MX3_workOut) 141 = .ok (.iload_n 3, 1) := by decide +kernel
theorem eX3_workOut_142 : decode (mB MX3_workOut) 142 = .ok (.iaload, 1) := by decide +kernel
theorem eX3_workOut_143 : decode (mB MX3_workOut) 143 = .ok (.goto 11, 3) := by decide +kernel
theorem eX3_workOut_146 : decode (mB MX3_workOut) 146 = .ok (.aload_n 0, 1) := by decide +kernel
theorem eX3_workOut_147 : decode (mB MX3_workOut) 147 = .ok (.getfield 18, 3) := by decide +kernel
theorem eX3_workOut_150 : decode (mB MX3_workOut) 150 = .ok (.iload_n 3, 1) := by decide +kernel
theorem eX3_workOut_151 : decode (mB MX3_workOut) 151 = .ok (.iconst 1, 1) := by decide +kernel
theorem eX3_workOut_152 : decode (mB MX3_workOut) 152 = .ok (.iadd, 1) := by decide +kernel
theorem eX3_workOut_153 : decode (mB MX3_workOut) 153 = .ok (.iaload, 1) := by decide +kernel
theorem eX3_workOut_154 : decode (mB MX3_workOut) 154 = .ok (.iastore, 1) := by decide +kernel
theorem eX3_workOut_155 : decode (mB MX3_workOut) 155 = .ok (.goto 38, 3) := by decide +kernel
theorem eX3_workOut_158 : decode (mB MX3_workOut) 158 = .ok (.iload_n 3, 1) := by decide +kernel
theorem eX3_workOut_159 : decode (mB MX3_workOut) 159 = .ok (.iconst 1, 1) := by decide +kernel
theorem eX3_workOut_160 : decode (mB MX3_workOut) 160 = .ok (.if_icmp .le 33, 3) := by decide +kernel
theorem eX3_workOut_163 : decode (mB MX3_workOut) 163 = .ok (.iinc 3 (-1), 3) := by decide +kernel
theorem eX3_workOut_166 : decode (mB MX3_workOut) 166 = .ok (.aload_n 0, 1) := by decide +kernel
theorem eX3_workOut_167 : decode (mB MX3_workOut) 167 = .ok (.getfield 18, 3) := by decide +kernel
theorem eX3_workOut_170 : decode (mB MX3_workOut) 170 = .ok (.iload_n 3, 1) := by decide +kernel
theorem eX3_workOut_171 : decode (mB MX3_workOut) 171 = .ok (.iconst 1, 1) := by decide +kernel
theorem eX3_workOut_172 : decode (mB MX3_workOut) 172 = .ok (.isub, 1) := by decide +kernel
theorem eX3_workOut_173 : decode (mB MX3_workOut) 173 = .ok (.iload 5, 2) := by decide +kernel
theorem eX3_workOut_175 : decode (mB MX3_workOut) 175 = .ok (.aload_n 0, 1) := by decide +kernel
theorem eX3_workOut_176 : decode (mB MX3_workOut) 176 = .ok (.getfield 18, 3) := by decide +kernel
theorem eX3_workOut_179 : decode (mB MX3_workOut) 179 = .ok (.iload_n 3, 1) := by decide +kernel
theorem eX3_workOut_180 : decode (mB MX3_workOut) 180 = .ok (.iconst 1, 1) := by decide +kernel
theorem eX3_workOut_181 : decode (mB MX3_workOut) 181 = .ok (.isub, 1) := by decide +kernel
theorem eX3_workOut_182 : decode (mB MX3_workOut) 182 = .ok (.iaload, 1) := by decide +kernel
theorem eX3_workOut_183 : decode (mB MX3_workOut) 183 = .ok (.aload_n 0, 1) := by decide +kernel
theorem eX3_workOut_184 : decode (mB MX3_workOut) 184 = .ok (.getfield 18, 3) := by decide +kernel
theorem eX3_workOut_187 : decode (mB MX3_workOut) 187 = .ok (.iload_n 3, 1) := by decide +kernel
theorem eX3_workOut_188 : decode (mB MX3_workOut) 188 = .ok (.iaload, 1) := by decide +kernel
theorem eX3_workOut_189 : decode (mB MX3_workOut) 189 = .ok (.invokestatic 49, 3) := by decide +kernel
theorem eX3_workOut_192 : decode (mB MX3_workOut) 192 = .ok (.iastore, 1) := by decide +kernel
theorem eX3_workOut_193 : decode (mB MX3_workOut) 193 = .ok (.iinc 4 1, 3) := by decide +kernel
theorem eX3_workOut_196 : decode (mB MX3_workOut) 196 = .ok (.goto (-191), 3) := by decide +kernel
theorem eX3_workOut_199 : decode (mB MX3_workOut) 199 = .ok (.iload_n 3, 1) := by decide +kernel
theorem eX3_workOut_200 : decode (mB MX3_workOut) 200 = .ok (.ifCond .le 12, 3) := by decide +kernel
theorem eX3_workOut_203 : decode (mB MX3_workOut) 203 = .ok (.aload_n 0, 1) := by decide +kernel
theorem eX3_workOut_204 : decode (mB MX3_workOut) 204 = .ok (.getfield 18, 3) := by decide +kernel
theorem eX3_workOut_207 : decode (mB MX3_workOut) 207 = .ok (.iconst 0, 1) := by decide +kernel
theorem eX3_workOut_208 : decode (mB MX3_workOut) 208 = .ok (.iaload, 1) := by decide +kernel
theorem eX3_workOut_209 : decode (mB MX3_workOut) 209 = .ok (.goto 4, 3) := by decide +kernel
theorem eX3_workOut_212 : decode (mB MX3_workOut) 212 = .ok (.iconst 0, 1) := by decide +kernel
theorem eX3_workOut_213 : decode (mB MX3_workOut) 213 = .ok (.ireturn, 1) := by decide +kernel
theorem eX3_join_0 : decode (mB MX3_join) 0 = .ok (.iload_n 0, 1) := by decide +kernel
theorem eX3_join_1 : decode (mB MX3_join) 1 = .ok (.tableswitch 107 1005 1011 #[43, 52, 61, 70, 81, 92, 103], 43) := by decide +kernel
theorem eX3_join_44 : decode (mB MX3_join) 44 = .ok (.iload_n 1, 1) := by decide +kernel
theorem eX3_join_45 : decode (mB MX3_join) 45 = .ok (.i2l, 1) := by decide +kernel
theorem eX3_join_46 : decode (mB MX3_join) 46 = .ok (.iload_n 2, 1) := by decide +kernel
theorem eX3_join_47 : decode (mB MX3_join) 47 = .ok (.i2l, 1) := by decide +kernel
theorem eX3_join_48 : decode (mB MX3_join) 48 = .ok (.ladd, 1) := by decide +kernel
theorem eX3_join_49 : decode (mB MX3_join) 49 = .ok (.invokestatic 53, 3) := by decide +kernel
theorem eX3_join_52 : decode (mB MX3_join) 52 = .ok (.ireturn, 1) := by decide +kernel
theorem eX3_join_53 : decode (mB MX3_join) 53 = .ok (.iload_n 1, 1) := by decide +kernel
theorem eX3_join_54 : decode (mB MX3_join) 54 = .ok (.i2l, 1) := by decide +kernel
theorem eX3_join_55 : decode (mB MX3_join) 55 = .ok (.iload_n 2, 1) := by decide +kernel
theorem eX3_join_56 : decode (mB MX3_join) 56 = .ok (.i2l, 1) := by decide +kernel
theorem eX3_join_57 : decode (mB MX3_join) 57 = .ok (.lsub, 1) := by decide +kernel
theorem eX3_join_58 : decode (mB MX3_join) 58 = .ok (.invokestatic 53, 3) := by decide +kernel
theorem eX3_join_61 : decode (mB MX3_join) 61 = .ok (.ireturn, 1) := by decide +kernel
theorem eX3_join_62 : decode (mB MX3_join) 62 = .ok (.iload_n 1, 1) := by decide +kernel
theorem eX3_join_63 : decode (mB MX3_join) 63 = .ok (.i2l, 1) := by decide +kernel
theorem eX3_join_64 : decode (mB MX3_join) 64 = .ok (.iload_n 2, 1) := by decide +kernel
theorem eX3_join_65 : decode (mB MX3_join) 65 = .ok (.i2l, 1) := by decide +kernel
theorem eX3_join_66 : decode (mB MX3_join) 66 = .ok (.lmul, 1) := by decide +kernel
theorem eX3_join_67 : decode (mB MX3_join) 67 = .ok (.invokestatic 53, 3) := by decide +kernel
theorem eX3_join_70 : decode (mB MX3_join) 70 = .ok (.ireturn, 1) := by decide +kernel
theorem eX3_join_71 : decode (mB MX3_join) 71 = .ok (.iload_n 1, 1) := by decide +kernel
theorem eX3_join_72 : decode (mB MX3_join) 72 = .ok (.iload_n 2, 1) := by decide +kernel
theorem eX3_join_73 : decode (mB MX3_join) 73 = .ok (.if_icmp .ne 7, 3) := by decide +kernel
theorem eX3_join_76 : decode (mB MX3_join) 76 = .ok (.iconst 1, 1) := by decide +kernel
theorem eX3_join_77 : decode (mB MX3_join) 77 = .ok (.goto 4, 3) := by decide +kernel
theorem eX3_join_80 : decode (mB MX3_join) 80 = .ok (.iconst 0, 1) := by decide +kernel
theorem eX3_join_81 : decode (mB MX3_join) 81 = .ok (.ireturn, 1) := by decide +kernel
theorem eX3_join_82 : decode (mB MX3_join) 82 = .ok (.iload_n 1, 1) := by decide +kernel
theorem eX3_join_83 : decode (mB MX3_join) 83 = .ok (.iload_n 2, 1) := by decide +kernel
theorem eX3_join_84 : decode (mB MX3_join) 84 = .ok (.if_icmp .ge 7, 3) := by decide +kernel
theorem eX3_join_87 : decode (mB MX3_join) 87 = .ok (.iconst 1, 1) := by decide +kernel
theorem eX3_join_88 : decode (mB MX3_join) 88 = .ok (.goto 4, 3) := by decide +kernel
theorem eX3_join_91 : decode (mB MX3_join) 91 = .ok (.iconst 0, 1) := by decide +kernel
theorem eX3_join_92 : decode (mB MX3_join) 92 = .ok (.ireturn, 1) := by decide +kernel
theorem eX3_join_93 : decode (mB MX3_join) 93 = .ok (.iload_n 1, 1) := by decide +kernel
theorem eX3_join_94 : decode (mB MX3_join) 94 = .ok (.iload_n 2, 1) := by decide +kernel
theorem eX3_join_95 : decode (mB MX3_join) 95 = .ok (.if_icmp .le 7, 3) := by decide +kernel
theorem eX3_join_98 : decode (mB MX3_join) 98 = .ok (.iconst 1, 1) := by decide +kernel
theorem eX3_join_99 : decode (mB MX3_join) 99 = .ok (.goto 4, 3) := by decide +kernel
theorem eX3_join_102 : decode (mB MX3_join) 102 = .ok (.iconst 0, 1) := by decide +kernel
theorem eX3_join_103 : decode (mB MX3_join) 103 = .ok (.ireturn, 1) := by decide +kernel
theorem eX3_join_104 : decode (mB MX3_join) 104 = .ok (.iload_n 1, 1) := by decide +kernel
theorem eX3_join_105 : decode (mB MX3_join) 105 = .ok (.iload_n 2, 1) := by decide +kernel
theorem eX3_join_106 : decode (mB MX3_join) 106 = .ok (.iand, 1) := by decide +kernel
theorem eX3_join_107 : decode (mB MX3_join) 107 = .ok (.ireturn, 1) := by decide +kernel
theorem eX3_join_108 : decode (mB MX3_join) 108 = .ok (.iload_n 1, 1) := by decide +kernel
theorem eX3_join_109 : decode (mB MX3_join) 109 = .ok (.iload_n 2, 1) := by decide +kernel
theorem eX3_join_110 : decode (mB MX3_join) 110 = .ok (.ior, 1) := by decide +kernel
theorem eX3_join_111 : decode (mB MX3_join) 111 = .ok (.ireturn, 1) := by decide +kernel
theorem eX3_within_0 : decode (mB MX3_within) 0 = .ok (.ldc2_w 57, 3) := by decide +kernel
theorem eX3_within_3 : decode (mB MX3_within) 3 = .ok (.ldc2_w 59, 3) := by decide +kernel
theorem eX3_within_6 : decode (mB MX3_within) 6 = .ok (.lload_n 0, 1) := by decide +kernel
theorem eX3_within_7 : decode (mB MX3_within) 7 = .ok (.invokestatic 61, 3) := by decide +kernel
theorem eX3_within_10 : decode (mB MX3_within) 10 = .ok (.invokestatic 64, 3) := by decide +kernel
theorem eX3_within_13 : decode (mB MX3_within) 13 = .ok (.l2i, 1) := by decide +kernel
theorem eX3_within_14 : decode (mB MX3_within) 14 = .ok (.ireturn, 1) := by decide +kernel
theorem eX4_init_0 : decode (mB MX4_init) 0 = .ok (.aload_n 0, 1) := by decide +kernel
theorem eX4_init_1 : decode (mB MX4_init) 1 = .ok (.invokespecial 3, 3) := by decide +kernel
theorem eX4_init_4 : decode (mB MX4_init) 4 = .ok (.aload_n 0, 1) := by decide +kernel
theorem eX4_init_5 : decode (mB MX4_init) 5 = .ok (.iconst 1, 1) := by decide +kernel
theorem eX4_init_6 : decode (mB MX4_init) 6 = .ok (.putfield 9, 3) := by decide +kernel
theorem eX4_init_9 : decode (mB MX4_init) 9 = .ok (.aload_n 0, 1) := by decide +kernel
theorem eX4_init_10 : decode (mB MX4_init) 10 = .ok (.iconst 0, 1) := by decide +kernel
theorem eX4_init_11 : decode (mB MX4_init) 11 = .ok (.putfield 15, 3) := by decide +kernel
theorem eX4_init_14 : decode (mB MX4_init) 14 = .ok (.aload_n 0, 1) := by decide +kernel
theorem eX4_init_15 : decode (mB MX4_init) 15 = .ok (.iconst 0, 1) := by decide +kernel
theorem eX4_init_16 : decode (mB MX4_init) 16 = .ok (.putfield 18, 3) := by decide +kernel
theorem eX4_init_19 : decode (mB MX4_init) 19 = .ok (.aload_n 0, 1) := by decide +kernel
theorem eX4_init_20 : decode (mB MX4_init) 20 = .ok (.iconst 0, 1) := by decide +kernel
theorem eX4_init_21 : decode (mB MX4_init) 21 = .ok (.putfield 21, 3) := by decide +kernel
theorem eX4_init_24 : decode (mB MX4_init) 24 = .ok (.aload_n 0, 1) := by decide +kernel
theorem eX4_init_25 : decode (mB MX4_init) 25 = .ok (.bipush 10, 2) := by decide +kernel
theorem eX4_init_27 : decode (mB MX4_init) 27 = .ok (.newarray .int, 2) := by decide +kernel
theorem eX4_init_29 : decode (mB MX4_init) 29 = .ok (.putfield 24, 3) := by decide +kernel
theorem eX4_init_32 : decode (mB MX4_init) 32 = .ok (.aload_n 0, 1) := by decide +kernel
theorem eX4_init_33 : decode (mB MX4_init) 33 = .ok (.bipush 10, 2) := by decide +kernel
theorem eX4_init_35 : decode (mB MX4_init) 35 = .ok (.newarray .int, 2) := by decide +kernel
theorem eX4_init_37 : decode (mB MX4_init) 37 = .ok (.putfield 28, 3) := by decide +kernel
theorem eX4_init_40 : decode (mB MX4_init) 40 = .ok (.aload_n 0, 1) := by decide +kernel
theorem eX4_init_41 : decode (mB MX4_init) 41 = .ok (.bipush 10, 2) := by decide +kernel
theorem eX4_init_43 : decode (mB MX4_init) 43 = .ok (.newarray .int, 2) := by decide +kernel
theorem eX4_init_45 : decode (mB MX4_init) 45 = .ok (.putfield 31, 3) := by decide +kernel
theorem eX4_init_48 : decode (mB MX4_init) 48 = .ok (.aload_n 0, 1) := by decide +kernel
theorem eX4_init_49 : decode (mB MX4_init) 49 = .ok (.bipush 10, 2) := by decide +kernel
theorem eX4_init_51 : decode (mB MX4_init) 51 = .ok (.newarray .int, 2) := by decide +kernel
theorem eX4_init_53 : decode (mB MX4_init) 53 = .ok (.putfield 34, 3) := by decide +kernel
theorem eX4_init_56 : decode (mB MX4_init) 56 = .ok (.aload_n 0, 1) := by decide +kernel
theorem eX4_init_57 : decode (mB MX4_init) 57 = .ok (.bipush 100, 2) := by decide +kernel
theorem eX4_init_59 : decode (mB MX4_init) 59 = .ok (.newarray .int, 2) := by decide +kernel
theorem eX4_init_61 : decode (mB MX4_init) 61 = .ok (.putfield 37, 3) := by decide +kernel
theorem eX4_init_64 : decode (mB MX4_init) 64 = .ok (.aload_n 0, 1) := by decide +kernel
theorem eX4_init_65 : decode (mB MX4_init) 65 = .ok (.bipush 10, 2) := by decide +kernel
theorem eX4_init_67 : decode (mB MX4_init) 67 = .ok (.newarray .long, 2) := by decide +kernel
theorem eX4_init_69 : decode (mB MX4_init) 69 = .ok (.putfield 40, 3) := by decide +kernel
theorem eX4_init_72 : decode (mB MX4_init) 72 = .ok (.aload_n 0, 1) := by decide +kernel
theorem eX4_init_73 : decode (mB MX4_init) 73 = .ok (.iconst 0, 1) := by decide +kernel
theorem eX4_init_74 : decode (mB MX4_init) 74 = .ok (.putfield 44, 3) := by decide +kernel
theorem eX4_init_77 : decode (mB MX4_init) 77 = .ok (.aload_n 0, 1) := by decide +kernel
theorem eX4_init_78 : decode (mB MX4_init) 78 = .ok (.iconst 0, 1) := by decide +kernel
theorem eX4_init_79 : decode (mB MX4_init) 79 = .ok (.newarray .int, 2) := by decide +kernel
theorem eX4_init_81 : decode (mB MX4_init) 81 = .ok (.putfield 47, 3) := by decide +kernel
theorem eX4_init_84 : decode (mB MX4_init) 84 = .ok (.aload_n 0, 1) := by decide +kernel
theorem eX4_init_85 : decode (mB MX4_init) 85 = .ok (.iconst 0, 1) := by decide +kernel
theorem eX4_init_86 : decode (mB MX4_init) 86 = .ok (.newarray .int, 2) := by decide +kernel
theorem eX4_init_88 : decode (mB MX4_init) 88 = .ok (.putfield 50, 3) := by decide +kernel
theorem eX4_init_91 : decode (mB MX4_init) 91 = .ok (.aload_n 0, 1) := by decide +kernel
theorem eX4_init_92 : decode (mB MX4_init) 92 = .ok (.iconst 0, 1) := by decide +kernel
theorem eX4_init_93 : decode (mB MX4_init) 93 = .ok (.newarray .int, 2) := by decide +kernel
theorem eX4_init_95 : decode (mB MX4_init) 95 = .ok (.putfield 53, 3) := by decide +kernel
theorem eX4_init_98 : decode (mB MX4_init) 98 = .ok (.aload_n 0, 1) := by decide +kernel
theorem eX4_init_99 : decode (mB MX4_init) 99 = .ok (.iconst 0, 1) := by decide +kernel
theorem eX4_init_100 : decode (mB MX4_init) 100 = .ok (.newarray .int, 2) := by decide +kernel
theorem eX4_init_102 : decode (mB MX4_init) 102 = .ok (.putfield 56, 3) := by decide +kernel
theorem eX4_init_105 : decode (mB MX4_init) 105 = .ok (.return_, 1) := by decide +kernel
theorem eX4_hasLink_0 : decode (mB MX4_hasLink) 0 = .ok (.iload_n 1, 1) := by decide +kernel
theorem eX4_hasLink_1 : decode (mB MX4_hasLink) 1 = .ok (.ifCond .lt 15, 3) := by decide +kernel
theorem eX4_hasLink_4 : decode (mB MX4_hasLink) 4 = .ok (.iload_n 1, 1) := by decide +kernel
theorem eX4_hasLink_5 : decode (mB MX4_hasLink) 5 = .ok (.aload_n 0, 1) := by decide +kernel
theorem eX4_hasLink_6 : decode (mB MX4_hasLink) 6 = .ok (.getfield 21, 3) := by decide +kernel
theorem eX4_hasLink_9 : decode (mB MX4_hasLink) 9 = .ok (.if_icmp .ge 7, 3) := by decide +kernel
theorem eX4_hasLink_12 : decode (mB MX4_hasLink) 12 = .ok (.iconst 1, 1) := by decide +kernel
theorem eX4_hasLink_13 : decode (mB MX4_hasLink) 13 = .ok (.goto 4, 3) := by decide +kernel
theorem eX4_hasLink_16 : decode (mB MX4_hasLink) 16 = .ok (.iconst 0, 1) := by decide +kernel
theorem eX4_hasLink_17 : decode (mB MX4_hasLink) 17 = .ok (.ireturn, 1) := by decide +kernel
theorem eX4_hasNode_0 : decode (mB MX4_hasNode) 0 = .ok (.iload_n 1, 1) := by decide +kernel
theorem eX4_hasNode_1 : decode (mB MX4_hasNode) 1 = .ok (.ifCond .lt 15, 3) := by decide +kernel
theorem eX4_hasNode_4 : decode (mB MX4_hasNode) 4 = .ok (.iload_n 1, 1) := by decide +kernel
theorem eX4_hasNode_5 : decode (mB MX4_hasNode) 5 = .ok (.aload_n 0, 1) := by decide +kernel
theorem eX4_hasNode_6 : decode (mB MX4_hasNode) 6 = .ok (.getfield 9, 3) := by decide +kernel
theorem eX4_hasNode_9 : decode (mB MX4_hasNode) 9 = .ok (.if_icmp .ge 7, 3) := by decide +kernel
theorem eX4_hasNode_12 : decode (mB MX4_hasNode) 12 = .ok (.iconst 1, 1) := by decide +kernel
theorem eX4_hasNode_13 : decode (mB MX4_hasNode) 13 = .ok (.goto 4, 3) := by decide +kernel
theorem eX4_hasNode_16 : decode (mB MX4_hasNode) 16 = .ok (.iconst 0, 1) := by decide +kernel
theorem eX4_hasNode_17 : decode (mB MX4_hasNode) 17 = .ok (.ireturn, 1) := by decide +kernel
theorem eX4_addLink_0 : decode (mB MX4_addLink) 0 = .ok (.aload_n 0, 1) := by decide +kernel
theorem eX4_addLink_1 : decode (mB MX4_addLink) 1 = .ok (.getfield 21, 3) := by decide +kernel
theorem eX4_addLink_4 : decode (mB MX4_addLink) 4 = .ok (.bipush 10, 2) := by decide +kernel
theorem eX4_addLink_6 : decode (mB MX4_addLink) 6 = .ok (.if_icmp .ge 54, 3) := by decide +kernel
theorem eX4_addLink_9 : decode (mB MX4_addLink) 9 = .ok (.aload_n 0, 1) := by decide +kernel
theorem eX4_addLink_10 : decode (mB MX4_addLink) 10 = .ok (.getfield 24, 3) := by decide +kernel
theorem eX4_addLink_13 : decode (mB MX4_addLink) 13 = .ok (.aload_n 0, 1) := by decide +kernel
theorem eX4_addLink_14 : decode (mB MX4_addLink) 14 = .ok (.getfield 21, 3) := by decide +kernel
theorem eX4_addLink_17 : decode (mB MX4_addLink) 17 = .ok (.iload_n 1, 1) := by decide +kernel
theorem eX4_addLink_18 : decode (mB MX4_addLink) 18 = .ok (.iastore, 1) := by decide +kernel
theorem eX4_addLink_19 : decode (mB MX4_addLink) 19 = .ok (.aload_n 0, 1) := by decide +kernel
theorem eX4_addLink_20 : decode (mB MX4_addLink) 20 = .ok (.getfield 28, 3) := by decide +kernel
theorem eX4_addLink_23 : decode (mB MX4_addLink) 23 = .ok (.aload_n 0, 1) := by decide +kernel
theorem eX4_addLink_24 : decode (mB MX4_addLink) 24 = .ok (.getfield 21, 3) := by decide +kernel
theorem eX4_addLink_27 : decode (mB MX4_addLink) 27 = .ok (.iload_n 2, 1) := by decide +kernel
theorem eX4_addLink_28 : decode (mB MX4_addLink) 28 = .ok (.iastore, 1) := by decide +kernel
theorem eX4_addLink_29 : decode (mB MX4_addLink) 29 = .ok (.aload_n 0, 1) := by decide +kernel
theorem eX4_addLink_30 : decode (mB MX4_addLink) 30 = .ok (.getfield 31, 3) := by decide +kernel
theorem eX4_addLink_33 : decode (mB MX4_addLink) 33 = .ok (.aload_n 0, 1) := by decide +kernel
theorem eX4_addLink_34 : decode (mB MX4_addLink) 34 = .ok (.getfield 21, 3) := by decide +kernel
theorem eX4_addLink_37 : decode (mB MX4_addLink) 37 = .ok (.iload_n 3, 1) := by decide +kernel
theorem eX4_addLink_38 : decode (mB MX4_addLink) 38 = .ok (.iastore, 1) := by decide +kernel
theorem eX4_addLink_39 : decode (mB MX4_addLink) 39 = .ok (.aload_n 0, 1) := by decide +kernel
theorem eX4_addLink_40 : decode (mB MX4_addLink) 40 = .ok (.getfield 34, 3) := by decide +kernel
theorem eX4_addLink_43 : decode (mB MX4_addLink) 43 = .ok (.aload_n 0, 1) := by decide +kernel
theorem eX4_addLink_44 : decode (mB MX4_addLink) 44 = .ok (.getfield 21, 3) := by decide +kernel
theorem eX4_addLink_47 : decode (mB MX4_addLink) 47 = .ok (.iload 4, 2) := by decide +kernel
theorem eX4_addLink_49 : decode (mB MX4_addLink) 49 = .ok (.iastore, 1) := by decide +kernel
theorem eX4_addLink_50 : decode (mB MX4_addLink) 50 = .ok (.aload_n 0, 1) := by decide +kernel
theorem eX4_addLink_51 : decode (mB MX4_addLink) 51 = .ok (.dup, 1) := by decide +kernel
theorem eX4_addLink_52 : decode (mB MX4_addLink) 52 = .ok (.getfield 21, 3) := by decide +kernel
theorem eX4_addLink_55 : decode (mB MX4_addLink) 55 = .ok (.iconst 1, 1) := by decide +kernel
theorem eX4_addLink_56 : decode (mB MX4_addLink) 56 = .ok (.iadd, 1) := by decide +kernel
theorem eX4_addLink_57 : decode (mB MX4_addLink) 57 = .ok (.putfield 21, 3) := by decide +kernel
theorem eX4_addLink_60 : decode (mB MX4_addLink) 60 = .ok (.return_, 1) := by decide +kernel
theorem eX4_joinedWith_0 : decode (mB MX4_joinedWith) 0 = .ok (.iconst 0, 1) := by decide +kernel
theorem eX4_joinedWith_1 : decode (mB MX4_joinedWith) 1 = .ok (.istore_n 2, 1) := by decide +kernel
theorem eX4_joinedWith_2 : decode (mB MX4_joinedWith) 2 = .ok (.iconst 0, 1) := by decide +kernel
theorem eX4_joinedWith_3 : decode (mB MX4_joinedWith) 3 = .ok (.istore_n 3, 1) := by decide +kernel
theorem eX4_joinedWith_4 : decode (mB MX4_joinedWith) 4 = .ok (.iload_n 3, 1) := by decide +kernel
theorem eX4_joinedWith_5 : decode (mB MX4_joinedWith) 5 = .ok (.aload_n 0, 1) := by decide +kernel
theorem eX4_joinedWith_6 : decode (mB MX4_joinedWith) 6 = .ok (.getfield 21, 3) := by decide +kernel
theorem eX4_joinedWith_9 : decode (mB MX4_joinedWith) 9 = .ok (.if_icmp .ge 59, 3) := by decide +kernel
theorem eX4_joinedWith_12 : decode (mB MX4_joinedWith) 12 = .ok (.iload_n 2, 1) := by decide +kernel
theorem eX4_joinedWith_13 : decode (mB MX4_joinedWith) 13 = .ok (.aload_n 0, 1) := by decide +kernel
theorem eX4_joinedWith_14 : decode (mB MX4_joinedWith) 14 = .ok (.getfield 24, 3) := by decide +kernel
theorem eX4_joinedWith_17 : decode (mB MX4_joinedWith) 17 = .ok (.iload_n 3, 1) := by decide +kernel
theorem eX4_joinedWith_18 : decode (mB MX4_joinedWith) 18 = .ok (.iaload, 1) := by decide +kernel
theorem eX4_joinedWith_19 : decode (mB MX4_joinedWith) 19 = .ok (.iload_n 1, 1) := by decide +kernel
theorem eX4_joinedWith_20 : decode (mB MX4_joinedWith) 20 = .ok (.if_icmp .ne 14, 3) := by decide +kernel
theorem eX4_joinedWith_23 : decode (mB MX4_joinedWith) 23 = .ok (.iconst 1, 1) := by decide +kernel
theorem eX4_joinedWith_24 : decode (mB MX4_joinedWith) 24 = .ok (.aload_n 0, 1) := by decide +kernel
theorem eX4_joinedWith_25 : decode (mB MX4_joinedWith) 25 = .ok (.getfield 28, 3) := by decide +kernel
theorem eX4_joinedWith_28 : decode (mB MX4_joinedWith) 28 = .ok (.iload_n 3, 1) := by decide +kernel
theorem eX4_joinedWith_29 : decode (mB MX4_joinedWith) 29 = .ok (.iaload, 1) := by decide +kernel
theorem eX4_joinedWith_30 : decode (mB MX4_joinedWith) 30 = .ok (.ishl, 1) := by decide +kernel
theorem eX4_joinedWith_31 : decode (mB MX4_joinedWith) 31 = .ok (.goto 4, 3) := by decide +kernel
theorem eX4_joinedWith_34 : decode (mB MX4_joinedWith) 34 = .ok (.iconst 0, 1) := by decide +kernel
theorem eX4_joinedWith_35 : decode (mB MX4_joinedWith) 35 = .ok (.ior, 1) := by decide +kernel
theorem eX4_joinedWith_36 : decode (mB MX4_joinedWith) 36 = .ok (.istore_n 2, 1) := by decide +kernel
theorem eX4_joinedWith_37 : decode (mB MX4_joinedWith) 37 = .ok (.iload_n 2, 1) := by decide +kernel
theorem eX4_joinedWith_38 : decode (mB MX4_joinedWith) 38 = .ok (.aload_n 0, 1) := by decide +kernel
theorem eX4_joinedWith_39 : decode (mB MX4_joinedWith) 39 = .ok (.getfield 28, 3) := by decide +kernel
theorem eX4_joinedWith_42 : decode (mB MX4_joinedWith) 42 = .ok (.iload_n 3, 1) := by decide +kernel
theorem eX4_joinedWith_43 : decode (mB MX4_joinedWith) 43 = .ok (.iaload, 1) := by decide +kernel
theorem eX4_joinedWith_44 : decode (mB MX4_joinedWith) 44 = .ok (.iload_n 1, 1) := by decide +kernel
theorem eX4_joinedWith_45 : decode (mB MX4_joinedWith) 45 = .ok (.if_icmp .ne 14, 3) := by decide +kernel
theorem eX4_joinedWith_48 : decode (mB MX4_joinedWith) 48 = .ok (.iconst 1, 1) := by decide +kernel
theorem eX4_joinedWith_49 : decode (mB MX4_joinedWith) 49 = .ok (.aload_n 0, 1) := by decide +kernel
theorem eX4_joinedWith_50 : decode (mB MX4_joinedWith) 50 = .ok (.getfield 24, 3) := by decide +kernel
theorem eX4_joinedWith_53 : decode (mB MX4_joinedWith) 53 = .ok (.iload_n 3, 1) := by decide +kernel
theorem eX4_joinedWith_54 : decode (mB MX4_joinedWith) 54 = .ok (.iaload, 1) := by decide +kernel
theorem eX4_joinedWith_55 : decode (mB MX4_joinedWith) 55 = .ok (.ishl, 1) := by decide +kernel
theorem eX4_joinedWith_56 : decode (mB MX4_joinedWith) 56 = .ok (.goto 4, 3) := by decide +kernel
theorem eX4_joinedWith_59 : decode (mB MX4_joinedWith) 59 = .ok (.iconst 0, 1) := by decide +kernel
theorem eX4_joinedWith_60 : decode (mB MX4_joinedWith) 60 = .ok (.ior, 1) := by decide +kernel
theorem eX4_joinedWith_61 : decode (mB MX4_joinedWith) 61 = .ok (.istore_n 2, 1) := by decide +kernel
theorem eX4_joinedWith_62 : decode (mB MX4_joinedWith) 62 = .ok (.iinc 3 1, 3) := by decide +kernel
theorem eX4_joinedWith_65 : decode (mB MX4_joinedWith) 65 = .ok (.goto (-61), 3) := by decide +kernel
theorem eX4_joinedWith_68 : decode (mB MX4_joinedWith) 68 = .ok (.iload_n 2, 1) := by decide +kernel
theorem eX4_joinedWith_69 : decode (mB MX4_joinedWith) 69 = .ok (.ireturn, 1) := by decide +kernel
theorem eX4_settle_0 : decode (mB MX4_settle) 0 = .ok (.aload_n 0, 1) := by decide +kernel
theorem eX4_settle_1 : decode (mB MX4_settle) 1 = .ok (.invokevirtual 59, 3) := by decide +kernel
theorem eX4_settle_4 : decode (mB MX4_settle) 4 = .ok (.iconst 0, 1) := by decide +kernel
theorem eX4_settle_5 : decode (mB MX4_settle) 5 = .ok (.istore_n 2, 1) := by decide +kernel
theorem eX4_settle_6 : decode (mB MX4_settle) 6 = .ok (.iload_n 2, 1) := by decide +kernel
theorem eX4_settle_7 : decode (mB MX4_settle) 7 = .ok (.bipush 10, 2) := by decide +kernel
theorem eX4_settle_9 : decode (mB MX4_settle) 9 = .ok (.if_icmp .ge 169, 3) := by decide +kernel
theorem eX4_settle_12 : decode (mB MX4_settle) 12 = .ok (.iconst 0, 1) := by decide +kernel
theorem eX4_settle_13 : decode (mB MX4_settle) 13 = .ok (.istore_n 3, 1) := by decide +kernel
theorem eX4_settle_14 : decode (mB MX4_settle) 14 = .ok (.iload_n 3, 1) := by decide +kernel
theorem eX4_settle_15 : decode (mB MX4_settle) 15 = .ok (.aload_n 0, 1) := by decide +kernel
theorem eX4_settle_16 : decode (mB MX4_settle) 16 = .ok (.getfield 21, 3) := by decide +kernel
theorem eX4_settle_19 : decode (mB MX4_settle) 19 = .ok (.if_icmp .ge 59, 3) := by decide +kernel
theorem eX4_settle_22 : decode (mB MX4_settle) 22 = .ok (.aload_n 1, 1) := by decide +kernel
theorem eX4_settle_23 : decode (mB MX4_settle) 23 = .ok (.iload_n 2, 1) := by decide +kernel
theorem eX4_settle_24 : decode (mB MX4_settle) 24 = .ok (.aload_n 0, 1) := by decide +kernel
theorem eX4_settle_25 : decode (mB MX4_settle) 25 = .ok (.getfield 31, 3) := by decide +kernel
theorem eX4_settle_28 : decode (mB MX4_settle) 28 = .ok (.iload_n 3, 1) := by decide +kernel
theorem eX4_settle_29 : decode (mB MX4_settle) 29 = .ok (.iaload, 1) := by decide +kernel
theorem eX4_settle_30 : decode (mB MX4_settle) 30 = .ok (.aload_n 0, 1) := by decide +kernel
theorem eX4_settle_31 : decode (mB MX4_settle) 31 = .ok (.getfield 34, 3) := by decide +kernel
theorem eX4_settle_34 : decode (mB MX4_settle) 34 = .ok (.iload_n 3, 1) := by decide +kernel
theorem eX4_settle_35 : decode (mB MX4_settle) 35 = .ok (.iaload, 1) := by decide +kernel
theorem eX4_settle_36 : decode (mB MX4_settle) 36 = .ok (.aload_n 0, 1) := by decide +kernel
theorem eX4_settle_37 : decode (mB MX4_settle) 37 = .ok (.getfield 24, 3) := by decide +kernel
theorem eX4_settle_40 : decode (mB MX4_settle) 40 = .ok (.iload_n 3, 1) := by decide +kernel
theorem eX4_settle_41 : decode (mB MX4_settle) 41 = .ok (.iaload, 1) := by decide +kernel
theorem eX4_settle_42 : decode (mB MX4_settle) 42 = .ok (.aload_n 0, 1) := by decide +kernel
theorem eX4_settle_43 : decode (mB MX4_settle) 43 = .ok (.getfield 28, 3) := by decide +kernel
theorem eX4_settle_46 : decode (mB MX4_settle) 46 = .ok (.iload_n 3, 1) := by decide +kernel
theorem eX4_settle_47 : decode (mB MX4_settle) 47 = .ok (.iaload, 1) := by decide +kernel
theorem eX4_settle_48 : decode (mB MX4_settle) 48 = .ok (.invokevirtual 62, 3) := by decide +kernel
theorem eX4_settle_51 : decode (mB MX4_settle) 51 = .ok (.aload_n 0, 1) := by decide +kernel
theorem eX4_settle_52 : decode (mB MX4_settle) 52 = .ok (.getfield 37, 3) := by decide +kernel
theorem eX4_settle_55 : decode (mB MX4_settle) 55 = .ok (.iload_n 2, 1) := by decide +kernel
theorem eX4_settle_56 : decode (mB MX4_settle) 56 = .ok (.bipush 10, 2) := by decide +kernel
theorem eX4_settle_58 : decode (mB MX4_settle) 58 = .ok (.imul, 1) := by decide +kernel
theorem eX4_settle_59 : decode (mB MX4_settle) 59 = .ok (.iload_n 3, 1) := by decide +kernel
theorem eX4_settle_60 : decode (mB MX4_settle) 60 = .ok (.iadd, 1) := by decide +kernel
theorem eX4_settle_61 : decode (mB MX4_settle) 61 = .ok (.aload_n 1, 1) := by decide +kernel
theorem eX4_settle_62 : decode (mB MX4_settle) 62 = .ok (.aload_n 0, 1) := by decide +kernel
theorem eX4_settle_63 : decode (mB MX4_settle) 63 = .ok (.getfield 31, 3) := by decide +kernel
theorem eX4_settle_66 : decode (mB MX4_settle) 66 = .ok (.iload_n 3, 1) := by decide +kernel
theorem eX4_settle_67 : decode (mB MX4_settle) 67 = .ok (.iaload, 1) := by decide +kernel
theorem eX4_settle_68 : decode (mB MX4_settle) 68 = .ok (.invokevirtual 68, 3) := by decide +kernel
theorem eX4_settle_71 : decode (mB MX4_settle) 71 = .ok (.iastore, 1) := by decide +kernel
theorem eX4_settle_72 : decode (mB MX4_settle) 72 = .ok (.iinc 3 1, 3) := by decide +kernel
theorem eX4_settle_75 : decode (mB MX4_settle) 75 = .ok (.goto (-61), 3) := by decide +kernel
theorem eX4_settle_78 : decode (mB MX4_settle) 78 = .ok (.iconst 0, 1) := by decide +kernel
theorem eX4_settle_79 : decode (mB MX4_settle) 79 = .ok (.istore_n 3, 1) := by decide +kernel
theorem eX4_settle_80 : decode (mB MX4_settle) 80 = .ok (.iload_n 3, 1) := by decide +kernel
theorem eX4_settle_81 : decode (mB MX4_settle) 81 = .ok (.aload_n 0, 1) := by decide +kernel
theorem eX4_settle_82 : decode (mB MX4_settle) 82 = .ok (.getfield 44, 3) := by decide +kernel
theorem eX4_settle_85 : decode (mB MX4_settle) 85 = .ok (.if_icmp .ge 87, 3) := by decide +kernel
theorem eX4_settle_88 : decode (mB MX4_settle) 88 = .ok (.aload_n 0, 1) := by decide +kernel
theorem eX4_settle_89 : decode (mB MX4_settle) 89 = .ok (.getfield 47, 3) := by decide +kernel
theorem eX4_settle_92 : decode (mB MX4_settle) 92 = .ok (.iload_n 3, 1) := by decide +kernel
theorem eX4_settle_93 : decode (mB MX4_settle) 93 = .ok (.iaload, 1) := by decide +kernel
theorem eX4_settle_94 : decode (mB MX4_settle) 94 = .ok (.invokestatic 72, 3) := by decide +kernel
theorem eX4_settle_97 : decode (mB MX4_settle) 97 = .ok (.istore 4, 2) := by decide +kernel
theorem eX4_settle_99 : decode (mB MX4_settle) 99 = .ok (.aload_n 1, 1) := by decide +kernel
theorem eX4_settle_100 : decode (mB MX4_settle) 100 = .ok (.iload_n 2, 1) := by decide +kernel
theorem eX4_settle_101 : decode (mB MX4_settle) 101 = .ok (.aload_n 0, 1) := by decide +kernel
theorem eX4_settle_102 : decode (mB MX4_settle) 102 = .ok (.aload_n 0, 1) := by decide +kernel
theorem eX4_settle_103 : decode (mB MX4_settle) 103 = .ok (.getfield 31, 3) := by decide +kernel
theorem eX4_settle_106 : decode (mB MX4_settle) 106 = .ok (.aload_n 0, 1) := by decide +kernel
theorem eX4_settle_107 : decode (mB MX4_settle) 107 = .ok (.getfield 47, 3) := by decide +kernel
theorem eX4_settle_110 : decode (mB MX4_settle) 110 = .ok (.iload_n 3, 1) := by decide +kernel
theorem eX4_settle_111 : decode (mB MX4_settle) 111 = .ok (.iaload, 1) := by decide +kernel
theorem eX4_settle_112 : decode (mB MX4_settle) 112 = .ok (.invokevirtual 77, 3) := by decide +kernel
theorem eX4_settle_115 : decode (mB MX4_settle) 115 = .ok (.aload_n 0, 1) := by decide +kernel
theorem eX4_settle_116 : decode (mB MX4_settle) 116 = .ok (.aload_n 0, 1) := by decide +kernel
theorem eX4_settle_117 : decode (mB MX4_settle) 117 = .ok (.getfield 34, 3) := by decide +kernel
theorem eX4_settle_120 : decode (mB MX4_settle) 120 = .ok (.aload_n 0, 1) := by decide +kernel
theorem eX4_settle_121 : decode (mB MX4_settle) 121 = .ok (.getfield 47, 3) := by decide +kernel
theorem eX4_settle_124 : decode (mB MX4_settle) 124 = .ok (.iload_n 3, 1) := by decide +kernel
theorem eX4_settle_125 : decode (mB MX4_settle) 125 = .ok (.iaload, 1) := by decide +kernel
theorem eX4_settle_126 : decode (mB MX4_settle) 126 = .ok (.invokevirtual 77, 3) := by decide +kernel
theorem eX4_settle_129 : decode (mB MX4_settle) 129 = .ok (.iload 4, 2) := by decide +kernel
theorem eX4_settle_131 : decode (mB MX4_settle) 131 = .ok (.aload_n 0, 1) := by decide +kernel
theorem eX4_settle_132 : decode (mB MX4_settle) 132 = .ok (.getfield 53, 3) := by decide +kernel
theorem eX4_settle_135 : decode (mB MX4_settle) 135 = .ok (.iload_n 3, 1) := by decide +kernel
theorem eX4_settle_136 : decode (mB MX4_settle) 136 = .ok (.iaload, 1) := by decide +kernel
theorem eX4_settle_137 : decode (mB MX4_settle) 137 = .ok (.invokestatic 72, 3) := by decide +kernel
theorem eX4_settle_140 : decode (mB MX4_settle) 140 = .ok (.invokevirtual 62, 3) := by decide +kernel
theorem eX4_settle_143 : decode (mB MX4_settle) 143 = .ok (.aload_n 0, 1) := by decide +kernel
theorem eX4_settle_144 : decode (mB MX4_settle) 144 = .ok (.getfield 40, 3) := by decide +kernel
theorem eX4_settle_147 : decode (mB MX4_settle) 147 = .ok (.iload_n 2, 1) := by decide +kernel
theorem eX4_settle_148 : decode (mB MX4_settle) 148 = .ok (.dup2, 1) := by decide +kernel
theorem eX4_settle_149 : decode (mB MX4_settle) 149 = .ok (.laload, 1) := by decide +kernel
theorem eX4_settle_150 : decode (mB MX4_settle) 150 = .ok (.aload_n 1, 1) := by decide +kernel
theorem eX4_settle_151 : decode (mB MX4_settle) 151 = .ok (.invokevirtual 81, 3) := by decide +kernel
theorem eX4_settle_154 : decode (mB MX4_settle) 154 = .ok (.ifCond .eq 9, 3) := by decide +kernel
theorem eX4_settle_157 : decode (mB MX4_settle) 157 = .ok (.lconst 1, 1) := by decide +kernel
theorem eX4_settle_158 : decode (mB MX4_settle) 158 = .ok (.iload_n 3, 1) := by decide +kernel
theorem eX4_settle_159 : decode (mB MX4_settle) 159 = .ok (.lshl, 1) := by decide +kernel
theorem eX4_settle_160 : decode (mB MX4_settle) 160 = .ok (.goto 4, 3) := by decide +kernel
theorem eX4_settle_163 : decode (mB MX4_settle) 163 = .ok (.lconst 0, 1) := by decide +kernel
theorem eX4_settle_164 : decode (mB MX4_settle) 164 = .ok (.lor, 1) := by decide +kernel
theorem eX4_settle_165 : decode (mB MX4_settle) 165 = .ok (.lastore, 1) := by decide +kernel
theorem eX4_settle_166 : decode (mB MX4_settle) 166 = .ok (.iinc 3 1, 3) := by decide +kernel
theorem eX4_settle_169 : decode (mB MX4_settle) 169 = .ok (.goto (-89), 3) := by decide +kernel
theorem eX4_settle_172 : decode (mB MX4_settle) 172 = .ok (.iinc 2 1, 3) := by decide +kernel
theorem eX4_settle_175 : decode (mB MX4_settle) 175 = .ok (.goto (-169), 3) := by decide +kernel
theorem eX4_settle_178 : decode (mB MX4_settle) 178 = .ok (.return_, 1) := by decide +kernel
theorem eX4_sumOf_0 : decode (mB MX4_sumOf) 0 = .ok (.iconst 0, 1) := by decide +kernel
theorem eX4_sumOf_1 : decode (mB MX4_sumOf) 1 = .ok (.istore_n 3, 1) := by decide +kernel
theorem eX4_sumOf_2 : decode (mB MX4_sumOf) 2 = .ok (.iconst 0, 1) := by decide +kernel
theorem eX4_sumOf_3 : decode (mB MX4_sumOf) 3 = .ok (.istore 4, 2) := by decide +kernel
theorem eX4_sumOf_5 : decode (mB MX4_sumOf) 5 = .ok (.iload 4, 2) := by decide +kernel
theorem eX4_sumOf_7 : decode (mB MX4_sumOf) 7 = .ok (.aload_n 0, 1) := by decide +kernel
theorem eX4_sumOf_8 : decode (mB MX4_sumOf) 8 = .ok (.getfield 21, 3) := by decide +kernel
theorem eX4_sumOf_11 : decode (mB MX4_sumOf) 11 = .ok (.if_icmp .ge 23, 3) := by decide +kernel
theorem eX4_sumOf_14 : decode (mB MX4_sumOf) 14 = .ok (.iload_n 3, 1) := by decide +kernel
theorem eX4_sumOf_15 : decode (mB MX4_sumOf) 15 = .ok (.iload_n 2, 1) := by decide +kernel
theorem eX4_sumOf_16 : decode (mB MX4_sumOf) 16 = .ok (.iload 4, 2) := by decide +kernel
theorem eX4_sumOf_18 : decode (mB MX4_sumOf) 18 = .ok (.ishr, 1) := by decide +kernel
theorem eX4_sumOf_19 : decode (mB MX4_sumOf) 19 = .ok (.iconst 1, 1) := by decide +kernel
theorem eX4_sumOf_20 : decode (mB MX4_sumOf) 20 = .ok (.iand, 1) := by decide +kernel
theorem eX4_sumOf_21 : decode (mB MX4_sumOf) 21 = .ok (.aload_n 1, 1) := by decide +kernel
theorem eX4_sumOf_22 : decode (mB MX4_sumOf) 22 = .ok (.iload 4, 2) := by decide +kernel
theorem eX4_sumOf_24 : decode (mB MX4_sumOf) 24 = .ok (.iaload, 1) := by decide +kernel
theorem eX4_sumOf_25 : decode (mB MX4_sumOf) 25 = .ok (.imul, 1) := by decide +kernel
theorem eX4_sumOf_26 : decode (mB MX4_sumOf) 26 = .ok (.iadd, 1) := by decide +kernel
theorem eX4_sumOf_27 : decode (mB MX4_sumOf) 27 = .ok (.istore_n 3, 1) := by decide +kernel
theorem eX4_sumOf_28 : decode (mB MX4_sumOf) 28 = .ok (.iinc 4 1, 3) := by decide +kernel
theorem eX4_sumOf_31 : decode (mB MX4_sumOf) 31 = .ok (.goto (-26), 3) := by decide +kernel
theorem eX4_sumOf_34 : decode (mB MX4_sumOf) 34 = .ok (.iload_n 3, 1) := by decide +kernel
theorem eX4_sumOf_35 : decode (mB MX4_sumOf) 35 = .ok (.ireturn, 1) := by decide +kernel
theorem eX4_findCycles_0 : decode (mB MX4_findCycles) 0 = .ok (.bipush 40, 2) := by decide +kernel
theorem eX4_findCycles_2 : decode (mB MX4_findCycles) 2 = .ok (.newarray .int, 2) := by decide +kernel
theorem eX4_findCycles_4 : decode (mB MX4_findCycles) 4 = .ok (.astore_n 1, 1) := by decide +kernel
theorem eX4_findCycles_5 : decode (mB MX4_findCycles) 5 = .ok (.bipush 7, 2) := by decide +kernel
theorem eX4_findCycles_7 : decode (mB MX4_findCycles) 7 = .ok (.istore_n 2, 1) := by decide +kernel
theorem eX4_findCycles_8 : decode (mB MX4_findCycles) 8 = .ok (.iload_n 2, 1) := by decide +kernel
theorem eX4_findCycles_9 : decode (mB MX4_findCycles) 9 = .ok (.iconst 1, 1) := by decide +kernel
theorem eX4_findCycles_10 : decode (mB MX4_findCycles) 10 = .ok (.aload_n 0, 1) := by decide +kernel
theorem eX4_findCycles_11 : decode (mB MX4_findCycles) 11 = .ok (.getfield 21, 3) := by decide +kernel
theorem eX4_findCycles_14 : decode (mB MX4_findCycles) 14 = .ok (.ishl, 1) := by decide +kernel
theorem eX4_findCycles_15 : decode (mB MX4_findCycles) 15 = .ok (.if_icmp .ge 43, 3) := by decide +kernel
theorem eX4_findCycles_18 : decode (mB MX4_findCycles) 18 = .ok (.aload_n 0, 1) := by decide +kernel
theorem eX4_findCycles_19 : decode (mB MX4_findCycles) 19 = .ok (.getfield 44, 3) := by decide +kernel
theorem eX4_findCycles_22 : decode (mB MX4_findCycles) 22 = .ok (.bipush 40, 2) := by decide +kernel
theorem eX4_findCycles_24 : decode (mB MX4_findCycles) 24 = .ok (.if_icmp .ge 28, 3) := by decide +kernel
theorem eX4_findCycles_27 : decode (mB MX4_findCycles) 27 = .ok (.aload_n 0, 1) := by decide +kernel
theorem eX4_findCycles_28 : decode (mB MX4_findCycles) 28 = .ok (.iload_n 2, 1) := by decide +kernel
theorem eX4_findCycles_29 : decode (mB MX4_findCycles) 29 = .ok (.invokevirtual 85, 3) := by decide +kernel
theorem eX4_findCycles_32 : decode (mB MX4_findCycles) 32 = .ok (.ifCond .eq 20, 3) := by decide +kernel
theorem eX4_findCycles_35 : decode (mB MX4_findCycles) 35 = .ok (.aload_n 1, 1) := by decide +kernel
theorem eX4_findCycles_36 : decode (mB MX4_findCycles) 36 = .ok (.aload_n 0, 1) := by decide +kernel
theorem eX4_findCycles_37 : decode (mB MX4_findCycles) 37 = .ok (.getfield 44, 3) := by decide +kernel
theorem eX4_findCycles_40 : decode (mB MX4_findCycles) 40 = .ok (.iload_n 2, 1) := by decide +kernel
theorem eX4_findCycles_41 : decode (mB MX4_findCycles) 41 = .ok (.iastore, 1) := by decide +kernel
theorem eX4_findCycles_42 : decode (mB MX4_findCycles) 42 = .ok (.aload_n 0, 1) := by decide +kernel
theorem eX4_findCycles_43 : decode (mB MX4_findCycles) 43 = .ok (.dup, 1) := by decide +kernel
theorem eX4_findCycles_44 : decode (mB MX4_findCycles) 44 = .ok (.getfield 44, 3) := by decide +kernel
theorem eX4_findCycles_47 : decode (mB MX4_findCycles) 47 = .ok (.iconst 1, 1) := by decide +kernel
theorem eX4_findCycles_48 : decode (mB MX4_findCycles) 48 = .ok (.iadd, 1) := by decide +kernel
theorem eX4_findCycles_49 : decode (mB MX4_findCycles) 49 = .ok (.putfield 44, 3) := by decide +kernel
theorem eX4_findCycles_52 : decode (mB MX4_findCycles) 52 = .ok (.iinc 2 1, 3) := by decide +kernel
theorem eX4_findCycles_55 : decode (mB MX4_findCycles) 55 = .ok (.goto (-47), 3) := by decide +kernel
theorem eX4_findCycles_58 : decode (mB MX4_findCycles) 58 = .ok (.aload_n 0, 1) := by decide +kernel
theorem eX4_findCycles_59 : decode (mB MX4_findCycles) 59 = .ok (.aload_n 0, 1) := by decide +kernel
theorem eX4_findCycles_60 : decode (mB MX4_findCycles) 60 = .ok (.getfield 44, 3) := by decide +kernel
theorem eX4_findCycles_63 : decode (mB MX4_findCycles) 63 = .ok (.newarray .int, 2) := by decide +kernel
theorem eX4_findCycles_65 : decode (mB MX4_findCycles) 65 = .ok (.putfield 47, 3) := by decide +kernel
theorem eX4_findCycles_68 : decode (mB MX4_findCycles) 68 = .ok (.aload_n 0, 1) := by decide +kernel
theorem eX4_findCycles_69 : decode (mB MX4_findCycles) 69 = .ok (.aload_n 0, 1) := by decide +kernel
theorem eX4_findCycles_70 : decode (mB MX4_findCycles) 70 = .ok (.getfield 44, 3) := by decide +kernel
theorem eX4_findCycles_73 : decode (mB MX4_findCycles) 73 = .ok (.newarray .int, 2) := by decide +kernel
theorem eX4_findCycles_75 : decode (mB MX4_findCycles) 75 = .ok (.putfield 50, 3) := by decide +kernel
theorem eX4_findCycles_78 : decode (mB MX4_findCycles) 78 = .ok (.aload_n 0, 1) := by decide +kernel
theorem eX4_findCycles_79 : decode (mB MX4_findCycles) 79 = .ok (.aload_n 0, 1) := by decide +kernel
theorem eX4_findCycles_80 : decode (mB MX4_findCycles) 80 = .ok (.getfield 44, 3) := by decide +kernel
theorem eX4_findCycles_83 : decode (mB MX4_findCycles) 83 = .ok (.newarray .int, 2) := by decide +kernel
theorem eX4_findCycles_85 : decode (mB MX4_findCycles) 85 = .ok (.putfield 53, 3) := by decide +kernel
theorem eX4_findCycles_88 : decode (mB MX4_findCycles) 88 = .ok (.aload_n 0, 1) := by decide +kernel
theorem eX4_findCycles_89 : decode (mB MX4_findCycles) 89 = .ok (.aload_n 0, 1) := by decide +kernel
theorem eX4_findCycles_90 : decode (mB MX4_findCycles) 90 = .ok (.getfield 44, 3) := by decide +kernel
theorem eX4_findCycles_93 : decode (mB MX4_findCycles) 93 = .ok (.bipush 10, 2) := by decide +kernel
theorem eX4_findCycles_95 : decode (mB MX4_findCycles) 95 = .ok (.imul, 1) := by decide +kernel
theorem eX4_findCycles_96 : decode (mB MX4_findCycles) 96 = .ok (.iconst 2, 1) := by decide +kernel
theorem eX4_findCycles_97 : decode (mB MX4_findCycles) 97 = .ok (.imul, 1) := by decide +kernel
theorem eX4_findCycles_98 : decode (mB MX4_findCycles) 98 = .ok (.newarray .int, 2) := by decide +kernel
theorem eX4_findCycles_100 : decode (mB MX4_findCycles) 100 = .ok (.putfield 56, 3) := by decide +kernel
theorem eX4_findCycles_103 : decode (mB MX4_findCycles) 103 = .ok (.iconst 0, 1) := by decide +kernel
theorem eX4_findCycles_104 : decode (mB MX4_findCycles) 104 = .ok (.istore_n 2, 1) := by decide +kernel
theorem eX4_findCycles_105 : decode (mB MX4_findCycles) 105 = .ok (.iload_n 2, 1) := by decide +kernel
theorem eX4_findCycles_106 : decode (mB MX4_findCycles) 106 = .ok (.aload_n 0, 1) := by decide +kernel
theorem eX4_findCycles_107 : decode (mB MX4_findCycles) 107 = .ok (.getfield 44, 3) := by decide +kernel
theorem eX4_findCycles_110 : decode (mB MX4_findCycles) 110 = .ok (.if_icmp .ge 23, 3) := by decide +kernel
theorem eX4_findCycles_113 : decode (mB MX4_findCycles) 113 = .ok (.aload_n 0, 1) := by decide +kernel
theorem eX4_findCycles_114 : decode (mB MX4_findCycles) 114 = .ok (.getfield 47, 3) := by decide +kernel
theorem eX4_findCycles_117 : decode (mB MX4_findCycles) 117 = .ok (.iload_n 2, 1) := by decide +kernel
theorem eX4_findCycles_118 : decode (mB MX4_findCycles) 118 = .ok (.aload_n 1, 1) := by decide +kernel
theorem eX4_findCycles_119 : decode (mB MX4_findCycles) 119 = .ok (.iload_n 2, 1) := by decide +kernel
theorem eX4_findCycles_120 : decode (mB MX4_findCycles) 120 = .ok (.iaload, 1) := by decide +kernel
theorem eX4_findCycles_121 : decode (mB MX4_findCycles) 121 = .ok (.iastore, 1) := by decide +kernel
theorem eX4_findCycles_122 : decode (mB MX4_findCycles) 122 = .ok (.aload_n 0, 1) := by decide +kernel
theorem eX4_findCycles_123 : decode (mB MX4_findCycles) 123 = .ok (.iload_n 2, 1) := by decide +kernel
theorem eX4_findCycles_124 : decode (mB MX4_findCycles) 124 = .ok (.invokevirtual 89, 3) := by decide +kernel
theorem eX4_findCycles_127 : decode (mB MX4_findCycles) 127 = .ok (.iinc 2 1, 3) := by decide +kernel
theorem eX4_findCycles_130 : decode (mB MX4_findCycles) 130 = .ok (.goto (-25), 3) := by decide +kernel
theorem eX4_findCycles_133 : decode (mB MX4_findCycles) 133 = .ok (.return_, 1) := by decide +kernel
theorem eX4_endsAtNodes_0 : decode (mB MX4_endsAtNodes) 0 = .ok (.iconst 0, 1) := by decide +kernel
theorem eX4_endsAtNodes_1 : decode (mB MX4_endsAtNodes) 1 = .ok (.istore_n 2, 1) := by decide +kernel
theorem eX4_endsAtNodes_2 : decode (mB MX4_endsAtNodes) 2 = .ok (.iconst 0, 1) := by decide +kernel
theorem eX4_endsAtNodes_3 : decode (mB MX4_endsAtNodes) 3 = .ok (.istore_n 3, 1) := by decide +kernel
theorem eX4_endsAtNodes_4 : decode (mB MX4_endsAtNodes) 4 = .ok (.iload_n 3, 1) := by decide +kernel
theorem eX4_endsAtNodes_5 : decode (mB MX4_endsAtNodes) 5 = .ok (.aload_n 0, 1) := by decide +kernel
theorem eX4_endsAtNodes_6 : decode (mB MX4_endsAtNodes) 6 = .ok (.getfield 21, 3) := by decide +kernel
theorem eX4_endsAtNodes_9 : decode (mB MX4_endsAtNodes) 9 = .ok (.if_icmp .ge 41, 3) := by decide +kernel
theorem eX4_endsAtNodes_12 : decode (mB MX4_endsAtNodes) 12 = .ok (.iload_n 1, 1) := by decide +kernel
theorem eX4_endsAtNodes_13 : decode (mB MX4_endsAtNodes) 13 = .ok (.iload_n 3, 1) := by decide +kernel
theorem eX4_endsAtNodes_14 : decode (mB MX4_endsAtNodes) 14 = .ok (.ishr, 1) := by decide +kernel
theorem eX4_endsAtNodes_15 : decode (mB MX4_endsAtNodes) 15 = .ok (.iconst 1, 1) := by decide +kernel
theorem eX4_endsAtNodes_16 : decode (mB MX4_endsAtNodes) 16 = .ok (.iand, 1) := by decide +kernel
theorem eX4_endsAtNodes_17 : decode (mB MX4_endsAtNodes) 17 = .ok (.ifCond .eq 27, 3) := by decide +kernel
theorem eX4_endsAtNodes_20 : decode (mB MX4_endsAtNodes) 20 = .ok (.iload_n 2, 1) := by decide +kernel
theorem eX4_endsAtNodes_21 : decode (mB MX4_endsAtNodes) 21 = .ok (.iconst 1, 1) := by decide +kernel
theorem eX4_endsAtNodes_22 : decode (mB MX4_endsAtNodes) 22 = .ok (.iconst 4, 1) := by decide +kernel
theorem eX4_endsAtNodes_23 : decode (mB MX4_endsAtNodes) 23 = .ok (.aload_n 0, 1) := by decide +kernel
theorem eX4_endsAtNodes_24 : decode (mB MX4_endsAtNodes) 24 = .ok (.getfield 24, 3) := by decide +kernel
theorem eX4_endsAtNodes_27 : decode (mB MX4_endsAtNodes) 27 = .ok (.iload_n 3, 1) := by decide +kernel
theorem eX4_endsAtNodes_28 : decode (mB MX4_endsAtNodes) 28 = .ok (.iaload, 1) := by decide +kernel
theorem eX4_endsAtNodes_29 : decode (mB MX4_endsAtNodes) 29 = .ok (.imul, 1) := by decide +kernel
theorem eX4_endsAtNodes_30 : decode (mB MX4_endsAtNodes) 30 = .ok (.ishl, 1) := by decide +kernel
theorem eX4_endsAtNodes_31 : decode (mB MX4_endsAtNodes) 31 = .ok (.iconst 1, 1) := by decide +kernel
theorem eX4_endsAtNodes_32 : decode (mB MX4_endsAtNodes) 32 = .ok (.iconst 4, 1) := by decide +kernel
theorem eX4_endsAtNodes_33 : decode (mB MX4_endsAtNodes) 33 = .ok (.aload_n 0, 1) := by decide +kernel
theorem eX4_endsAtNodes_34 : decode (mB MX4_endsAtNodes) 34 = .ok (.getfield 28, 3) := by decide +kernel
theorem eX4_endsAtNodes_37 : decode (mB MX4_endsAtNodes) 37 = .ok (.iload_n 3, 1) := by decide +kernel
theorem eX4_endsAtNodes_38 : decode (mB MX4_endsAtNodes) 38 = .ok (.iaload, 1) := by decide +kernel
theorem eX4_endsAtNodes_39 : decode (mB MX4_endsAtNodes) 39 = .ok (.imul, 1) := by decide +kernel
theorem eX4_endsAtNodes_40 : decode (mB MX4_endsAtNodes) 40 = .ok (.ishl, 1) := by decide +kernel
theorem eX4_endsAtNodes_41 : decode (mB MX4_endsAtNodes) 41 = .ok (.iadd, 1) := by decide +kernel
theorem eX4_endsAtNodes_42 : decode (mB MX4_endsAtNodes) 42 = .ok (.iadd, 1) := by decide +kernel
theorem eX4_endsAtNodes_43 : decode (mB MX4_endsAtNodes) 43 = .ok (.istore_n 2, 1) := by decide +kernel
theorem eX4_endsAtNodes_44 : decode (mB MX4_endsAtNodes) 44 = .ok (.iinc 3 1, 3) := by decide +kernel
theorem eX4_endsAtNodes_47 : decode (mB MX4_endsAtNodes) 47 = .ok (.goto (-43), 3) := by decide +kernel
theorem eX4_endsAtNodes_50 : decode (mB MX4_endsAtNodes) 50 = .ok (.iload_n 2, 1) := by decide +kernel
theorem eX4_endsAtNodes_51 : decode (mB MX4_endsAtNodes) 51 = .ok (.ireturn, 1) := by decide +kernel
theorem eX4_isCycle_0 : decode (mB MX4_isCycle) 0 = .ok (.iload_n 1, 1) := by decide +kernel
theorem eX4_isCycle_1 : decode (mB MX4_isCycle) 1 = .ok (.invokestatic 72, 3) := by decide +kernel
theorem eX4_isCycle_4 : decode (mB MX4_isCycle) 4 = .ok (.iconst 3, 1) := by decide +kernel
theorem eX4_isCycle_5 : decode (mB MX4_isCycle) 5 = .ok (.if_icmp .lt 14, 3) := by decide +kernel
theorem eX4_isCycle_8 : decode (mB MX4_isCycle) 8 = .ok (.aload_n 0, 1) := by decide +kernel
theorem eX4_isCycle_9 : decode (mB MX4_isCycle) 9 = .ok (.iload_n 1, 1) := by decide +kernel
theorem eX4_isCycle_10 : decode (mB MX4_isCycle) 10 = .ok (.invokevirtual 93, 3) := by decide +kernel
theorem eX4_isCycle_13 : decode (mB MX4_isCycle) 13 = .ok (.ldc 96, 2) := by decide +kernel
theorem eX4_isCycle_15 : decode (mB MX4_isCycle) 15 = .ok (.iand, 1) := by decide +kernel
theorem eX4_isCycle_16 : decode (mB MX4_isCycle) 16 = .ok (.ifCond .eq 5, 3) := by decide +kernel
theorem eX4_isCycle_19 : decode (mB MX4_isCycle) 19 = .ok (.iconst 0, 1) := by decide +kernel
theorem eX4_isCycle_20 : decode (mB MX4_isCycle) 20 = .ok (.ireturn, 1) := by decide +kernel
theorem eX4_isCycle_21 : decode (mB MX4_isCycle) 21 = .ok (.iconst 0, 1) := by decide +kernel
theorem eX4_isCycle_22 : decode (mB MX4_isCycle) 22 = .ok (.istore_n 2, 1) := by decide +kernel
theorem eX4_isCycle_23 : decode (mB MX4_isCycle) 23 = .ok (.iload_n 2, 1) := by decide +kernel
theorem eX4_isCycle_24 : decode (mB MX4_isCycle) 24 = .ok (.aload_n 0, 1) := by decide +kernel
theorem eX4_isCycle_25 : decode (mB MX4_isCycle) 25 = .ok (.getfield 21, 3) := by decide +kernel
theorem eX4_isCycle_28 : decode (mB MX4_isCycle) 28 = .ok (.if_icmp .ge 44, 3) := by decide +kernel
theorem eX4_isCycle_31 : decode (mB MX4_isCycle) 31 = .ok (.iload_n 1, 1) := by decide +kernel
theorem eX4_isCycle_32 : decode (mB MX4_isCycle) 32 = .ok (.iload_n 2, 1) := by decide +kernel
theorem eX4_isCycle_33 : decode (mB MX4_isCycle) 33 = .ok (.ishr, 1) := by decide +kernel
theorem eX4_isCycle_34 : decode (mB MX4_isCycle) 34 = .ok (.iconst 1, 1) := by decide +kernel
theorem eX4_isCycle_35 : decode (mB MX4_isCycle) 35 = .ok (.iand, 1) := by decide +kernel
theorem eX4_isCycle_36 : decode (mB MX4_isCycle) 36 = .ok (.ifCond .eq 30, 3) := by decide +kernel
theorem eX4_isCycle_39 : decode (mB MX4_isCycle) 39 = .ok (.aload_n 0, 1) := by decide +kernel
theorem eX4_isCycle_40 : decode (mB MX4_isCycle) 40 = .ok (.iload_n 1, 1) := by decide +kernel
theorem eX4_isCycle_41 : decode (mB MX4_isCycle) 41 = .ok (.aload_n 0, 1) := by decide +kernel
theorem eX4_isCycle_42 : decode (mB MX4_isCycle) 42 = .ok (.getfield 24, 3) := by decide +kernel
theorem eX4_isCycle_45 : decode (mB MX4_isCycle) 45 = .ok (.iload_n 2, 1) := by decide +kernel
theorem eX4_isCycle_46 : decode (mB MX4_isCycle) 46 = .ok (.iaload, 1) := by decide +kernel
theorem eX4_isCycle_47 : decode (mB MX4_isCycle) 47 = .ok (.aload_n 0, 1) := by decide +kernel
theorem eX4_isCycle_48 : decode (mB MX4_isCycle) 48 = .ok (.getfield 24, 3) := by decide +kernel
theorem eX4_isCycle_51 : decode (mB MX4_isCycle) 51 = .ok (.iload_n 2, 1) := by decide +kernel
theorem eX4_isCycle_52 : decode (mB MX4_isCycle) 52 = .ok (.iaload, 1) := by decide +kernel
theorem eX4_isCycle_53 : decode (mB MX4_isCycle) 53 = .ok (.invokevirtual 97, 3) := by decide +kernel
theorem eX4_isCycle_56 : decode (mB MX4_isCycle) 56 = .ok (.iload_n 1, 1) := by decide +kernel
theorem eX4_isCycle_57 : decode (mB MX4_isCycle) 57 = .ok (.if_icmp .ne 7, 3) := by decide +kernel
theorem eX4_isCycle_60 : decode (mB MX4_isCycle) 60 = .ok (.iconst 1, 1) := by decide +kernel
theorem eX4_isCycle_61 : decode (mB MX4_isCycle) 61 = .ok (.goto 4, 3) := by decide +kernel
theorem eX4_isCycle_64 : decode (mB MX4_isCycle) 64 = .ok (.iconst 0, 1) := by decide +kernel
theorem eX4_isCycle_65 : decode (mB MX4_isCycle) 65 = .ok (.ireturn, 1) := by decide +kernel
theorem eX4_isCycle_66 : decode (mB MX4_isCycle) 66 = .ok (.iinc 2 1, 3) := by decide +kernel
theorem eX4_isCycle_69 : decode (mB MX4_isCycle) 69 = .ok (.goto (-46), 3) := by decide +kernel
theorem eX4_isCycle_72 : decode (mB MX4_isCycle) 72 = .ok (.iconst 0, 1) := by decide +kernel
theorem eX4_isCycle_73 : decode (mB MX4_isCycle) 73 = .ok (.ireturn, 1) := by decide +kernel
theorem eX4_walk_0 : decode (mB MX4_walk) 0 = .ok (.iload_n 1, 1) := by decide +kernel
theorem eX4_walk_1 : decode (mB MX4_walk) 1 = .ok (.istore 4, 2) := by decide +kernel
theorem eX4_walk_3 : decode (mB MX4_walk) 3 = .ok (.iload_n 2, 1) := by decide +kernel
theorem eX4_walk_4 : decode (mB MX4_walk) 4 = .ok (.istore 5, 2) := by decide +kernel
theorem eX4_walk_6 : decode (mB MX4_walk) 6 = .ok (.iconst 0, 1) := by decide +kernel
theorem eX4_walk_7 : decode (mB MX4_walk) 7 = .ok (.istore 6, 2) := by decide +kernel
theorem eX4_walk_9 : decode (mB MX4_walk) 9 = .ok (.iload 6, 2) := by decide +kernel
theorem eX4_walk_11 : decode (mB MX4_walk) 11 = .ok (.aload_n 0, 1) := by decide +kernel
theorem eX4_walk_12 : decode (mB MX4_walk) 12 = .ok (.getfield 21, 3) := by decide +kernel
theorem eX4_walk_15 : decode (mB MX4_walk) 15 = .ok (.if_icmp .ge 67, 3) := by decide +kernel
theorem eX4_walk_18 : decode (mB MX4_walk) 18 = .ok (.aload_n 0, 1) := by decide +kernel
theorem eX4_walk_19 : decode (mB MX4_walk) 19 = .ok (.iload 4, 2) := by decide +kernel
theorem eX4_walk_21 : decode (mB MX4_walk) 21 = .ok (.iload 5, 2) := by decide +kernel
theorem eX4_walk_23 : decode (mB MX4_walk) 23 = .ok (.invokevirtual 101, 3) := by decide +kernel
theorem eX4_walk_26 : decode (mB MX4_walk) 26 = .ok (.istore 7, 2) := by decide +kernel
theorem eX4_walk_28 : decode (mB MX4_walk) 28 = .ok (.iload 7, 2) := by decide +kernel
theorem eX4_walk_30 : decode (mB MX4_walk) 30 = .ok (.ifCond .ge 6, 3) := by decide +kernel
theorem eX4_walk_33 : decode (mB MX4_walk) 33 = .ok (.goto 49, 3) := by decide +kernel
theorem eX4_walk_36 : decode (mB MX4_walk) 36 = .ok (.iload 4, 2) := by decide +kernel
theorem eX4_walk_38 : decode (mB MX4_walk) 38 = .ok (.iconst 1, 1) := by decide +kernel
theorem eX4_walk_39 : decode (mB MX4_walk) 39 = .ok (.iload 7, 2) := by decide +kernel
theorem eX4_walk_41 : decode (mB MX4_walk) 41 = .ok (.ishl, 1) := by decide +kernel
theorem eX4_walk_42 : decode (mB MX4_walk) 42 = .ok (.iconst (-1), 1) := by decide +kernel
theorem eX4_walk_43 : decode (mB MX4_walk) 43 = .ok (.ixor, 1) := by decide +kernel
theorem eX4_walk_44 : decode (mB MX4_walk) 44 = .ok (.iand, 1) := by decide +kernel
theorem eX4_walk_45 : decode (mB MX4_walk) 45 = .ok (.istore 4, 2) := by decide +kernel
theorem eX4_walk_47 : decode (mB MX4_walk) 47 = .ok (.aload_n 0, 1) := by decide +kernel
theorem eX4_walk_48 : decode (mB MX4_walk) 48 = .ok (.getfield 24, 3) := by decide +kernel
theorem eX4_walk_51 : decode (mB MX4_walk) 51 = .ok (.iload 7, 2) := by decide +kernel
theorem eX4_walk_53 : decode (mB MX4_walk) 53 = .ok (.iaload, 1) := by decide +kernel
theorem eX4_walk_54 : decode (mB MX4_walk) 54 = .ok (.aload_n 0, 1) := by decide +kernel
theorem eX4_walk_55 : decode (mB MX4_walk) 55 = .ok (.getfield 28, 3) := by decide +kernel
theorem eX4_walk_58 : decode (mB MX4_walk) 58 = .ok (.iload 7, 2) := by decide +kernel
theorem eX4_walk_60 : decode (mB MX4_walk) 60 = .ok (.iaload, 1) := by decide +kernel
theorem eX4_walk_61 : decode (mB MX4_walk) 61 = .ok (.iadd, 1) := by decide +kernel
theorem eX4_walk_62 : decode (mB MX4_walk) 62 = .ok (.iload 5, 2) := by decide +kernel
theorem eX4_walk_64 : decode (mB MX4_walk) 64 = .ok (.isub, 1) := by decide +kernel
theorem eX4_walk_65 : decode (mB MX4_walk) 65 = .ok (.istore 5, 2) := by decide +kernel
theorem eX4_walk_67 : decode (mB MX4_walk) 67 = .ok (.iload 5, 2) := by decide +kernel
theorem eX4_walk_69 : decode (mB MX4_walk) 69 = .ok (.iload_n 3, 1) := by decide +kernel
theorem eX4_walk_70 : decode (mB MX4_walk) 70 = .ok (.if_icmp .ne 6, 3) := by decide +kernel
theorem eX4_walk_73 : decode (mB MX4_walk) 73 = .ok (.goto 9, 3) := by decide +kernel
theorem eX4_walk_76 : decode (mB MX4_walk) 76 = .ok (.iinc 6 1, 3) := by decide +kernel
theorem eX4_walk_79 : decode (mB MX4_walk) 79 = .ok (.goto (-70), 3) := by decide +kernel
theorem eX4_walk_82 : decode (mB MX4_walk) 82 = .ok (.iload_n 1, 1) := by decide +kernel
theorem eX4_walk_83 : decode (mB MX4_walk) 83 = .ok (.iload 4, 2) := by decide +kernel
theorem eX4_walk_85 : decode (mB MX4_walk) 85 = .ok (.iconst (-1), 1) := by decide +kernel
theorem eX4_walk_86 : decode (mB MX4_walk) 86 = .ok (.ixor, 1) := by decide +kernel
theorem eX4_walk_87 : decode (mB MX4_walk) 87 = .ok (.iand, 1) := by decide +kernel
theorem eX4_walk_88 : decode (mB MX4_walk) 88 = .ok (.ireturn, 1) := by decide +kernel
theorem eX4_linkAt_0 : decode (mB MX4_linkAt) 0 = .ok (.iconst 0, 1) := by decide +kernel
theorem eX4_linkAt_1 : decode (mB MX4_linkAt) 1 = .ok (.istore_n 3, 1) := by decide +kernel
theorem eX4_linkAt_2 : decode (mB MX4_linkAt) 2 = .ok (.iload_n 3, 1) := by decide +kernel
theorem eX4_linkAt_3 : decode (mB MX4_linkAt) 3 = .ok (.aload_n 0, 1) := by decide +kernel
theorem eX4_linkAt_4 : decode (mB MX4_linkAt) 4 = .ok (.getfield 21, 3) := by decide +kernel
theorem eX4_linkAt_7 : decode (mB MX4_linkAt) 7 = .ok (.if_icmp .ge 39, 3) := by decide +kernel
theorem eX4_linkAt_10 : decode (mB MX4_linkAt) 10 = .ok (.iload_n 1, 1) := by decide +kernel
theorem eX4_linkAt_11 : decode (mB MX4_linkAt) 11 = .ok (.iload_n 3, 1) := by decide +kernel
theorem eX4_linkAt_12 : decode (mB MX4_linkAt) 12 = .ok (.ishr, 1) := by decide +kernel
theorem eX4_linkAt_13 : decode (mB MX4_linkAt) 13 = .ok (.iconst 1, 1) := by decide +kernel
theorem eX4_linkAt_14 : decode (mB MX4_linkAt) 14 = .ok (.iand, 1) := by decide +kernel
theorem eX4_linkAt_15 : decode (mB MX4_linkAt) 15 = .ok (.ifCond .eq 25, 3) := by decide +kernel
theorem eX4_linkAt_18 : decode (mB MX4_linkAt) 18 = .ok (.aload_n 0, 1) := by decide +kernel
theorem eX4_linkAt_19 : decode (mB MX4_linkAt) 19 = .ok (.getfield 24, 3) := by decide +kernel
theorem eX4_linkAt_22 : decode (mB MX4_linkAt) 22 = .ok (.iload_n 3, 1) := by decide +kernel
theorem eX4_linkAt_23 : decode (mB MX4_linkAt) 23 = .ok (.iaload, 1) := by decide +kernel
theorem eX4_linkAt_24 : decode (mB MX4_linkAt) 24 = .ok (.iload_n 2, 1) := by decide +kernel
theorem eX4_linkAt_25 : decode (mB MX4_linkAt) 25 = .ok (.if_icmp .eq 13, 3) := by decide +kernel
theorem eX4_linkAt_28 : decode (mB MX4_linkAt) 28 = .ok (.aload_n 0, 1) := by decide +kernel
theorem eX4_linkAt_29 : decode (mB MX4_linkAt) 29 = .ok (.getfield 28, 3) := by decide +kernel
theorem eX4_linkAt_32 : decode (mB MX4_linkAt) 32 = .ok (.iload_n 3, 1) := by decide +kernel
theorem eX4_linkAt_33 : decode (mB MX4_linkAt) 33 = .ok (.iaload, 1) := by decide +kernel
theorem eX4_linkAt_34 : decode (mB MX4_linkAt) 34 = .ok (.iload_n 2, 1) := by decide +kernel
theorem eX4_linkAt_35 : decode (mB MX4_linkAt) 35 = .ok (.if_icmp .ne 5, 3) := by decide +kernel
theorem eX4_linkAt_38 : decode (mB MX4_linkAt) 38 = .ok (.iload_n 3, 1) := by decide +kernel
theorem eX4_linkAt_39 : decode (mB MX4_linkAt) 39 = .ok (.ireturn, 1) := by decide +kernel
theorem eX4_linkAt_40 : decode (mB MX4_linkAt) 40 = .ok (.iinc 3 1, 3) := by decide +kernel
theorem eX4_linkAt_43 : decode (mB MX4_linkAt) 43 = .ok (.goto (-41), 3) := by decide +kernel
theorem eX4_linkAt_46 : decode (mB MX4_linkAt) 46 = .ok (.iconst (-1), 1) := by decide +kernel
theorem eX4_linkAt_47 : decode (mB MX4_linkAt) 47 = .ok (.ireturn, 1) := by decide +kernel
theorem eX4_lookAround_0 : decode (mB MX4_lookAround) 0 = .ok (.aload_n 0, 1) := by decide +kernel
theorem eX4_lookAround_1 : decode (mB MX4_lookAround) 1 = .ok (.aload_n 0, 1) := by decide +kernel
theorem eX4_lookAround_2 : decode (mB MX4_lookAround) 2 = .ok (.getfield 47, 3) := by decide +kernel
theorem eX4_lookAround_5 : decode (mB MX4_lookAround) 5 = .ok (.iload_n 1, 1) := by decide +kernel
theorem eX4_lookAround_6 : decode (mB MX4_lookAround) 6 = .ok (.iaload, 1) := by decide +kernel
theorem eX4_lookAround_7 : decode (mB MX4_lookAround) 7 = .ok (.invokevirtual 93, 3) := by decide +kernel
theorem eX4_lookAround_10 : decode (mB MX4_lookAround) 10 = .ok (.istore_n 2, 1) := by decide +kernel
theorem eX4_lookAround_11 : decode (mB MX4_lookAround) 11 = .ok (.iconst 0, 1) := by decide +kernel
theorem eX4_lookAround_12 : decode (mB MX4_lookAround) 12 = .ok (.istore_n 3, 1) := by decide +kernel
theorem eX4_lookAround_13 : decode (mB MX4_lookAround) 13 = .ok (.iload_n 3, 1) := by decide +kernel
theorem eX4_lookAround_14 : decode (mB MX4_lookAround) 14 = .ok (.aload_n 0, 1) := by decide +kernel
theorem eX4_lookAround_15 : decode (mB MX4_lookAround) 15 = .ok (.getfield 9, 3) := by decide +kernel
theorem eX4_lookAround_18 : decode (mB MX4_lookAround) 18 = .ok (.if_icmp .ge 36, 3) := by decide +kernel
theorem eX4_lookAround_21 : decode (mB MX4_lookAround) 21 = .ok (.aload_n 0, 1) := by decide +kernel
theorem eX4_lookAround_22 : decode (mB MX4_lookAround) 22 = .ok (.getfield 50, 3) := by decide +kernel
theorem eX4_lookAround_25 : decode (mB MX4_lookAround) 25 = .ok (.iload_n 1, 1) := by decide +kernel
theorem eX4_lookAround_26 : decode (mB MX4_lookAround) 26 = .ok (.dup2, 1) := by decide +kernel
theorem eX4_lookAround_27 : decode (mB MX4_lookAround) 27 = .ok (.iaload, 1) := by decide +kernel
theorem eX4_lookAround_28 : decode (mB MX4_lookAround) 28 = .ok (.iload_n 2, 1) := by decide +kernel
theorem eX4_lookAround_29 : decode (mB MX4_lookAround) 29 = .ok (.iconst 4, 1) := by decide +kernel
theorem eX4_lookAround_30 : decode (mB MX4_lookAround) 30 = .ok (.iload_n 3, 1) := by decide +kernel
theorem eX4_lookAround_31 : decode (mB MX4_lookAround) 31 = .ok (.imul, 1) := by decide +kernel
theorem eX4_lookAround_32 : decode (mB MX4_lookAround) 32 = .ok (.ishr, 1) := by decide +kernel
theorem eX4_lookAround_33 : decode (mB MX4_lookAround) 33 = .ok (.bipush 15, 2) := by decide +kernel
theorem eX4_lookAround_35 : decode (mB MX4_lookAround) 35 = .ok (.iand, 1) := by decide +kernel
theorem eX4_lookAround_36 : decode (mB MX4_lookAround) 36 = .ok (.ifCond .eq 9, 3) := by decide +kernel
theorem eX4_lookAround_39 : decode (mB MX4_lookAround) 39 = .ok (.iconst 1, 1) := by decide +kernel
theorem eX4_lookAround_40 : decode (mB MX4_lookAround) 40 = .ok (.iload_n 3, 1) := by decide +kernel
theorem eX4_lookAround_41 : decode (mB MX4_lookAround) 41 = .ok (.ishl, 1) := by decide +kernel
theorem eX4_lookAround_42 : decode (mB MX4_lookAround) 42 = .ok (.goto 4, 3) := by decide +kernel
theorem eX4_lookAround_45 : decode (mB MX4_lookAround) 45 = .ok (.iconst 0, 1) := by decide +kernel
theorem eX4_lookAround_46 : decode (mB MX4_lookAround) 46 = .ok (.ior, 1) := by decide +kernel
theorem eX4_lookAround_47 : decode (mB MX4_lookAround) 47 = .ok (.iastore, 1) := by decide +kernel
theorem eX4_lookAround_48 : decode (mB MX4_lookAround) 48 = .ok (.iinc 3 1, 3) := by decide +kernel
theorem eX4_lookAround_51 : decode (mB MX4_lookAround) 51 = .ok (.goto (-38), 3) := by decide +kernel
theorem eX4_lookAround_54 : decode (mB MX4_lookAround) 54 = .ok (.iconst 0, 1) := by decide +kernel
theorem eX4_lookAround_55 : decode (mB MX4_lookAround) 55 = .ok (.istore_n 3, 1) := by decide +kernel
theorem eX4_lookAround_56 : decode (mB MX4_lookAround) 56 = .ok (.iload_n 3, 1) := by decide +kernel
theorem eX4_lookAround_57 : decode (mB MX4_lookAround) 57 = .ok (.aload_n 0, 1) := by decide +kernel
theorem eX4_lookAround_58 : decode (mB MX4_lookAround) 58 = .ok (.getfield 21, 3) := by decide +kernel
theorem eX4_lookAround_61 : decode (mB MX4_lookAround) 61 = .ok (.if_icmp .ge 170, 3) := by decide +kernel
theorem eX4_lookAround_64 : decode (mB MX4_lookAround) 64 = .ok (.iload_n 1, 1) := by decide +kernel
theorem eX4_lookAround_65 : decode (mB MX4_lookAround) 65 = .ok (.bipush 10, 2) := by decide +kernel
theorem eX4_lookAround_67 : decode (mB MX4_lookAround) 67 = .ok (.imul, 1) := by decide +kernel
theorem eX4_lookAround_68 : decode (mB MX4_lookAround) 68 = .ok (.iload_n 3, 1) := by decide +kernel
theorem eX4_lookAround_69 : decode (mB MX4_lookAround) 69 = .ok (.iadd, 1) := by decide +kernel
theorem eX4_lookAround_70 : decode (mB MX4_lookAround) 70 = .ok (.iconst 2, 1) := by decide +kernel
theorem eX4_lookAround_71 : decode (mB MX4_lookAround) 71 = .ok (.imul, 1) := by decide +kernel
theorem eX4_lookAround_72 : decode (mB MX4_lookAround) 72 = .ok (.istore 4, 2) := by decide +kernel
theorem eX4_lookAround_74 : decode (mB MX4_lookAround) 74 = .ok (.aload_n 0, 1) := by decide +kernel
theorem eX4_lookAround_75 : decode (mB MX4_lookAround) 75 = .ok (.getfield 47, 3) := by decide +kernel
theorem eX4_lookAround_78 : decode (mB MX4_lookAround) 78 = .ok (.iload_n 1, 1) := by decide +kernel
theorem eX4_lookAround_79 : decode (mB MX4_lookAround) 79 = .ok (.iaload, 1) := by decide +kernel
theorem eX4_lookAround_80 : decode (mB MX4_lookAround) 80 = .ok (.iload_n 3, 1) := by decide +kernel
theorem eX4_lookAround_81 : decode (mB MX4_lookAround) 81 = .ok (.ishr, 1) := by decide +kernel
theorem eX4_lookAround_82 : decode (mB MX4_lookAround) 82 = .ok (.iconst 1, 1) := by decide +kernel
theorem eX4_lookAround_83 : decode (mB MX4_lookAround) 83 = .ok (.iand, 1) := by decide +kernel
theorem eX4_lookAround_84 : decode (mB MX4_lookAround) 84 = .ok (.ifCond .eq 25, 3) := by decide +kernel
theorem eX4_lookAround_87 : decode (mB MX4_lookAround) 87 = .ok (.aload_n 0, 1) := by decide +kernel
theorem eX4_lookAround_88 : decode (mB MX4_lookAround) 88 = .ok (.getfield 56, 3) := by decide +kernel
theorem eX4_lookAround_91 : decode (mB MX4_lookAround) 91 = .ok (.iload 4, 2) := by decide +kernel
theorem eX4_lookAround_93 : decode (mB MX4_lookAround) 93 = .ok (.aload_n 0, 1) := by decide +kernel
theorem eX4_lookAround_94 : decode (mB MX4_lookAround) 94 = .ok (.getfield 47, 3) := by decide +kernel
theorem eX4_lookAround_97 : decode (mB MX4_lookAround) 97 = .ok (.iload_n 1, 1) := by decide +kernel
theorem eX4_lookAround_98 : decode (mB MX4_lookAround) 98 = .ok (.iaload, 1) := by decide +kernel
theorem eX4_lookAround_99 : decode (mB MX4_lookAround) 99 = .ok (.iconst 1, 1) := by decide +kernel
theorem eX4_lookAround_100 : decode (mB MX4_lookAround) 100 = .ok (.iload_n 3, 1) := by decide +kernel
theorem eX4_lookAround_101 : decode (mB MX4_lookAround) 101 = .ok (.ishl, 1) := by decide +kernel
theorem eX4_lookAround_102 : decode (mB MX4_lookAround) 102 = .ok (.iconst (-1), 1) := by decide +kernel
theorem eX4_lookAround_103 : decode (mB MX4_lookAround) 103 = .ok (.ixor, 1) := by decide +kernel
theorem eX4_lookAround_104 : decode (mB MX4_lookAround) 104 = .ok (.iand, 1) := by decide +kernel
theorem eX4_lookAround_105 : decode (mB MX4_lookAround) 105 = .ok (.iastore, 1) := by decide +kernel
theorem eX4_lookAround_106 : decode (mB MX4_lookAround) 106 = .ok (.goto 119, 3) := by decide +kernel
theorem eX4_lookAround_109 : decode (mB MX4_lookAround) 109 = .ok (.aload_n 0, 1) := by decide +kernel
theorem eX4_lookAround_110 : decode (mB MX4_lookAround) 110 = .ok (.getfield 50, 3) := by decide +kernel
theorem eX4_lookAround_113 : decode (mB MX4_lookAround) 113 = .ok (.iload_n 1, 1) := by decide +kernel
theorem eX4_lookAround_114 : decode (mB MX4_lookAround) 114 = .ok (.iaload, 1) := by decide +kernel
theorem eX4_lookAround_115 : decode (mB MX4_lookAround) 115 = .ok (.aload_n 0, 1) := by decide +kernel
theorem eX4_lookAround_116 : decode (mB MX4_lookAround) 116 = .ok (.getfield 24, 3) := by decide +kernel
theorem eX4_lookAround_119 : decode (mB MX4_lookAround) 119 = .ok (.iload_n 3, 1) := by decide +kernel
theorem eX4_lookAround_120 : decode (mB MX4_lookAround) 120 = .ok (.iaload, 1) := by decide +kernel
theorem eX4_lookAround_121 : decode (mB MX4_lookAround) 121 = .ok (.ishr, 1) := by decide +kernel
theorem eX4_lookAround_122 : decode (mB MX4_lookAround) 122 = .ok (.aload_n 0, 1) := by decide +kernel
theorem eX4_lookAround_123 : decode (mB MX4_lookAround) 123 = .ok (.getfield 50, 3) := by decide +kernel
theorem eX4_lookAround_126 : decode (mB MX4_lookAround) 126 = .ok (.iload_n 1, 1) := by decide +kernel
theorem eX4_lookAround_127 : decode (mB MX4_lookAround) 127 = .ok (.iaload, 1) := by decide +kernel
theorem eX4_lookAround_128 : decode (mB MX4_lookAround) 128 = .ok (.aload_n 0, 1) := by decide +kernel
theorem eX4_lookAround_129 : decode (mB MX4_lookAround) 129 = .ok (.getfield 28, 3) := by decide +kernel
theorem eX4_lookAround_132 : decode (mB MX4_lookAround) 132 = .ok (.iload_n 3, 1) := by decide +kernel
theorem eX4_lookAround_133 : decode (mB MX4_lookAround) 133 = .ok (.iaload, 1) := by decide +kernel
theorem eX4_lookAround_134 : decode (mB MX4_lookAround) 134 = .ok (.ishr, 1) := by decide +kernel
theorem eX4_lookAround_135 : decode (mB MX4_lookAround) 135 = .ok (.iand, 1) := by decide +kernel
theorem eX4_lookAround_136 : decode (mB MX4_lookAround) 136 = .ok (.iconst 1, 1) := by decide +kernel
theorem eX4_lookAround_137 : decode (mB MX4_lookAround) 137 = .ok (.iand, 1) := by decide +kernel
theorem eX4_lookAround_138 : decode (mB MX4_lookAround) 138 = .ok (.ifCond .eq 87, 3) := by decide +kernel
theorem eX4_lookAround_141 : decode (mB MX4_lookAround) 141 = .ok (.aload_n 0, 1) := by decide +kernel
theorem eX4_lookAround_142 : decode (mB MX4_lookAround) 142 = .ok (.getfield 53, 3) := by decide +kernel
theorem eX4_lookAround_145 : decode (mB MX4_lookAround) 145 = .ok (.iload_n 1, 1) := by decide +kernel
theorem eX4_lookAround_146 : decode (mB MX4_lookAround) 146 = .ok (.dup2, 1) := by decide +kernel
theorem eX4_lookAround_147 : decode (mB MX4_lookAround) 147 = .ok (.iaload, 1) := by decide +kernel
theorem eX4_lookAround_148 : decode (mB MX4_lookAround) 148 = .ok (.iconst 1, 1) := by decide +kernel
theorem eX4_lookAround_149 : decode (mB MX4_lookAround) 149 = .ok (.iload_n 3, 1) := by decide +kernel
theorem eX4_lookAround_150 : decode (mB MX4_lookAround) 150 = .ok (.ishl, 1) := by decide +kernel
theorem eX4_lookAround_151 : decode (mB MX4_lookAround) 151 = .ok (.ior, 1) := by decide +kernel
theorem eX4_lookAround_152 : decode (mB MX4_lookAround) 152 = .ok (.iastore, 1) := by decide +kernel
theorem eX4_lookAround_153 : decode (mB MX4_lookAround) 153 = .ok (.aload_n 0, 1) := by decide +kernel
theorem eX4_lookAround_154 : decode (mB MX4_lookAround) 154 = .ok (.aload_n 0, 1) := by decide +kernel
theorem eX4_lookAround_155 : decode (mB MX4_lookAround) 155 = .ok (.getfield 47, 3) := by decide +kernel
theorem eX4_lookAround_158 : decode (mB MX4_lookAround) 158 = .ok (.iload_n 1, 1) := by decide +kernel
theorem eX4_lookAround_159 : decode (mB MX4_lookAround) 159 = .ok (.iaload, 1) := by decide +kernel
theorem eX4_lookAround_160 : decode (mB MX4_lookAround) 160 = .ok (.aload_n 0, 1) := by decide +kernel
theorem eX4_lookAround_161 : decode (mB MX4_lookAround) 161 = .ok (.getfield 24, 3) := by decide +kernel
theorem eX4_lookAround_164 : decode (mB MX4_lookAround) 164 = .ok (.iload_n 3, 1) := by decide +kernel
theorem eX4_lookAround_165 : decode (mB MX4_lookAround) 165 = .ok (.iaload, 1) := by decide +kernel
theorem eX4_lookAround_166 : decode (mB MX4_lookAround) 166 = .ok (.aload_n 0, 1) := by decide +kernel
theorem eX4_lookAround_167 : decode (mB MX4_lookAround) 167 = .ok (.getfield 28, 3) := by decide +kernel
theorem eX4_lookAround_170 : decode (mB MX4_lookAround) 170 = .ok (.iload_n 3, 1) := by decide +kernel
theorem eX4_lookAround_171 : decode (mB MX4_lookAround) 171 = .ok (.iaload, 1) := by decide +kernel
theorem eX4_lookAround_172 : decode (mB MX4_lookAround) 172 = .ok (.invokevirtual 97, 3) := by decide +kernel
theorem eX4_lookAround_175 : decode (mB MX4_lookAround) 175 = .ok (.istore 5, 2) := by decide +kernel
theorem eX4_lookAround_177 : decode (mB MX4_lookAround) 177 = .ok (.aload_n 0, 1) := by decide +kernel
theorem eX4_lookAround_178 : decode (mB MX4_lookAround) 178 = .ok (.getfield 56, 3) := by decide +kernel
theorem eX4_lookAround_181 : decode (mB MX4_lookAround) 181 = .ok (.iload 4, 2) := by decide +kernel
theorem eX4_lookAround_183 : decode (mB MX4_lookAround) 183 = .ok (.iload 5, 2) := by decide +kernel
theorem eX4_lookAround_185 : decode (mB MX4_lookAround) 185 = .ok (.aload_n 0, 1) := by decide +kernel
theorem eX4_lookAround_186 : decode (mB MX4_lookAround) 186 = .ok (.getfield 47, 3) := by decide +kernel
theorem eX4_lookAround_189 : decode (mB MX4_lookAround) 189 = .ok (.iload_n 1, 1) := by decide +kernel
theorem eX4_lookAround_190 : decode (mB MX4_lookAround) 190 = .ok (.iaload, 1) := by decide +kernel
theorem eX4_lookAround_191 : decode (mB MX4_lookAround) 191 = .ok (.iload 5, 2) := by decide +kernel
theorem eX4_lookAround_193 : decode (mB MX4_lookAround) 193 = .ok (.iconst (-1), 1) := by decide +kernel
theorem eX4_lookAround_194 : decode (mB MX4_lookAround) 194 = .ok (.ixor, 1) := by decide +kernel
theorem eX4_lookAround_195 : decode (mB MX4_lookAround) 195 = .ok (.iand, 1) := by decide +kernel
theorem eX4_lookAround_196 : decode (mB MX4_lookAround) 196 = .ok (.invokestatic 105, 3) := by decide +kernel
theorem eX4_lookAround_199 : decode (mB MX4_lookAround) 199 = .ok (.iastore, 1) := by decide +kernel
theorem eX4_lookAround_200 : decode (mB MX4_lookAround) 200 = .ok (.aload_n 0, 1) := by decide +kernel
theorem eX4_lookAround_201 : decode (mB MX4_lookAround) 201 = .ok (.getfield 56, 3) := by decide +kernel
theorem eX4_lookAround_204 : decode (mB MX4_lookAround) 204 = .ok (.iload 4, 2) := by decide +kernel
theorem eX4_lookAround_206 : decode (mB MX4_lookAround) 206 = .ok (.iconst 1, 1) := by decide +kernel
theorem eX4_lookAround_207 : decode (mB MX4_lookAround) 207 = .ok (.iadd, 1) := by decide +kernel
theorem eX4_lookAround_208 : decode (mB MX4_lookAround) 208 = .ok (.iload 5, 2) := by decide +kernel
theorem eX4_lookAround_210 : decode (mB MX4_lookAround) 210 = .ok (.aload_n 0, 1) := by decide +kernel
theorem eX4_lookAround_211 : decode (mB MX4_lookAround) 211 = .ok (.getfield 47, 3) := by decide +kernel
theorem eX4_lookAround_214 : decode (mB MX4_lookAround) 214 = .ok (.iload_n 1, 1) := by decide +kernel
theorem eX4_lookAround_215 : decode (mB MX4_lookAround) 215 = .ok (.iaload, 1) := by decide +kernel
theorem eX4_lookAround_216 : decode (mB MX4_lookAround) 216 = .ok (.iload 5, 2) := by decide +kernel
theorem eX4_lookAround_218 : decode (mB MX4_lookAround) 218 = .ok (.iconst (-1), 1) := by decide +kernel
theorem eX4_lookAround_219 : decode (mB MX4_lookAround) 219 = .ok (.ixor, 1) := by decide +kernel
theorem eX4_lookAround_220 : decode (mB MX4_lookAround) 220 = .ok (.iand, 1) := by decide +kernel
theorem eX4_lookAround_221 : decode (mB MX4_lookAround) 221 = .ok (.invokestatic 110, 3) := by decide +kernel
theorem eX4_lookAround_224 : decode (mB MX4_lookAround) 224 = .ok (.iastore, 1) := by decide +kernel
theorem eX4_lookAround_225 : decode (mB MX4_lookAround) 225 = .ok (.iinc 3 1, 3) := by decide +kernel
theorem eX4_lookAround_228 : decode (mB MX4_lookAround) 228 = .ok (.goto (-172), 3) := by decide +kernel
theorem eX4_lookAround_231 : decode (mB MX4_lookAround) 231 = .ok (.return_, 1) := by decide +kernel
theorem eX4_ringCount_0 : decode (mB MX4_ringCount) 0 = .ok (.aload_n 0, 1) := by decide +kernel
theorem eX4_ringCount_1 : decode (mB MX4_ringCount) 1 = .ok (.getfield 40, 3) := by decide +kernel
theorem eX4_ringCount_4 : decode (mB MX4_ringCount) 4 = .ok (.iload_n 1, 1) := by decide +kernel
theorem eX4_ringCount_5 : decode (mB MX4_ringCount) 5 = .ok (.laload, 1) := by decide +kernel
theorem eX4_ringCount_6 : decode (mB MX4_ringCount) 6 = .ok (.invokestatic 113, 3) := by decide +kernel
theorem eX4_ringCount_9 : decode (mB MX4_ringCount) 9 = .ok (.ireturn, 1) := by decide +kernel
theorem eX4_cycleOf_0 : decode (mB MX4_cycleOf) 0 = .ok (.iconst 0, 1) := by decide +kernel
theorem eX4_cycleOf_1 : decode (mB MX4_cycleOf) 1 = .ok (.istore_n 3, 1) := by decide +kernel
theorem eX4_cycleOf_2 : decode (mB MX4_cycleOf) 2 = .ok (.iconst 0, 1) := by decide +kernel
theorem eX4_cycleOf_3 : decode (mB MX4_cycleOf) 3 = .ok (.istore 4, 2) := by decide +kernel
theorem eX4_cycleOf_5 : decode (mB MX4_cycleOf) 5 = .ok (.iload 4, 2) := by decide +kernel
theorem eX4_cycleOf_7 : decode (mB MX4_cycleOf) 7 = .ok (.aload_n 0, 1) := by decide +kernel
theorem eX4_cycleOf_8 : decode (mB MX4_cycleOf) 8 = .ok (.getfield 44, 3) := by decide +kernel
theorem eX4_cycleOf_11 : decode (mB MX4_cycleOf) 11 = .ok (.if_icmp .ge 36, 3) := by decide +kernel
theorem eX4_cycleOf_14 : decode (mB MX4_cycleOf) 14 = .ok (.aload_n 0, 1) := by decide +kernel
theorem eX4_cycleOf_15 : decode (mB MX4_cycleOf) 15 = .ok (.getfield 40, 3) := by decide +kernel
theorem eX4_cycleOf_18 : decode (mB MX4_cycleOf) 18 = .ok (.iload_n 1, 1) := by decide +kernel
theorem eX4_cycleOf_19 : decode (mB MX4_cycleOf) 19 = .ok (.laload, 1) := by decide +kernel
theorem eX4_cycleOf_20 : decode (mB MX4_cycleOf) 20 = .ok (.iload 4, 2) := by decide +kernel
theorem eX4_cycleOf_22 : decode (mB MX4_cycleOf) 22 = .ok (.lushr, 1) := by decide +kernel
theorem eX4_cycleOf_23 : decode (mB MX4_cycleOf) 23 = .ok (.lconst 1, 1) := by decide +kernel
theorem eX4_cycleOf_24 : decode (mB MX4_cycleOf) 24 = .ok (.land, 1) := by decide +kernel
theorem eX4_cycleOf_25 : decode (mB MX4_cycleOf) 25 = .ok (.lconst 0, 1) := by decide +kernel
theorem eX4_cycleOf_26 : decode (mB MX4_cycleOf) 26 = .ok (.lcmp, 1) := by decide +kernel
theorem eX4_cycleOf_27 : decode (mB MX4_cycleOf) 27 = .ok (.ifCond .eq 14, 3) := by decide +kernel
