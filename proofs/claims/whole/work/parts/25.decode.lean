theorem eX10_endsOf_10 : decode (mB MX10_endsOf) 10 = .ok (.iload_n 1, 1) := by decide +kernel
theorem eX10_endsOf_11 : decode (mB MX10_endsOf) 11 = .ok (.iconst 1, 1) := by decide +kernel
theorem eX10_endsOf_12 : decode (mB MX10_endsOf) 12 = .ok (.invokevirtual 219, 3) := by decide +kernel
theorem eX10_endsOf_15 : decode (mB MX10_endsOf) 15 = .ok (.ishl, 1) := by decide +kernel
theorem eX10_endsOf_16 : decode (mB MX10_endsOf) 16 = .ok (.ior, 1) := by decide +kernel
theorem eX10_endsOf_17 : decode (mB MX10_endsOf) 17 = .ok (.ireturn, 1) := by decide +kernel
theorem eX10_bitsOf_0 : decode (mB MX10_bitsOf) 0 = .ok (.iconst 0, 1) := by decide +kernel
theorem eX10_bitsOf_1 : decode (mB MX10_bitsOf) 1 = .ok (.istore_n 1, 1) := by decide +kernel
theorem eX10_bitsOf_2 : decode (mB MX10_bitsOf) 2 = .ok (.iconst 0, 1) := by decide +kernel
theorem eX10_bitsOf_3 : decode (mB MX10_bitsOf) 3 = .ok (.istore_n 2, 1) := by decide +kernel
theorem eX10_bitsOf_4 : decode (mB MX10_bitsOf) 4 = .ok (.iload_n 2, 1) := by decide +kernel
theorem eX10_bitsOf_5 : decode (mB MX10_bitsOf) 5 = .ok (.bipush 10, 2) := by decide +kernel
theorem eX10_bitsOf_7 : decode (mB MX10_bitsOf) 7 = .ok (.if_icmp .ge 17, 3) := by decide +kernel
theorem eX10_bitsOf_10 : decode (mB MX10_bitsOf) 10 = .ok (.iload_n 1, 1) := by decide +kernel
theorem eX10_bitsOf_11 : decode (mB MX10_bitsOf) 11 = .ok (.iload_n 0, 1) := by decide +kernel
theorem eX10_bitsOf_12 : decode (mB MX10_bitsOf) 12 = .ok (.iload_n 2, 1) := by decide +kernel
theorem eX10_bitsOf_13 : decode (mB MX10_bitsOf) 13 = .ok (.ishr, 1) := by decide +kernel
theorem eX10_bitsOf_14 : decode (mB MX10_bitsOf) 14 = .ok (.iconst 1, 1) := by decide +kernel
theorem eX10_bitsOf_15 : decode (mB MX10_bitsOf) 15 = .ok (.iand, 1) := by decide +kernel
theorem eX10_bitsOf_16 : decode (mB MX10_bitsOf) 16 = .ok (.iadd, 1) := by decide +kernel
theorem eX10_bitsOf_17 : decode (mB MX10_bitsOf) 17 = .ok (.istore_n 1, 1) := by decide +kernel
theorem eX10_bitsOf_18 : decode (mB MX10_bitsOf) 18 = .ok (.iinc 2 1, 3) := by decide +kernel
theorem eX10_bitsOf_21 : decode (mB MX10_bitsOf) 21 = .ok (.goto (-17), 3) := by decide +kernel
theorem eX10_bitsOf_24 : decode (mB MX10_bitsOf) 24 = .ok (.iload_n 1, 1) := by decide +kernel
theorem eX10_bitsOf_25 : decode (mB MX10_bitsOf) 25 = .ok (.ireturn, 1) := by decide +kernel
theorem eX10_between_0 : decode (mB MX10_between) 0 = .ok (.iload_n 0, 1) := by decide +kernel
theorem eX10_between_1 : decode (mB MX10_between) 1 = .ok (.tableswitch 80 3003 3008 #[39, 50, 61, 80, 72, 76], 39) := by decide +kernel
theorem eX10_between_40 : decode (mB MX10_between) 40 = .ok (.iload_n 1, 1) := by decide +kernel
theorem eX10_between_41 : decode (mB MX10_between) 41 = .ok (.iload_n 2, 1) := by decide +kernel
theorem eX10_between_42 : decode (mB MX10_between) 42 = .ok (.if_icmp .ne 7, 3) := by decide +kernel
theorem eX10_between_45 : decode (mB MX10_between) 45 = .ok (.iconst 1, 1) := by decide +kernel
theorem eX10_between_46 : decode (mB MX10_between) 46 = .ok (.goto 4, 3) := by decide +kernel
theorem eX10_between_49 : decode (mB MX10_between) 49 = .ok (.iconst 0, 1) := by decide +kernel
theorem eX10_between_50 : decode (mB MX10_between) 50 = .ok (.ireturn, 1) := by decide +kernel
theorem eX10_between_51 : decode (mB MX10_between) 51 = .ok (.iload_n 1, 1) := by decide +kernel
theorem eX10_between_52 : decode (mB MX10_between) 52 = .ok (.iload_n 2, 1) := by decide +kernel
theorem eX10_between_53 : decode (mB MX10_between) 53 = .ok (.if_icmp .ge 7, 3) := by decide +kernel
theorem eX10_between_56 : decode (mB MX10_between) 56 = .ok (.iconst 1, 1) := by decide +kernel
theorem eX10_between_57 : decode (mB MX10_between) 57 = .ok (.goto 4, 3) := by decide +kernel
theorem eX10_between_60 : decode (mB MX10_between) 60 = .ok (.iconst 0, 1) := by decide +kernel
theorem eX10_between_61 : decode (mB MX10_between) 61 = .ok (.ireturn, 1) := by decide +kernel
theorem eX10_between_62 : decode (mB MX10_between) 62 = .ok (.iload_n 1, 1) := by decide +kernel
theorem eX10_between_63 : decode (mB MX10_between) 63 = .ok (.iload_n 2, 1) := by decide +kernel
theorem eX10_between_64 : decode (mB MX10_between) 64 = .ok (.if_icmp .le 7, 3) := by decide +kernel
theorem eX10_between_67 : decode (mB MX10_between) 67 = .ok (.iconst 1, 1) := by decide +kernel
theorem eX10_between_68 : decode (mB MX10_between) 68 = .ok (.goto 4, 3) := by decide +kernel
theorem eX10_between_71 : decode (mB MX10_between) 71 = .ok (.iconst 0, 1) := by decide +kernel
theorem eX10_between_72 : decode (mB MX10_between) 72 = .ok (.ireturn, 1) := by decide +kernel
theorem eX10_between_73 : decode (mB MX10_between) 73 = .ok (.iload_n 1, 1) := by decide +kernel
theorem eX10_between_74 : decode (mB MX10_between) 74 = .ok (.iload_n 2, 1) := by decide +kernel
theorem eX10_between_75 : decode (mB MX10_between) 75 = .ok (.iand, 1) := by decide +kernel
theorem eX10_between_76 : decode (mB MX10_between) 76 = .ok (.ireturn, 1) := by decide +kernel
theorem eX10_between_77 : decode (mB MX10_between) 77 = .ok (.iload_n 1, 1) := by decide +kernel
theorem eX10_between_78 : decode (mB MX10_between) 78 = .ok (.iload_n 2, 1) := by decide +kernel
theorem eX10_between_79 : decode (mB MX10_between) 79 = .ok (.ior, 1) := by decide +kernel
theorem eX10_between_80 : decode (mB MX10_between) 80 = .ok (.ireturn, 1) := by decide +kernel
theorem eX10_between_81 : decode (mB MX10_between) 81 = .ok (.iload_n 0, 1) := by decide +kernel
theorem eX10_between_82 : decode (mB MX10_between) 82 = .ok (.sipush 3000, 3) := by decide +kernel
theorem eX10_between_85 : decode (mB MX10_between) 85 = .ok (.if_icmp .ne 11, 3) := by decide +kernel
theorem eX10_between_88 : decode (mB MX10_between) 88 = .ok (.iload_n 1, 1) := by decide +kernel
theorem eX10_between_89 : decode (mB MX10_between) 89 = .ok (.i2l, 1) := by decide +kernel
theorem eX10_between_90 : decode (mB MX10_between) 90 = .ok (.iload_n 2, 1) := by decide +kernel
theorem eX10_between_91 : decode (mB MX10_between) 91 = .ok (.i2l, 1) := by decide +kernel
theorem eX10_between_92 : decode (mB MX10_between) 92 = .ok (.ladd, 1) := by decide +kernel
theorem eX10_between_93 : decode (mB MX10_between) 93 = .ok (.goto 23, 3) := by decide +kernel
theorem eX10_between_96 : decode (mB MX10_between) 96 = .ok (.iload_n 0, 1) := by decide +kernel
theorem eX10_between_97 : decode (mB MX10_between) 97 = .ok (.sipush 3001, 3) := by decide +kernel
theorem eX10_between_100 : decode (mB MX10_between) 100 = .ok (.if_icmp .ne 11, 3) := by decide +kernel
theorem eX10_between_103 : decode (mB MX10_between) 103 = .ok (.iload_n 1, 1) := by decide +kernel
theorem eX10_between_104 : decode (mB MX10_between) 104 = .ok (.i2l, 1) := by decide +kernel
theorem eX10_between_105 : decode (mB MX10_between) 105 = .ok (.iload_n 2, 1) := by decide +kernel
theorem eX10_between_106 : decode (mB MX10_between) 106 = .ok (.i2l, 1) := by decide +kernel
theorem eX10_between_107 : decode (mB MX10_between) 107 = .ok (.lsub, 1) := by decide +kernel
theorem eX10_between_108 : decode (mB MX10_between) 108 = .ok (.goto 8, 3) := by decide +kernel
theorem eX10_between_111 : decode (mB MX10_between) 111 = .ok (.iload_n 1, 1) := by decide +kernel
theorem eX10_between_112 : decode (mB MX10_between) 112 = .ok (.i2l, 1) := by decide +kernel
theorem eX10_between_113 : decode (mB MX10_between) 113 = .ok (.iload_n 2, 1) := by decide +kernel
theorem eX10_between_114 : decode (mB MX10_between) 114 = .ok (.i2l, 1) := by decide +kernel
theorem eX10_between_115 : decode (mB MX10_between) 115 = .ok (.lmul, 1) := by decide +kernel
theorem eX10_between_116 : decode (mB MX10_between) 116 = .ok (.lstore_n 3, 1) := by decide +kernel
theorem eX10_between_117 : decode (mB MX10_between) 117 = .ok (.lload_n 3, 1) := by decide +kernel
theorem eX10_between_118 : decode (mB MX10_between) 118 = .ok (.ldc2_w 222, 3) := by decide +kernel
theorem eX10_between_121 : decode (mB MX10_between) 121 = .ok (.lcmp, 1) := by decide +kernel
theorem eX10_between_122 : decode (mB MX10_between) 122 = .ok (.ifCond .le 9, 3) := by decide +kernel
theorem eX10_between_125 : decode (mB MX10_between) 125 = .ok (.ldc2_w 222, 3) := by decide +kernel
theorem eX10_between_128 : decode (mB MX10_between) 128 = .ok (.goto 18, 3) := by decide +kernel
theorem eX10_between_131 : decode (mB MX10_between) 131 = .ok (.lload_n 3, 1) := by decide +kernel
theorem eX10_between_132 : decode (mB MX10_between) 132 = .ok (.ldc2_w 224, 3) := by decide +kernel
theorem eX10_between_135 : decode (mB MX10_between) 135 = .ok (.lcmp, 1) := by decide +kernel
theorem eX10_between_136 : decode (mB MX10_between) 136 = .ok (.ifCond .ge 9, 3) := by decide +kernel
theorem eX10_between_139 : decode (mB MX10_between) 139 = .ok (.ldc2_w 224, 3) := by decide +kernel
theorem eX10_between_142 : decode (mB MX10_between) 142 = .ok (.goto 4, 3) := by decide +kernel
theorem eX10_between_145 : decode (mB MX10_between) 145 = .ok (.lload_n 3, 1) := by decide +kernel
theorem eX10_between_146 : decode (mB MX10_between) 146 = .ok (.l2i, 1) := by decide +kernel
theorem eX10_between_147 : decode (mB MX10_between) 147 = .ok (.ireturn, 1) := by decide +kernel
theorem eX10_reckons_0 : decode (mB MX10_reckons) 0 = .ok (.iconst 0, 1) := by decide +kernel
theorem eX10_reckons_1 : decode (mB MX10_reckons) 1 = .ok (.istore_n 2, 1) := by decide +kernel
theorem eX10_reckons_2 : decode (mB MX10_reckons) 2 = .ok (.iconst 0, 1) := by decide +kernel
theorem eX10_reckons_3 : decode (mB MX10_reckons) 3 = .ok (.istore_n 3, 1) := by decide +kernel
theorem eX10_reckons_4 : decode (mB MX10_reckons) 4 = .ok (.iload_n 3, 1) := by decide +kernel
theorem eX10_reckons_5 : decode (mB MX10_reckons) 5 = .ok (.aload_n 0, 1) := by decide +kernel
theorem eX10_reckons_6 : decode (mB MX10_reckons) 6 = .ok (.getfield 13, 3) := by decide +kernel
theorem eX10_reckons_9 : decode (mB MX10_reckons) 9 = .ok (.bipush 7, 2) := by decide +kernel
theorem eX10_reckons_11 : decode (mB MX10_reckons) 11 = .ok (.iload_n 1, 1) := by decide +kernel
theorem eX10_reckons_12 : decode (mB MX10_reckons) 12 = .ok (.iadd, 1) := by decide +kernel
theorem eX10_reckons_13 : decode (mB MX10_reckons) 13 = .ok (.iaload, 1) := by decide +kernel
theorem eX10_reckons_14 : decode (mB MX10_reckons) 14 = .ok (.if_icmp .ge 184, 3) := by decide +kernel
theorem eX10_reckons_17 : decode (mB MX10_reckons) 17 = .ok (.aload_n 0, 1) := by decide +kernel
theorem eX10_reckons_18 : decode (mB MX10_reckons) 18 = .ok (.getfield 13, 3) := by decide +kernel
theorem eX10_reckons_21 : decode (mB MX10_reckons) 21 = .ok (.sipush 1437, 3) := by decide +kernel
theorem eX10_reckons_24 : decode (mB MX10_reckons) 24 = .ok (.aload_n 0, 1) := by decide +kernel
theorem eX10_reckons_25 : decode (mB MX10_reckons) 25 = .ok (.getfield 13, 3) := by decide +kernel
theorem eX10_reckons_28 : decode (mB MX10_reckons) 28 = .ok (.iconst 5, 1) := by decide +kernel
theorem eX10_reckons_29 : decode (mB MX10_reckons) 29 = .ok (.iload_n 1, 1) := by decide +kernel
theorem eX10_reckons_30 : decode (mB MX10_reckons) 30 = .ok (.iadd, 1) := by decide +kernel
theorem eX10_reckons_31 : decode (mB MX10_reckons) 31 = .ok (.iaload, 1) := by decide +kernel
theorem eX10_reckons_32 : decode (mB MX10_reckons) 32 = .ok (.iadd, 1) := by decide +kernel
theorem eX10_reckons_33 : decode (mB MX10_reckons) 33 = .ok (.iload_n 3, 1) := by decide +kernel
theorem eX10_reckons_34 : decode (mB MX10_reckons) 34 = .ok (.iadd, 1) := by decide +kernel
theorem eX10_reckons_35 : decode (mB MX10_reckons) 35 = .ok (.iaload, 1) := by decide +kernel
theorem eX10_reckons_36 : decode (mB MX10_reckons) 36 = .ok (.istore 4, 2) := by decide +kernel
theorem eX10_reckons_38 : decode (mB MX10_reckons) 38 = .ok (.iload 4, 2) := by decide +kernel
theorem eX10_reckons_40 : decode (mB MX10_reckons) 40 = .ok (.sipush 3000, 3) := by decide +kernel
theorem eX10_reckons_43 : decode (mB MX10_reckons) 43 = .ok (.if_icmp .ge 39, 3) := by decide +kernel
theorem eX10_reckons_46 : decode (mB MX10_reckons) 46 = .ok (.aload_n 0, 1) := by decide +kernel
theorem eX10_reckons_47 : decode (mB MX10_reckons) 47 = .ok (.getfield 30, 3) := by decide +kernel
theorem eX10_reckons_50 : decode (mB MX10_reckons) 50 = .ok (.iload_n 2, 1) := by decide +kernel
theorem eX10_reckons_51 : decode (mB MX10_reckons) 51 = .ok (.iload 4, 2) := by decide +kernel
theorem eX10_reckons_53 : decode (mB MX10_reckons) 53 = .ok (.sipush 1000, 3) := by decide +kernel
theorem eX10_reckons_56 : decode (mB MX10_reckons) 56 = .ok (.if_icmp .ge 8, 3) := by decide +kernel
theorem eX10_reckons_59 : decode (mB MX10_reckons) 59 = .ok (.iload 4, 2) := by decide +kernel
theorem eX10_reckons_61 : decode (mB MX10_reckons) 61 = .ok (.goto 14, 3) := by decide +kernel
theorem eX10_reckons_64 : decode (mB MX10_reckons) 64 = .ok (.aload_n 0, 1) := by decide +kernel
theorem eX10_reckons_65 : decode (mB MX10_reckons) 65 = .ok (.getfield 33, 3) := by decide +kernel
theorem eX10_reckons_68 : decode (mB MX10_reckons) 68 = .ok (.iload 4, 2) := by decide +kernel
theorem eX10_reckons_70 : decode (mB MX10_reckons) 70 = .ok (.sipush 1000, 3) := by decide +kernel
theorem eX10_reckons_73 : decode (mB MX10_reckons) 73 = .ok (.isub, 1) := by decide +kernel
theorem eX10_reckons_74 : decode (mB MX10_reckons) 74 = .ok (.iaload, 1) := by decide +kernel
theorem eX10_reckons_75 : decode (mB MX10_reckons) 75 = .ok (.iastore, 1) := by decide +kernel
theorem eX10_reckons_76 : decode (mB MX10_reckons) 76 = .ok (.iinc 2 1, 3) := by decide +kernel
theorem eX10_reckons_79 : decode (mB MX10_reckons) 79 = .ok (.goto 113, 3) := by decide +kernel
theorem eX10_reckons_82 : decode (mB MX10_reckons) 82 = .ok (.iload 4, 2) := by decide +kernel
theorem eX10_reckons_84 : decode (mB MX10_reckons) 84 = .ok (.sipush 3006, 3) := by decide +kernel
theorem eX10_reckons_87 : decode (mB MX10_reckons) 87 = .ok (.if_icmp .ne 24, 3) := by decide +kernel
theorem eX10_reckons_90 : decode (mB MX10_reckons) 90 = .ok (.aload_n 0, 1) := by decide +kernel
theorem eX10_reckons_91 : decode (mB MX10_reckons) 91 = .ok (.getfield 30, 3) := by decide +kernel
theorem eX10_reckons_94 : decode (mB MX10_reckons) 94 = .ok (.iload_n 2, 1) := by decide +kernel
theorem eX10_reckons_95 : decode (mB MX10_reckons) 95 = .ok (.iconst 1, 1) := by decide +kernel
theorem eX10_reckons_96 : decode (mB MX10_reckons) 96 = .ok (.isub, 1) := by decide +kernel
theorem eX10_reckons_97 : decode (mB MX10_reckons) 97 = .ok (.iconst 1, 1) := by decide +kernel
theorem eX10_reckons_98 : decode (mB MX10_reckons) 98 = .ok (.aload_n 0, 1) := by decide +kernel
theorem eX10_reckons_99 : decode (mB MX10_reckons) 99 = .ok (.getfield 30, 3) := by decide +kernel
theorem eX10_reckons_102 : decode (mB MX10_reckons) 102 = .ok (.iload_n 2, 1) := by decide +kernel
theorem eX10_reckons_103 : decode (mB MX10_reckons) 103 = .ok (.iconst 1, 1) := by decide +kernel
theorem eX10_reckons_104 : decode (mB MX10_reckons) 104 = .ok (.isub, 1) := by decide +kernel
theorem eX10_reckons_105 : decode (mB MX10_reckons) 105 = .ok (.iaload, 1) := by decide +kernel
theorem eX10_reckons_106 : decode (mB MX10_reckons) 106 = .ok (.isub, 1) := by decide +kernel
theorem eX10_reckons_107 : decode (mB MX10_reckons) 107 = .ok (.iastore, 1) := by decide +kernel
theorem eX10_reckons_108 : decode (mB MX10_reckons) 108 = .ok (.goto 84, 3) := by decide +kernel
theorem eX10_reckons_111 : decode (mB MX10_reckons) 111 = .ok (.iload 4, 2) := by decide +kernel
theorem eX10_reckons_113 : decode (mB MX10_reckons) 113 = .ok (.sipush 3009, 3) := by decide +kernel
theorem eX10_reckons_116 : decode (mB MX10_reckons) 116 = .ok (.if_icmp .ne 46, 3) := by decide +kernel
theorem eX10_reckons_119 : decode (mB MX10_reckons) 119 = .ok (.iinc 2 (-2), 3) := by decide +kernel
theorem eX10_reckons_122 : decode (mB MX10_reckons) 122 = .ok (.aload_n 0, 1) := by decide +kernel
theorem eX10_reckons_123 : decode (mB MX10_reckons) 123 = .ok (.getfield 30, 3) := by decide +kernel
theorem eX10_reckons_126 : decode (mB MX10_reckons) 126 = .ok (.iload_n 2, 1) := by decide +kernel
theorem eX10_reckons_127 : decode (mB MX10_reckons) 127 = .ok (.iconst 1, 1) := by decide +kernel
theorem eX10_reckons_128 : decode (mB MX10_reckons) 128 = .ok (.isub, 1) := by decide +kernel
theorem eX10_reckons_129 : decode (mB MX10_reckons) 129 = .ok (.aload_n 0, 1) := by decide +kernel
theorem eX10_reckons_130 : decode (mB MX10_reckons) 130 = .ok (.getfield 30, 3) := by decide +kernel
theorem eX10_reckons_133 : decode (mB MX10_reckons) 133 = .ok (.iload_n 2, 1) := by decide +kernel
theorem eX10_reckons_134 : decode (mB MX10_reckons) 134 = .ok (.iconst 1, 1) := by decide +kernel
theorem eX10_reckons_135 : decode (mB MX10_reckons) 135 = .ok (.isub, 1) := by decide +kernel
theorem eX10_reckons_136 : decode (mB MX10_reckons) 136 = .ok (.iaload, 1) := by decide +kernel
theorem eX10_reckons_137 : decode (mB MX10_reckons) 137 = .ok (.iconst 1, 1) := by decide +kernel
theorem eX10_reckons_138 : decode (mB MX10_reckons) 138 = .ok (.if_icmp .ne 12, 3) := by decide +kernel
theorem eX10_reckons_141 : decode (mB MX10_reckons) 141 = .ok (.aload_n 0, 1) := by decide +kernel
theorem eX10_reckons_142 : decode (mB MX10_reckons) 142 = .ok (.getfield 30, 3) := by decide +kernel
theorem eX10_reckons_145 : decode (mB MX10_reckons) 145 = .ok (.iload_n 2, 1) := by decide +kernel
theorem eX10_reckons_146 : decode (mB MX10_reckons) 146 = .ok (.iaload, 1) := by decide +kernel
theorem eX10_reckons_147 : decode (mB MX10_reckons) 147 = .ok (.goto 11, 3) := by decide +kernel
theorem eX10_reckons_150 : decode (mB MX10_reckons) 150 = .ok (.aload_n 0, 1) := by decide +kernel
theorem eX10_reckons_151 : decode (mB MX10_reckons) 151 = .ok (.getfield 30, 3) := by decide +kernel
theorem eX10_reckons_154 : decode (mB MX10_reckons) 154 = .ok (.iload_n 2, 1) := by decide +kernel
theorem eX10_reckons_155 : decode (mB MX10_reckons) 155 = .ok (.iconst 1, 1) := by decide +kernel
theorem eX10_reckons_156 : decode (mB MX10_reckons) 156 = .ok (.iadd, 1) := by decide +kernel
theorem eX10_reckons_157 : decode (mB MX10_reckons) 157 = .ok (.iaload, 1) := by decide +kernel
theorem eX10_reckons_158 : decode (mB MX10_reckons) 158 = .ok (.iastore, 1) := by decide +kernel
theorem eX10_reckons_159 : decode (mB MX10_reckons) 159 = .ok (.goto 33, 3) := by decide +kernel
theorem eX10_reckons_162 : decode (mB MX10_reckons) 162 = .ok (.iinc 2 (-1), 3) := by decide +kernel
theorem eX10_reckons_165 : decode (mB MX10_reckons) 165 = .ok (.aload_n 0, 1) := by decide +kernel
theorem eX10_reckons_166 : decode (mB MX10_reckons) 166 = .ok (.getfield 30, 3) := by decide +kernel
theorem eX10_reckons_169 : decode (mB MX10_reckons) 169 = .ok (.iload_n 2, 1) := by decide +kernel
theorem eX10_reckons_170 : decode (mB MX10_reckons) 170 = .ok (.iconst 1, 1) := by decide +kernel
theorem eX10_reckons_171 : decode (mB MX10_reckons) 171 = .ok (.isub, 1) := by decide +kernel
theorem eX10_reckons_172 : decode (mB MX10_reckons) 172 = .ok (.iload 4, 2) := by decide +kernel
theorem eX10_reckons_174 : decode (mB MX10_reckons) 174 = .ok (.aload_n 0, 1) := by decide +kernel
theorem eX10_reckons_175 : decode (mB MX10_reckons) 175 = .ok (.getfield 30, 3) := by decide +kernel
theorem eX10_reckons_178 : decode (mB MX10_reckons) 178 = .ok (.iload_n 2, 1) := by decide +kernel
theorem eX10_reckons_179 : decode (mB MX10_reckons) 179 = .ok (.iconst 1, 1) := by decide +kernel
theorem eX10_reckons_180 : decode (mB MX10_reckons) 180 = .ok (.isub, 1) := by decide +kernel
theorem eX10_reckons_181 : decode (mB MX10_reckons) 181 = .ok (.iaload, 1) := by decide +kernel
theorem eX10_reckons_182 : decode (mB MX10_reckons) 182 = .ok (.aload_n 0, 1) := by decide +kernel
theorem eX10_reckons_183 : decode (mB MX10_reckons) 183 = .ok (.getfield 30, 3) := by decide +kernel
theorem eX10_reckons_186 : decode (mB MX10_reckons) 186 = .ok (.iload_n 2, 1) := by decide +kernel
theorem eX10_reckons_187 : decode (mB MX10_reckons) 187 = .ok (.iaload, 1) := by decide +kernel
theorem eX10_reckons_188 : decode (mB MX10_reckons) 188 = .ok (.invokestatic 226, 3) := by decide +kernel
theorem eX10_reckons_191 : decode (mB MX10_reckons) 191 = .ok (.iastore, 1) := by decide +kernel
theorem eX10_reckons_192 : decode (mB MX10_reckons) 192 = .ok (.iinc 3 1, 3) := by decide +kernel
theorem eX10_reckons_195 : decode (mB MX10_reckons) 195 = .ok (.goto (-191), 3) := by decide +kernel
theorem eX10_reckons_198 : decode (mB MX10_reckons) 198 = .ok (.aload_n 0, 1) := by decide +kernel
theorem eX10_reckons_199 : decode (mB MX10_reckons) 199 = .ok (.getfield 30, 3) := by decide +kernel
theorem eX10_reckons_202 : decode (mB MX10_reckons) 202 = .ok (.iconst 0, 1) := by decide +kernel
theorem eX10_reckons_203 : decode (mB MX10_reckons) 203 = .ok (.iaload, 1) := by decide +kernel
theorem eX10_reckons_204 : decode (mB MX10_reckons) 204 = .ok (.ireturn, 1) := by decide +kernel
theorem eX10_roundOf_0 : decode (mB MX10_roundOf) 0 = .ok (.iload_n 1, 1) := by decide +kernel
theorem eX10_roundOf_1 : decode (mB MX10_roundOf) 1 = .ok (.invokestatic 229, 3) := by decide +kernel
theorem eX10_roundOf_4 : decode (mB MX10_roundOf) 4 = .ok (.iconst 3, 1) := by decide +kernel
theorem eX10_roundOf_5 : decode (mB MX10_roundOf) 5 = .ok (.if_icmp .ge 5, 3) := by decide +kernel
theorem eX10_roundOf_8 : decode (mB MX10_roundOf) 8 = .ok (.iconst 0, 1) := by decide +kernel
theorem eX10_roundOf_9 : decode (mB MX10_roundOf) 9 = .ok (.ireturn, 1) := by decide +kernel
theorem eX10_roundOf_10 : decode (mB MX10_roundOf) 10 = .ok (.iconst 0, 1) := by decide +kernel
theorem eX10_roundOf_11 : decode (mB MX10_roundOf) 11 = .ok (.istore_n 2, 1) := by decide +kernel
theorem eX10_roundOf_12 : decode (mB MX10_roundOf) 12 = .ok (.iconst 0, 1) := by decide +kernel
theorem eX10_roundOf_13 : decode (mB MX10_roundOf) 13 = .ok (.istore_n 3, 1) := by decide +kernel
theorem eX10_roundOf_14 : decode (mB MX10_roundOf) 14 = .ok (.iconst (-1), 1) := by decide +kernel
theorem eX10_roundOf_15 : decode (mB MX10_roundOf) 15 = .ok (.istore 4, 2) := by decide +kernel
theorem eX10_roundOf_17 : decode (mB MX10_roundOf) 17 = .ok (.iconst 0, 1) := by decide +kernel
theorem eX10_roundOf_18 : decode (mB MX10_roundOf) 18 = .ok (.istore 5, 2) := by decide +kernel
theorem eX10_roundOf_20 : decode (mB MX10_roundOf) 20 = .ok (.iload 5, 2) := by decide +kernel
theorem eX10_roundOf_22 : decode (mB MX10_roundOf) 22 = .ok (.aload_n 0, 1) := by decide +kernel
theorem eX10_roundOf_23 : decode (mB MX10_roundOf) 23 = .ok (.getfield 13, 3) := by decide +kernel
theorem eX10_roundOf_26 : decode (mB MX10_roundOf) 26 = .ok (.iconst 2, 1) := by decide +kernel
theorem eX10_roundOf_27 : decode (mB MX10_roundOf) 27 = .ok (.iaload, 1) := by decide +kernel
theorem eX10_roundOf_28 : decode (mB MX10_roundOf) 28 = .ok (.if_icmp .ge 59, 3) := by decide +kernel
theorem eX10_roundOf_31 : decode (mB MX10_roundOf) 31 = .ok (.iload_n 1, 1) := by decide +kernel
theorem eX10_roundOf_32 : decode (mB MX10_roundOf) 32 = .ok (.i2l, 1) := by decide +kernel
theorem eX10_roundOf_33 : decode (mB MX10_roundOf) 33 = .ok (.iload 5, 2) := by decide +kernel
theorem eX10_roundOf_35 : decode (mB MX10_roundOf) 35 = .ok (.invokestatic 232, 3) := by decide +kernel
theorem eX10_roundOf_38 : decode (mB MX10_roundOf) 38 = .ok (.ifCond .ne 6, 3) := by decide +kernel
theorem eX10_roundOf_41 : decode (mB MX10_roundOf) 41 = .ok (.goto 40, 3) := by decide +kernel
theorem eX10_roundOf_44 : decode (mB MX10_roundOf) 44 = .ok (.iload_n 3, 1) := by decide +kernel
theorem eX10_roundOf_45 : decode (mB MX10_roundOf) 45 = .ok (.aload_n 0, 1) := by decide +kernel
theorem eX10_roundOf_46 : decode (mB MX10_roundOf) 46 = .ok (.iload 5, 2) := by decide +kernel
theorem eX10_roundOf_48 : decode (mB MX10_roundOf) 48 = .ok (.invokevirtual 236, 3) := by decide +kernel
theorem eX10_roundOf_51 : decode (mB MX10_roundOf) 51 = .ok (.iand, 1) := by decide +kernel
theorem eX10_roundOf_52 : decode (mB MX10_roundOf) 52 = .ok (.ifCond .eq 5, 3) := by decide +kernel
theorem eX10_roundOf_55 : decode (mB MX10_roundOf) 55 = .ok (.iconst 0, 1) := by decide +kernel
theorem eX10_roundOf_56 : decode (mB MX10_roundOf) 56 = .ok (.ireturn, 1) := by decide +kernel
theorem eX10_roundOf_57 : decode (mB MX10_roundOf) 57 = .ok (.iload_n 3, 1) := by decide +kernel
theorem eX10_roundOf_58 : decode (mB MX10_roundOf) 58 = .ok (.iload_n 2, 1) := by decide +kernel
theorem eX10_roundOf_59 : decode (mB MX10_roundOf) 59 = .ok (.aload_n 0, 1) := by decide +kernel
theorem eX10_roundOf_60 : decode (mB MX10_roundOf) 60 = .ok (.iload 5, 2) := by decide +kernel
theorem eX10_roundOf_62 : decode (mB MX10_roundOf) 62 = .ok (.invokevirtual 236, 3) := by decide +kernel
theorem eX10_roundOf_65 : decode (mB MX10_roundOf) 65 = .ok (.iand, 1) := by decide +kernel
theorem eX10_roundOf_66 : decode (mB MX10_roundOf) 66 = .ok (.ior, 1) := by decide +kernel
theorem eX10_roundOf_67 : decode (mB MX10_roundOf) 67 = .ok (.istore_n 3, 1) := by decide +kernel
theorem eX10_roundOf_68 : decode (mB MX10_roundOf) 68 = .ok (.iload_n 2, 1) := by decide +kernel
theorem eX10_roundOf_69 : decode (mB MX10_roundOf) 69 = .ok (.aload_n 0, 1) := by decide +kernel
theorem eX10_roundOf_70 : decode (mB MX10_roundOf) 70 = .ok (.iload 5, 2) := by decide +kernel
theorem eX10_roundOf_72 : decode (mB MX10_roundOf) 72 = .ok (.invokevirtual 236, 3) := by decide +kernel
theorem eX10_roundOf_75 : decode (mB MX10_roundOf) 75 = .ok (.ior, 1) := by decide +kernel
theorem eX10_roundOf_76 : decode (mB MX10_roundOf) 76 = .ok (.istore_n 2, 1) := by decide +kernel
theorem eX10_roundOf_77 : decode (mB MX10_roundOf) 77 = .ok (.iload 5, 2) := by decide +kernel
theorem eX10_roundOf_79 : decode (mB MX10_roundOf) 79 = .ok (.istore 4, 2) := by decide +kernel
theorem eX10_roundOf_81 : decode (mB MX10_roundOf) 81 = .ok (.iinc 5 1, 3) := by decide +kernel
theorem eX10_roundOf_84 : decode (mB MX10_roundOf) 84 = .ok (.goto (-64), 3) := by decide +kernel
theorem eX10_roundOf_87 : decode (mB MX10_roundOf) 87 = .ok (.iload_n 2, 1) := by decide +kernel
theorem eX10_roundOf_88 : decode (mB MX10_roundOf) 88 = .ok (.iload_n 3, 1) := by decide +kernel
theorem eX10_roundOf_89 : decode (mB MX10_roundOf) 89 = .ok (.if_icmp .eq 5, 3) := by decide +kernel
theorem eX10_roundOf_92 : decode (mB MX10_roundOf) 92 = .ok (.iconst 0, 1) := by decide +kernel
theorem eX10_roundOf_93 : decode (mB MX10_roundOf) 93 = .ok (.ireturn, 1) := by decide +kernel
theorem eX10_roundOf_94 : decode (mB MX10_roundOf) 94 = .ok (.aload_n 0, 1) := by decide +kernel
theorem eX10_roundOf_95 : decode (mB MX10_roundOf) 95 = .ok (.iload 4, 2) := by decide +kernel
theorem eX10_roundOf_97 : decode (mB MX10_roundOf) 97 = .ok (.invokevirtual 236, 3) := by decide +kernel
theorem eX10_roundOf_100 : decode (mB MX10_roundOf) 100 = .ok (.istore 5, 2) := by decide +kernel
theorem eX10_roundOf_102 : decode (mB MX10_roundOf) 102 = .ok (.iconst 0, 1) := by decide +kernel
theorem eX10_roundOf_103 : decode (mB MX10_roundOf) 103 = .ok (.istore 6, 2) := by decide +kernel
theorem eX10_roundOf_105 : decode (mB MX10_roundOf) 105 = .ok (.iload 6, 2) := by decide +kernel
theorem eX10_roundOf_107 : decode (mB MX10_roundOf) 107 = .ok (.bipush 10, 2) := by decide +kernel
theorem eX10_roundOf_109 : decode (mB MX10_roundOf) 109 = .ok (.if_icmp .ge 62, 3) := by decide +kernel
theorem eX10_roundOf_112 : decode (mB MX10_roundOf) 112 = .ok (.iconst 0, 1) := by decide +kernel
theorem eX10_roundOf_113 : decode (mB MX10_roundOf) 113 = .ok (.istore 7, 2) := by decide +kernel
theorem eX10_roundOf_115 : decode (mB MX10_roundOf) 115 = .ok (.iload 7, 2) := by decide +kernel
theorem eX10_roundOf_117 : decode (mB MX10_roundOf) 117 = .ok (.aload_n 0, 1) := by decide +kernel
theorem eX10_roundOf_118 : decode (mB MX10_roundOf) 118 = .ok (.getfield 13, 3) := by decide +kernel
theorem eX10_roundOf_121 : decode (mB MX10_roundOf) 121 = .ok (.iconst 2, 1) := by decide +kernel
theorem eX10_roundOf_122 : decode (mB MX10_roundOf) 122 = .ok (.iaload, 1) := by decide +kernel
theorem eX10_roundOf_123 : decode (mB MX10_roundOf) 123 = .ok (.if_icmp .ge 42, 3) := by decide +kernel
theorem eX10_roundOf_126 : decode (mB MX10_roundOf) 126 = .ok (.iload_n 1, 1) := by decide +kernel
theorem eX10_roundOf_127 : decode (mB MX10_roundOf) 127 = .ok (.i2l, 1) := by decide +kernel
theorem eX10_roundOf_128 : decode (mB MX10_roundOf) 128 = .ok (.iload 7, 2) := by decide +kernel
theorem eX10_roundOf_130 : decode (mB MX10_roundOf) 130 = .ok (.invokestatic 232, 3) := by decide +kernel
theorem eX10_roundOf_133 : decode (mB MX10_roundOf) 133 = .ok (.ifCond .eq 26, 3) := by decide +kernel
theorem eX10_roundOf_136 : decode (mB MX10_roundOf) 136 = .ok (.iload 5, 2) := by decide +kernel
theorem eX10_roundOf_138 : decode (mB MX10_roundOf) 138 = .ok (.aload_n 0, 1) := by decide +kernel
theorem eX10_roundOf_139 : decode (mB MX10_roundOf) 139 = .ok (.iload 7, 2) := by decide +kernel
theorem eX10_roundOf_141 : decode (mB MX10_roundOf) 141 = .ok (.invokevirtual 236, 3) := by decide +kernel
theorem eX10_roundOf_144 : decode (mB MX10_roundOf) 144 = .ok (.iand, 1) := by decide +kernel
theorem eX10_roundOf_145 : decode (mB MX10_roundOf) 145 = .ok (.ifCond .eq 14, 3) := by decide +kernel
theorem eX10_roundOf_148 : decode (mB MX10_roundOf) 148 = .ok (.iload 5, 2) := by decide +kernel
theorem eX10_roundOf_150 : decode (mB MX10_roundOf) 150 = .ok (.aload_n 0, 1) := by decide +kernel
theorem eX10_roundOf_151 : decode (mB MX10_roundOf) 151 = .ok (.iload 7, 2) := by decide +kernel
theorem eX10_roundOf_153 : decode (mB MX10_roundOf) 153 = .ok (.invokevirtual 236, 3) := by decide +kernel
theorem eX10_roundOf_156 : decode (mB MX10_roundOf) 156 = .ok (.ior, 1) := by decide +kernel
theorem eX10_roundOf_157 : decode (mB MX10_roundOf) 157 = .ok (.istore 5, 2) := by decide +kernel
theorem eX10_roundOf_159 : decode (mB MX10_roundOf) 159 = .ok (.iinc 7 1, 3) := by decide +kernel
theorem eX10_roundOf_162 : decode (mB MX10_roundOf) 162 = .ok (.goto (-47), 3) := by decide +kernel
theorem eX10_roundOf_165 : decode (mB MX10_roundOf) 165 = .ok (.iinc 6 1, 3) := by decide +kernel
theorem eX10_roundOf_168 : decode (mB MX10_roundOf) 168 = .ok (.goto (-63), 3) := by decide +kernel
theorem eX10_roundOf_171 : decode (mB MX10_roundOf) 171 = .ok (.iload 5, 2) := by decide +kernel
theorem eX10_roundOf_173 : decode (mB MX10_roundOf) 173 = .ok (.iload_n 2, 1) := by decide +kernel
theorem eX10_roundOf_174 : decode (mB MX10_roundOf) 174 = .ok (.if_icmp .ne 7, 3) := by decide +kernel
theorem eX10_roundOf_177 : decode (mB MX10_roundOf) 177 = .ok (.iload_n 2, 1) := by decide +kernel
theorem eX10_roundOf_178 : decode (mB MX10_roundOf) 178 = .ok (.goto 4, 3) := by decide +kernel
theorem eX10_roundOf_181 : decode (mB MX10_roundOf) 181 = .ok (.iconst 0, 1) := by decide +kernel
theorem eX10_roundOf_182 : decode (mB MX10_roundOf) 182 = .ok (.ireturn, 1) := by decide +kernel
theorem eX10_chordsOf_0 : decode (mB MX10_chordsOf) 0 = .ok (.iconst 0, 1) := by decide +kernel
theorem eX10_chordsOf_1 : decode (mB MX10_chordsOf) 1 = .ok (.istore_n 3, 1) := by decide +kernel
theorem eX10_chordsOf_2 : decode (mB MX10_chordsOf) 2 = .ok (.iconst 0, 1) := by decide +kernel
theorem eX10_chordsOf_3 : decode (mB MX10_chordsOf) 3 = .ok (.istore 4, 2) := by decide +kernel
theorem eX10_chordsOf_5 : decode (mB MX10_chordsOf) 5 = .ok (.iload 4, 2) := by decide +kernel
theorem eX10_chordsOf_7 : decode (mB MX10_chordsOf) 7 = .ok (.aload_n 0, 1) := by decide +kernel
theorem eX10_chordsOf_8 : decode (mB MX10_chordsOf) 8 = .ok (.getfield 13, 3) := by decide +kernel
theorem eX10_chordsOf_11 : decode (mB MX10_chordsOf) 11 = .ok (.iconst 2, 1) := by decide +kernel
theorem eX10_chordsOf_12 : decode (mB MX10_chordsOf) 12 = .ok (.iaload, 1) := by decide +kernel
theorem eX10_chordsOf_13 : decode (mB MX10_chordsOf) 13 = .ok (.if_icmp .ge 39, 3) := by decide +kernel
theorem eX10_chordsOf_16 : decode (mB MX10_chordsOf) 16 = .ok (.iload_n 1, 1) := by decide +kernel
theorem eX10_chordsOf_17 : decode (mB MX10_chordsOf) 17 = .ok (.i2l, 1) := by decide +kernel
theorem eX10_chordsOf_18 : decode (mB MX10_chordsOf) 18 = .ok (.iload 4, 2) := by decide +kernel
theorem eX10_chordsOf_20 : decode (mB MX10_chordsOf) 20 = .ok (.invokestatic 232, 3) := by decide +kernel
theorem eX10_chordsOf_23 : decode (mB MX10_chordsOf) 23 = .ok (.ifCond .ne 23, 3) := by decide +kernel
theorem eX10_chordsOf_26 : decode (mB MX10_chordsOf) 26 = .ok (.aload_n 0, 1) := by decide +kernel
theorem eX10_chordsOf_27 : decode (mB MX10_chordsOf) 27 = .ok (.iload 4, 2) := by decide +kernel
theorem eX10_chordsOf_29 : decode (mB MX10_chordsOf) 29 = .ok (.invokevirtual 236, 3) := by decide +kernel
theorem eX10_chordsOf_32 : decode (mB MX10_chordsOf) 32 = .ok (.iload_n 2, 1) := by decide +kernel
theorem eX10_chordsOf_33 : decode (mB MX10_chordsOf) 33 = .ok (.iconst (-1), 1) := by decide +kernel
theorem eX10_chordsOf_34 : decode (mB MX10_chordsOf) 34 = .ok (.ixor, 1) := by decide +kernel
theorem eX10_chordsOf_35 : decode (mB MX10_chordsOf) 35 = .ok (.iand, 1) := by decide +kernel
theorem eX10_chordsOf_36 : decode (mB MX10_chordsOf) 36 = .ok (.ifCond .ne 10, 3) := by decide +kernel
theorem eX10_chordsOf_39 : decode (mB MX10_chordsOf) 39 = .ok (.iload_n 3, 1) := by decide +kernel
theorem eX10_chordsOf_40 : decode (mB MX10_chordsOf) 40 = .ok (.iconst 1, 1) := by decide +kernel
theorem eX10_chordsOf_41 : decode (mB MX10_chordsOf) 41 = .ok (.iload 4, 2) := by decide +kernel
theorem eX10_chordsOf_43 : decode (mB MX10_chordsOf) 43 = .ok (.ishl, 1) := by decide +kernel
theorem eX10_chordsOf_44 : decode (mB MX10_chordsOf) 44 = .ok (.ior, 1) := by decide +kernel
theorem eX10_chordsOf_45 : decode (mB MX10_chordsOf) 45 = .ok (.istore_n 3, 1) := by decide +kernel
theorem eX10_chordsOf_46 : decode (mB MX10_chordsOf) 46 = .ok (.iinc 4 1, 3) := by decide +kernel
theorem eX10_chordsOf_49 : decode (mB MX10_chordsOf) 49 = .ok (.goto (-44), 3) := by decide +kernel
theorem eX10_chordsOf_52 : decode (mB MX10_chordsOf) 52 = .ok (.iload_n 3, 1) := by decide +kernel
theorem eX10_chordsOf_53 : decode (mB MX10_chordsOf) 53 = .ok (.ireturn, 1) := by decide +kernel
theorem eX10_costOf_0 : decode (mB MX10_costOf) 0 = .ok (.iconst 0, 1) := by decide +kernel
theorem eX10_costOf_1 : decode (mB MX10_costOf) 1 = .ok (.istore_n 3, 1) := by decide +kernel
theorem eX10_costOf_2 : decode (mB MX10_costOf) 2 = .ok (.iconst 0, 1) := by decide +kernel
theorem eX10_costOf_3 : decode (mB MX10_costOf) 3 = .ok (.istore 4, 2) := by decide +kernel
theorem eX10_costOf_5 : decode (mB MX10_costOf) 5 = .ok (.iload 4, 2) := by decide +kernel
theorem eX10_costOf_7 : decode (mB MX10_costOf) 7 = .ok (.aload_n 0, 1) := by decide +kernel
theorem eX10_costOf_8 : decode (mB MX10_costOf) 8 = .ok (.getfield 13, 3) := by decide +kernel
theorem eX10_costOf_11 : decode (mB MX10_costOf) 11 = .ok (.iconst 2, 1) := by decide +kernel
theorem eX10_costOf_12 : decode (mB MX10_costOf) 12 = .ok (.iaload, 1) := by decide +kernel
theorem eX10_costOf_13 : decode (mB MX10_costOf) 13 = .ok (.if_icmp .ge 144, 3) := by decide +kernel
theorem eX10_costOf_16 : decode (mB MX10_costOf) 16 = .ok (.iload_n 1, 1) := by decide +kernel
theorem eX10_costOf_17 : decode (mB MX10_costOf) 17 = .ok (.i2l, 1) := by decide +kernel
theorem eX10_costOf_18 : decode (mB MX10_costOf) 18 = .ok (.iload 4, 2) := by decide +kernel
theorem eX10_costOf_20 : decode (mB MX10_costOf) 20 = .ok (.invokestatic 232, 3) := by decide +kernel
theorem eX10_costOf_23 : decode (mB MX10_costOf) 23 = .ok (.ifCond .ne 6, 3) := by decide +kernel
theorem eX10_costOf_26 : decode (mB MX10_costOf) 26 = .ok (.goto 125, 3) := by decide +kernel
theorem eX10_costOf_29 : decode (mB MX10_costOf) 29 = .ok (.aload_n 0, 1) := by decide +kernel
theorem eX10_costOf_30 : decode (mB MX10_costOf) 30 = .ok (.getfield 33, 3) := by decide +kernel
theorem eX10_costOf_33 : decode (mB MX10_costOf) 33 = .ok (.iconst 0, 1) := by decide +kernel
theorem eX10_costOf_34 : decode (mB MX10_costOf) 34 = .ok (.iload_n 2, 1) := by decide +kernel
theorem eX10_costOf_35 : decode (mB MX10_costOf) 35 = .ok (.iastore, 1) := by decide +kernel
theorem eX10_costOf_36 : decode (mB MX10_costOf) 36 = .ok (.aload_n 0, 1) := by decide +kernel
theorem eX10_costOf_37 : decode (mB MX10_costOf) 37 = .ok (.getfield 33, 3) := by decide +kernel
theorem eX10_costOf_40 : decode (mB MX10_costOf) 40 = .ok (.iconst 1, 1) := by decide +kernel
theorem eX10_costOf_41 : decode (mB MX10_costOf) 41 = .ok (.aload_n 0, 1) := by decide +kernel
theorem eX10_costOf_42 : decode (mB MX10_costOf) 42 = .ok (.getfield 13, 3) := by decide +kernel
theorem eX10_costOf_45 : decode (mB MX10_costOf) 45 = .ok (.bipush 29, 2) := by decide +kernel
theorem eX10_costOf_47 : decode (mB MX10_costOf) 47 = .ok (.iload 4, 2) := by decide +kernel
theorem eX10_costOf_49 : decode (mB MX10_costOf) 49 = .ok (.iadd, 1) := by decide +kernel
theorem eX10_costOf_50 : decode (mB MX10_costOf) 50 = .ok (.iaload, 1) := by decide +kernel
theorem eX10_costOf_51 : decode (mB MX10_costOf) 51 = .ok (.iastore, 1) := by decide +kernel
theorem eX10_costOf_52 : decode (mB MX10_costOf) 52 = .ok (.aload_n 0, 1) := by decide +kernel
theorem eX10_costOf_53 : decode (mB MX10_costOf) 53 = .ok (.getfield 33, 3) := by decide +kernel
theorem eX10_costOf_56 : decode (mB MX10_costOf) 56 = .ok (.iconst 2, 1) := by decide +kernel
theorem eX10_costOf_57 : decode (mB MX10_costOf) 57 = .ok (.aload_n 0, 1) := by decide +kernel
theorem eX10_costOf_58 : decode (mB MX10_costOf) 58 = .ok (.getfield 13, 3) := by decide +kernel
theorem eX10_costOf_61 : decode (mB MX10_costOf) 61 = .ok (.bipush 39, 2) := by decide +kernel
theorem eX10_costOf_63 : decode (mB MX10_costOf) 63 = .ok (.iload 4, 2) := by decide +kernel
theorem eX10_costOf_65 : decode (mB MX10_costOf) 65 = .ok (.iadd, 1) := by decide +kernel
theorem eX10_costOf_66 : decode (mB MX10_costOf) 66 = .ok (.iaload, 1) := by decide +kernel
theorem eX10_costOf_67 : decode (mB MX10_costOf) 67 = .ok (.iastore, 1) := by decide +kernel
theorem eX10_costOf_68 : decode (mB MX10_costOf) 68 = .ok (.aload_n 0, 1) := by decide +kernel
theorem eX10_costOf_69 : decode (mB MX10_costOf) 69 = .ok (.getfield 33, 3) := by decide +kernel
theorem eX10_costOf_72 : decode (mB MX10_costOf) 72 = .ok (.iconst 3, 1) := by decide +kernel
theorem eX10_costOf_73 : decode (mB MX10_costOf) 73 = .ok (.aload_n 0, 1) := by decide +kernel
theorem eX10_costOf_74 : decode (mB MX10_costOf) 74 = .ok (.iload 4, 2) := by decide +kernel
theorem eX10_costOf_76 : decode (mB MX10_costOf) 76 = .ok (.iconst 0, 1) := by decide +kernel
theorem eX10_costOf_77 : decode (mB MX10_costOf) 77 = .ok (.invokevirtual 219, 3) := by decide +kernel
theorem eX10_costOf_80 : decode (mB MX10_costOf) 80 = .ok (.iastore, 1) := by decide +kernel
theorem eX10_costOf_81 : decode (mB MX10_costOf) 81 = .ok (.aload_n 0, 1) := by decide +kernel
theorem eX10_costOf_82 : decode (mB MX10_costOf) 82 = .ok (.getfield 33, 3) := by decide +kernel
theorem eX10_costOf_85 : decode (mB MX10_costOf) 85 = .ok (.iconst 4, 1) := by decide +kernel
theorem eX10_costOf_86 : decode (mB MX10_costOf) 86 = .ok (.aload_n 0, 1) := by decide +kernel
theorem eX10_costOf_87 : decode (mB MX10_costOf) 87 = .ok (.iload 4, 2) := by decide +kernel
theorem eX10_costOf_89 : decode (mB MX10_costOf) 89 = .ok (.iconst 1, 1) := by decide +kernel
theorem eX10_costOf_90 : decode (mB MX10_costOf) 90 = .ok (.invokevirtual 219, 3) := by decide +kernel
theorem eX10_costOf_93 : decode (mB MX10_costOf) 93 = .ok (.iastore, 1) := by decide +kernel
theorem eX10_costOf_94 : decode (mB MX10_costOf) 94 = .ok (.aload_n 0, 1) := by decide +kernel
theorem eX10_costOf_95 : decode (mB MX10_costOf) 95 = .ok (.getfield 13, 3) := by decide +kernel
theorem eX10_costOf_98 : decode (mB MX10_costOf) 98 = .ok (.iconst 3, 1) := by decide +kernel
theorem eX10_costOf_99 : decode (mB MX10_costOf) 99 = .ok (.iaload, 1) := by decide +kernel
theorem eX10_costOf_100 : decode (mB MX10_costOf) 100 = .ok (.iconst 1, 1) := by decide +kernel
theorem eX10_costOf_101 : decode (mB MX10_costOf) 101 = .ok (.if_icmp .ne 11, 3) := by decide +kernel
theorem eX10_costOf_104 : decode (mB MX10_costOf) 104 = .ok (.aload_n 0, 1) := by decide +kernel
theorem eX10_costOf_105 : decode (mB MX10_costOf) 105 = .ok (.iconst 0, 1) := by decide +kernel
theorem eX10_costOf_106 : decode (mB MX10_costOf) 106 = .ok (.invokevirtual 239, 3) := by decide +kernel
theorem eX10_costOf_109 : decode (mB MX10_costOf) 109 = .ok (.goto 13, 3) := by decide +kernel
theorem eX10_costOf_112 : decode (mB MX10_costOf) 112 = .ok (.aload_n 0, 1) := by decide +kernel
theorem eX10_costOf_113 : decode (mB MX10_costOf) 113 = .ok (.getfield 13, 3) := by decide +kernel
theorem eX10_costOf_116 : decode (mB MX10_costOf) 116 = .ok (.bipush 29, 2) := by decide +kernel
theorem eX10_costOf_118 : decode (mB MX10_costOf) 118 = .ok (.iload 4, 2) := by decide +kernel
theorem eX10_costOf_120 : decode (mB MX10_costOf) 120 = .ok (.iadd, 1) := by decide +kernel
theorem eX10_costOf_121 : decode (mB MX10_costOf) 121 = .ok (.iaload, 1) := by decide +kernel
theorem eX10_costOf_122 : decode (mB MX10_costOf) 122 = .ok (.istore 5, 2) := by decide +kernel
theorem eX10_costOf_124 : decode (mB MX10_costOf) 124 = .ok (.iload_n 3, 1) := by decide +kernel
theorem eX10_costOf_125 : decode (mB MX10_costOf) 125 = .ok (.iload 5, 2) := by decide +kernel
theorem eX10_costOf_127 : decode (mB MX10_costOf) 127 = .ok (.iconst 1, 1) := by decide +kernel
theorem eX10_costOf_128 : decode (mB MX10_costOf) 128 = .ok (.if_icmp .ge 7, 3) := by decide +kernel
theorem eX10_costOf_131 : decode (mB MX10_costOf) 131 = .ok (.iconst 1, 1) := by decide +kernel
theorem eX10_costOf_132 : decode (mB MX10_costOf) 132 = .ok (.goto 17, 3) := by decide +kernel
theorem eX10_costOf_135 : decode (mB MX10_costOf) 135 = .ok (.iload 5, 2) := by decide +kernel
theorem eX10_costOf_137 : decode (mB MX10_costOf) 137 = .ok (.bipush 99, 2) := by decide +kernel
theorem eX10_costOf_139 : decode (mB MX10_costOf) 139 = .ok (.if_icmp .le 8, 3) := by decide +kernel
theorem eX10_costOf_142 : decode (mB MX10_costOf) 142 = .ok (.bipush 99, 2) := by decide +kernel
theorem eX10_costOf_144 : decode (mB MX10_costOf) 144 = .ok (.goto 5, 3) := by decide +kernel
theorem eX10_costOf_147 : decode (mB MX10_costOf) 147 = .ok (.iload 5, 2) := by decide +kernel
theorem eX10_costOf_149 : decode (mB MX10_costOf) 149 = .ok (.iadd, 1) := by decide +kernel
theorem eX10_costOf_150 : decode (mB MX10_costOf) 150 = .ok (.istore_n 3, 1) := by decide +kernel
theorem eX10_costOf_151 : decode (mB MX10_costOf) 151 = .ok (.iinc 4 1, 3) := by decide +kernel
theorem eX10_costOf_154 : decode (mB MX10_costOf) 154 = .ok (.goto (-149), 3) := by decide +kernel
theorem eX10_costOf_157 : decode (mB MX10_costOf) 157 = .ok (.iload_n 3, 1) := by decide +kernel
theorem eX10_costOf_158 : decode (mB MX10_costOf) 158 = .ok (.ireturn, 1) := by decide +kernel
theorem eX10_mayBe_0 : decode (mB MX10_mayBe) 0 = .ok (.aload_n 0, 1) := by decide +kernel
theorem eX10_mayBe_1 : decode (mB MX10_mayBe) 1 = .ok (.getfield 13, 3) := by decide +kernel
theorem eX10_mayBe_4 : decode (mB MX10_mayBe) 4 = .ok (.iconst 4, 1) := by decide +kernel
theorem eX10_mayBe_5 : decode (mB MX10_mayBe) 5 = .ok (.iaload, 1) := by decide +kernel
theorem eX10_mayBe_6 : decode (mB MX10_mayBe) 6 = .ok (.ifCond .ne 5, 3) := by decide +kernel
theorem eX10_mayBe_9 : decode (mB MX10_mayBe) 9 = .ok (.iconst 1, 1) := by decide +kernel
theorem eX10_mayBe_10 : decode (mB MX10_mayBe) 10 = .ok (.ireturn, 1) := by decide +kernel
theorem eX10_mayBe_11 : decode (mB MX10_mayBe) 11 = .ok (.aload_n 0, 1) := by decide +kernel
theorem eX10_mayBe_12 : decode (mB MX10_mayBe) 12 = .ok (.getfield 33, 3) := by decide +kernel
theorem eX10_mayBe_15 : decode (mB MX10_mayBe) 15 = .ok (.iconst 0, 1) := by decide +kernel
theorem eX10_mayBe_16 : decode (mB MX10_mayBe) 16 = .ok (.aload_n 0, 1) := by decide +kernel
theorem eX10_mayBe_17 : decode (mB MX10_mayBe) 17 = .ok (.getfield 13, 3) := by decide +kernel
theorem eX10_mayBe_20 : decode (mB MX10_mayBe) 20 = .ok (.bipush 114, 2) := by decide +kernel
theorem eX10_mayBe_22 : decode (mB MX10_mayBe) 22 = .ok (.iaload, 1) := by decide +kernel
theorem eX10_mayBe_23 : decode (mB MX10_mayBe) 23 = .ok (.iastore, 1) := by decide +kernel
theorem eX10_mayBe_24 : decode (mB MX10_mayBe) 24 = .ok (.aload_n 0, 1) := by decide +kernel
theorem eX10_mayBe_25 : decode (mB MX10_mayBe) 25 = .ok (.getfield 33, 3) := by decide +kernel
theorem eX10_mayBe_28 : decode (mB MX10_mayBe) 28 = .ok (.iconst 1, 1) := by decide +kernel
theorem eX10_mayBe_29 : decode (mB MX10_mayBe) 29 = .ok (.iconst 0, 1) := by decide +kernel
theorem eX10_mayBe_30 : decode (mB MX10_mayBe) 30 = .ok (.iastore, 1) := by decide +kernel
theorem eX10_mayBe_31 : decode (mB MX10_mayBe) 31 = .ok (.aload_n 0, 1) := by decide +kernel
theorem eX10_mayBe_32 : decode (mB MX10_mayBe) 32 = .ok (.getfield 33, 3) := by decide +kernel
theorem eX10_mayBe_35 : decode (mB MX10_mayBe) 35 = .ok (.iconst 2, 1) := by decide +kernel
theorem eX10_mayBe_36 : decode (mB MX10_mayBe) 36 = .ok (.iconst 0, 1) := by decide +kernel
theorem eX10_mayBe_37 : decode (mB MX10_mayBe) 37 = .ok (.iastore, 1) := by decide +kernel
theorem eX10_mayBe_38 : decode (mB MX10_mayBe) 38 = .ok (.iconst 0, 1) := by decide +kernel
theorem eX10_mayBe_39 : decode (mB MX10_mayBe) 39 = .ok (.istore_n 3, 1) := by decide +kernel
theorem eX10_mayBe_40 : decode (mB MX10_mayBe) 40 = .ok (.iload_n 3, 1) := by decide +kernel
theorem eX10_mayBe_41 : decode (mB MX10_mayBe) 41 = .ok (.aload_n 0, 1) := by decide +kernel
theorem eX10_mayBe_42 : decode (mB MX10_mayBe) 42 = .ok (.getfield 13, 3) := by decide +kernel
theorem eX10_mayBe_45 : decode (mB MX10_mayBe) 45 = .ok (.iconst 2, 1) := by decide +kernel
theorem eX10_mayBe_46 : decode (mB MX10_mayBe) 46 = .ok (.iaload, 1) := by decide +kernel
theorem eX10_mayBe_47 : decode (mB MX10_mayBe) 47 = .ok (.if_icmp .ge 71, 3) := by decide +kernel
theorem eX10_mayBe_50 : decode (mB MX10_mayBe) 50 = .ok (.aload_n 0, 1) := by decide +kernel
theorem eX10_mayBe_51 : decode (mB MX10_mayBe) 51 = .ok (.getfield 33, 3) := by decide +kernel
theorem eX10_mayBe_54 : decode (mB MX10_mayBe) 54 = .ok (.iconst 1, 1) := by decide +kernel
theorem eX10_mayBe_55 : decode (mB MX10_mayBe) 55 = .ok (.dup2, 1) := by decide +kernel
theorem eX10_mayBe_56 : decode (mB MX10_mayBe) 56 = .ok (.iaload, 1) := by decide +kernel
theorem eX10_mayBe_57 : decode (mB MX10_mayBe) 57 = .ok (.iload_n 1, 1) := by decide +kernel
theorem eX10_mayBe_58 : decode (mB MX10_mayBe) 58 = .ok (.i2l, 1) := by decide +kernel
theorem eX10_mayBe_59 : decode (mB MX10_mayBe) 59 = .ok (.iload_n 3, 1) := by decide +kernel
theorem eX10_mayBe_60 : decode (mB MX10_mayBe) 60 = .ok (.invokestatic 232, 3) := by decide +kernel
theorem eX10_mayBe_63 : decode (mB MX10_mayBe) 63 = .ok (.ifCond .eq 15, 3) := by decide +kernel
theorem eX10_mayBe_66 : decode (mB MX10_mayBe) 66 = .ok (.aload_n 0, 1) := by decide +kernel
theorem eX10_mayBe_67 : decode (mB MX10_mayBe) 67 = .ok (.getfield 13, 3) := by decide +kernel
theorem eX10_mayBe_70 : decode (mB MX10_mayBe) 70 = .ok (.bipush 29, 2) := by decide +kernel
theorem eX10_mayBe_72 : decode (mB MX10_mayBe) 72 = .ok (.iload_n 3, 1) := by decide +kernel
theorem eX10_mayBe_73 : decode (mB MX10_mayBe) 73 = .ok (.iadd, 1) := by decide +kernel
theorem eX10_mayBe_74 : decode (mB MX10_mayBe) 74 = .ok (.iaload, 1) := by decide +kernel
theorem eX10_mayBe_75 : decode (mB MX10_mayBe) 75 = .ok (.goto 4, 3) := by decide +kernel
theorem eX10_mayBe_78 : decode (mB MX10_mayBe) 78 = .ok (.iconst 0, 1) := by decide +kernel
theorem eX10_mayBe_79 : decode (mB MX10_mayBe) 79 = .ok (.iadd, 1) := by decide +kernel
theorem eX10_mayBe_80 : decode (mB MX10_mayBe) 80 = .ok (.iastore, 1) := by decide +kernel
theorem eX10_mayBe_81 : decode (mB MX10_mayBe) 81 = .ok (.aload_n 0, 1) := by decide +kernel
theorem eX10_mayBe_82 : decode (mB MX10_mayBe) 82 = .ok (.getfield 33, 3) := by decide +kernel
theorem eX10_mayBe_85 : decode (mB MX10_mayBe) 85 = .ok (.iconst 2, 1) := by decide +kernel
theorem eX10_mayBe_86 : decode (mB MX10_mayBe) 86 = .ok (.dup2, 1) := by decide +kernel
theorem eX10_mayBe_87 : decode (mB MX10_mayBe) 87 = .ok (.iaload, 1) := by decide +kernel
theorem eX10_mayBe_88 : decode (mB MX10_mayBe) 88 = .ok (.iload_n 1, 1) := by decide +kernel
theorem eX10_mayBe_89 : decode (mB MX10_mayBe) 89 = .ok (.i2l, 1) := by decide +kernel
theorem eX10_mayBe_90 : decode (mB MX10_mayBe) 90 = .ok (.iload_n 3, 1) := by decide +kernel
theorem eX10_mayBe_91 : decode (mB MX10_mayBe) 91 = .ok (.invokestatic 232, 3) := by decide +kernel
theorem eX10_mayBe_94 : decode (mB MX10_mayBe) 94 = .ok (.ifCond .eq 15, 3) := by decide +kernel
theorem eX10_mayBe_97 : decode (mB MX10_mayBe) 97 = .ok (.aload_n 0, 1) := by decide +kernel
theorem eX10_mayBe_98 : decode (mB MX10_mayBe) 98 = .ok (.getfield 13, 3) := by decide +kernel
theorem eX10_mayBe_101 : decode (mB MX10_mayBe) 101 = .ok (.bipush 39, 2) := by decide +kernel
theorem eX10_mayBe_103 : decode (mB MX10_mayBe) 103 = .ok (.iload_n 3, 1) := by decide +kernel
theorem eX10_mayBe_104 : decode (mB MX10_mayBe) 104 = .ok (.iadd, 1) := by decide +kernel
theorem eX10_mayBe_105 : decode (mB MX10_mayBe) 105 = .ok (.iaload, 1) := by decide +kernel
theorem eX10_mayBe_106 : decode (mB MX10_mayBe) 106 = .ok (.goto 4, 3) := by decide +kernel
theorem eX10_mayBe_109 : decode (mB MX10_mayBe) 109 = .ok (.iconst 0, 1) := by decide +kernel
theorem eX10_mayBe_110 : decode (mB MX10_mayBe) 110 = .ok (.iadd, 1) := by decide +kernel
theorem eX10_mayBe_111 : decode (mB MX10_mayBe) 111 = .ok (.iastore, 1) := by decide +kernel
theorem eX10_mayBe_112 : decode (mB MX10_mayBe) 112 = .ok (.iinc 3 1, 3) := by decide +kernel
theorem eX10_mayBe_115 : decode (mB MX10_mayBe) 115 = .ok (.goto (-75), 3) := by decide +kernel
theorem eX10_mayBe_118 : decode (mB MX10_mayBe) 118 = .ok (.aload_n 0, 1) := by decide +kernel
theorem eX10_mayBe_119 : decode (mB MX10_mayBe) 119 = .ok (.getfield 33, 3) := by decide +kernel
theorem eX10_mayBe_122 : decode (mB MX10_mayBe) 122 = .ok (.iconst 5, 1) := by decide +kernel
theorem eX10_mayBe_123 : decode (mB MX10_mayBe) 123 = .ok (.iload_n 1, 1) := by decide +kernel
theorem eX10_mayBe_124 : decode (mB MX10_mayBe) 124 = .ok (.invokestatic 229, 3) := by decide +kernel
theorem eX10_mayBe_127 : decode (mB MX10_mayBe) 127 = .ok (.iastore, 1) := by decide +kernel
theorem eX10_mayBe_128 : decode (mB MX10_mayBe) 128 = .ok (.aload_n 0, 1) := by decide +kernel
theorem eX10_mayBe_129 : decode (mB MX10_mayBe) 129 = .ok (.getfield 33, 3) := by decide +kernel
theorem eX10_mayBe_132 : decode (mB MX10_mayBe) 132 = .ok (.bipush 6, 2) := by decide +kernel
theorem eX10_mayBe_134 : decode (mB MX10_mayBe) 134 = .ok (.iload_n 2, 1) := by decide +kernel
theorem eX10_mayBe_135 : decode (mB MX10_mayBe) 135 = .ok (.invokestatic 229, 3) := by decide +kernel
theorem eX10_mayBe_138 : decode (mB MX10_mayBe) 138 = .ok (.iastore, 1) := by decide +kernel
theorem eX10_mayBe_139 : decode (mB MX10_mayBe) 139 = .ok (.aload_n 0, 1) := by decide +kernel
theorem eX10_mayBe_140 : decode (mB MX10_mayBe) 140 = .ok (.iconst 1, 1) := by decide +kernel
theorem eX10_mayBe_141 : decode (mB MX10_mayBe) 141 = .ok (.invokevirtual 239, 3) := by decide +kernel
theorem eX10_mayBe_144 : decode (mB MX10_mayBe) 144 = .ok (.iconst 1, 1) := by decide +kernel
theorem eX10_mayBe_145 : decode (mB MX10_mayBe) 145 = .ok (.if_icmp .ne 7, 3) := by decide +kernel
theorem eX10_mayBe_148 : decode (mB MX10_mayBe) 148 = .ok (.iconst 1, 1) := by decide +kernel
theorem eX10_mayBe_149 : decode (mB MX10_mayBe) 149 = .ok (.goto 4, 3) := by decide +kernel
theorem eX10_mayBe_152 : decode (mB MX10_mayBe) 152 = .ok (.iconst 0, 1) := by decide +kernel
theorem eX10_mayBe_153 : decode (mB MX10_mayBe) 153 = .ok (.ireturn, 1) := by decide +kernel
theorem eX10_laysRings_0 : decode (mB MX10_laysRings) 0 = .ok (.aload_n 0, 1) := by decide +kernel
theorem eX10_laysRings_1 : decode (mB MX10_laysRings) 1 = .ok (.iconst 0, 1) := by decide +kernel
theorem eX10_laysRings_2 : decode (mB MX10_laysRings) 2 = .ok (.putfield 216, 3) := by decide +kernel
theorem eX10_laysRings_5 : decode (mB MX10_laysRings) 5 = .ok (.iconst 1, 1) := by decide +kernel
theorem eX10_laysRings_6 : decode (mB MX10_laysRings) 6 = .ok (.istore_n 1, 1) := by decide +kernel
theorem eX10_laysRings_7 : decode (mB MX10_laysRings) 7 = .ok (.iload_n 1, 1) := by decide +kernel
theorem eX10_laysRings_8 : decode (mB MX10_laysRings) 8 = .ok (.iconst 1, 1) := by decide +kernel
theorem eX10_laysRings_9 : decode (mB MX10_laysRings) 9 = .ok (.aload_n 0, 1) := by decide +kernel
theorem eX10_laysRings_10 : decode (mB MX10_laysRings) 10 = .ok (.getfield 13, 3) := by decide +kernel
theorem eX10_laysRings_13 : decode (mB MX10_laysRings) 13 = .ok (.iconst 2, 1) := by decide +kernel
theorem eX10_laysRings_14 : decode (mB MX10_laysRings) 14 = .ok (.iaload, 1) := by decide +kernel
theorem eX10_laysRings_15 : decode (mB MX10_laysRings) 15 = .ok (.ishl, 1) := by decide +kernel
theorem eX10_laysRings_16 : decode (mB MX10_laysRings) 16 = .ok (.if_icmp .ge 102, 3) := by decide +kernel
theorem eX10_laysRings_19 : decode (mB MX10_laysRings) 19 = .ok (.aload_n 0, 1) := by decide +kernel
theorem eX10_laysRings_20 : decode (mB MX10_laysRings) 20 = .ok (.iload_n 1, 1) := by decide +kernel
theorem eX10_laysRings_21 : decode (mB MX10_laysRings) 21 = .ok (.invokevirtual 242, 3) := by decide +kernel
theorem eX10_laysRings_24 : decode (mB MX10_laysRings) 24 = .ok (.istore_n 2, 1) := by decide +kernel
theorem eX10_laysRings_25 : decode (mB MX10_laysRings) 25 = .ok (.iload_n 2, 1) := by decide +kernel
theorem eX10_laysRings_26 : decode (mB MX10_laysRings) 26 = .ok (.ifCond .ne 6, 3) := by decide +kernel
theorem eX10_laysRings_29 : decode (mB MX10_laysRings) 29 = .ok (.goto 83, 3) := by decide +kernel
theorem eX10_laysRings_32 : decode (mB MX10_laysRings) 32 = .ok (.aload_n 0, 1) := by decide +kernel
theorem eX10_laysRings_33 : decode (mB MX10_laysRings) 33 = .ok (.iload_n 1, 1) := by decide +kernel
theorem eX10_laysRings_34 : decode (mB MX10_laysRings) 34 = .ok (.iload_n 2, 1) := by decide +kernel
theorem eX10_laysRings_35 : decode (mB MX10_laysRings) 35 = .ok (.invokevirtual 245, 3) := by decide +kernel
theorem eX10_laysRings_38 : decode (mB MX10_laysRings) 38 = .ok (.istore_n 3, 1) := by decide +kernel
theorem eX10_laysRings_39 : decode (mB MX10_laysRings) 39 = .ok (.aload_n 0, 1) := by decide +kernel
theorem eX10_laysRings_40 : decode (mB MX10_laysRings) 40 = .ok (.iload_n 1, 1) := by decide +kernel
theorem eX10_laysRings_41 : decode (mB MX10_laysRings) 41 = .ok (.iload_n 3, 1) := by decide +kernel
theorem eX10_laysRings_42 : decode (mB MX10_laysRings) 42 = .ok (.invokevirtual 248, 3) := by decide +kernel
theorem eX10_laysRings_45 : decode (mB MX10_laysRings) 45 = .ok (.ifCond .ne 6, 3) := by decide +kernel
theorem eX10_laysRings_48 : decode (mB MX10_laysRings) 48 = .ok (.goto 64, 3) := by decide +kernel
theorem eX10_laysRings_51 : decode (mB MX10_laysRings) 51 = .ok (.aload_n 0, 1) := by decide +kernel
theorem eX10_laysRings_52 : decode (mB MX10_laysRings) 52 = .ok (.getfield 36, 3) := by decide +kernel
theorem eX10_laysRings_55 : decode (mB MX10_laysRings) 55 = .ok (.aload_n 0, 1) := by decide +kernel
theorem eX10_laysRings_56 : decode (mB MX10_laysRings) 56 = .ok (.getfield 216, 3) := by decide +kernel
theorem eX10_laysRings_59 : decode (mB MX10_laysRings) 59 = .ok (.iload_n 1, 1) := by decide +kernel
theorem eX10_laysRings_60 : decode (mB MX10_laysRings) 60 = .ok (.iastore, 1) := by decide +kernel
theorem eX10_laysRings_61 : decode (mB MX10_laysRings) 61 = .ok (.aload_n 0, 1) := by decide +kernel
theorem eX10_laysRings_62 : decode (mB MX10_laysRings) 62 = .ok (.getfield 39, 3) := by decide +kernel
theorem eX10_laysRings_65 : decode (mB MX10_laysRings) 65 = .ok (.aload_n 0, 1) := by decide +kernel
theorem eX10_laysRings_66 : decode (mB MX10_laysRings) 66 = .ok (.getfield 216, 3) := by decide +kernel
theorem eX10_laysRings_69 : decode (mB MX10_laysRings) 69 = .ok (.iload_n 3, 1) := by decide +kernel
theorem eX10_laysRings_70 : decode (mB MX10_laysRings) 70 = .ok (.iastore, 1) := by decide +kernel
theorem eX10_laysRings_71 : decode (mB MX10_laysRings) 71 = .ok (.aload_n 0, 1) := by decide +kernel
theorem eX10_laysRings_72 : decode (mB MX10_laysRings) 72 = .ok (.getfield 42, 3) := by decide +kernel
theorem eX10_laysRings_75 : decode (mB MX10_laysRings) 75 = .ok (.aload_n 0, 1) := by decide +kernel
theorem eX10_laysRings_76 : decode (mB MX10_laysRings) 76 = .ok (.getfield 216, 3) := by decide +kernel
theorem eX10_laysRings_79 : decode (mB MX10_laysRings) 79 = .ok (.iload_n 2, 1) := by decide +kernel
theorem eX10_laysRings_80 : decode (mB MX10_laysRings) 80 = .ok (.iastore, 1) := by decide +kernel
theorem eX10_laysRings_81 : decode (mB MX10_laysRings) 81 = .ok (.aload_n 0, 1) := by decide +kernel
theorem eX10_laysRings_82 : decode (mB MX10_laysRings) 82 = .ok (.getfield 45, 3) := by decide +kernel
theorem eX10_laysRings_85 : decode (mB MX10_laysRings) 85 = .ok (.aload_n 0, 1) := by decide +kernel
theorem eX10_laysRings_86 : decode (mB MX10_laysRings) 86 = .ok (.getfield 216, 3) := by decide +kernel
theorem eX10_laysRings_89 : decode (mB MX10_laysRings) 89 = .ok (.aload_n 0, 1) := by decide +kernel
theorem eX10_laysRings_90 : decode (mB MX10_laysRings) 90 = .ok (.iload_n 1, 1) := by decide +kernel
theorem eX10_laysRings_91 : decode (mB MX10_laysRings) 91 = .ok (.aload_n 0, 1) := by decide +kernel
theorem eX10_laysRings_92 : decode (mB MX10_laysRings) 92 = .ok (.getfield 13, 3) := by decide +kernel
theorem eX10_laysRings_95 : decode (mB MX10_laysRings) 95 = .ok (.bipush 114, 2) := by decide +kernel
theorem eX10_laysRings_97 : decode (mB MX10_laysRings) 97 = .ok (.iaload, 1) := by decide +kernel
theorem eX10_laysRings_98 : decode (mB MX10_laysRings) 98 = .ok (.invokevirtual 251, 3) := by decide +kernel
theorem eX10_laysRings_101 : decode (mB MX10_laysRings) 101 = .ok (.iastore, 1) := by decide +kernel
theorem eX10_laysRings_102 : decode (mB MX10_laysRings) 102 = .ok (.aload_n 0, 1) := by decide +kernel
theorem eX10_laysRings_103 : decode (mB MX10_laysRings) 103 = .ok (.dup, 1) := by decide +kernel
theorem eX10_laysRings_104 : decode (mB MX10_laysRings) 104 = .ok (.getfield 216, 3) := by decide +kernel
theorem eX10_laysRings_107 : decode (mB MX10_laysRings) 107 = .ok (.iconst 1, 1) := by decide +kernel
theorem eX10_laysRings_108 : decode (mB MX10_laysRings) 108 = .ok (.iadd, 1) := by decide +kernel
theorem eX10_laysRings_109 : decode (mB MX10_laysRings) 109 = .ok (.putfield 216, 3) := by decide +kernel
theorem eX10_laysRings_112 : decode (mB MX10_laysRings) 112 = .ok (.iinc 1 1, 3) := by decide +kernel
theorem eX10_laysRings_115 : decode (mB MX10_laysRings) 115 = .ok (.goto (-108), 3) := by decide +kernel
theorem eX10_laysRings_118 : decode (mB MX10_laysRings) 118 = .ok (.return_, 1) := by decide +kernel
theorem eX10_useOf_0 : decode (mB MX10_useOf) 0 = .ok (.aload_n 0, 1) := by decide +kernel
theorem eX10_useOf_1 : decode (mB MX10_useOf) 1 = .ok (.getfield 36, 3) := by decide +kernel
theorem eX10_useOf_4 : decode (mB MX10_useOf) 4 = .ok (.iload_n 1, 1) := by decide +kernel
theorem eX10_useOf_5 : decode (mB MX10_useOf) 5 = .ok (.iaload, 1) := by decide +kernel
theorem eX10_useOf_6 : decode (mB MX10_useOf) 6 = .ok (.i2l, 1) := by decide +kernel
theorem eX10_useOf_7 : decode (mB MX10_useOf) 7 = .ok (.iload_n 2, 1) := by decide +kernel
theorem eX10_useOf_8 : decode (mB MX10_useOf) 8 = .ok (.invokestatic 232, 3) := by decide +kernel
theorem eX10_useOf_11 : decode (mB MX10_useOf) 11 = .ok (.ifCond .eq 7, 3) := by decide +kernel
theorem eX10_useOf_14 : decode (mB MX10_useOf) 14 = .ok (.iconst 1, 1) := by decide +kernel
theorem eX10_useOf_15 : decode (mB MX10_useOf) 15 = .ok (.goto 22, 3) := by decide +kernel
theorem eX10_useOf_18 : decode (mB MX10_useOf) 18 = .ok (.aload_n 0, 1) := by decide +kernel
theorem eX10_useOf_19 : decode (mB MX10_useOf) 19 = .ok (.getfield 39, 3) := by decide +kernel
theorem eX10_useOf_22 : decode (mB MX10_useOf) 22 = .ok (.iload_n 1, 1) := by decide +kernel
theorem eX10_useOf_23 : decode (mB MX10_useOf) 23 = .ok (.iaload, 1) := by decide +kernel
theorem eX10_useOf_24 : decode (mB MX10_useOf) 24 = .ok (.i2l, 1) := by decide +kernel
theorem eX10_useOf_25 : decode (mB MX10_useOf) 25 = .ok (.iload_n 2, 1) := by decide +kernel
theorem eX10_useOf_26 : decode (mB MX10_useOf) 26 = .ok (.invokestatic 232, 3) := by decide +kernel
theorem eX10_useOf_29 : decode (mB MX10_useOf) 29 = .ok (.ifCond .eq 7, 3) := by decide +kernel
theorem eX10_useOf_32 : decode (mB MX10_useOf) 32 = .ok (.iconst 2, 1) := by decide +kernel
theorem eX10_useOf_33 : decode (mB MX10_useOf) 33 = .ok (.goto 4, 3) := by decide +kernel
theorem eX10_useOf_36 : decode (mB MX10_useOf) 36 = .ok (.iconst 0, 1) := by decide +kernel
theorem eX10_useOf_37 : decode (mB MX10_useOf) 37 = .ok (.ireturn, 1) := by decide +kernel
theorem eX10_usesOf_0 : decode (mB MX10_usesOf) 0 = .ok (.aload_n 0, 1) := by decide +kernel
theorem eX10_usesOf_1 : decode (mB MX10_usesOf) 1 = .ok (.getfield 36, 3) := by decide +kernel
theorem eX10_usesOf_4 : decode (mB MX10_usesOf) 4 = .ok (.iload_n 1, 1) := by decide +kernel
theorem eX10_usesOf_5 : decode (mB MX10_usesOf) 5 = .ok (.iaload, 1) := by decide +kernel
theorem eX10_usesOf_6 : decode (mB MX10_usesOf) 6 = .ok (.invokestatic 229, 3) := by decide +kernel
theorem eX10_usesOf_9 : decode (mB MX10_usesOf) 9 = .ok (.iconst 2, 1) := by decide +kernel
theorem eX10_usesOf_10 : decode (mB MX10_usesOf) 10 = .ok (.aload_n 0, 1) := by decide +kernel
theorem eX10_usesOf_11 : decode (mB MX10_usesOf) 11 = .ok (.getfield 39, 3) := by decide +kernel
theorem eX10_usesOf_14 : decode (mB MX10_usesOf) 14 = .ok (.iload_n 1, 1) := by decide +kernel
theorem eX10_usesOf_15 : decode (mB MX10_usesOf) 15 = .ok (.iaload, 1) := by decide +kernel
theorem eX10_usesOf_16 : decode (mB MX10_usesOf) 16 = .ok (.invokestatic 229, 3) := by decide +kernel
theorem eX10_usesOf_19 : decode (mB MX10_usesOf) 19 = .ok (.imul, 1) := by decide +kernel
theorem eX10_usesOf_20 : decode (mB MX10_usesOf) 20 = .ok (.iadd, 1) := by decide +kernel
theorem eX10_usesOf_21 : decode (mB MX10_usesOf) 21 = .ok (.ireturn, 1) := by decide +kernel
theorem eX10_sideOf_0 : decode (mB MX10_sideOf) 0 = .ok (.iconst 0, 1) := by decide +kernel
theorem eX10_sideOf_1 : decode (mB MX10_sideOf) 1 = .ok (.istore_n 3, 1) := by decide +kernel
theorem eX10_sideOf_2 : decode (mB MX10_sideOf) 2 = .ok (.aload_n 0, 1) := by decide +kernel
theorem eX10_sideOf_3 : decode (mB MX10_sideOf) 3 = .ok (.iload_n 2, 1) := by decide +kernel
theorem eX10_sideOf_4 : decode (mB MX10_sideOf) 4 = .ok (.iconst 0, 1) := by decide +kernel
theorem eX10_sideOf_5 : decode (mB MX10_sideOf) 5 = .ok (.invokevirtual 219, 3) := by decide +kernel
theorem eX10_sideOf_8 : decode (mB MX10_sideOf) 8 = .ok (.istore 4, 2) := by decide +kernel
theorem eX10_sideOf_10 : decode (mB MX10_sideOf) 10 = .ok (.iload 4, 2) := by decide +kernel
theorem eX10_sideOf_12 : decode (mB MX10_sideOf) 12 = .ok (.aload_n 0, 1) := by decide +kernel
theorem eX10_sideOf_13 : decode (mB MX10_sideOf) 13 = .ok (.iload_n 2, 1) := by decide +kernel
theorem eX10_sideOf_14 : decode (mB MX10_sideOf) 14 = .ok (.iconst 1, 1) := by decide +kernel
theorem eX10_sideOf_15 : decode (mB MX10_sideOf) 15 = .ok (.invokevirtual 219, 3) := by decide +kernel
theorem eX10_sideOf_18 : decode (mB MX10_sideOf) 18 = .ok (.if_icmp .eq 87, 3) := by decide +kernel
theorem eX10_sideOf_21 : decode (mB MX10_sideOf) 21 = .ok (.iconst 0, 1) := by decide +kernel
theorem eX10_sideOf_22 : decode (mB MX10_sideOf) 22 = .ok (.istore 5, 2) := by decide +kernel
theorem eX10_sideOf_24 : decode (mB MX10_sideOf) 24 = .ok (.aload_n 0, 1) := by decide +kernel
theorem eX10_sideOf_25 : decode (mB MX10_sideOf) 25 = .ok (.getfield 36, 3) := by decide +kernel
theorem eX10_sideOf_28 : decode (mB MX10_sideOf) 28 = .ok (.iload_n 1, 1) := by decide +kernel
theorem eX10_sideOf_29 : decode (mB MX10_sideOf) 29 = .ok (.iaload, 1) := by decide +kernel
theorem eX10_sideOf_30 : decode (mB MX10_sideOf) 30 = .ok (.iload_n 3, 1) := by decide +kernel
theorem eX10_sideOf_31 : decode (mB MX10_sideOf) 31 = .ok (.iconst (-1), 1) := by decide +kernel
theorem eX10_sideOf_32 : decode (mB MX10_sideOf) 32 = .ok (.ixor, 1) := by decide +kernel
theorem eX10_sideOf_33 : decode (mB MX10_sideOf) 33 = .ok (.iand, 1) := by decide +kernel
theorem eX10_sideOf_34 : decode (mB MX10_sideOf) 34 = .ok (.i2l, 1) := by decide +kernel
theorem eX10_sideOf_35 : decode (mB MX10_sideOf) 35 = .ok (.iload 5, 2) := by decide +kernel
theorem eX10_sideOf_37 : decode (mB MX10_sideOf) 37 = .ok (.invokestatic 232, 3) := by decide +kernel
theorem eX10_sideOf_40 : decode (mB MX10_sideOf) 40 = .ok (.ifCond .eq 18, 3) := by decide +kernel
theorem eX10_sideOf_43 : decode (mB MX10_sideOf) 43 = .ok (.aload_n 0, 1) := by decide +kernel
theorem eX10_sideOf_44 : decode (mB MX10_sideOf) 44 = .ok (.iload 5, 2) := by decide +kernel
theorem eX10_sideOf_46 : decode (mB MX10_sideOf) 46 = .ok (.invokevirtual 236, 3) := by decide +kernel
theorem eX10_sideOf_49 : decode (mB MX10_sideOf) 49 = .ok (.i2l, 1) := by decide +kernel
theorem eX10_sideOf_50 : decode (mB MX10_sideOf) 50 = .ok (.iload 4, 2) := by decide +kernel
theorem eX10_sideOf_52 : decode (mB MX10_sideOf) 52 = .ok (.invokestatic 232, 3) := by decide +kernel
theorem eX10_sideOf_55 : decode (mB MX10_sideOf) 55 = .ok (.ifCond .ne 9, 3) := by decide +kernel
theorem eX10_sideOf_58 : decode (mB MX10_sideOf) 58 = .ok (.iinc 5 1, 3) := by decide +kernel
theorem eX10_sideOf_61 : decode (mB MX10_sideOf) 61 = .ok (.goto (-37), 3) := by decide +kernel
theorem eX10_sideOf_64 : decode (mB MX10_sideOf) 64 = .ok (.iload_n 3, 1) := by decide +kernel
theorem eX10_sideOf_65 : decode (mB MX10_sideOf) 65 = .ok (.iconst 1, 1) := by decide +kernel
theorem eX10_sideOf_66 : decode (mB MX10_sideOf) 66 = .ok (.iload 5, 2) := by decide +kernel
theorem eX10_sideOf_68 : decode (mB MX10_sideOf) 68 = .ok (.ishl, 1) := by decide +kernel
theorem eX10_sideOf_69 : decode (mB MX10_sideOf) 69 = .ok (.ior, 1) := by decide +kernel
theorem eX10_sideOf_70 : decode (mB MX10_sideOf) 70 = .ok (.istore_n 3, 1) := by decide +kernel
theorem eX10_sideOf_71 : decode (mB MX10_sideOf) 71 = .ok (.aload_n 0, 1) := by decide +kernel
theorem eX10_sideOf_72 : decode (mB MX10_sideOf) 72 = .ok (.iload 5, 2) := by decide +kernel
theorem eX10_sideOf_74 : decode (mB MX10_sideOf) 74 = .ok (.iconst 0, 1) := by decide +kernel
theorem eX10_sideOf_75 : decode (mB MX10_sideOf) 75 = .ok (.invokevirtual 219, 3) := by decide +kernel
theorem eX10_sideOf_78 : decode (mB MX10_sideOf) 78 = .ok (.iload 4, 2) := by decide +kernel
theorem eX10_sideOf_80 : decode (mB MX10_sideOf) 80 = .ok (.if_icmp .ne 13, 3) := by decide +kernel
theorem eX10_sideOf_83 : decode (mB MX10_sideOf) 83 = .ok (.aload_n 0, 1) := by decide +kernel
theorem eX10_sideOf_84 : decode (mB MX10_sideOf) 84 = .ok (.iload 5, 2) := by decide +kernel
theorem eX10_sideOf_86 : decode (mB MX10_sideOf) 86 = .ok (.iconst 1, 1) := by decide +kernel
theorem eX10_sideOf_87 : decode (mB MX10_sideOf) 87 = .ok (.invokevirtual 219, 3) := by decide +kernel
theorem eX10_sideOf_90 : decode (mB MX10_sideOf) 90 = .ok (.goto 10, 3) := by decide +kernel
theorem eX10_sideOf_93 : decode (mB MX10_sideOf) 93 = .ok (.aload_n 0, 1) := by decide +kernel
theorem eX10_sideOf_94 : decode (mB MX10_sideOf) 94 = .ok (.iload 5, 2) := by decide +kernel
theorem eX10_sideOf_96 : decode (mB MX10_sideOf) 96 = .ok (.iconst 0, 1) := by decide +kernel
theorem eX10_sideOf_97 : decode (mB MX10_sideOf) 97 = .ok (.invokevirtual 219, 3) := by decide +kernel
theorem eX10_sideOf_100 : decode (mB MX10_sideOf) 100 = .ok (.istore 4, 2) := by decide +kernel
theorem eX10_sideOf_102 : decode (mB MX10_sideOf) 102 = .ok (.goto (-92), 3) := by decide +kernel
theorem eX10_sideOf_105 : decode (mB MX10_sideOf) 105 = .ok (.iload_n 3, 1) := by decide +kernel
theorem eX10_sideOf_106 : decode (mB MX10_sideOf) 106 = .ok (.ireturn, 1) := by decide +kernel
theorem eX10_pathOf_0 : decode (mB MX10_pathOf) 0 = .ok (.iload_n 3, 1) := by decide +kernel
theorem eX10_pathOf_1 : decode (mB MX10_pathOf) 1 = .ok (.aload_n 0, 1) := by decide +kernel
theorem eX10_pathOf_2 : decode (mB MX10_pathOf) 2 = .ok (.iload_n 1, 1) := by decide +kernel
theorem eX10_pathOf_3 : decode (mB MX10_pathOf) 3 = .ok (.iload_n 2, 1) := by decide +kernel
theorem eX10_pathOf_4 : decode (mB MX10_pathOf) 4 = .ok (.invokevirtual 254, 3) := by decide +kernel
theorem eX10_pathOf_7 : decode (mB MX10_pathOf) 7 = .ok (.if_icmp .lt 5, 3) := by decide +kernel
theorem eX10_pathOf_10 : decode (mB MX10_pathOf) 10 = .ok (.iconst (-1), 1) := by decide +kernel
theorem eX10_pathOf_11 : decode (mB MX10_pathOf) 11 = .ok (.ireturn, 1) := by decide +kernel
theorem eX10_pathOf_12 : decode (mB MX10_pathOf) 12 = .ok (.aload_n 0, 1) := by decide +kernel
theorem eX10_pathOf_13 : decode (mB MX10_pathOf) 13 = .ok (.getfield 36, 3) := by decide +kernel
theorem eX10_pathOf_16 : decode (mB MX10_pathOf) 16 = .ok (.iload_n 1, 1) := by decide +kernel
theorem eX10_pathOf_17 : decode (mB MX10_pathOf) 17 = .ok (.iaload, 1) := by decide +kernel
theorem eX10_pathOf_18 : decode (mB MX10_pathOf) 18 = .ok (.i2l, 1) := by decide +kernel
theorem eX10_pathOf_19 : decode (mB MX10_pathOf) 19 = .ok (.iload_n 2, 1) := by decide +kernel
theorem eX10_pathOf_20 : decode (mB MX10_pathOf) 20 = .ok (.invokestatic 232, 3) := by decide +kernel
theorem eX10_pathOf_23 : decode (mB MX10_pathOf) 23 = .ok (.ifCond .eq 16, 3) := by decide +kernel
theorem eX10_pathOf_26 : decode (mB MX10_pathOf) 26 = .ok (.aload_n 0, 1) := by decide +kernel
theorem eX10_pathOf_27 : decode (mB MX10_pathOf) 27 = .ok (.getfield 36, 3) := by decide +kernel
theorem eX10_pathOf_30 : decode (mB MX10_pathOf) 30 = .ok (.iload_n 1, 1) := by decide +kernel
theorem eX10_pathOf_31 : decode (mB MX10_pathOf) 31 = .ok (.iaload, 1) := by decide +kernel
theorem eX10_pathOf_32 : decode (mB MX10_pathOf) 32 = .ok (.iconst 1, 1) := by decide +kernel
theorem eX10_pathOf_33 : decode (mB MX10_pathOf) 33 = .ok (.iload_n 2, 1) := by decide +kernel
theorem eX10_pathOf_34 : decode (mB MX10_pathOf) 34 = .ok (.ishl, 1) := by decide +kernel
theorem eX10_pathOf_35 : decode (mB MX10_pathOf) 35 = .ok (.iconst (-1), 1) := by decide +kernel
theorem eX10_pathOf_36 : decode (mB MX10_pathOf) 36 = .ok (.ixor, 1) := by decide +kernel
theorem eX10_pathOf_37 : decode (mB MX10_pathOf) 37 = .ok (.iand, 1) := by decide +kernel
theorem eX10_pathOf_38 : decode (mB MX10_pathOf) 38 = .ok (.ireturn, 1) := by decide +kernel
theorem eX10_pathOf_39 : decode (mB MX10_pathOf) 39 = .ok (.aload_n 0, 1) := by decide +kernel
theorem eX10_pathOf_40 : decode (mB MX10_pathOf) 40 = .ok (.iload_n 1, 1) := by decide +kernel
theorem eX10_pathOf_41 : decode (mB MX10_pathOf) 41 = .ok (.iload_n 2, 1) := by decide +kernel
theorem eX10_pathOf_42 : decode (mB MX10_pathOf) 42 = .ok (.invokevirtual 257, 3) := by decide +kernel
theorem eX10_pathOf_45 : decode (mB MX10_pathOf) 45 = .ok (.istore 4, 2) := by decide +kernel
theorem eX10_pathOf_47 : decode (mB MX10_pathOf) 47 = .ok (.aload_n 0, 1) := by decide +kernel
theorem eX10_pathOf_48 : decode (mB MX10_pathOf) 48 = .ok (.getfield 36, 3) := by decide +kernel
theorem eX10_pathOf_51 : decode (mB MX10_pathOf) 51 = .ok (.iload_n 1, 1) := by decide +kernel
theorem eX10_pathOf_52 : decode (mB MX10_pathOf) 52 = .ok (.iaload, 1) := by decide +kernel
theorem eX10_pathOf_53 : decode (mB MX10_pathOf) 53 = .ok (.iload 4, 2) := by decide +kernel
theorem eX10_pathOf_55 : decode (mB MX10_pathOf) 55 = .ok (.iconst (-1), 1) := by decide +kernel
theorem eX10_pathOf_56 : decode (mB MX10_pathOf) 56 = .ok (.ixor, 1) := by decide +kernel
theorem eX10_pathOf_57 : decode (mB MX10_pathOf) 57 = .ok (.iand, 1) := by decide +kernel
theorem eX10_pathOf_58 : decode (mB MX10_pathOf) 58 = .ok (.istore 5, 2) := by decide +kernel
theorem eX10_pathOf_60 : decode (mB MX10_pathOf) 60 = .ok (.iload_n 3, 1) := by decide +kernel
theorem eX10_pathOf_61 : decode (mB MX10_pathOf) 61 = .ok (.ifCond .ne 7, 3) := by decide +kernel
theorem eX10_pathOf_64 : decode (mB MX10_pathOf) 64 = .ok (.iconst 1, 1) := by decide +kernel
theorem eX10_pathOf_65 : decode (mB MX10_pathOf) 65 = .ok (.goto 4, 3) := by decide +kernel
theorem eX10_pathOf_68 : decode (mB MX10_pathOf) 68 = .ok (.iconst 0, 1) := by decide +kernel
theorem eX10_pathOf_69 : decode (mB MX10_pathOf) 69 = .ok (.iload 4, 2) := by decide +kernel
theorem eX10_pathOf_71 : decode (mB MX10_pathOf) 71 = .ok (.iload 5, 2) := by decide +kernel
theorem eX10_pathOf_73 : decode (mB MX10_pathOf) 73 = .ok (.if_icmp .ge 7, 3) := by decide +kernel
theorem eX10_pathOf_76 : decode (mB MX10_pathOf) 76 = .ok (.iconst 1, 1) := by decide +kernel
theorem eX10_pathOf_77 : decode (mB MX10_pathOf) 77 = .ok (.goto 4, 3) := by decide +kernel
theorem eX10_pathOf_80 : decode (mB MX10_pathOf) 80 = .ok (.iconst 0, 1) := by decide +kernel
theorem eX10_pathOf_81 : decode (mB MX10_pathOf) 81 = .ok (.if_icmp .ne 8, 3) := by decide +kernel
theorem eX10_pathOf_84 : decode (mB MX10_pathOf) 84 = .ok (.iload 4, 2) := by decide +kernel
theorem eX10_pathOf_86 : decode (mB MX10_pathOf) 86 = .ok (.goto 5, 3) := by decide +kernel
theorem eX10_pathOf_89 : decode (mB MX10_pathOf) 89 = .ok (.iload 5, 2) := by decide +kernel
theorem eX10_pathOf_91 : decode (mB MX10_pathOf) 91 = .ok (.ireturn, 1) := by decide +kernel
theorem eX10_usedFor_0 : decode (mB MX10_usedFor) 0 = .ok (.iconst 0, 1) := by decide +kernel
theorem eX10_usedFor_1 : decode (mB MX10_usedFor) 1 = .ok (.istore_n 2, 1) := by decide +kernel
theorem eX10_usedFor_2 : decode (mB MX10_usedFor) 2 = .ok (.iconst 0, 1) := by decide +kernel
theorem eX10_usedFor_3 : decode (mB MX10_usedFor) 3 = .ok (.istore_n 3, 1) := by decide +kernel
theorem eX10_usedFor_4 : decode (mB MX10_usedFor) 4 = .ok (.iload_n 3, 1) := by decide +kernel
theorem eX10_usedFor_5 : decode (mB MX10_usedFor) 5 = .ok (.aload_n 0, 1) := by decide +kernel
theorem eX10_usedFor_6 : decode (mB MX10_usedFor) 6 = .ok (.getfield 216, 3) := by decide +kernel
theorem eX10_usedFor_9 : decode (mB MX10_usedFor) 9 = .ok (.if_icmp .ge 28, 3) := by decide +kernel
theorem eX10_usedFor_12 : decode (mB MX10_usedFor) 12 = .ok (.iload_n 2, 1) := by decide +kernel
theorem eX10_usedFor_13 : decode (mB MX10_usedFor) 13 = .ok (.aload_n 0, 1) := by decide +kernel
theorem eX10_usedFor_14 : decode (mB MX10_usedFor) 14 = .ok (.getfield 13, 3) := by decide +kernel
theorem eX10_usedFor_17 : decode (mB MX10_usedFor) 17 = .ok (.bipush 49, 2) := by decide +kernel
theorem eX10_usedFor_19 : decode (mB MX10_usedFor) 19 = .ok (.iload_n 3, 1) := by decide +kernel
theorem eX10_usedFor_20 : decode (mB MX10_usedFor) 20 = .ok (.iadd, 1) := by decide +kernel
theorem eX10_usedFor_21 : decode (mB MX10_usedFor) 21 = .ok (.iaload, 1) := by decide +kernel
theorem eX10_usedFor_22 : decode (mB MX10_usedFor) 22 = .ok (.aload_n 0, 1) := by decide +kernel
theorem eX10_usedFor_23 : decode (mB MX10_usedFor) 23 = .ok (.iload_n 3, 1) := by decide +kernel
theorem eX10_usedFor_24 : decode (mB MX10_usedFor) 24 = .ok (.iload_n 1, 1) := by decide +kernel
theorem eX10_usedFor_25 : decode (mB MX10_usedFor) 25 = .ok (.invokevirtual 254, 3) := by decide +kernel
theorem eX10_usedFor_28 : decode (mB MX10_usedFor) 28 = .ok (.imul, 1) := by decide +kernel
theorem eX10_usedFor_29 : decode (mB MX10_usedFor) 29 = .ok (.iadd, 1) := by decide +kernel
theorem eX10_usedFor_30 : decode (mB MX10_usedFor) 30 = .ok (.istore_n 2, 1) := by decide +kernel
theorem eX10_usedFor_31 : decode (mB MX10_usedFor) 31 = .ok (.iinc 3 1, 3) := by decide +kernel
theorem eX10_usedFor_34 : decode (mB MX10_usedFor) 34 = .ok (.goto (-30), 3) := by decide +kernel
theorem eX10_usedFor_37 : decode (mB MX10_usedFor) 37 = .ok (.iload_n 2, 1) := by decide +kernel
theorem eX10_usedFor_38 : decode (mB MX10_usedFor) 38 = .ok (.ireturn, 1) := by decide +kernel
theorem eX10_hasFailed_0 : decode (mB MX10_hasFailed) 0 = .ok (.aload_n 0, 1) := by decide +kernel
theorem eX10_hasFailed_1 : decode (mB MX10_hasFailed) 1 = .ok (.getfield 13, 3) := by decide +kernel
theorem eX10_hasFailed_4 : decode (mB MX10_hasFailed) 4 = .ok (.bipush 113, 2) := by decide +kernel
theorem eX10_hasFailed_6 : decode (mB MX10_hasFailed) 6 = .ok (.iaload, 1) := by decide +kernel
theorem eX10_hasFailed_7 : decode (mB MX10_hasFailed) 7 = .ok (.i2l, 1) := by decide +kernel
theorem eX10_hasFailed_8 : decode (mB MX10_hasFailed) 8 = .ok (.iload_n 1, 1) := by decide +kernel
theorem eX10_hasFailed_9 : decode (mB MX10_hasFailed) 9 = .ok (.invokestatic 232, 3) := by decide +kernel
theorem eX10_hasFailed_12 : decode (mB MX10_hasFailed) 12 = .ok (.ireturn, 1) := by decide +kernel
theorem eX10_runOf_0 : decode (mB MX10_runOf) 0 = .ok (.aload_n 0, 1) := by decide +kernel
theorem eX10_runOf_1 : decode (mB MX10_runOf) 1 = .ok (.getfield 13, 3) := by decide +kernel
theorem eX10_runOf_4 : decode (mB MX10_runOf) 4 = .ok (.bipush 115, 2) := by decide +kernel
theorem eX10_runOf_6 : decode (mB MX10_runOf) 6 = .ok (.iconst 3, 1) := by decide +kernel
theorem eX10_runOf_7 : decode (mB MX10_runOf) 7 = .ok (.iload_n 1, 1) := by decide +kernel
theorem eX10_runOf_8 : decode (mB MX10_runOf) 8 = .ok (.imul, 1) := by decide +kernel
theorem eX10_runOf_9 : decode (mB MX10_runOf) 9 = .ok (.iadd, 1) := by decide +kernel
theorem eX10_runOf_10 : decode (mB MX10_runOf) 10 = .ok (.iload_n 2, 1) := by decide +kernel
theorem eX10_runOf_11 : decode (mB MX10_runOf) 11 = .ok (.iadd, 1) := by decide +kernel
theorem eX10_runOf_12 : decode (mB MX10_runOf) 12 = .ok (.iaload, 1) := by decide +kernel
theorem eX10_runOf_13 : decode (mB MX10_runOf) 13 = .ok (.ireturn, 1) := by decide +kernel
theorem eX10_runsOn_0 : decode (mB MX10_runsOn) 0 = .ok (.aload_n 0, 1) := by decide +kernel
theorem eX10_runsOn_1 : decode (mB MX10_runsOn) 1 = .ok (.getfield 13, 3) := by decide +kernel
theorem eX10_runsOn_4 : decode (mB MX10_runsOn) 4 = .ok (.bipush 115, 2) := by decide +kernel
theorem eX10_runsOn_6 : decode (mB MX10_runsOn) 6 = .ok (.iconst 3, 1) := by decide +kernel
theorem eX10_runsOn_7 : decode (mB MX10_runsOn) 7 = .ok (.iload_n 1, 1) := by decide +kernel
theorem eX10_runsOn_8 : decode (mB MX10_runsOn) 8 = .ok (.imul, 1) := by decide +kernel
theorem eX10_runsOn_9 : decode (mB MX10_runsOn) 9 = .ok (.iadd, 1) := by decide +kernel
theorem eX10_runsOn_10 : decode (mB MX10_runsOn) 10 = .ok (.iload_n 2, 1) := by decide +kernel
theorem eX10_runsOn_11 : decode (mB MX10_runsOn) 11 = .ok (.iconst 1, 1) := by decide +kernel
theorem eX10_runsOn_12 : decode (mB MX10_runsOn) 12 = .ok (.iadd, 1) := by decide +kernel
theorem eX10_runsOn_13 : decode (mB MX10_runsOn) 13 = .ok (.iastore, 1) := by decide +kernel
theorem eX10_runsOn_14 : decode (mB MX10_runsOn) 14 = .ok (.aload_n 0, 1) := by decide +kernel
theorem eX10_runsOn_15 : decode (mB MX10_runsOn) 15 = .ok (.getfield 13, 3) := by decide +kernel
theorem eX10_runsOn_18 : decode (mB MX10_runsOn) 18 = .ok (.bipush 115, 2) := by decide +kernel
theorem eX10_runsOn_20 : decode (mB MX10_runsOn) 20 = .ok (.iconst 3, 1) := by decide +kernel
theorem eX10_runsOn_21 : decode (mB MX10_runsOn) 21 = .ok (.iload_n 1, 1) := by decide +kernel
theorem eX10_runsOn_22 : decode (mB MX10_runsOn) 22 = .ok (.imul, 1) := by decide +kernel
theorem eX10_runsOn_23 : decode (mB MX10_runsOn) 23 = .ok (.iadd, 1) := by decide +kernel
theorem eX10_runsOn_24 : decode (mB MX10_runsOn) 24 = .ok (.iconst 1, 1) := by decide +kernel
theorem eX10_runsOn_25 : decode (mB MX10_runsOn) 25 = .ok (.iadd, 1) := by decide +kernel
theorem eX10_runsOn_26 : decode (mB MX10_runsOn) 26 = .ok (.iload_n 3, 1) := by decide +kernel
theorem eX10_runsOn_27 : decode (mB MX10_runsOn) 27 = .ok (.iastore, 1) := by decide +kernel
theorem eX10_runsOn_28 : decode (mB MX10_runsOn) 28 = .ok (.aload_n 0, 1) := by decide +kernel
theorem eX10_runsOn_29 : decode (mB MX10_runsOn) 29 = .ok (.getfield 13, 3) := by decide +kernel
theorem eX10_runsOn_32 : decode (mB MX10_runsOn) 32 = .ok (.bipush 115, 2) := by decide +kernel
theorem eX10_runsOn_34 : decode (mB MX10_runsOn) 34 = .ok (.iconst 3, 1) := by decide +kernel
theorem eX10_runsOn_35 : decode (mB MX10_runsOn) 35 = .ok (.iload_n 1, 1) := by decide +kernel
theorem eX10_runsOn_36 : decode (mB MX10_runsOn) 36 = .ok (.imul, 1) := by decide +kernel
theorem eX10_runsOn_37 : decode (mB MX10_runsOn) 37 = .ok (.iadd, 1) := by decide +kernel
theorem eX10_runsOn_38 : decode (mB MX10_runsOn) 38 = .ok (.iconst 2, 1) := by decide +kernel
theorem eX10_runsOn_39 : decode (mB MX10_runsOn) 39 = .ok (.iadd, 1) := by decide +kernel
theorem eX10_runsOn_40 : decode (mB MX10_runsOn) 40 = .ok (.iload 4, 2) := by decide +kernel
theorem eX10_runsOn_42 : decode (mB MX10_runsOn) 42 = .ok (.iastore, 1) := by decide +kernel
theorem eX10_runsOn_43 : decode (mB MX10_runsOn) 43 = .ok (.return_, 1) := by decide +kernel
theorem eX10_isFree_0 : decode (mB MX10_isFree) 0 = .ok (.iload_n 3, 1) := by decide +kernel
theorem eX10_isFree_1 : decode (mB MX10_isFree) 1 = .ok (.aload_n 0, 1) := by decide +kernel
theorem eX10_isFree_2 : decode (mB MX10_isFree) 2 = .ok (.getfield 13, 3) := by decide +kernel
theorem eX10_isFree_5 : decode (mB MX10_isFree) 5 = .ok (.bipush 113, 2) := by decide +kernel
theorem eX10_isFree_7 : decode (mB MX10_isFree) 7 = .ok (.iaload, 1) := by decide +kernel
theorem eX10_isFree_8 : decode (mB MX10_isFree) 8 = .ok (.iand, 1) := by decide +kernel
theorem eX10_isFree_9 : decode (mB MX10_isFree) 9 = .ok (.ifCond .eq 5, 3) := by decide +kernel
theorem eX10_isFree_12 : decode (mB MX10_isFree) 12 = .ok (.iconst 0, 1) := by decide +kernel
theorem eX10_isFree_13 : decode (mB MX10_isFree) 13 = .ok (.ireturn, 1) := by decide +kernel
theorem eX10_isFree_14 : decode (mB MX10_isFree) 14 = .ok (.iconst 0, 1) := by decide +kernel
theorem eX10_isFree_15 : decode (mB MX10_isFree) 15 = .ok (.istore 4, 2) := by decide +kernel
theorem eX10_isFree_17 : decode (mB MX10_isFree) 17 = .ok (.iload 4, 2) := by decide +kernel
theorem eX10_isFree_19 : decode (mB MX10_isFree) 19 = .ok (.bipush 20, 2) := by decide +kernel
theorem eX10_isFree_21 : decode (mB MX10_isFree) 21 = .ok (.if_icmp .ge 47, 3) := by decide +kernel
theorem eX10_isFree_24 : decode (mB MX10_isFree) 24 = .ok (.aload_n 0, 1) := by decide +kernel
theorem eX10_isFree_25 : decode (mB MX10_isFree) 25 = .ok (.iload 4, 2) := by decide +kernel
theorem eX10_isFree_27 : decode (mB MX10_isFree) 27 = .ok (.iconst 0, 1) := by decide +kernel
theorem eX10_isFree_28 : decode (mB MX10_isFree) 28 = .ok (.invokevirtual 260, 3) := by decide +kernel
theorem eX10_isFree_31 : decode (mB MX10_isFree) 31 = .ok (.iload_n 1, 1) := by decide +kernel
theorem eX10_isFree_32 : decode (mB MX10_isFree) 32 = .ok (.iconst 1, 1) := by decide +kernel
theorem eX10_isFree_33 : decode (mB MX10_isFree) 33 = .ok (.iadd, 1) := by decide +kernel
theorem eX10_isFree_34 : decode (mB MX10_isFree) 34 = .ok (.if_icmp .ne 28, 3) := by decide +kernel
theorem eX10_isFree_37 : decode (mB MX10_isFree) 37 = .ok (.aload_n 0, 1) := by decide +kernel
theorem eX10_isFree_38 : decode (mB MX10_isFree) 38 = .ok (.iload 4, 2) := by decide +kernel
theorem eX10_isFree_40 : decode (mB MX10_isFree) 40 = .ok (.iconst 1, 1) := by decide +kernel
theorem eX10_isFree_41 : decode (mB MX10_isFree) 41 = .ok (.invokevirtual 260, 3) := by decide +kernel
theorem eX10_isFree_44 : decode (mB MX10_isFree) 44 = .ok (.iload_n 2, 1) := by decide +kernel
theorem eX10_isFree_45 : decode (mB MX10_isFree) 45 = .ok (.if_icmp .ne 17, 3) := by decide +kernel
theorem eX10_isFree_48 : decode (mB MX10_isFree) 48 = .ok (.aload_n 0, 1) := by decide +kernel
theorem eX10_isFree_49 : decode (mB MX10_isFree) 49 = .ok (.iload 4, 2) := by decide +kernel
theorem eX10_isFree_51 : decode (mB MX10_isFree) 51 = .ok (.iconst 2, 1) := by decide +kernel
theorem eX10_isFree_52 : decode (mB MX10_isFree) 52 = .ok (.invokevirtual 260, 3) := by decide +kernel
theorem eX10_isFree_55 : decode (mB MX10_isFree) 55 = .ok (.iload_n 3, 1) := by decide +kernel
theorem eX10_isFree_56 : decode (mB MX10_isFree) 56 = .ok (.iand, 1) := by decide +kernel
theorem eX10_isFree_57 : decode (mB MX10_isFree) 57 = .ok (.ifCond .eq 5, 3) := by decide +kernel
theorem eX10_isFree_60 : decode (mB MX10_isFree) 60 = .ok (.iconst 0, 1) := by decide +kernel
theorem eX10_isFree_61 : decode (mB MX10_isFree) 61 = .ok (.ireturn, 1) := by decide +kernel
theorem eX10_isFree_62 : decode (mB MX10_isFree) 62 = .ok (.iinc 4 1, 3) := by decide +kernel
theorem eX10_isFree_65 : decode (mB MX10_isFree) 65 = .ok (.goto (-48), 3) := by decide +kernel
theorem eX10_isFree_68 : decode (mB MX10_isFree) 68 = .ok (.iconst 1, 1) := by decide +kernel
theorem eX10_isFree_69 : decode (mB MX10_isFree) 69 = .ok (.ireturn, 1) := by decide +kernel
theorem eX10_triesOne_0 : decode (mB MX10_triesOne) 0 = .ok (.iconst 0, 1) := by decide +kernel
theorem eX10_triesOne_1 : decode (mB MX10_triesOne) 1 = .ok (.istore_n 3, 1) := by decide +kernel
theorem eX10_triesOne_2 : decode (mB MX10_triesOne) 2 = .ok (.iload_n 3, 1) := by decide +kernel
theorem eX10_triesOne_3 : decode (mB MX10_triesOne) 3 = .ok (.aload_n 0, 1) := by decide +kernel
theorem eX10_triesOne_4 : decode (mB MX10_triesOne) 4 = .ok (.getfield 216, 3) := by decide +kernel
theorem eX10_triesOne_7 : decode (mB MX10_triesOne) 7 = .ok (.if_icmp .ge 99, 3) := by decide +kernel
theorem eX10_triesOne_10 : decode (mB MX10_triesOne) 10 = .ok (.iconst 0, 1) := by decide +kernel
theorem eX10_triesOne_11 : decode (mB MX10_triesOne) 11 = .ok (.istore 4, 2) := by decide +kernel
theorem eX10_triesOne_13 : decode (mB MX10_triesOne) 13 = .ok (.iload 4, 2) := by decide +kernel
theorem eX10_triesOne_15 : decode (mB MX10_triesOne) 15 = .ok (.aload_n 0, 1) := by decide +kernel
theorem eX10_triesOne_16 : decode (mB MX10_triesOne) 16 = .ok (.getfield 13, 3) := by decide +kernel
theorem eX10_triesOne_19 : decode (mB MX10_triesOne) 19 = .ok (.bipush 49, 2) := by decide +kernel
theorem eX10_triesOne_21 : decode (mB MX10_triesOne) 21 = .ok (.iload_n 3, 1) := by decide +kernel
theorem eX10_triesOne_22 : decode (mB MX10_triesOne) 22 = .ok (.iadd, 1) := by decide +kernel
theorem eX10_triesOne_23 : decode (mB MX10_triesOne) 23 = .ok (.iaload, 1) := by decide +kernel
theorem eX10_triesOne_24 : decode (mB MX10_triesOne) 24 = .ok (.if_icmp .ge 76, 3) := by decide +kernel
theorem eX10_triesOne_27 : decode (mB MX10_triesOne) 27 = .ok (.aload_n 0, 1) := by decide +kernel
theorem eX10_triesOne_28 : decode (mB MX10_triesOne) 28 = .ok (.iload_n 3, 1) := by decide +kernel
theorem eX10_triesOne_29 : decode (mB MX10_triesOne) 29 = .ok (.iload_n 1, 1) := by decide +kernel
theorem eX10_triesOne_30 : decode (mB MX10_triesOne) 30 = .ok (.invokevirtual 254, 3) := by decide +kernel
theorem eX10_triesOne_33 : decode (mB MX10_triesOne) 33 = .ok (.ifCond .le 67, 3) := by decide +kernel
theorem eX10_triesOne_36 : decode (mB MX10_triesOne) 36 = .ok (.iconst 0, 1) := by decide +kernel
theorem eX10_triesOne_37 : decode (mB MX10_triesOne) 37 = .ok (.istore 5, 2) := by decide +kernel
theorem eX10_triesOne_39 : decode (mB MX10_triesOne) 39 = .ok (.iload 5, 2) := by decide +kernel
theorem eX10_triesOne_41 : decode (mB MX10_triesOne) 41 = .ok (.aload_n 0, 1) := by decide +kernel
theorem eX10_triesOne_42 : decode (mB MX10_triesOne) 42 = .ok (.iload_n 3, 1) := by decide +kernel
theorem eX10_triesOne_43 : decode (mB MX10_triesOne) 43 = .ok (.iload_n 1, 1) := by decide +kernel
theorem eX10_triesOne_44 : decode (mB MX10_triesOne) 44 = .ok (.invokevirtual 254, 3) := by decide +kernel
theorem eX10_triesOne_47 : decode (mB MX10_triesOne) 47 = .ok (.if_icmp .ge 47, 3) := by decide +kernel
theorem eX10_triesOne_50 : decode (mB MX10_triesOne) 50 = .ok (.aload_n 0, 1) := by decide +kernel
theorem eX10_triesOne_51 : decode (mB MX10_triesOne) 51 = .ok (.iload_n 3, 1) := by decide +kernel
theorem eX10_triesOne_52 : decode (mB MX10_triesOne) 52 = .ok (.iload 4, 2) := by decide +kernel
theorem eX10_triesOne_54 : decode (mB MX10_triesOne) 54 = .ok (.aload_n 0, 1) := by decide +kernel
theorem eX10_triesOne_55 : decode (mB MX10_triesOne) 55 = .ok (.iload_n 3, 1) := by decide +kernel
theorem eX10_triesOne_56 : decode (mB MX10_triesOne) 56 = .ok (.iload_n 1, 1) := by decide +kernel
theorem eX10_triesOne_57 : decode (mB MX10_triesOne) 57 = .ok (.iload 5, 2) := by decide +kernel
theorem eX10_triesOne_59 : decode (mB MX10_triesOne) 59 = .ok (.invokevirtual 263, 3) := by decide +kernel
theorem eX10_triesOne_62 : decode (mB MX10_triesOne) 62 = .ok (.invokevirtual 266, 3) := by decide +kernel
theorem eX10_triesOne_65 : decode (mB MX10_triesOne) 65 = .ok (.ifCond .ne 6, 3) := by decide +kernel
theorem eX10_triesOne_68 : decode (mB MX10_triesOne) 68 = .ok (.goto 20, 3) := by decide +kernel
theorem eX10_triesOne_71 : decode (mB MX10_triesOne) 71 = .ok (.aload_n 0, 1) := by decide +kernel
theorem eX10_triesOne_72 : decode (mB MX10_triesOne) 72 = .ok (.iload_n 2, 1) := by decide +kernel
theorem eX10_triesOne_73 : decode (mB MX10_triesOne) 73 = .ok (.iload_n 3, 1) := by decide +kernel
theorem eX10_triesOne_74 : decode (mB MX10_triesOne) 74 = .ok (.iload 4, 2) := by decide +kernel
theorem eX10_triesOne_76 : decode (mB MX10_triesOne) 76 = .ok (.aload_n 0, 1) := by decide +kernel
theorem eX10_triesOne_77 : decode (mB MX10_triesOne) 77 = .ok (.iload_n 3, 1) := by decide +kernel
theorem eX10_triesOne_78 : decode (mB MX10_triesOne) 78 = .ok (.iload_n 1, 1) := by decide +kernel
theorem eX10_triesOne_79 : decode (mB MX10_triesOne) 79 = .ok (.iload 5, 2) := by decide +kernel
theorem eX10_triesOne_81 : decode (mB MX10_triesOne) 81 = .ok (.invokevirtual 263, 3) := by decide +kernel
theorem eX10_triesOne_84 : decode (mB MX10_triesOne) 84 = .ok (.invokevirtual 270, 3) := by decide +kernel
theorem eX10_triesOne_87 : decode (mB MX10_triesOne) 87 = .ok (.return_, 1) := by decide +kernel
theorem eX10_triesOne_88 : decode (mB MX10_triesOne) 88 = .ok (.iinc 5 1, 3) := by decide +kernel
theorem eX10_triesOne_91 : decode (mB MX10_triesOne) 91 = .ok (.goto (-52), 3) := by decide +kernel
theorem eX10_triesOne_94 : decode (mB MX10_triesOne) 94 = .ok (.iinc 4 1, 3) := by decide +kernel
theorem eX10_triesOne_97 : decode (mB MX10_triesOne) 97 = .ok (.goto (-84), 3) := by decide +kernel
theorem eX10_triesOne_100 : decode (mB MX10_triesOne) 100 = .ok (.iinc 3 1, 3) := by decide +kernel
theorem eX10_triesOne_103 : decode (mB MX10_triesOne) 103 = .ok (.goto (-101), 3) := by decide +kernel
theorem eX10_triesOne_106 : decode (mB MX10_triesOne) 106 = .ok (.return_, 1) := by decide +kernel
theorem eX10_tries_0 : decode (mB MX10_tries) 0 = .ok (.iconst 0, 1) := by decide +kernel
theorem eX10_tries_1 : decode (mB MX10_tries) 1 = .ok (.istore_n 1, 1) := by decide +kernel
theorem eX10_tries_2 : decode (mB MX10_tries) 2 = .ok (.iload_n 1, 1) := by decide +kernel
theorem eX10_tries_3 : decode (mB MX10_tries) 3 = .ok (.aload_n 0, 1) := by decide +kernel
theorem eX10_tries_4 : decode (mB MX10_tries) 4 = .ok (.getfield 13, 3) := by decide +kernel
theorem eX10_tries_7 : decode (mB MX10_tries) 7 = .ok (.iconst 2, 1) := by decide +kernel
theorem eX10_tries_8 : decode (mB MX10_tries) 8 = .ok (.iaload, 1) := by decide +kernel
theorem eX10_tries_9 : decode (mB MX10_tries) 9 = .ok (.if_icmp .ge 64, 3) := by decide +kernel
theorem eX10_tries_12 : decode (mB MX10_tries) 12 = .ok (.aload_n 0, 1) := by decide +kernel
theorem eX10_tries_13 : decode (mB MX10_tries) 13 = .ok (.iload_n 1, 1) := by decide +kernel
theorem eX10_tries_14 : decode (mB MX10_tries) 14 = .ok (.invokevirtual 274, 3) := by decide +kernel
theorem eX10_tries_17 : decode (mB MX10_tries) 17 = .ok (.ifCond .ne 6, 3) := by decide +kernel
theorem eX10_tries_20 : decode (mB MX10_tries) 20 = .ok (.goto 47, 3) := by decide +kernel
theorem eX10_tries_23 : decode (mB MX10_tries) 23 = .ok (.iconst 0, 1) := by decide +kernel
theorem eX10_tries_24 : decode (mB MX10_tries) 24 = .ok (.istore_n 2, 1) := by decide +kernel
theorem eX10_tries_25 : decode (mB MX10_tries) 25 = .ok (.iload_n 2, 1) := by decide +kernel
theorem eX10_tries_26 : decode (mB MX10_tries) 26 = .ok (.aload_n 0, 1) := by decide +kernel
theorem eX10_tries_27 : decode (mB MX10_tries) 27 = .ok (.getfield 13, 3) := by decide +kernel
theorem eX10_tries_30 : decode (mB MX10_tries) 30 = .ok (.bipush 39, 2) := by decide +kernel
theorem eX10_tries_32 : decode (mB MX10_tries) 32 = .ok (.iload_n 1, 1) := by decide +kernel
theorem eX10_tries_33 : decode (mB MX10_tries) 33 = .ok (.iadd, 1) := by decide +kernel
theorem eX10_tries_34 : decode (mB MX10_tries) 34 = .ok (.iaload, 1) := by decide +kernel
theorem eX10_tries_35 : decode (mB MX10_tries) 35 = .ok (.if_icmp .ge 32, 3) := by decide +kernel
theorem eX10_tries_38 : decode (mB MX10_tries) 38 = .ok (.aload_n 0, 1) := by decide +kernel
theorem eX10_tries_39 : decode (mB MX10_tries) 39 = .ok (.iconst 2, 1) := by decide +kernel
theorem eX10_tries_40 : decode (mB MX10_tries) 40 = .ok (.iload_n 1, 1) := by decide +kernel
theorem eX10_tries_41 : decode (mB MX10_tries) 41 = .ok (.imul, 1) := by decide +kernel
theorem eX10_tries_42 : decode (mB MX10_tries) 42 = .ok (.iload_n 2, 1) := by decide +kernel
theorem eX10_tries_43 : decode (mB MX10_tries) 43 = .ok (.iadd, 1) := by decide +kernel
theorem eX10_tries_44 : decode (mB MX10_tries) 44 = .ok (.iconst 0, 1) := by decide +kernel
theorem eX10_tries_45 : decode (mB MX10_tries) 45 = .ok (.invokevirtual 260, 3) := by decide +kernel
theorem eX10_tries_48 : decode (mB MX10_tries) 48 = .ok (.ifCond .ne 13, 3) := by decide +kernel
theorem eX10_tries_51 : decode (mB MX10_tries) 51 = .ok (.aload_n 0, 1) := by decide +kernel
theorem eX10_tries_52 : decode (mB MX10_tries) 52 = .ok (.iload_n 1, 1) := by decide +kernel
theorem eX10_tries_53 : decode (mB MX10_tries) 53 = .ok (.iconst 2, 1) := by decide +kernel
theorem eX10_tries_54 : decode (mB MX10_tries) 54 = .ok (.iload_n 1, 1) := by decide +kernel
theorem eX10_tries_55 : decode (mB MX10_tries) 55 = .ok (.imul, 1) := by decide +kernel
theorem eX10_tries_56 : decode (mB MX10_tries) 56 = .ok (.iload_n 2, 1) := by decide +kernel
theorem eX10_tries_57 : decode (mB MX10_tries) 57 = .ok (.iadd, 1) := by decide +kernel
theorem eX10_tries_58 : decode (mB MX10_tries) 58 = .ok (.invokevirtual 277, 3) := by decide +kernel
theorem eX10_tries_61 : decode (mB MX10_tries) 61 = .ok (.iinc 2 1, 3) := by decide +kernel
theorem eX10_tries_64 : decode (mB MX10_tries) 64 = .ok (.goto (-39), 3) := by decide +kernel
theorem eX10_tries_67 : decode (mB MX10_tries) 67 = .ok (.iinc 1 1, 3) := by decide +kernel
theorem eX10_tries_70 : decode (mB MX10_tries) 70 = .ok (.goto (-68), 3) := by decide +kernel
theorem eX10_tries_73 : decode (mB MX10_tries) 73 = .ok (.return_, 1) := by decide +kernel
theorem eX10_lostNow_0 : decode (mB MX10_lostNow) 0 = .ok (.iconst 0, 1) := by decide +kernel
theorem eX10_lostNow_1 : decode (mB MX10_lostNow) 1 = .ok (.istore_n 1, 1) := by decide +kernel
theorem eX10_lostNow_2 : decode (mB MX10_lostNow) 2 = .ok (.iconst 0, 1) := by decide +kernel
theorem eX10_lostNow_3 : decode (mB MX10_lostNow) 3 = .ok (.istore_n 2, 1) := by decide +kernel
theorem eX10_lostNow_4 : decode (mB MX10_lostNow) 4 = .ok (.iload_n 2, 1) := by decide +kernel
theorem eX10_lostNow_5 : decode (mB MX10_lostNow) 5 = .ok (.aload_n 0, 1) := by decide +kernel
theorem eX10_lostNow_6 : decode (mB MX10_lostNow) 6 = .ok (.getfield 13, 3) := by decide +kernel
theorem eX10_lostNow_9 : decode (mB MX10_lostNow) 9 = .ok (.iconst 2, 1) := by decide +kernel
theorem eX10_lostNow_10 : decode (mB MX10_lostNow) 10 = .ok (.iaload, 1) := by decide +kernel
theorem eX10_lostNow_11 : decode (mB MX10_lostNow) 11 = .ok (.if_icmp .ge 59, 3) := by decide +kernel
theorem eX10_lostNow_14 : decode (mB MX10_lostNow) 14 = .ok (.iconst 0, 1) := by decide +kernel
theorem eX10_lostNow_15 : decode (mB MX10_lostNow) 15 = .ok (.istore_n 3, 1) := by decide +kernel
theorem eX10_lostNow_16 : decode (mB MX10_lostNow) 16 = .ok (.iload_n 3, 1) := by decide +kernel
theorem eX10_lostNow_17 : decode (mB MX10_lostNow) 17 = .ok (.aload_n 0, 1) := by decide +kernel
theorem eX10_lostNow_18 : decode (mB MX10_lostNow) 18 = .ok (.getfield 13, 3) := by decide +kernel
theorem eX10_lostNow_21 : decode (mB MX10_lostNow) 21 = .ok (.bipush 39, 2) := by decide +kernel
theorem eX10_lostNow_23 : decode (mB MX10_lostNow) 23 = .ok (.iload_n 2, 1) := by decide +kernel
theorem eX10_lostNow_24 : decode (mB MX10_lostNow) 24 = .ok (.iadd, 1) := by decide +kernel
theorem eX10_lostNow_25 : decode (mB MX10_lostNow) 25 = .ok (.iaload, 1) := by decide +kernel
theorem eX10_lostNow_26 : decode (mB MX10_lostNow) 26 = .ok (.if_icmp .ge 38, 3) := by decide +kernel
theorem eX10_lostNow_29 : decode (mB MX10_lostNow) 29 = .ok (.iload_n 1, 1) := by decide +kernel
theorem eX10_lostNow_30 : decode (mB MX10_lostNow) 30 = .ok (.aload_n 0, 1) := by decide +kernel
theorem eX10_lostNow_31 : decode (mB MX10_lostNow) 31 = .ok (.iload_n 2, 1) := by decide +kernel
theorem eX10_lostNow_32 : decode (mB MX10_lostNow) 32 = .ok (.invokevirtual 274, 3) := by decide +kernel
theorem eX10_lostNow_35 : decode (mB MX10_lostNow) 35 = .ok (.ifCond .eq 20, 3) := by decide +kernel
theorem eX10_lostNow_38 : decode (mB MX10_lostNow) 38 = .ok (.aload_n 0, 1) := by decide +kernel
theorem eX10_lostNow_39 : decode (mB MX10_lostNow) 39 = .ok (.iconst 2, 1) := by decide +kernel
theorem eX10_lostNow_40 : decode (mB MX10_lostNow) 40 = .ok (.iload_n 2, 1) := by decide +kernel
theorem eX10_lostNow_41 : decode (mB MX10_lostNow) 41 = .ok (.imul, 1) := by decide +kernel
theorem eX10_lostNow_42 : decode (mB MX10_lostNow) 42 = .ok (.iload_n 3, 1) := by decide +kernel
theorem eX10_lostNow_43 : decode (mB MX10_lostNow) 43 = .ok (.iadd, 1) := by decide +kernel
theorem eX10_lostNow_44 : decode (mB MX10_lostNow) 44 = .ok (.iconst 0, 1) := by decide +kernel
theorem eX10_lostNow_45 : decode (mB MX10_lostNow) 45 = .ok (.invokevirtual 260, 3) := by decide +kernel
theorem eX10_lostNow_48 : decode (mB MX10_lostNow) 48 = .ok (.ifCond .ne 7, 3) := by decide +kernel
theorem eX10_lostNow_51 : decode (mB MX10_lostNow) 51 = .ok (.iconst 1, 1) := by decide +kernel
theorem eX10_lostNow_52 : decode (mB MX10_lostNow) 52 = .ok (.goto 4, 3) := by decide +kernel
theorem eX10_lostNow_55 : decode (mB MX10_lostNow) 55 = .ok (.iconst 0, 1) := by decide +kernel
theorem eX10_lostNow_56 : decode (mB MX10_lostNow) 56 = .ok (.iadd, 1) := by decide +kernel
theorem eX10_lostNow_57 : decode (mB MX10_lostNow) 57 = .ok (.istore_n 1, 1) := by decide +kernel
theorem eX10_lostNow_58 : decode (mB MX10_lostNow) 58 = .ok (.iinc 3 1, 3) := by decide +kernel
theorem eX10_lostNow_61 : decode (mB MX10_lostNow) 61 = .ok (.goto (-45), 3) := by decide +kernel
theorem eX10_lostNow_64 : decode (mB MX10_lostNow) 64 = .ok (.iinc 2 1, 3) := by decide +kernel
theorem eX10_lostNow_67 : decode (mB MX10_lostNow) 67 = .ok (.goto (-63), 3) := by decide +kernel
theorem eX10_lostNow_70 : decode (mB MX10_lostNow) 70 = .ok (.iload_n 1, 1) := by decide +kernel
theorem eX10_lostNow_71 : decode (mB MX10_lostNow) 71 = .ok (.ireturn, 1) := by decide +kernel
theorem eX10_goesFail_0 : decode (mB MX10_goesFail) 0 = .ok (.aload_n 0, 1) := by decide +kernel
theorem eX10_goesFail_1 : decode (mB MX10_goesFail) 1 = .ok (.getfield 13, 3) := by decide +kernel
theorem eX10_goesFail_4 : decode (mB MX10_goesFail) 4 = .ok (.bipush 113, 2) := by decide +kernel
theorem eX10_goesFail_6 : decode (mB MX10_goesFail) 6 = .ok (.dup2, 1) := by decide +kernel
theorem eX10_goesFail_7 : decode (mB MX10_goesFail) 7 = .ok (.iaload, 1) := by decide +kernel
theorem eX10_goesFail_8 : decode (mB MX10_goesFail) 8 = .ok (.iconst 1, 1) := by decide +kernel
theorem eX10_goesFail_9 : decode (mB MX10_goesFail) 9 = .ok (.iload_n 1, 1) := by decide +kernel
theorem eX10_goesFail_10 : decode (mB MX10_goesFail) 10 = .ok (.ishl, 1) := by decide +kernel
theorem eX10_goesFail_11 : decode (mB MX10_goesFail) 11 = .ok (.ior, 1) := by decide +kernel
theorem eX10_goesFail_12 : decode (mB MX10_goesFail) 12 = .ok (.iastore, 1) := by decide +kernel
theorem eX10_goesFail_13 : decode (mB MX10_goesFail) 13 = .ok (.iconst 0, 1) := by decide +kernel
theorem eX10_goesFail_14 : decode (mB MX10_goesFail) 14 = .ok (.istore_n 2, 1) := by decide +kernel
theorem eX10_goesFail_15 : decode (mB MX10_goesFail) 15 = .ok (.iload_n 2, 1) := by decide +kernel
theorem eX10_goesFail_16 : decode (mB MX10_goesFail) 16 = .ok (.bipush 20, 2) := by decide +kernel
theorem eX10_goesFail_18 : decode (mB MX10_goesFail) 18 = .ok (.if_icmp .ge 31, 3) := by decide +kernel
theorem eX10_goesFail_21 : decode (mB MX10_goesFail) 21 = .ok (.aload_n 0, 1) := by decide +kernel
theorem eX10_goesFail_22 : decode (mB MX10_goesFail) 22 = .ok (.iload_n 2, 1) := by decide +kernel
theorem eX10_goesFail_23 : decode (mB MX10_goesFail) 23 = .ok (.iconst 2, 1) := by decide +kernel
theorem eX10_goesFail_24 : decode (mB MX10_goesFail) 24 = .ok (.invokevirtual 260, 3) := by decide +kernel
theorem eX10_goesFail_27 : decode (mB MX10_goesFail) 27 = .ok (.i2l, 1) := by decide +kernel
theorem eX10_goesFail_28 : decode (mB MX10_goesFail) 28 = .ok (.iload_n 1, 1) := by decide +kernel
theorem eX10_goesFail_29 : decode (mB MX10_goesFail) 29 = .ok (.invokestatic 232, 3) := by decide +kernel
theorem eX10_goesFail_32 : decode (mB MX10_goesFail) 32 = .ok (.ifCond .eq 11, 3) := by decide +kernel
theorem eX10_goesFail_35 : decode (mB MX10_goesFail) 35 = .ok (.aload_n 0, 1) := by decide +kernel
theorem eX10_goesFail_36 : decode (mB MX10_goesFail) 36 = .ok (.iload_n 2, 1) := by decide +kernel
theorem eX10_goesFail_37 : decode (mB MX10_goesFail) 37 = .ok (.iconst (-1), 1) := by decide +kernel
theorem eX10_goesFail_38 : decode (mB MX10_goesFail) 38 = .ok (.iconst 0, 1) := by decide +kernel
theorem eX10_goesFail_39 : decode (mB MX10_goesFail) 39 = .ok (.iconst 0, 1) := by decide +kernel
theorem eX10_goesFail_40 : decode (mB MX10_goesFail) 40 = .ok (.invokevirtual 270, 3) := by decide +kernel
theorem eX10_goesFail_43 : decode (mB MX10_goesFail) 43 = .ok (.iinc 2 1, 3) := by decide +kernel
theorem eX10_goesFail_46 : decode (mB MX10_goesFail) 46 = .ok (.goto (-31), 3) := by decide +kernel
theorem eX10_goesFail_49 : decode (mB MX10_goesFail) 49 = .ok (.aload_n 0, 1) := by decide +kernel
theorem eX10_goesFail_50 : decode (mB MX10_goesFail) 50 = .ok (.invokevirtual 281, 3) := by decide +kernel
theorem eX10_goesFail_53 : decode (mB MX10_goesFail) 53 = .ok (.return_, 1) := by decide +kernel
theorem eX10_goesMend_0 : decode (mB MX10_goesMend) 0 = .ok (.aload_n 0, 1) := by decide +kernel
theorem eX10_goesMend_1 : decode (mB MX10_goesMend) 1 = .ok (.getfield 13, 3) := by decide +kernel
theorem eX10_goesMend_4 : decode (mB MX10_goesMend) 4 = .ok (.bipush 113, 2) := by decide +kernel
theorem eX10_goesMend_6 : decode (mB MX10_goesMend) 6 = .ok (.dup2, 1) := by decide +kernel
theorem eX10_goesMend_7 : decode (mB MX10_goesMend) 7 = .ok (.iaload, 1) := by decide +kernel
theorem eX10_goesMend_8 : decode (mB MX10_goesMend) 8 = .ok (.iconst 1, 1) := by decide +kernel
theorem eX10_goesMend_9 : decode (mB MX10_goesMend) 9 = .ok (.iload_n 1, 1) := by decide +kernel
theorem eX10_goesMend_10 : decode (mB MX10_goesMend) 10 = .ok (.ishl, 1) := by decide +kernel
theorem eX10_goesMend_11 : decode (mB MX10_goesMend) 11 = .ok (.iconst (-1), 1) := by decide +kernel
theorem eX10_goesMend_12 : decode (mB MX10_goesMend) 12 = .ok (.ixor, 1) := by decide +kernel
theorem eX10_goesMend_13 : decode (mB MX10_goesMend) 13 = .ok (.iand, 1) := by decide +kernel
theorem eX10_goesMend_14 : decode (mB MX10_goesMend) 14 = .ok (.iastore, 1) := by decide +kernel
theorem eX10_goesMend_15 : decode (mB MX10_goesMend) 15 = .ok (.aload_n 0, 1) := by decide +kernel
theorem eX10_goesMend_16 : decode (mB MX10_goesMend) 16 = .ok (.iconst 2, 1) := by decide +kernel
theorem eX10_goesMend_17 : decode (mB MX10_goesMend) 17 = .ok (.iload_n 1, 1) := by decide +kernel
theorem eX10_goesMend_18 : decode (mB MX10_goesMend) 18 = .ok (.imul, 1) := by decide +kernel
theorem eX10_goesMend_19 : decode (mB MX10_goesMend) 19 = .ok (.iconst (-1), 1) := by decide +kernel
theorem eX10_goesMend_20 : decode (mB MX10_goesMend) 20 = .ok (.iconst 0, 1) := by decide +kernel
theorem eX10_goesMend_21 : decode (mB MX10_goesMend) 21 = .ok (.iconst 0, 1) := by decide +kernel
theorem eX10_goesMend_22 : decode (mB MX10_goesMend) 22 = .ok (.invokevirtual 270, 3) := by decide +kernel
theorem eX10_goesMend_25 : decode (mB MX10_goesMend) 25 = .ok (.aload_n 0, 1) := by decide +kernel
theorem eX10_goesMend_26 : decode (mB MX10_goesMend) 26 = .ok (.iconst 2, 1) := by decide +kernel
theorem eX10_goesMend_27 : decode (mB MX10_goesMend) 27 = .ok (.iload_n 1, 1) := by decide +kernel
theorem eX10_goesMend_28 : decode (mB MX10_goesMend) 28 = .ok (.imul, 1) := by decide +kernel
theorem eX10_goesMend_29 : decode (mB MX10_goesMend) 29 = .ok (.iconst 1, 1) := by decide +kernel
theorem eX10_goesMend_30 : decode (mB MX10_goesMend) 30 = .ok (.iadd, 1) := by decide +kernel
theorem eX10_goesMend_31 : decode (mB MX10_goesMend) 31 = .ok (.iconst (-1), 1) := by decide +kernel
theorem eX10_goesMend_32 : decode (mB MX10_goesMend) 32 = .ok (.iconst 0, 1) := by decide +kernel
theorem eX10_goesMend_33 : decode (mB MX10_goesMend) 33 = .ok (.iconst 0, 1) := by decide +kernel
theorem eX10_goesMend_34 : decode (mB MX10_goesMend) 34 = .ok (.invokevirtual 270, 3) := by decide +kernel
theorem eX10_goesMend_37 : decode (mB MX10_goesMend) 37 = .ok (.aload_n 0, 1) := by decide +kernel
theorem eX10_goesMend_38 : decode (mB MX10_goesMend) 38 = .ok (.invokevirtual 281, 3) := by decide +kernel
theorem eX10_goesMend_41 : decode (mB MX10_goesMend) 41 = .ok (.return_, 1) := by decide +kernel
theorem eX10_goesLay_0 : decode (mB MX10_goesLay) 0 = .ok (.aload_n 0, 1) := by decide +kernel
theorem eX10_goesLay_1 : decode (mB MX10_goesLay) 1 = .ok (.getfield 13, 3) := by decide +kernel
theorem eX10_goesLay_4 : decode (mB MX10_goesLay) 4 = .ok (.bipush 49, 2) := by decide +kernel
theorem eX10_goesLay_6 : decode (mB MX10_goesLay) 6 = .ok (.iload_n 1, 1) := by decide +kernel
theorem eX10_goesLay_7 : decode (mB MX10_goesLay) 7 = .ok (.iadd, 1) := by decide +kernel
theorem eX10_goesLay_8 : decode (mB MX10_goesLay) 8 = .ok (.dup2, 1) := by decide +kernel
theorem eX10_goesLay_9 : decode (mB MX10_goesLay) 9 = .ok (.iaload, 1) := by decide +kernel
theorem eX10_goesLay_10 : decode (mB MX10_goesLay) 10 = .ok (.iconst 1, 1) := by decide +kernel
theorem eX10_goesLay_11 : decode (mB MX10_goesLay) 11 = .ok (.iadd, 1) := by decide +kernel
theorem eX10_goesLay_12 : decode (mB MX10_goesLay) 12 = .ok (.iastore, 1) := by decide +kernel
theorem eX10_goesLay_13 : decode (mB MX10_goesLay) 13 = .ok (.aload_n 0, 1) := by decide +kernel
theorem eX10_goesLay_14 : decode (mB MX10_goesLay) 14 = .ok (.invokevirtual 281, 3) := by decide +kernel
theorem eX10_goesLay_17 : decode (mB MX10_goesLay) 17 = .ok (.return_, 1) := by decide +kernel
theorem eX10_goesTake_0 : decode (mB MX10_goesTake) 0 = .ok (.aload_n 0, 1) := by decide +kernel
theorem eX10_goesTake_1 : decode (mB MX10_goesTake) 1 = .ok (.getfield 13, 3) := by decide +kernel
theorem eX10_goesTake_4 : decode (mB MX10_goesTake) 4 = .ok (.bipush 49, 2) := by decide +kernel
theorem eX10_goesTake_6 : decode (mB MX10_goesTake) 6 = .ok (.iload_n 1, 1) := by decide +kernel
theorem eX10_goesTake_7 : decode (mB MX10_goesTake) 7 = .ok (.iadd, 1) := by decide +kernel
theorem eX10_goesTake_8 : decode (mB MX10_goesTake) 8 = .ok (.dup2, 1) := by decide +kernel
theorem eX10_goesTake_9 : decode (mB MX10_goesTake) 9 = .ok (.iaload, 1) := by decide +kernel
theorem eX10_goesTake_10 : decode (mB MX10_goesTake) 10 = .ok (.iconst 1, 1) := by decide +kernel
theorem eX10_goesTake_11 : decode (mB MX10_goesTake) 11 = .ok (.isub, 1) := by decide +kernel
theorem eX10_goesTake_12 : decode (mB MX10_goesTake) 12 = .ok (.iastore, 1) := by decide +kernel
theorem eX10_goesTake_13 : decode (mB MX10_goesTake) 13 = .ok (.iconst 0, 1) := by decide +kernel
theorem eX10_goesTake_14 : decode (mB MX10_goesTake) 14 = .ok (.istore_n 2, 1) := by decide +kernel
theorem eX10_goesTake_15 : decode (mB MX10_goesTake) 15 = .ok (.iload_n 2, 1) := by decide +kernel
theorem eX10_goesTake_16 : decode (mB MX10_goesTake) 16 = .ok (.bipush 20, 2) := by decide +kernel
theorem eX10_goesTake_18 : decode (mB MX10_goesTake) 18 = .ok (.if_icmp .ge 47, 3) := by decide +kernel
theorem eX10_goesTake_21 : decode (mB MX10_goesTake) 21 = .ok (.aload_n 0, 1) := by decide +kernel
theorem eX10_goesTake_22 : decode (mB MX10_goesTake) 22 = .ok (.iload_n 2, 1) := by decide +kernel
theorem eX10_goesTake_23 : decode (mB MX10_goesTake) 23 = .ok (.iconst 0, 1) := by decide +kernel
theorem eX10_goesTake_24 : decode (mB MX10_goesTake) 24 = .ok (.invokevirtual 260, 3) := by decide +kernel
theorem eX10_goesTake_27 : decode (mB MX10_goesTake) 27 = .ok (.iload_n 1, 1) := by decide +kernel
theorem eX10_goesTake_28 : decode (mB MX10_goesTake) 28 = .ok (.iconst 1, 1) := by decide +kernel
theorem eX10_goesTake_29 : decode (mB MX10_goesTake) 29 = .ok (.iadd, 1) := by decide +kernel
theorem eX10_goesTake_30 : decode (mB MX10_goesTake) 30 = .ok (.if_icmp .ne 29, 3) := by decide +kernel
theorem eX10_goesTake_33 : decode (mB MX10_goesTake) 33 = .ok (.aload_n 0, 1) := by decide +kernel
theorem eX10_goesTake_34 : decode (mB MX10_goesTake) 34 = .ok (.iload_n 2, 1) := by decide +kernel
theorem eX10_goesTake_35 : decode (mB MX10_goesTake) 35 = .ok (.iconst 1, 1) := by decide +kernel
theorem eX10_goesTake_36 : decode (mB MX10_goesTake) 36 = .ok (.invokevirtual 260, 3) := by decide +kernel
theorem eX10_goesTake_39 : decode (mB MX10_goesTake) 39 = .ok (.aload_n 0, 1) := by decide +kernel
theorem eX10_goesTake_40 : decode (mB MX10_goesTake) 40 = .ok (.getfield 13, 3) := by decide +kernel
theorem eX10_goesTake_43 : decode (mB MX10_goesTake) 43 = .ok (.bipush 49, 2) := by decide +kernel
theorem eX10_goesTake_45 : decode (mB MX10_goesTake) 45 = .ok (.iload_n 1, 1) := by decide +kernel
theorem eX10_goesTake_46 : decode (mB MX10_goesTake) 46 = .ok (.iadd, 1) := by decide +kernel
theorem eX10_goesTake_47 : decode (mB MX10_goesTake) 47 = .ok (.iaload, 1) := by decide +kernel
theorem eX10_goesTake_48 : decode (mB MX10_goesTake) 48 = .ok (.if_icmp .ne 11, 3) := by decide +kernel
theorem eX10_goesTake_51 : decode (mB MX10_goesTake) 51 = .ok (.aload_n 0, 1) := by decide +kernel
theorem eX10_goesTake_52 : decode (mB MX10_goesTake) 52 = .ok (.iload_n 2, 1) := by decide +kernel
theorem eX10_goesTake_53 : decode (mB MX10_goesTake) 53 = .ok (.iconst (-1), 1) := by decide +kernel
theorem eX10_goesTake_54 : decode (mB MX10_goesTake) 54 = .ok (.iconst 0, 1) := by decide +kernel
theorem eX10_goesTake_55 : decode (mB MX10_goesTake) 55 = .ok (.iconst 0, 1) := by decide +kernel
theorem eX10_goesTake_56 : decode (mB MX10_goesTake) 56 = .ok (.invokevirtual 270, 3) := by decide +kernel
theorem eX10_goesTake_59 : decode (mB MX10_goesTake) 59 = .ok (.iinc 2 1, 3) := by decide +kernel
theorem eX10_goesTake_62 : decode (mB MX10_goesTake) 62 = .ok (.goto (-47), 3) := by decide +kernel
theorem eX10_goesTake_65 : decode (mB MX10_goesTake) 65 = .ok (.aload_n 0, 1) := by decide +kernel
theorem eX10_goesTake_66 : decode (mB MX10_goesTake) 66 = .ok (.invokevirtual 281, 3) := by decide +kernel
theorem eX10_goesTake_69 : decode (mB MX10_goesTake) 69 = .ok (.return_, 1) := by decide +kernel
theorem eX10_isFresh_0 : decode (mB MX10_isFresh) 0 = .ok (.aload_n 0, 1) := by decide +kernel
theorem eX10_isFresh_1 : decode (mB MX10_isFresh) 1 = .ok (.getfield 13, 3) := by decide +kernel
theorem eX10_isFresh_4 : decode (mB MX10_isFresh) 4 = .ok (.bipush 113, 2) := by decide +kernel
theorem eX10_isFresh_6 : decode (mB MX10_isFresh) 6 = .ok (.iconst 0, 1) := by decide +kernel
theorem eX10_isFresh_7 : decode (mB MX10_isFresh) 7 = .ok (.iastore, 1) := by decide +kernel
theorem eX10_isFresh_8 : decode (mB MX10_isFresh) 8 = .ok (.iconst 0, 1) := by decide +kernel
theorem eX10_isFresh_9 : decode (mB MX10_isFresh) 9 = .ok (.istore_n 1, 1) := by decide +kernel
theorem eX10_isFresh_10 : decode (mB MX10_isFresh) 10 = .ok (.iload_n 1, 1) := by decide +kernel
theorem eX10_isFresh_11 : decode (mB MX10_isFresh) 11 = .ok (.bipush 20, 2) := by decide +kernel
theorem eX10_isFresh_13 : decode (mB MX10_isFresh) 13 = .ok (.if_icmp .ge 17, 3) := by decide +kernel
theorem eX10_isFresh_16 : decode (mB MX10_isFresh) 16 = .ok (.aload_n 0, 1) := by decide +kernel
theorem eX10_isFresh_17 : decode (mB MX10_isFresh) 17 = .ok (.iload_n 1, 1) := by decide +kernel
theorem eX10_isFresh_18 : decode (mB MX10_isFresh) 18 = .ok (.iconst (-1), 1) := by decide +kernel
theorem eX10_isFresh_19 : decode (mB MX10_isFresh) 19 = .ok (.iconst 0, 1) := by decide +kernel
theorem eX10_isFresh_20 : decode (mB MX10_isFresh) 20 = .ok (.iconst 0, 1) := by decide +kernel
theorem eX10_isFresh_21 : decode (mB MX10_isFresh) 21 = .ok (.invokevirtual 270, 3) := by decide +kernel
theorem eX10_isFresh_24 : decode (mB MX10_isFresh) 24 = .ok (.iinc 1 1, 3) := by decide +kernel
theorem eX10_isFresh_27 : decode (mB MX10_isFresh) 27 = .ok (.goto (-17), 3) := by decide +kernel
theorem eX10_isFresh_30 : decode (mB MX10_isFresh) 30 = .ok (.return_, 1) := by decide +kernel
theorem eX10_goesRate_0 : decode (mB MX10_goesRate) 0 = .ok (.aload_n 0, 1) := by decide +kernel
theorem eX10_goesRate_1 : decode (mB MX10_goesRate) 1 = .ok (.getfield 216, 3) := by decide +kernel
theorem eX10_goesRate_4 : decode (mB MX10_goesRate) 4 = .ok (.istore_n 2, 1) := by decide +kernel
theorem eX10_goesRate_5 : decode (mB MX10_goesRate) 5 = .ok (.iconst 0, 1) := by decide +kernel
theorem eX10_goesRate_6 : decode (mB MX10_goesRate) 6 = .ok (.istore_n 3, 1) := by decide +kernel
theorem eX10_goesRate_7 : decode (mB MX10_goesRate) 7 = .ok (.iload_n 3, 1) := by decide +kernel
theorem eX10_goesRate_8 : decode (mB MX10_goesRate) 8 = .ok (.aload_n 0, 1) := by decide +kernel
theorem eX10_goesRate_9 : decode (mB MX10_goesRate) 9 = .ok (.getfield 216, 3) := by decide +kernel
theorem eX10_goesRate_12 : decode (mB MX10_goesRate) 12 = .ok (.if_icmp .ge 21, 3) := by decide +kernel
theorem eX10_goesRate_15 : decode (mB MX10_goesRate) 15 = .ok (.aload_n 0, 1) := by decide +kernel
theorem eX10_goesRate_16 : decode (mB MX10_goesRate) 16 = .ok (.getfield 48, 3) := by decide +kernel
theorem eX10_goesRate_19 : decode (mB MX10_goesRate) 19 = .ok (.iload_n 3, 1) := by decide +kernel
theorem eX10_goesRate_20 : decode (mB MX10_goesRate) 20 = .ok (.aload_n 0, 1) := by decide +kernel
theorem eX10_goesRate_21 : decode (mB MX10_goesRate) 21 = .ok (.getfield 36, 3) := by decide +kernel
theorem eX10_goesRate_24 : decode (mB MX10_goesRate) 24 = .ok (.iload_n 3, 1) := by decide +kernel
theorem eX10_goesRate_25 : decode (mB MX10_goesRate) 25 = .ok (.iaload, 1) := by decide +kernel
theorem eX10_goesRate_26 : decode (mB MX10_goesRate) 26 = .ok (.iastore, 1) := by decide +kernel
theorem eX10_goesRate_27 : decode (mB MX10_goesRate) 27 = .ok (.iinc 3 1, 3) := by decide +kernel
theorem eX10_goesRate_30 : decode (mB MX10_goesRate) 30 = .ok (.goto (-23), 3) := by decide +kernel
theorem eX10_goesRate_33 : decode (mB MX10_goesRate) 33 = .ok (.aload_n 0, 1) := by decide +kernel
theorem eX10_goesRate_34 : decode (mB MX10_goesRate) 34 = .ok (.getfield 13, 3) := by decide +kernel
theorem eX10_goesRate_37 : decode (mB MX10_goesRate) 37 = .ok (.bipush 114, 2) := by decide +kernel
theorem eX10_goesRate_39 : decode (mB MX10_goesRate) 39 = .ok (.iload_n 1, 1) := by decide +kernel
theorem eX10_goesRate_40 : decode (mB MX10_goesRate) 40 = .ok (.iastore, 1) := by decide +kernel
theorem eX10_goesRate_41 : decode (mB MX10_goesRate) 41 = .ok (.aload_n 0, 1) := by decide +kernel
theorem eX10_goesRate_42 : decode (mB MX10_goesRate) 42 = .ok (.invokevirtual 84, 3) := by decide +kernel
theorem eX10_goesRate_45 : decode (mB MX10_goesRate) 45 = .ok (.aload_n 0, 1) := by decide +kernel
theorem eX10_goesRate_46 : decode (mB MX10_goesRate) 46 = .ok (.getfield 216, 3) := by decide +kernel
theorem eX10_goesRate_49 : decode (mB MX10_goesRate) 49 = .ok (.iload_n 2, 1) := by decide +kernel
theorem eX10_goesRate_50 : decode (mB MX10_goesRate) 50 = .ok (.if_icmp .ne 7, 3) := by decide +kernel
theorem eX10_goesRate_53 : decode (mB MX10_goesRate) 53 = .ok (.iconst 1, 1) := by decide +kernel
theorem eX10_goesRate_54 : decode (mB MX10_goesRate) 54 = .ok (.goto 4, 3) := by decide +kernel
theorem eX10_goesRate_57 : decode (mB MX10_goesRate) 57 = .ok (.iconst 0, 1) := by decide +kernel
theorem eX10_goesRate_58 : decode (mB MX10_goesRate) 58 = .ok (.istore_n 3, 1) := by decide +kernel
theorem eX10_goesRate_59 : decode (mB MX10_goesRate) 59 = .ok (.iconst 0, 1) := by decide +kernel
theorem eX10_goesRate_60 : decode (mB MX10_goesRate) 60 = .ok (.istore 4, 2) := by decide +kernel
theorem eX10_goesRate_62 : decode (mB MX10_goesRate) 62 = .ok (.iload 4, 2) := by decide +kernel
theorem eX10_goesRate_64 : decode (mB MX10_goesRate) 64 = .ok (.aload_n 0, 1) := by decide +kernel
theorem eX10_goesRate_65 : decode (mB MX10_goesRate) 65 = .ok (.getfield 216, 3) := by decide +kernel
theorem eX10_goesRate_68 : decode (mB MX10_goesRate) 68 = .ok (.if_icmp .ge 36, 3) := by decide +kernel
theorem eX10_goesRate_71 : decode (mB MX10_goesRate) 71 = .ok (.iload_n 3, 1) := by decide +kernel
theorem eX10_goesRate_72 : decode (mB MX10_goesRate) 72 = .ok (.ifCond .eq 32, 3) := by decide +kernel
theorem eX10_goesRate_75 : decode (mB MX10_goesRate) 75 = .ok (.aload_n 0, 1) := by decide +kernel
theorem eX10_goesRate_76 : decode (mB MX10_goesRate) 76 = .ok (.getfield 36, 3) := by decide +kernel
theorem eX10_goesRate_79 : decode (mB MX10_goesRate) 79 = .ok (.iload 4, 2) := by decide +kernel
theorem eX10_goesRate_81 : decode (mB MX10_goesRate) 81 = .ok (.iaload, 1) := by decide +kernel
theorem eX10_goesRate_82 : decode (mB MX10_goesRate) 82 = .ok (.aload_n 0, 1) := by decide +kernel
theorem eX10_goesRate_83 : decode (mB MX10_goesRate) 83 = .ok (.getfield 48, 3) := by decide +kernel
theorem eX10_goesRate_86 : decode (mB MX10_goesRate) 86 = .ok (.iload 4, 2) := by decide +kernel
theorem eX10_goesRate_88 : decode (mB MX10_goesRate) 88 = .ok (.iaload, 1) := by decide +kernel
theorem eX10_goesRate_89 : decode (mB MX10_goesRate) 89 = .ok (.if_icmp .ne 7, 3) := by decide +kernel
theorem eX10_goesRate_92 : decode (mB MX10_goesRate) 92 = .ok (.iconst 1, 1) := by decide +kernel
theorem eX10_goesRate_93 : decode (mB MX10_goesRate) 93 = .ok (.goto 4, 3) := by decide +kernel
theorem eX10_goesRate_96 : decode (mB MX10_goesRate) 96 = .ok (.iconst 0, 1) := by decide +kernel
theorem eX10_goesRate_97 : decode (mB MX10_goesRate) 97 = .ok (.istore_n 3, 1) := by decide +kernel
theorem eX10_goesRate_98 : decode (mB MX10_goesRate) 98 = .ok (.iinc 4 1, 3) := by decide +kernel
theorem eX10_goesRate_101 : decode (mB MX10_goesRate) 101 = .ok (.goto (-39), 3) := by decide +kernel
theorem eX10_goesRate_104 : decode (mB MX10_goesRate) 104 = .ok (.iload_n 3, 1) := by decide +kernel
theorem eX10_goesRate_105 : decode (mB MX10_goesRate) 105 = .ok (.ifCond .eq 4, 3) := by decide +kernel
theorem eX10_goesRate_108 : decode (mB MX10_goesRate) 108 = .ok (.return_, 1) := by decide +kernel
theorem eX10_goesRate_109 : decode (mB MX10_goesRate) 109 = .ok (.iconst 0, 1) := by decide +kernel
theorem eX10_goesRate_110 : decode (mB MX10_goesRate) 110 = .ok (.istore 4, 2) := by decide +kernel
theorem eX10_goesRate_112 : decode (mB MX10_goesRate) 112 = .ok (.iload 4, 2) := by decide +kernel
theorem eX10_goesRate_114 : decode (mB MX10_goesRate) 114 = .ok (.bipush 64, 2) := by decide +kernel
theorem eX10_goesRate_116 : decode (mB MX10_goesRate) 116 = .ok (.if_icmp .ge 20, 3) := by decide +kernel
theorem eX10_goesRate_119 : decode (mB MX10_goesRate) 119 = .ok (.aload_n 0, 1) := by decide +kernel
theorem eX10_goesRate_120 : decode (mB MX10_goesRate) 120 = .ok (.getfield 13, 3) := by decide +kernel
theorem eX10_goesRate_123 : decode (mB MX10_goesRate) 123 = .ok (.bipush 49, 2) := by decide +kernel
theorem eX10_goesRate_125 : decode (mB MX10_goesRate) 125 = .ok (.iload 4, 2) := by decide +kernel
theorem eX10_goesRate_127 : decode (mB MX10_goesRate) 127 = .ok (.iadd, 1) := by decide +kernel
theorem eX10_goesRate_128 : decode (mB MX10_goesRate) 128 = .ok (.iconst 0, 1) := by decide +kernel
theorem eX10_goesRate_129 : decode (mB MX10_goesRate) 129 = .ok (.iastore, 1) := by decide +kernel
theorem eX10_goesRate_130 : decode (mB MX10_goesRate) 130 = .ok (.iinc 4 1, 3) := by decide +kernel
theorem eX10_goesRate_133 : decode (mB MX10_goesRate) 133 = .ok (.goto (-21), 3) := by decide +kernel
theorem eX10_goesRate_136 : decode (mB MX10_goesRate) 136 = .ok (.aload_n 0, 1) := by decide +kernel
theorem eX10_goesRate_137 : decode (mB MX10_goesRate) 137 = .ok (.invokevirtual 284, 3) := by decide +kernel
theorem eX10_goesRate_140 : decode (mB MX10_goesRate) 140 = .ok (.return_, 1) := by decide +kernel
theorem eX10_link_0 : decode (mB MX10_link) 0 = .ok (.aload_n 0, 1) := by decide +kernel
theorem eX10_link_1 : decode (mB MX10_link) 1 = .ok (.iconst 0, 1) := by decide +kernel
theorem eX10_link_2 : decode (mB MX10_link) 2 = .ok (.putfield 1, 3) := by decide +kernel
theorem eX10_link_5 : decode (mB MX10_link) 5 = .ok (.aload_n 0, 1) := by decide +kernel
theorem eX10_link_6 : decode (mB MX10_link) 6 = .ok (.iload_n 1, 1) := by decide +kernel
theorem eX10_link_7 : decode (mB MX10_link) 7 = .ok (.i2l, 1) := by decide +kernel
theorem eX10_link_8 : decode (mB MX10_link) 8 = .ok (.invokevirtual 287, 3) := by decide +kernel
theorem eX10_link_11 : decode (mB MX10_link) 11 = .ok (.ifCond .ne 6, 3) := by decide +kernel
theorem eX10_link_14 : decode (mB MX10_link) 14 = .ok (.bipush (-2), 2) := by decide +kernel
theorem eX10_link_16 : decode (mB MX10_link) 16 = .ok (.ireturn, 1) := by decide +kernel
theorem eX10_link_17 : decode (mB MX10_link) 17 = .ok (.iload_n 2, 1) := by decide +kernel
theorem eX10_link_18 : decode (mB MX10_link) 18 = .ok (.tableswitch 153 0 6 #[42, 49, 56, 66, 76, 90, 96], 42) := by decide +kernel
theorem eX10_link_60 : decode (mB MX10_link) 60 = .ok (.aload_n 0, 1) := by decide +kernel
theorem eX10_link_61 : decode (mB MX10_link) 61 = .ok (.iload_n 1, 1) := by decide +kernel
theorem eX10_link_62 : decode (mB MX10_link) 62 = .ok (.iconst 0, 1) := by decide +kernel
theorem eX10_link_63 : decode (mB MX10_link) 63 = .ok (.invokevirtual 219, 3) := by decide +kernel
theorem eX10_link_66 : decode (mB MX10_link) 66 = .ok (.ireturn, 1) := by decide +kernel
theorem eX10_link_67 : decode (mB MX10_link) 67 = .ok (.aload_n 0, 1) := by decide +kernel
theorem eX10_link_68 : decode (mB MX10_link) 68 = .ok (.iload_n 1, 1) := by decide +kernel
theorem eX10_link_69 : decode (mB MX10_link) 69 = .ok (.iconst 1, 1) := by decide +kernel
theorem eX10_link_70 : decode (mB MX10_link) 70 = .ok (.invokevirtual 219, 3) := by decide +kernel
theorem eX10_link_73 : decode (mB MX10_link) 73 = .ok (.ireturn, 1) := by decide +kernel
theorem eX10_link_74 : decode (mB MX10_link) 74 = .ok (.aload_n 0, 1) := by decide +kernel
theorem eX10_link_75 : decode (mB MX10_link) 75 = .ok (.getfield 13, 3) := by decide +kernel
theorem eX10_link_78 : decode (mB MX10_link) 78 = .ok (.bipush 29, 2) := by decide +kernel
theorem eX10_link_80 : decode (mB MX10_link) 80 = .ok (.iload_n 1, 1) := by decide +kernel
theorem eX10_link_81 : decode (mB MX10_link) 81 = .ok (.iadd, 1) := by decide +kernel
theorem eX10_link_82 : decode (mB MX10_link) 82 = .ok (.iaload, 1) := by decide +kernel
theorem eX10_link_83 : decode (mB MX10_link) 83 = .ok (.ireturn, 1) := by decide +kernel
theorem eX10_link_84 : decode (mB MX10_link) 84 = .ok (.aload_n 0, 1) := by decide +kernel
theorem eX10_link_85 : decode (mB MX10_link) 85 = .ok (.getfield 13, 3) := by decide +kernel
theorem eX10_link_88 : decode (mB MX10_link) 88 = .ok (.bipush 39, 2) := by decide +kernel
theorem eX10_link_90 : decode (mB MX10_link) 90 = .ok (.iload_n 1, 1) := by decide +kernel
theorem eX10_link_91 : decode (mB MX10_link) 91 = .ok (.iadd, 1) := by decide +kernel
theorem eX10_link_92 : decode (mB MX10_link) 92 = .ok (.iaload, 1) := by decide +kernel
theorem eX10_link_93 : decode (mB MX10_link) 93 = .ok (.ireturn, 1) := by decide +kernel
theorem eX10_link_94 : decode (mB MX10_link) 94 = .ok (.aload_n 0, 1) := by decide +kernel
theorem eX10_link_95 : decode (mB MX10_link) 95 = .ok (.iload_n 1, 1) := by decide +kernel
theorem eX10_link_96 : decode (mB MX10_link) 96 = .ok (.invokevirtual 274, 3) := by decide +kernel
theorem eX10_link_99 : decode (mB MX10_link) 99 = .ok (.ifCond .eq 7, 3) := by decide +kernel
theorem eX10_link_102 : decode (mB MX10_link) 102 = .ok (.iconst 1, 1) := by decide +kernel
theorem eX10_link_103 : decode (mB MX10_link) 103 = .ok (.goto 4, 3) := by decide +kernel
theorem eX10_link_106 : decode (mB MX10_link) 106 = .ok (.iconst 0, 1) := by decide +kernel
theorem eX10_link_107 : decode (mB MX10_link) 107 = .ok (.ireturn, 1) := by decide +kernel
theorem eX10_link_108 : decode (mB MX10_link) 108 = .ok (.aload_n 0, 1) := by decide +kernel
theorem eX10_link_109 : decode (mB MX10_link) 109 = .ok (.iload_n 1, 1) := by decide +kernel
theorem eX10_link_110 : decode (mB MX10_link) 110 = .ok (.invokevirtual 291, 3) := by decide +kernel
theorem eX10_link_113 : decode (mB MX10_link) 113 = .ok (.ireturn, 1) := by decide +kernel
theorem eX10_link_114 : decode (mB MX10_link) 114 = .ok (.iconst 0, 1) := by decide +kernel
theorem eX10_link_115 : decode (mB MX10_link) 115 = .ok (.istore_n 3, 1) := by decide +kernel
theorem eX10_link_116 : decode (mB MX10_link) 116 = .ok (.iconst 0, 1) := by decide +kernel
theorem eX10_link_117 : decode (mB MX10_link) 117 = .ok (.istore 4, 2) := by decide +kernel
theorem eX10_link_119 : decode (mB MX10_link) 119 = .ok (.iload 4, 2) := by decide +kernel
theorem eX10_link_121 : decode (mB MX10_link) 121 = .ok (.aload_n 0, 1) := by decide +kernel
theorem eX10_link_122 : decode (mB MX10_link) 122 = .ok (.getfield 13, 3) := by decide +kernel
theorem eX10_link_125 : decode (mB MX10_link) 125 = .ok (.bipush 39, 2) := by decide +kernel
theorem eX10_link_127 : decode (mB MX10_link) 127 = .ok (.iload_n 1, 1) := by decide +kernel
theorem eX10_link_128 : decode (mB MX10_link) 128 = .ok (.iadd, 1) := by decide +kernel
theorem eX10_link_129 : decode (mB MX10_link) 129 = .ok (.iaload, 1) := by decide +kernel
theorem eX10_link_130 : decode (mB MX10_link) 130 = .ok (.if_icmp .ge 39, 3) := by decide +kernel
theorem eX10_link_133 : decode (mB MX10_link) 133 = .ok (.iload_n 3, 1) := by decide +kernel
theorem eX10_link_134 : decode (mB MX10_link) 134 = .ok (.aload_n 0, 1) := by decide +kernel
theorem eX10_link_135 : decode (mB MX10_link) 135 = .ok (.iload_n 1, 1) := by decide +kernel
theorem eX10_link_136 : decode (mB MX10_link) 136 = .ok (.invokevirtual 274, 3) := by decide +kernel
theorem eX10_link_139 : decode (mB MX10_link) 139 = .ok (.ifCond .eq 21, 3) := by decide +kernel
theorem eX10_link_142 : decode (mB MX10_link) 142 = .ok (.aload_n 0, 1) := by decide +kernel
theorem eX10_link_143 : decode (mB MX10_link) 143 = .ok (.iconst 2, 1) := by decide +kernel
theorem eX10_link_144 : decode (mB MX10_link) 144 = .ok (.iload_n 1, 1) := by decide +kernel
theorem eX10_link_145 : decode (mB MX10_link) 145 = .ok (.imul, 1) := by decide +kernel
theorem eX10_link_146 : decode (mB MX10_link) 146 = .ok (.iload 4, 2) := by decide +kernel
theorem eX10_link_148 : decode (mB MX10_link) 148 = .ok (.iadd, 1) := by decide +kernel
theorem eX10_link_149 : decode (mB MX10_link) 149 = .ok (.iconst 0, 1) := by decide +kernel
theorem eX10_link_150 : decode (mB MX10_link) 150 = .ok (.invokevirtual 260, 3) := by decide +kernel
theorem eX10_link_153 : decode (mB MX10_link) 153 = .ok (.ifCond .ne 7, 3) := by decide +kernel
theorem eX10_link_156 : decode (mB MX10_link) 156 = .ok (.iconst 1, 1) := by decide +kernel
theorem eX10_link_157 : decode (mB MX10_link) 157 = .ok (.goto 4, 3) := by decide +kernel
theorem eX10_link_160 : decode (mB MX10_link) 160 = .ok (.iconst 0, 1) := by decide +kernel
theorem eX10_link_161 : decode (mB MX10_link) 161 = .ok (.iadd, 1) := by decide +kernel
theorem eX10_link_162 : decode (mB MX10_link) 162 = .ok (.istore_n 3, 1) := by decide +kernel
theorem eX10_link_163 : decode (mB MX10_link) 163 = .ok (.iinc 4 1, 3) := by decide +kernel
theorem eX10_link_166 : decode (mB MX10_link) 166 = .ok (.goto (-47), 3) := by decide +kernel
theorem eX10_link_169 : decode (mB MX10_link) 169 = .ok (.iload_n 3, 1) := by decide +kernel
theorem eX10_link_170 : decode (mB MX10_link) 170 = .ok (.ireturn, 1) := by decide +kernel
theorem eX10_link_171 : decode (mB MX10_link) 171 = .ok (.bipush (-2), 2) := by decide +kernel
theorem eX10_link_173 : decode (mB MX10_link) 173 = .ok (.ireturn, 1) := by decide +kernel
theorem eX10_ring_0 : decode (mB MX10_ring) 0 = .ok (.aload_n 0, 1) := by decide +kernel
theorem eX10_ring_1 : decode (mB MX10_ring) 1 = .ok (.iconst 0, 1) := by decide +kernel
theorem eX10_ring_2 : decode (mB MX10_ring) 2 = .ok (.putfield 1, 3) := by decide +kernel
theorem eX10_ring_5 : decode (mB MX10_ring) 5 = .ok (.aload_n 0, 1) := by decide +kernel
theorem eX10_ring_6 : decode (mB MX10_ring) 6 = .ok (.iload_n 1, 1) := by decide +kernel
theorem eX10_ring_7 : decode (mB MX10_ring) 7 = .ok (.i2l, 1) := by decide +kernel
theorem eX10_ring_8 : decode (mB MX10_ring) 8 = .ok (.invokevirtual 294, 3) := by decide +kernel
theorem eX10_ring_11 : decode (mB MX10_ring) 11 = .ok (.ifCond .ne 6, 3) := by decide +kernel
theorem eX10_ring_14 : decode (mB MX10_ring) 14 = .ok (.bipush (-2), 2) := by decide +kernel
theorem eX10_ring_16 : decode (mB MX10_ring) 16 = .ok (.ireturn, 1) := by decide +kernel
theorem eX10_ring_17 : decode (mB MX10_ring) 17 = .ok (.iload_n 2, 1) := by decide +kernel
theorem eX10_ring_18 : decode (mB MX10_ring) 18 = .ok (.tableswitch 82 0 5 #[38, 45, 52, 59, 66, 72], 38) := by decide +kernel
theorem eX10_ring_56 : decode (mB MX10_ring) 56 = .ok (.aload_n 0, 1) := by decide +kernel
theorem eX10_ring_57 : decode (mB MX10_ring) 57 = .ok (.getfield 36, 3) := by decide +kernel
theorem eX10_ring_60 : decode (mB MX10_ring) 60 = .ok (.iload_n 1, 1) := by decide +kernel
theorem eX10_ring_61 : decode (mB MX10_ring) 61 = .ok (.iaload, 1) := by decide +kernel
theorem eX10_ring_62 : decode (mB MX10_ring) 62 = .ok (.ireturn, 1) := by decide +kernel
theorem eX10_ring_63 : decode (mB MX10_ring) 63 = .ok (.aload_n 0, 1) := by decide +kernel
theorem eX10_ring_64 : decode (mB MX10_ring) 64 = .ok (.getfield 42, 3) := by decide +kernel
theorem eX10_ring_67 : decode (mB MX10_ring) 67 = .ok (.iload_n 1, 1) := by decide +kernel
theorem eX10_ring_68 : decode (mB MX10_ring) 68 = .ok (.iaload, 1) := by decide +kernel
theorem eX10_ring_69 : decode (mB MX10_ring) 69 = .ok (.ireturn, 1) := by decide +kernel
theorem eX10_ring_70 : decode (mB MX10_ring) 70 = .ok (.aload_n 0, 1) := by decide +kernel
theorem eX10_ring_71 : decode (mB MX10_ring) 71 = .ok (.getfield 39, 3) := by decide +kernel
theorem eX10_ring_74 : decode (mB MX10_ring) 74 = .ok (.iload_n 1, 1) := by decide +kernel
theorem eX10_ring_75 : decode (mB MX10_ring) 75 = .ok (.iaload, 1) := by decide +kernel
theorem eX10_ring_76 : decode (mB MX10_ring) 76 = .ok (.ireturn, 1) := by decide +kernel
theorem eX10_ring_77 : decode (mB MX10_ring) 77 = .ok (.aload_n 0, 1) := by decide +kernel
theorem eX10_ring_78 : decode (mB MX10_ring) 78 = .ok (.getfield 45, 3) := by decide +kernel
theorem eX10_ring_81 : decode (mB MX10_ring) 81 = .ok (.iload_n 1, 1) := by decide +kernel
theorem eX10_ring_82 : decode (mB MX10_ring) 82 = .ok (.iaload, 1) := by decide +kernel
theorem eX10_ring_83 : decode (mB MX10_ring) 83 = .ok (.ireturn, 1) := by decide +kernel
theorem eX10_ring_84 : decode (mB MX10_ring) 84 = .ok (.aload_n 0, 1) := by decide +kernel
theorem eX10_ring_85 : decode (mB MX10_ring) 85 = .ok (.iload_n 1, 1) := by decide +kernel
theorem eX10_ring_86 : decode (mB MX10_ring) 86 = .ok (.invokevirtual 297, 3) := by decide +kernel
theorem eX10_ring_89 : decode (mB MX10_ring) 89 = .ok (.ireturn, 1) := by decide +kernel
theorem eX10_ring_90 : decode (mB MX10_ring) 90 = .ok (.aload_n 0, 1) := by decide +kernel
theorem eX10_ring_91 : decode (mB MX10_ring) 91 = .ok (.getfield 13, 3) := by decide +kernel
theorem eX10_ring_94 : decode (mB MX10_ring) 94 = .ok (.bipush 49, 2) := by decide +kernel
theorem eX10_ring_96 : decode (mB MX10_ring) 96 = .ok (.iload_n 1, 1) := by decide +kernel
theorem eX10_ring_97 : decode (mB MX10_ring) 97 = .ok (.iadd, 1) := by decide +kernel
theorem eX10_ring_98 : decode (mB MX10_ring) 98 = .ok (.iaload, 1) := by decide +kernel
theorem eX10_ring_99 : decode (mB MX10_ring) 99 = .ok (.ireturn, 1) := by decide +kernel
theorem eX10_ring_100 : decode (mB MX10_ring) 100 = .ok (.bipush (-2), 2) := by decide +kernel
theorem eX10_ring_102 : decode (mB MX10_ring) 102 = .ok (.ireturn, 1) := by decide +kernel
theorem eX10_ringOf_0 : decode (mB MX10_ringOf) 0 = .ok (.aload_n 0, 1) := by decide +kernel
theorem eX10_ringOf_1 : decode (mB MX10_ringOf) 1 = .ok (.iconst 0, 1) := by decide +kernel
theorem eX10_ringOf_2 : decode (mB MX10_ringOf) 2 = .ok (.putfield 1, 3) := by decide +kernel
theorem eX10_ringOf_5 : decode (mB MX10_ringOf) 5 = .ok (.iconst 0, 1) := by decide +kernel
theorem eX10_ringOf_6 : decode (mB MX10_ringOf) 6 = .ok (.istore_n 2, 1) := by decide +kernel
theorem eX10_ringOf_7 : decode (mB MX10_ringOf) 7 = .ok (.iload_n 2, 1) := by decide +kernel
theorem eX10_ringOf_8 : decode (mB MX10_ringOf) 8 = .ok (.aload_n 0, 1) := by decide +kernel
theorem eX10_ringOf_9 : decode (mB MX10_ringOf) 9 = .ok (.getfield 216, 3) := by decide +kernel
theorem eX10_ringOf_12 : decode (mB MX10_ringOf) 12 = .ok (.if_icmp .ge 21, 3) := by decide +kernel
theorem eX10_ringOf_15 : decode (mB MX10_ringOf) 15 = .ok (.aload_n 0, 1) := by decide +kernel
theorem eX10_ringOf_16 : decode (mB MX10_ringOf) 16 = .ok (.getfield 36, 3) := by decide +kernel
theorem eX10_ringOf_19 : decode (mB MX10_ringOf) 19 = .ok (.iload_n 2, 1) := by decide +kernel
theorem eX10_ringOf_20 : decode (mB MX10_ringOf) 20 = .ok (.iaload, 1) := by decide +kernel
theorem eX10_ringOf_21 : decode (mB MX10_ringOf) 21 = .ok (.iload_n 1, 1) := by decide +kernel
theorem eX10_ringOf_22 : decode (mB MX10_ringOf) 22 = .ok (.if_icmp .ne 5, 3) := by decide +kernel
theorem eX10_ringOf_25 : decode (mB MX10_ringOf) 25 = .ok (.iload_n 2, 1) := by decide +kernel
theorem eX10_ringOf_26 : decode (mB MX10_ringOf) 26 = .ok (.ireturn, 1) := by decide +kernel
theorem eX10_ringOf_27 : decode (mB MX10_ringOf) 27 = .ok (.iinc 2 1, 3) := by decide +kernel
theorem eX10_ringOf_30 : decode (mB MX10_ringOf) 30 = .ok (.goto (-23), 3) := by decide +kernel
theorem eX10_ringOf_33 : decode (mB MX10_ringOf) 33 = .ok (.iconst (-1), 1) := by decide +kernel
theorem eX10_ringOf_34 : decode (mB MX10_ringOf) 34 = .ok (.ireturn, 1) := by decide +kernel
theorem eX10_use_0 : decode (mB MX10_use) 0 = .ok (.aload_n 0, 1) := by decide +kernel
theorem eX10_use_1 : decode (mB MX10_use) 1 = .ok (.iconst 0, 1) := by decide +kernel
theorem eX10_use_2 : decode (mB MX10_use) 2 = .ok (.putfield 1, 3) := by decide +kernel
theorem eX10_use_5 : decode (mB MX10_use) 5 = .ok (.aload_n 0, 1) := by decide +kernel
theorem eX10_use_6 : decode (mB MX10_use) 6 = .ok (.iload_n 1, 1) := by decide +kernel
theorem eX10_use_7 : decode (mB MX10_use) 7 = .ok (.i2l, 1) := by decide +kernel
theorem eX10_use_8 : decode (mB MX10_use) 8 = .ok (.invokevirtual 294, 3) := by decide +kernel
theorem eX10_use_11 : decode (mB MX10_use) 11 = .ok (.ifCond .eq 21, 3) := by decide +kernel
theorem eX10_use_14 : decode (mB MX10_use) 14 = .ok (.aload_n 0, 1) := by decide +kernel
theorem eX10_use_15 : decode (mB MX10_use) 15 = .ok (.iload_n 2, 1) := by decide +kernel
theorem eX10_use_16 : decode (mB MX10_use) 16 = .ok (.i2l, 1) := by decide +kernel
theorem eX10_use_17 : decode (mB MX10_use) 17 = .ok (.invokevirtual 287, 3) := by decide +kernel
theorem eX10_use_20 : decode (mB MX10_use) 20 = .ok (.ifCond .eq 12, 3) := by decide +kernel
theorem eX10_use_23 : decode (mB MX10_use) 23 = .ok (.aload_n 0, 1) := by decide +kernel
theorem eX10_use_24 : decode (mB MX10_use) 24 = .ok (.iload_n 1, 1) := by decide +kernel
theorem eX10_use_25 : decode (mB MX10_use) 25 = .ok (.iload_n 2, 1) := by decide +kernel
theorem eX10_use_26 : decode (mB MX10_use) 26 = .ok (.invokevirtual 254, 3) := by decide +kernel
theorem eX10_use_29 : decode (mB MX10_use) 29 = .ok (.goto 5, 3) := by decide +kernel
theorem eX10_use_32 : decode (mB MX10_use) 32 = .ok (.bipush (-2), 2) := by decide +kernel
theorem eX10_use_34 : decode (mB MX10_use) 34 = .ok (.ireturn, 1) := by decide +kernel
theorem eX10_path_0 : decode (mB MX10_path) 0 = .ok (.aload_n 0, 1) := by decide +kernel
theorem eX10_path_1 : decode (mB MX10_path) 1 = .ok (.iconst 0, 1) := by decide +kernel
theorem eX10_path_2 : decode (mB MX10_path) 2 = .ok (.putfield 1, 3) := by decide +kernel
theorem eX10_path_5 : decode (mB MX10_path) 5 = .ok (.aload_n 0, 1) := by decide +kernel
theorem eX10_path_6 : decode (mB MX10_path) 6 = .ok (.iload_n 1, 1) := by decide +kernel
theorem eX10_path_7 : decode (mB MX10_path) 7 = .ok (.i2l, 1) := by decide +kernel
theorem eX10_path_8 : decode (mB MX10_path) 8 = .ok (.invokevirtual 294, 3) := by decide +kernel
theorem eX10_path_11 : decode (mB MX10_path) 11 = .ok (.ifCond .eq 12, 3) := by decide +kernel
theorem eX10_path_14 : decode (mB MX10_path) 14 = .ok (.aload_n 0, 1) := by decide +kernel
theorem eX10_path_15 : decode (mB MX10_path) 15 = .ok (.iload_n 2, 1) := by decide +kernel
theorem eX10_path_16 : decode (mB MX10_path) 16 = .ok (.i2l, 1) := by decide +kernel
theorem eX10_path_17 : decode (mB MX10_path) 17 = .ok (.invokevirtual 287, 3) := by decide +kernel
theorem eX10_path_20 : decode (mB MX10_path) 20 = .ok (.ifCond .ne 6, 3) := by decide +kernel
theorem eX10_path_23 : decode (mB MX10_path) 23 = .ok (.bipush (-2), 2) := by decide +kernel
theorem eX10_path_25 : decode (mB MX10_path) 25 = .ok (.ireturn, 1) := by decide +kernel
theorem eX10_path_26 : decode (mB MX10_path) 26 = .ok (.iload_n 3, 1) := by decide +kernel
theorem eX10_path_27 : decode (mB MX10_path) 27 = .ok (.ifCond .ge 8, 3) := by decide +kernel
theorem eX10_path_30 : decode (mB MX10_path) 30 = .ok (.bipush (-3), 2) := by decide +kernel
theorem eX10_path_32 : decode (mB MX10_path) 32 = .ok (.goto 10, 3) := by decide +kernel
theorem eX10_path_35 : decode (mB MX10_path) 35 = .ok (.aload_n 0, 1) := by decide +kernel
theorem eX10_path_36 : decode (mB MX10_path) 36 = .ok (.iload_n 1, 1) := by decide +kernel
theorem eX10_path_37 : decode (mB MX10_path) 37 = .ok (.iload_n 2, 1) := by decide +kernel
theorem eX10_path_38 : decode (mB MX10_path) 38 = .ok (.iload_n 3, 1) := by decide +kernel
theorem eX10_path_39 : decode (mB MX10_path) 39 = .ok (.invokevirtual 263, 3) := by decide +kernel
theorem eX10_path_42 : decode (mB MX10_path) 42 = .ok (.ireturn, 1) := by decide +kernel
theorem eX10_stores_0 : decode (mB MX10_stores) 0 = .ok (.iconst 0, 1) := by decide +kernel
theorem eX10_stores_1 : decode (mB MX10_stores) 1 = .ok (.istore_n 1, 1) := by decide +kernel
theorem eX10_stores_2 : decode (mB MX10_stores) 2 = .ok (.iload_n 1, 1) := by decide +kernel
theorem eX10_stores_3 : decode (mB MX10_stores) 3 = .ok (.bipush 126, 2) := by decide +kernel
theorem eX10_stores_5 : decode (mB MX10_stores) 5 = .ok (.if_icmp .ge 24, 3) := by decide +kernel
theorem eX10_stores_8 : decode (mB MX10_stores) 8 = .ok (.aload_n 0, 1) := by decide +kernel
theorem eX10_stores_9 : decode (mB MX10_stores) 9 = .ok (.getfield 51, 3) := by decide +kernel
theorem eX10_stores_12 : decode (mB MX10_stores) 12 = .ok (.iload_n 1, 1) := by decide +kernel
theorem eX10_stores_13 : decode (mB MX10_stores) 13 = .ok (.aload_n 0, 1) := by decide +kernel
theorem eX10_stores_14 : decode (mB MX10_stores) 14 = .ok (.getfield 13, 3) := by decide +kernel
theorem eX10_stores_17 : decode (mB MX10_stores) 17 = .ok (.bipush 49, 2) := by decide +kernel
theorem eX10_stores_19 : decode (mB MX10_stores) 19 = .ok (.iload_n 1, 1) := by decide +kernel
theorem eX10_stores_20 : decode (mB MX10_stores) 20 = .ok (.iadd, 1) := by decide +kernel
theorem eX10_stores_21 : decode (mB MX10_stores) 21 = .ok (.iaload, 1) := by decide +kernel
theorem eX10_stores_22 : decode (mB MX10_stores) 22 = .ok (.iastore, 1) := by decide +kernel
theorem eX10_stores_23 : decode (mB MX10_stores) 23 = .ok (.iinc 1 1, 3) := by decide +kernel
theorem eX10_stores_26 : decode (mB MX10_stores) 26 = .ok (.goto (-24), 3) := by decide +kernel
theorem eX10_stores_29 : decode (mB MX10_stores) 29 = .ok (.return_, 1) := by decide +kernel
theorem eX10_isAgain_0 : decode (mB MX10_isAgain) 0 = .ok (.aload_n 0, 1) := by decide +kernel
theorem eX10_isAgain_1 : decode (mB MX10_isAgain) 1 = .ok (.getfield 13, 3) := by decide +kernel
theorem eX10_isAgain_4 : decode (mB MX10_isAgain) 4 = .ok (.bipush 114, 2) := by decide +kernel
theorem eX10_isAgain_6 : decode (mB MX10_isAgain) 6 = .ok (.iaload, 1) := by decide +kernel
theorem eX10_isAgain_7 : decode (mB MX10_isAgain) 7 = .ok (.aload_n 0, 1) := by decide +kernel
theorem eX10_isAgain_8 : decode (mB MX10_isAgain) 8 = .ok (.getfield 51, 3) := by decide +kernel
theorem eX10_isAgain_11 : decode (mB MX10_isAgain) 11 = .ok (.bipush 65, 2) := by decide +kernel
theorem eX10_isAgain_13 : decode (mB MX10_isAgain) 13 = .ok (.iaload, 1) := by decide +kernel
theorem eX10_isAgain_14 : decode (mB MX10_isAgain) 14 = .ok (.if_icmp .eq 7, 3) := by decide +kernel
theorem eX10_isAgain_17 : decode (mB MX10_isAgain) 17 = .ok (.iconst 1, 1) := by decide +kernel
theorem eX10_isAgain_18 : decode (mB MX10_isAgain) 18 = .ok (.goto 4, 3) := by decide +kernel
theorem eX10_isAgain_21 : decode (mB MX10_isAgain) 21 = .ok (.iconst 0, 1) := by decide +kernel
theorem eX10_isAgain_22 : decode (mB MX10_isAgain) 22 = .ok (.istore_n 1, 1) := by decide +kernel
theorem eX10_isAgain_23 : decode (mB MX10_isAgain) 23 = .ok (.iconst 0, 1) := by decide +kernel
theorem eX10_isAgain_24 : decode (mB MX10_isAgain) 24 = .ok (.istore_n 2, 1) := by decide +kernel
theorem eX10_isAgain_25 : decode (mB MX10_isAgain) 25 = .ok (.iload_n 2, 1) := by decide +kernel
theorem eX10_isAgain_26 : decode (mB MX10_isAgain) 26 = .ok (.bipush 126, 2) := by decide +kernel
theorem eX10_isAgain_28 : decode (mB MX10_isAgain) 28 = .ok (.if_icmp .ge 24, 3) := by decide +kernel
theorem eX10_isAgain_31 : decode (mB MX10_isAgain) 31 = .ok (.aload_n 0, 1) := by decide +kernel
theorem eX10_isAgain_32 : decode (mB MX10_isAgain) 32 = .ok (.getfield 13, 3) := by decide +kernel
theorem eX10_isAgain_35 : decode (mB MX10_isAgain) 35 = .ok (.bipush 49, 2) := by decide +kernel
theorem eX10_isAgain_37 : decode (mB MX10_isAgain) 37 = .ok (.iload_n 2, 1) := by decide +kernel
theorem eX10_isAgain_38 : decode (mB MX10_isAgain) 38 = .ok (.iadd, 1) := by decide +kernel
theorem eX10_isAgain_39 : decode (mB MX10_isAgain) 39 = .ok (.aload_n 0, 1) := by decide +kernel
theorem eX10_isAgain_40 : decode (mB MX10_isAgain) 40 = .ok (.getfield 51, 3) := by decide +kernel
theorem eX10_isAgain_43 : decode (mB MX10_isAgain) 43 = .ok (.iload_n 2, 1) := by decide +kernel
theorem eX10_isAgain_44 : decode (mB MX10_isAgain) 44 = .ok (.iaload, 1) := by decide +kernel
theorem eX10_isAgain_45 : decode (mB MX10_isAgain) 45 = .ok (.iastore, 1) := by decide +kernel
theorem eX10_isAgain_46 : decode (mB MX10_isAgain) 46 = .ok (.iinc 2 1, 3) := by decide +kernel
theorem eX10_isAgain_49 : decode (mB MX10_isAgain) 49 = .ok (.goto (-24), 3) := by decide +kernel
theorem eX10_isAgain_52 : decode (mB MX10_isAgain) 52 = .ok (.iload_n 1, 1) := by decide +kernel
theorem eX10_isAgain_53 : decode (mB MX10_isAgain) 53 = .ok (.ifCond .eq 7, 3) := by decide +kernel
theorem eX10_isAgain_56 : decode (mB MX10_isAgain) 56 = .ok (.aload_n 0, 1) := by decide +kernel
theorem eX10_isAgain_57 : decode (mB MX10_isAgain) 57 = .ok (.invokevirtual 84, 3) := by decide +kernel
theorem eX10_isAgain_60 : decode (mB MX10_isAgain) 60 = .ok (.return_, 1) := by decide +kernel
theorem eX10_notes_0 : decode (mB MX10_notes) 0 = .ok (.aload_n 0, 1) := by decide +kernel
theorem eX10_notes_1 : decode (mB MX10_notes) 1 = .ok (.getfield 13, 3) := by decide +kernel
theorem eX10_notes_4 : decode (mB MX10_notes) 4 = .ok (.sipush 175, 3) := by decide +kernel
theorem eX10_notes_7 : decode (mB MX10_notes) 7 = .ok (.iaload, 1) := by decide +kernel
theorem eX10_notes_8 : decode (mB MX10_notes) 8 = .ok (.bipush 10, 2) := by decide +kernel
theorem eX10_notes_10 : decode (mB MX10_notes) 10 = .ok (.if_icmp .ne 50, 3) := by decide +kernel
theorem eX10_notes_13 : decode (mB MX10_notes) 13 = .ok (.iconst 0, 1) := by decide +kernel
theorem eX10_notes_14 : decode (mB MX10_notes) 14 = .ok (.istore_n 1, 1) := by decide +kernel
theorem eX10_notes_15 : decode (mB MX10_notes) 15 = .ok (.iload_n 1, 1) := by decide +kernel
theorem eX10_notes_16 : decode (mB MX10_notes) 16 = .ok (.sipush 1134, 3) := by decide +kernel
theorem eX10_notes_19 : decode (mB MX10_notes) 19 = .ok (.if_icmp .ge 29, 3) := by decide +kernel
theorem eX10_notes_22 : decode (mB MX10_notes) 22 = .ok (.aload_n 0, 1) := by decide +kernel
theorem eX10_notes_23 : decode (mB MX10_notes) 23 = .ok (.getfield 13, 3) := by decide +kernel
theorem eX10_notes_26 : decode (mB MX10_notes) 26 = .ok (.sipush 176, 3) := by decide +kernel
theorem eX10_notes_29 : decode (mB MX10_notes) 29 = .ok (.iload_n 1, 1) := by decide +kernel
theorem eX10_notes_30 : decode (mB MX10_notes) 30 = .ok (.iadd, 1) := by decide +kernel
theorem eX10_notes_31 : decode (mB MX10_notes) 31 = .ok (.aload_n 0, 1) := by decide +kernel
theorem eX10_notes_32 : decode (mB MX10_notes) 32 = .ok (.getfield 13, 3) := by decide +kernel
theorem eX10_notes_35 : decode (mB MX10_notes) 35 = .ok (.sipush 302, 3) := by decide +kernel
theorem eX10_notes_38 : decode (mB MX10_notes) 38 = .ok (.iload_n 1, 1) := by decide +kernel
theorem eX10_notes_39 : decode (mB MX10_notes) 39 = .ok (.iadd, 1) := by decide +kernel
theorem eX10_notes_40 : decode (mB MX10_notes) 40 = .ok (.iaload, 1) := by decide +kernel
theorem eX10_notes_41 : decode (mB MX10_notes) 41 = .ok (.iastore, 1) := by decide +kernel
theorem eX10_notes_42 : decode (mB MX10_notes) 42 = .ok (.iinc 1 1, 3) := by decide +kernel
theorem eX10_notes_45 : decode (mB MX10_notes) 45 = .ok (.goto (-30), 3) := by decide +kernel
theorem eX10_notes_48 : decode (mB MX10_notes) 48 = .ok (.aload_n 0, 1) := by decide +kernel
theorem eX10_notes_49 : decode (mB MX10_notes) 49 = .ok (.getfield 13, 3) := by decide +kernel
theorem eX10_notes_52 : decode (mB MX10_notes) 52 = .ok (.sipush 175, 3) := by decide +kernel
theorem eX10_notes_55 : decode (mB MX10_notes) 55 = .ok (.dup2, 1) := by decide +kernel
theorem eX10_notes_56 : decode (mB MX10_notes) 56 = .ok (.iaload, 1) := by decide +kernel
theorem eX10_notes_57 : decode (mB MX10_notes) 57 = .ok (.iconst 1, 1) := by decide +kernel
theorem eX10_notes_58 : decode (mB MX10_notes) 58 = .ok (.isub, 1) := by decide +kernel
theorem eX10_notes_59 : decode (mB MX10_notes) 59 = .ok (.iastore, 1) := by decide +kernel
theorem eX10_notes_60 : decode (mB MX10_notes) 60 = .ok (.iconst 0, 1) := by decide +kernel
theorem eX10_notes_61 : decode (mB MX10_notes) 61 = .ok (.istore_n 1, 1) := by decide +kernel
theorem eX10_notes_62 : decode (mB MX10_notes) 62 = .ok (.iload_n 1, 1) := by decide +kernel
theorem eX10_notes_63 : decode (mB MX10_notes) 63 = .ok (.bipush 126, 2) := by decide +kernel
theorem eX10_notes_65 : decode (mB MX10_notes) 65 = .ok (.if_icmp .ge 37, 3) := by decide +kernel
theorem eX10_notes_68 : decode (mB MX10_notes) 68 = .ok (.aload_n 0, 1) := by decide +kernel
theorem eX10_notes_69 : decode (mB MX10_notes) 69 = .ok (.getfield 13, 3) := by decide +kernel
theorem eX10_notes_72 : decode (mB MX10_notes) 72 = .ok (.sipush 176, 3) := by decide +kernel
theorem eX10_notes_75 : decode (mB MX10_notes) 75 = .ok (.bipush 126, 2) := by decide +kernel
theorem eX10_notes_77 : decode (mB MX10_notes) 77 = .ok (.aload_n 0, 1) := by decide +kernel
theorem eX10_notes_78 : decode (mB MX10_notes) 78 = .ok (.getfield 13, 3) := by decide +kernel
theorem eX10_notes_81 : decode (mB MX10_notes) 81 = .ok (.sipush 175, 3) := by decide +kernel
theorem eX10_notes_84 : decode (mB MX10_notes) 84 = .ok (.iaload, 1) := by decide +kernel
theorem eX10_notes_85 : decode (mB MX10_notes) 85 = .ok (.imul, 1) := by decide +kernel
theorem eX10_notes_86 : decode (mB MX10_notes) 86 = .ok (.iadd, 1) := by decide +kernel
theorem eX10_notes_87 : decode (mB MX10_notes) 87 = .ok (.iload_n 1, 1) := by decide +kernel
theorem eX10_notes_88 : decode (mB MX10_notes) 88 = .ok (.iadd, 1) := by decide +kernel
theorem eX10_notes_89 : decode (mB MX10_notes) 89 = .ok (.aload_n 0, 1) := by decide +kernel
theorem eX10_notes_90 : decode (mB MX10_notes) 90 = .ok (.getfield 51, 3) := by decide +kernel
theorem eX10_notes_93 : decode (mB MX10_notes) 93 = .ok (.iload_n 1, 1) := by decide +kernel
theorem eX10_notes_94 : decode (mB MX10_notes) 94 = .ok (.iaload, 1) := by decide +kernel
theorem eX10_notes_95 : decode (mB MX10_notes) 95 = .ok (.iastore, 1) := by decide +kernel
theorem eX10_notes_96 : decode (mB MX10_notes) 96 = .ok (.iinc 1 1, 3) := by decide +kernel
theorem eX10_notes_99 : decode (mB MX10_notes) 99 = .ok (.goto (-37), 3) := by decide +kernel
theorem eX10_notes_102 : decode (mB MX10_notes) 102 = .ok (.aload_n 0, 1) := by decide +kernel
theorem eX10_notes_103 : decode (mB MX10_notes) 103 = .ok (.getfield 13, 3) := by decide +kernel
theorem eX10_notes_106 : decode (mB MX10_notes) 106 = .ok (.sipush 175, 3) := by decide +kernel
theorem eX10_notes_109 : decode (mB MX10_notes) 109 = .ok (.dup2, 1) := by decide +kernel
theorem eX10_notes_110 : decode (mB MX10_notes) 110 = .ok (.iaload, 1) := by decide +kernel
theorem eX10_notes_111 : decode (mB MX10_notes) 111 = .ok (.iconst 1, 1) := by decide +kernel
theorem eX10_notes_112 : decode (mB MX10_notes) 112 = .ok (.iadd, 1) := by decide +kernel
theorem eX10_notes_113 : decode (mB MX10_notes) 113 = .ok (.iastore, 1) := by decide +kernel
theorem eX10_notes_114 : decode (mB MX10_notes) 114 = .ok (.return_, 1) := by decide +kernel
theorem eX10_whyLay_0 : decode (mB MX10_whyLay) 0 = .ok (.aload_n 0, 1) := by decide +kernel
theorem eX10_whyLay_1 : decode (mB MX10_whyLay) 1 = .ok (.lload_n 1, 1) := by decide +kernel
theorem eX10_whyLay_2 : decode (mB MX10_whyLay) 2 = .ok (.invokevirtual 294, 3) := by decide +kernel
theorem eX10_whyLay_5 : decode (mB MX10_whyLay) 5 = .ok (.ifCond .ne 7, 3) := by decide +kernel
theorem eX10_whyLay_8 : decode (mB MX10_whyLay) 8 = .ok (.iconst 1, 1) := by decide +kernel
theorem eX10_whyLay_9 : decode (mB MX10_whyLay) 9 = .ok (.goto 23, 3) := by decide +kernel
theorem eX10_whyLay_12 : decode (mB MX10_whyLay) 12 = .ok (.aload_n 0, 1) := by decide +kernel
theorem eX10_whyLay_13 : decode (mB MX10_whyLay) 13 = .ok (.getfield 13, 3) := by decide +kernel
theorem eX10_whyLay_16 : decode (mB MX10_whyLay) 16 = .ok (.bipush 49, 2) := by decide +kernel
theorem eX10_whyLay_18 : decode (mB MX10_whyLay) 18 = .ok (.lload_n 1, 1) := by decide +kernel
theorem eX10_whyLay_19 : decode (mB MX10_whyLay) 19 = .ok (.l2i, 1) := by decide +kernel
theorem eX10_whyLay_20 : decode (mB MX10_whyLay) 20 = .ok (.iadd, 1) := by decide +kernel
theorem eX10_whyLay_21 : decode (mB MX10_whyLay) 21 = .ok (.iaload, 1) := by decide +kernel
theorem eX10_whyLay_22 : decode (mB MX10_whyLay) 22 = .ok (.bipush 9, 2) := by decide +kernel
theorem eX10_whyLay_24 : decode (mB MX10_whyLay) 24 = .ok (.if_icmp .ne 7, 3) := by decide +kernel
theorem eX10_whyLay_27 : decode (mB MX10_whyLay) 27 = .ok (.iconst 2, 1) := by decide +kernel
theorem eX10_whyLay_28 : decode (mB MX10_whyLay) 28 = .ok (.goto 4, 3) := by decide +kernel
theorem eX10_whyLay_31 : decode (mB MX10_whyLay) 31 = .ok (.iconst 0, 1) := by decide +kernel
theorem eX10_whyLay_32 : decode (mB MX10_whyLay) 32 = .ok (.ireturn, 1) := by decide +kernel
theorem eX10_whyTake_0 : decode (mB MX10_whyTake) 0 = .ok (.aload_n 0, 1) := by decide +kernel
theorem eX10_whyTake_1 : decode (mB MX10_whyTake) 1 = .ok (.lload_n 1, 1) := by decide +kernel
theorem eX10_whyTake_2 : decode (mB MX10_whyTake) 2 = .ok (.invokevirtual 294, 3) := by decide +kernel
theorem eX10_whyTake_5 : decode (mB MX10_whyTake) 5 = .ok (.ifCond .ne 7, 3) := by decide +kernel
theorem eX10_whyTake_8 : decode (mB MX10_whyTake) 8 = .ok (.iconst 1, 1) := by decide +kernel
theorem eX10_whyTake_9 : decode (mB MX10_whyTake) 9 = .ok (.goto 21, 3) := by decide +kernel
theorem eX10_whyTake_12 : decode (mB MX10_whyTake) 12 = .ok (.aload_n 0, 1) := by decide +kernel
theorem eX10_whyTake_13 : decode (mB MX10_whyTake) 13 = .ok (.getfield 13, 3) := by decide +kernel
theorem eX10_whyTake_16 : decode (mB MX10_whyTake) 16 = .ok (.bipush 49, 2) := by decide +kernel
theorem eX10_whyTake_18 : decode (mB MX10_whyTake) 18 = .ok (.lload_n 1, 1) := by decide +kernel
theorem eX10_whyTake_19 : decode (mB MX10_whyTake) 19 = .ok (.l2i, 1) := by decide +kernel
theorem eX10_whyTake_20 : decode (mB MX10_whyTake) 20 = .ok (.iadd, 1) := by decide +kernel
theorem eX10_whyTake_21 : decode (mB MX10_whyTake) 21 = .ok (.iaload, 1) := by decide +kernel
theorem eX10_whyTake_22 : decode (mB MX10_whyTake) 22 = .ok (.ifCond .ne 7, 3) := by decide +kernel
theorem eX10_whyTake_25 : decode (mB MX10_whyTake) 25 = .ok (.iconst 2, 1) := by decide +kernel
theorem eX10_whyTake_26 : decode (mB MX10_whyTake) 26 = .ok (.goto 4, 3) := by decide +kernel
theorem eX10_whyTake_29 : decode (mB MX10_whyTake) 29 = .ok (.iconst 0, 1) := by decide +kernel
theorem eX10_whyTake_30 : decode (mB MX10_whyTake) 30 = .ok (.ireturn, 1) := by decide +kernel
theorem eX10_whyFail_0 : decode (mB MX10_whyFail) 0 = .ok (.aload_n 0, 1) := by decide +kernel
theorem eX10_whyFail_1 : decode (mB MX10_whyFail) 1 = .ok (.lload_n 1, 1) := by decide +kernel
theorem eX10_whyFail_2 : decode (mB MX10_whyFail) 2 = .ok (.invokevirtual 287, 3) := by decide +kernel
theorem eX10_whyFail_5 : decode (mB MX10_whyFail) 5 = .ok (.ifCond .ne 7, 3) := by decide +kernel
theorem eX10_whyFail_8 : decode (mB MX10_whyFail) 8 = .ok (.iconst 1, 1) := by decide +kernel
theorem eX10_whyFail_9 : decode (mB MX10_whyFail) 9 = .ok (.goto 17, 3) := by decide +kernel
theorem eX10_whyFail_12 : decode (mB MX10_whyFail) 12 = .ok (.aload_n 0, 1) := by decide +kernel
theorem eX10_whyFail_13 : decode (mB MX10_whyFail) 13 = .ok (.lload_n 1, 1) := by decide +kernel
theorem eX10_whyFail_14 : decode (mB MX10_whyFail) 14 = .ok (.l2i, 1) := by decide +kernel
theorem eX10_whyFail_15 : decode (mB MX10_whyFail) 15 = .ok (.invokevirtual 274, 3) := by decide +kernel
theorem eX10_whyFail_18 : decode (mB MX10_whyFail) 18 = .ok (.ifCond .eq 7, 3) := by decide +kernel
theorem eX10_whyFail_21 : decode (mB MX10_whyFail) 21 = .ok (.iconst 2, 1) := by decide +kernel
theorem eX10_whyFail_22 : decode (mB MX10_whyFail) 22 = .ok (.goto 4, 3) := by decide +kernel
theorem eX10_whyFail_25 : decode (mB MX10_whyFail) 25 = .ok (.iconst 0, 1) := by decide +kernel
theorem eX10_whyFail_26 : decode (mB MX10_whyFail) 26 = .ok (.ireturn, 1) := by decide +kernel
theorem eX10_whyMend_0 : decode (mB MX10_whyMend) 0 = .ok (.aload_n 0, 1) := by decide +kernel
theorem eX10_whyMend_1 : decode (mB MX10_whyMend) 1 = .ok (.lload_n 1, 1) := by decide +kernel
theorem eX10_whyMend_2 : decode (mB MX10_whyMend) 2 = .ok (.invokevirtual 287, 3) := by decide +kernel
theorem eX10_whyMend_5 : decode (mB MX10_whyMend) 5 = .ok (.ifCond .ne 7, 3) := by decide +kernel
theorem eX10_whyMend_8 : decode (mB MX10_whyMend) 8 = .ok (.iconst 1, 1) := by decide +kernel
theorem eX10_whyMend_9 : decode (mB MX10_whyMend) 9 = .ok (.goto 17, 3) := by decide +kernel
theorem eX10_whyMend_12 : decode (mB MX10_whyMend) 12 = .ok (.aload_n 0, 1) := by decide +kernel
theorem eX10_whyMend_13 : decode (mB MX10_whyMend) 13 = .ok (.lload_n 1, 1) := by decide +kernel
theorem eX10_whyMend_14 : decode (mB MX10_whyMend) 14 = .ok (.l2i, 1) := by decide +kernel
theorem eX10_whyMend_15 : decode (mB MX10_whyMend) 15 = .ok (.invokevirtual 274, 3) := by decide +kernel
theorem eX10_whyMend_18 : decode (mB MX10_whyMend) 18 = .ok (.ifCond .eq 7, 3) := by decide +kernel
theorem eX10_whyMend_21 : decode (mB MX10_whyMend) 21 = .ok (.iconst 0, 1) := by decide +kernel
theorem eX10_whyMend_22 : decode (mB MX10_whyMend) 22 = .ok (.goto 4, 3) := by decide +kernel
theorem eX10_whyMend_25 : decode (mB MX10_whyMend) 25 = .ok (.iconst 2, 1) := by decide +kernel
theorem eX10_whyMend_26 : decode (mB MX10_whyMend) 26 = .ok (.ireturn, 1) := by decide +kernel
theorem eX10_lay_0 : decode (mB MX10_lay) 0 = .ok (.aload_n 0, 1) := by decide +kernel
theorem eX10_lay_1 : decode (mB MX10_lay) 1 = .ok (.iconst 0, 1) := by decide +kernel
theorem eX10_lay_2 : decode (mB MX10_lay) 2 = .ok (.putfield 1, 3) := by decide +kernel
theorem eX10_lay_5 : decode (mB MX10_lay) 5 = .ok (.aload_n 0, 1) := by decide +kernel
theorem eX10_lay_6 : decode (mB MX10_lay) 6 = .ok (.iload_n 1, 1) := by decide +kernel
theorem eX10_lay_7 : decode (mB MX10_lay) 7 = .ok (.i2l, 1) := by decide +kernel
theorem eX10_lay_8 : decode (mB MX10_lay) 8 = .ok (.invokevirtual 300, 3) := by decide +kernel
theorem eX10_lay_11 : decode (mB MX10_lay) 11 = .ok (.istore_n 2, 1) := by decide +kernel
theorem eX10_lay_12 : decode (mB MX10_lay) 12 = .ok (.iload_n 2, 1) := by decide +kernel
theorem eX10_lay_13 : decode (mB MX10_lay) 13 = .ok (.ifCond .eq 8, 3) := by decide +kernel
theorem eX10_lay_16 : decode (mB MX10_lay) 16 = .ok (.bipush (-10), 2) := by decide +kernel
theorem eX10_lay_18 : decode (mB MX10_lay) 18 = .ok (.iload_n 2, 1) := by decide +kernel
theorem eX10_lay_19 : decode (mB MX10_lay) 19 = .ok (.isub, 1) := by decide +kernel
theorem eX10_lay_20 : decode (mB MX10_lay) 20 = .ok (.ireturn, 1) := by decide +kernel
theorem eX10_lay_21 : decode (mB MX10_lay) 21 = .ok (.aload_n 0, 1) := by decide +kernel
theorem eX10_lay_22 : decode (mB MX10_lay) 22 = .ok (.invokevirtual 304, 3) := by decide +kernel
theorem eX10_lay_25 : decode (mB MX10_lay) 25 = .ok (.aload_n 0, 1) := by decide +kernel
theorem eX10_lay_26 : decode (mB MX10_lay) 26 = .ok (.iload_n 1, 1) := by decide +kernel
theorem eX10_lay_27 : decode (mB MX10_lay) 27 = .ok (.invokevirtual 307, 3) := by decide +kernel
theorem eX10_lay_30 : decode (mB MX10_lay) 30 = .ok (.aload_n 0, 1) := by decide +kernel
theorem eX10_lay_31 : decode (mB MX10_lay) 31 = .ok (.invokevirtual 310, 3) := by decide +kernel
theorem eX10_lay_34 : decode (mB MX10_lay) 34 = .ok (.aload_n 0, 1) := by decide +kernel
theorem eX10_lay_35 : decode (mB MX10_lay) 35 = .ok (.getfield 13, 3) := by decide +kernel
theorem eX10_lay_38 : decode (mB MX10_lay) 38 = .ok (.bipush 49, 2) := by decide +kernel
theorem eX10_lay_40 : decode (mB MX10_lay) 40 = .ok (.iload_n 1, 1) := by decide +kernel
theorem eX10_lay_41 : decode (mB MX10_lay) 41 = .ok (.iadd, 1) := by decide +kernel
theorem eX10_lay_42 : decode (mB MX10_lay) 42 = .ok (.iaload, 1) := by decide +kernel
theorem eX10_lay_43 : decode (mB MX10_lay) 43 = .ok (.ireturn, 1) := by decide +kernel
theorem eX10_take_0 : decode (mB MX10_take) 0 = .ok (.aload_n 0, 1) := by decide +kernel
theorem eX10_take_1 : decode (mB MX10_take) 1 = .ok (.iconst 0, 1) := by decide +kernel
theorem eX10_take_2 : decode (mB MX10_take) 2 = .ok (.putfield 1, 3) := by decide +kernel
theorem eX10_take_5 : decode (mB MX10_take) 5 = .ok (.aload_n 0, 1) := by decide +kernel
theorem eX10_take_6 : decode (mB MX10_take) 6 = .ok (.iload_n 1, 1) := by decide +kernel
theorem eX10_take_7 : decode (mB MX10_take) 7 = .ok (.i2l, 1) := by decide +kernel
theorem eX10_take_8 : decode (mB MX10_take) 8 = .ok (.invokevirtual 313, 3) := by decide +kernel
theorem eX10_take_11 : decode (mB MX10_take) 11 = .ok (.istore_n 2, 1) := by decide +kernel
theorem eX10_take_12 : decode (mB MX10_take) 12 = .ok (.iload_n 2, 1) := by decide +kernel
theorem eX10_take_13 : decode (mB MX10_take) 13 = .ok (.ifCond .eq 8, 3) := by decide +kernel
theorem eX10_take_16 : decode (mB MX10_take) 16 = .ok (.bipush (-10), 2) := by decide +kernel
theorem eX10_take_18 : decode (mB MX10_take) 18 = .ok (.iload_n 2, 1) := by decide +kernel
theorem eX10_take_19 : decode (mB MX10_take) 19 = .ok (.isub, 1) := by decide +kernel
theorem eX10_take_20 : decode (mB MX10_take) 20 = .ok (.ireturn, 1) := by decide +kernel
theorem eX10_take_21 : decode (mB MX10_take) 21 = .ok (.aload_n 0, 1) := by decide +kernel
theorem eX10_take_22 : decode (mB MX10_take) 22 = .ok (.invokevirtual 304, 3) := by decide +kernel
theorem eX10_take_25 : decode (mB MX10_take) 25 = .ok (.aload_n 0, 1) := by decide +kernel
theorem eX10_take_26 : decode (mB MX10_take) 26 = .ok (.iload_n 1, 1) := by decide +kernel
theorem eX10_take_27 : decode (mB MX10_take) 27 = .ok (.invokevirtual 316, 3) := by decide +kernel
theorem eX10_take_30 : decode (mB MX10_take) 30 = .ok (.aload_n 0, 1) := by decide +kernel
theorem eX10_take_31 : decode (mB MX10_take) 31 = .ok (.invokevirtual 310, 3) := by decide +kernel
theorem eX10_take_34 : decode (mB MX10_take) 34 = .ok (.aload_n 0, 1) := by decide +kernel
theorem eX10_take_35 : decode (mB MX10_take) 35 = .ok (.getfield 13, 3) := by decide +kernel
theorem eX10_take_38 : decode (mB MX10_take) 38 = .ok (.bipush 49, 2) := by decide +kernel
theorem eX10_take_40 : decode (mB MX10_take) 40 = .ok (.iload_n 1, 1) := by decide +kernel
theorem eX10_take_41 : decode (mB MX10_take) 41 = .ok (.iadd, 1) := by decide +kernel
theorem eX10_take_42 : decode (mB MX10_take) 42 = .ok (.iaload, 1) := by decide +kernel
theorem eX10_take_43 : decode (mB MX10_take) 43 = .ok (.ireturn, 1) := by decide +kernel
theorem eX10_fail_0 : decode (mB MX10_fail) 0 = .ok (.aload_n 0, 1) := by decide +kernel
theorem eX10_fail_1 : decode (mB MX10_fail) 1 = .ok (.iconst 0, 1) := by decide +kernel
theorem eX10_fail_2 : decode (mB MX10_fail) 2 = .ok (.putfield 1, 3) := by decide +kernel
theorem eX10_fail_5 : decode (mB MX10_fail) 5 = .ok (.aload_n 0, 1) := by decide +kernel
theorem eX10_fail_6 : decode (mB MX10_fail) 6 = .ok (.iload_n 1, 1) := by decide +kernel
theorem eX10_fail_7 : decode (mB MX10_fail) 7 = .ok (.i2l, 1) := by decide +kernel
theorem eX10_fail_8 : decode (mB MX10_fail) 8 = .ok (.invokevirtual 319, 3) := by decide +kernel
theorem eX10_fail_11 : decode (mB MX10_fail) 11 = .ok (.istore_n 2, 1) := by decide +kernel
theorem eX10_fail_12 : decode (mB MX10_fail) 12 = .ok (.iload_n 2, 1) := by decide +kernel
theorem eX10_fail_13 : decode (mB MX10_fail) 13 = .ok (.ifCond .eq 8, 3) := by decide +kernel
theorem eX10_fail_16 : decode (mB MX10_fail) 16 = .ok (.bipush (-10), 2) := by decide +kernel
theorem eX10_fail_18 : decode (mB MX10_fail) 18 = .ok (.iload_n 2, 1) := by decide +kernel
theorem eX10_fail_19 : decode (mB MX10_fail) 19 = .ok (.isub, 1) := by decide +kernel
theorem eX10_fail_20 : decode (mB MX10_fail) 20 = .ok (.ireturn, 1) := by decide +kernel
theorem eX10_fail_21 : decode (mB MX10_fail) 21 = .ok (.aload_n 0, 1) := by decide +kernel
theorem eX10_fail_22 : decode (mB MX10_fail) 22 = .ok (.invokevirtual 304, 3) := by decide +kernel
theorem eX10_fail_25 : decode (mB MX10_fail) 25 = .ok (.aload_n 0, 1) := by decide +kernel
theorem eX10_fail_26 : decode (mB MX10_fail) 26 = .ok (.iload_n 1, 1) := by decide +kernel
theorem eX10_fail_27 : decode (mB MX10_fail) 27 = .ok (.invokevirtual 322, 3) := by decide +kernel
theorem eX10_fail_30 : decode (mB MX10_fail) 30 = .ok (.aload_n 0, 1) := by decide +kernel
theorem eX10_fail_31 : decode (mB MX10_fail) 31 = .ok (.invokevirtual 310, 3) := by decide +kernel
theorem eX10_fail_34 : decode (mB MX10_fail) 34 = .ok (.aload_n 0, 1) := by decide +kernel
theorem eX10_fail_35 : decode (mB MX10_fail) 35 = .ok (.invokevirtual 325, 3) := by decide +kernel
theorem eX10_fail_38 : decode (mB MX10_fail) 38 = .ok (.ireturn, 1) := by decide +kernel
theorem eX10_mend_0 : decode (mB MX10_mend) 0 = .ok (.aload_n 0, 1) := by decide +kernel
theorem eX10_mend_1 : decode (mB MX10_mend) 1 = .ok (.iconst 0, 1) := by decide +kernel
theorem eX10_mend_2 : decode (mB MX10_mend) 2 = .ok (.putfield 1, 3) := by decide +kernel
theorem eX10_mend_5 : decode (mB MX10_mend) 5 = .ok (.aload_n 0, 1) := by decide +kernel
theorem eX10_mend_6 : decode (mB MX10_mend) 6 = .ok (.iload_n 1, 1) := by decide +kernel
theorem eX10_mend_7 : decode (mB MX10_mend) 7 = .ok (.i2l, 1) := by decide +kernel
theorem eX10_mend_8 : decode (mB MX10_mend) 8 = .ok (.invokevirtual 328, 3) := by decide +kernel
theorem eX10_mend_11 : decode (mB MX10_mend) 11 = .ok (.istore_n 2, 1) := by decide +kernel
theorem eX10_mend_12 : decode (mB MX10_mend) 12 = .ok (.iload_n 2, 1) := by decide +kernel
theorem eX10_mend_13 : decode (mB MX10_mend) 13 = .ok (.ifCond .eq 8, 3) := by decide +kernel
theorem eX10_mend_16 : decode (mB MX10_mend) 16 = .ok (.bipush (-10), 2) := by decide +kernel
theorem eX10_mend_18 : decode (mB MX10_mend) 18 = .ok (.iload_n 2, 1) := by decide +kernel
theorem eX10_mend_19 : decode (mB MX10_mend) 19 = .ok (.isub, 1) := by decide +kernel
theorem eX10_mend_20 : decode (mB MX10_mend) 20 = .ok (.ireturn, 1) := by decide +kernel
theorem eX10_mend_21 : decode (mB MX10_mend) 21 = .ok (.aload_n 0, 1) := by decide +kernel
theorem eX10_mend_22 : decode (mB MX10_mend) 22 = .ok (.invokevirtual 304, 3) := by decide +kernel
theorem eX10_mend_25 : decode (mB MX10_mend) 25 = .ok (.aload_n 0, 1) := by decide +kernel
theorem eX10_mend_26 : decode (mB MX10_mend) 26 = .ok (.iload_n 1, 1) := by decide +kernel
theorem eX10_mend_27 : decode (mB MX10_mend) 27 = .ok (.invokevirtual 331, 3) := by decide +kernel
theorem eX10_mend_30 : decode (mB MX10_mend) 30 = .ok (.aload_n 0, 1) := by decide +kernel
theorem eX10_mend_31 : decode (mB MX10_mend) 31 = .ok (.invokevirtual 310, 3) := by decide +kernel
theorem eX10_mend_34 : decode (mB MX10_mend) 34 = .ok (.aload_n 0, 1) := by decide +kernel
theorem eX10_mend_35 : decode (mB MX10_mend) 35 = .ok (.invokevirtual 325, 3) := by decide +kernel
theorem eX10_mend_38 : decode (mB MX10_mend) 38 = .ok (.ireturn, 1) := by decide +kernel
theorem eX10_rate_0 : decode (mB MX10_rate) 0 = .ok (.aload_n 0, 1) := by decide +kernel
theorem eX10_rate_1 : decode (mB MX10_rate) 1 = .ok (.iconst 0, 1) := by decide +kernel
theorem eX10_rate_2 : decode (mB MX10_rate) 2 = .ok (.putfield 1, 3) := by decide +kernel
theorem eX10_rate_5 : decode (mB MX10_rate) 5 = .ok (.iload_n 1, 1) := by decide +kernel
theorem eX10_rate_6 : decode (mB MX10_rate) 6 = .ok (.i2l, 1) := by decide +kernel
theorem eX10_rate_7 : decode (mB MX10_rate) 7 = .ok (.lconst 0, 1) := by decide +kernel
theorem eX10_rate_8 : decode (mB MX10_rate) 8 = .ok (.ldc2_w 334, 3) := by decide +kernel
theorem eX10_rate_11 : decode (mB MX10_rate) 11 = .ok (.invokestatic 149, 3) := by decide +kernel
theorem eX10_rate_14 : decode (mB MX10_rate) 14 = .ok (.ifCond .ne 6, 3) := by decide +kernel
theorem eX10_rate_17 : decode (mB MX10_rate) 17 = .ok (.bipush (-11), 2) := by decide +kernel
theorem eX10_rate_19 : decode (mB MX10_rate) 19 = .ok (.ireturn, 1) := by decide +kernel
theorem eX10_rate_20 : decode (mB MX10_rate) 20 = .ok (.aload_n 0, 1) := by decide +kernel
theorem eX10_rate_21 : decode (mB MX10_rate) 21 = .ok (.invokevirtual 304, 3) := by decide +kernel
theorem eX10_rate_24 : decode (mB MX10_rate) 24 = .ok (.aload_n 0, 1) := by decide +kernel
theorem eX10_rate_25 : decode (mB MX10_rate) 25 = .ok (.iload_n 1, 1) := by decide +kernel
theorem eX10_rate_26 : decode (mB MX10_rate) 26 = .ok (.invokevirtual 336, 3) := by decide +kernel
theorem eX10_rate_29 : decode (mB MX10_rate) 29 = .ok (.aload_n 0, 1) := by decide +kernel
theorem eX10_rate_30 : decode (mB MX10_rate) 30 = .ok (.invokevirtual 310, 3) := by decide +kernel
theorem eX10_rate_33 : decode (mB MX10_rate) 33 = .ok (.aload_n 0, 1) := by decide +kernel
theorem eX10_rate_34 : decode (mB MX10_rate) 34 = .ok (.getfield 216, 3) := by decide +kernel
theorem eX10_rate_37 : decode (mB MX10_rate) 37 = .ok (.ireturn, 1) := by decide +kernel
theorem eX10_undo_0 : decode (mB MX10_undo) 0 = .ok (.aload_n 0, 1) := by decide +kernel
theorem eX10_undo_1 : decode (mB MX10_undo) 1 = .ok (.iconst 0, 1) := by decide +kernel
theorem eX10_undo_2 : decode (mB MX10_undo) 2 = .ok (.putfield 1, 3) := by decide +kernel
theorem eX10_undo_5 : decode (mB MX10_undo) 5 = .ok (.iload_n 1, 1) := by decide +kernel
theorem eX10_undo_6 : decode (mB MX10_undo) 6 = .ok (.i2l, 1) := by decide +kernel
theorem eX10_undo_7 : decode (mB MX10_undo) 7 = .ok (.lconst 1, 1) := by decide +kernel
theorem eX10_undo_8 : decode (mB MX10_undo) 8 = .ok (.ldc2_w 339, 3) := by decide +kernel
theorem eX10_undo_11 : decode (mB MX10_undo) 11 = .ok (.invokestatic 149, 3) := by decide +kernel
theorem eX10_undo_14 : decode (mB MX10_undo) 14 = .ok (.ifCond .eq 15, 3) := by decide +kernel
theorem eX10_undo_17 : decode (mB MX10_undo) 17 = .ok (.iload_n 1, 1) := by decide +kernel
theorem eX10_undo_18 : decode (mB MX10_undo) 18 = .ok (.aload_n 0, 1) := by decide +kernel
theorem eX10_undo_19 : decode (mB MX10_undo) 19 = .ok (.getfield 13, 3) := by decide +kernel
theorem eX10_undo_22 : decode (mB MX10_undo) 22 = .ok (.sipush 175, 3) := by decide +kernel
theorem eX10_undo_25 : decode (mB MX10_undo) 25 = .ok (.iaload, 1) := by decide +kernel
theorem eX10_undo_26 : decode (mB MX10_undo) 26 = .ok (.if_icmp .le 6, 3) := by decide +kernel
theorem eX10_undo_29 : decode (mB MX10_undo) 29 = .ok (.bipush (-3), 2) := by decide +kernel
theorem eX10_undo_31 : decode (mB MX10_undo) 31 = .ok (.ireturn, 1) := by decide +kernel
theorem eX10_undo_32 : decode (mB MX10_undo) 32 = .ok (.aload_n 0, 1) := by decide +kernel
theorem eX10_undo_33 : decode (mB MX10_undo) 33 = .ok (.getfield 13, 3) := by decide +kernel
theorem eX10_undo_36 : decode (mB MX10_undo) 36 = .ok (.sipush 175, 3) := by decide +kernel
theorem eX10_undo_39 : decode (mB MX10_undo) 39 = .ok (.dup2, 1) := by decide +kernel
theorem eX10_undo_40 : decode (mB MX10_undo) 40 = .ok (.iaload, 1) := by decide +kernel
theorem eX10_undo_41 : decode (mB MX10_undo) 41 = .ok (.iload_n 1, 1) := by decide +kernel
theorem eX10_undo_42 : decode (mB MX10_undo) 42 = .ok (.isub, 1) := by decide +kernel
theorem eX10_undo_43 : decode (mB MX10_undo) 43 = .ok (.iastore, 1) := by decide +kernel
theorem eX10_undo_44 : decode (mB MX10_undo) 44 = .ok (.iconst 0, 1) := by decide +kernel
theorem eX10_undo_45 : decode (mB MX10_undo) 45 = .ok (.istore_n 2, 1) := by decide +kernel
theorem eX10_undo_46 : decode (mB MX10_undo) 46 = .ok (.iload_n 2, 1) := by decide +kernel
theorem eX10_undo_47 : decode (mB MX10_undo) 47 = .ok (.bipush 126, 2) := by decide +kernel
theorem eX10_undo_49 : decode (mB MX10_undo) 49 = .ok (.if_icmp .ge 37, 3) := by decide +kernel
theorem eX10_undo_52 : decode (mB MX10_undo) 52 = .ok (.aload_n 0, 1) := by decide +kernel
theorem eX10_undo_53 : decode (mB MX10_undo) 53 = .ok (.getfield 51, 3) := by decide +kernel
theorem eX10_undo_56 : decode (mB MX10_undo) 56 = .ok (.iload_n 2, 1) := by decide +kernel
theorem eX10_undo_57 : decode (mB MX10_undo) 57 = .ok (.aload_n 0, 1) := by decide +kernel
theorem eX10_undo_58 : decode (mB MX10_undo) 58 = .ok (.getfield 13, 3) := by decide +kernel
theorem eX10_undo_61 : decode (mB MX10_undo) 61 = .ok (.sipush 176, 3) := by decide +kernel
theorem eX10_undo_64 : decode (mB MX10_undo) 64 = .ok (.bipush 126, 2) := by decide +kernel
theorem eX10_undo_66 : decode (mB MX10_undo) 66 = .ok (.aload_n 0, 1) := by decide +kernel
theorem eX10_undo_67 : decode (mB MX10_undo) 67 = .ok (.getfield 13, 3) := by decide +kernel
theorem eX10_undo_70 : decode (mB MX10_undo) 70 = .ok (.sipush 175, 3) := by decide +kernel
theorem eX10_undo_73 : decode (mB MX10_undo) 73 = .ok (.iaload, 1) := by decide +kernel
theorem eX10_undo_74 : decode (mB MX10_undo) 74 = .ok (.imul, 1) := by decide +kernel
