theorem eX7_doYear_55 : decode (mB MX7_doYear) 55 = .ok (.iload 9, 2) := by decide +kernel
theorem eX7_doYear_57 : decode (mB MX7_doYear) 57 = .ok (.bipush 12, 2) := by decide +kernel
theorem eX7_doYear_59 : decode (mB MX7_doYear) 59 = .ok (.irem, 1) := by decide +kernel
theorem eX7_doYear_60 : decode (mB MX7_doYear) 60 = .ok (.iadd, 1) := by decide +kernel
theorem eX7_doYear_61 : decode (mB MX7_doYear) 61 = .ok (.goto 46, 3) := by decide +kernel
theorem eX7_doYear_64 : decode (mB MX7_doYear) 64 = .ok (.iload 8, 2) := by decide +kernel
theorem eX7_doYear_66 : decode (mB MX7_doYear) 66 = .ok (.iconst 2, 1) := by decide +kernel
theorem eX7_doYear_67 : decode (mB MX7_doYear) 67 = .ok (.if_icmp .ne 15, 3) := by decide +kernel
theorem eX7_doYear_70 : decode (mB MX7_doYear) 70 = .ok (.sipush 300, 3) := by decide +kernel
theorem eX7_doYear_73 : decode (mB MX7_doYear) 73 = .ok (.iload 9, 2) := by decide +kernel
theorem eX7_doYear_75 : decode (mB MX7_doYear) 75 = .ok (.bipush 12, 2) := by decide +kernel
theorem eX7_doYear_77 : decode (mB MX7_doYear) 77 = .ok (.irem, 1) := by decide +kernel
theorem eX7_doYear_78 : decode (mB MX7_doYear) 78 = .ok (.iadd, 1) := by decide +kernel
theorem eX7_doYear_79 : decode (mB MX7_doYear) 79 = .ok (.goto 28, 3) := by decide +kernel
theorem eX7_doYear_82 : decode (mB MX7_doYear) 82 = .ok (.iload 8, 2) := by decide +kernel
theorem eX7_doYear_84 : decode (mB MX7_doYear) 84 = .ok (.iconst 3, 1) := by decide +kernel
theorem eX7_doYear_85 : decode (mB MX7_doYear) 85 = .ok (.if_icmp .ne 14, 3) := by decide +kernel
theorem eX7_doYear_88 : decode (mB MX7_doYear) 88 = .ok (.bipush 100, 2) := by decide +kernel
theorem eX7_doYear_90 : decode (mB MX7_doYear) 90 = .ok (.iload 9, 2) := by decide +kernel
theorem eX7_doYear_92 : decode (mB MX7_doYear) 92 = .ok (.bipush 10, 2) := by decide +kernel
theorem eX7_doYear_94 : decode (mB MX7_doYear) 94 = .ok (.irem, 1) := by decide +kernel
theorem eX7_doYear_95 : decode (mB MX7_doYear) 95 = .ok (.iadd, 1) := by decide +kernel
theorem eX7_doYear_96 : decode (mB MX7_doYear) 96 = .ok (.goto 11, 3) := by decide +kernel
theorem eX7_doYear_99 : decode (mB MX7_doYear) 99 = .ok (.bipush 110, 2) := by decide +kernel
theorem eX7_doYear_101 : decode (mB MX7_doYear) 101 = .ok (.iload 9, 2) := by decide +kernel
theorem eX7_doYear_103 : decode (mB MX7_doYear) 103 = .ok (.bipush 10, 2) := by decide +kernel
theorem eX7_doYear_105 : decode (mB MX7_doYear) 105 = .ok (.irem, 1) := by decide +kernel
theorem eX7_doYear_106 : decode (mB MX7_doYear) 106 = .ok (.iadd, 1) := by decide +kernel
theorem eX7_doYear_107 : decode (mB MX7_doYear) 107 = .ok (.istore 10, 2) := by decide +kernel
theorem eX7_doYear_109 : decode (mB MX7_doYear) 109 = .ok (.iload 6, 2) := by decide +kernel
theorem eX7_doYear_111 : decode (mB MX7_doYear) 111 = .ok (.aload_n 0, 1) := by decide +kernel
theorem eX7_doYear_112 : decode (mB MX7_doYear) 112 = .ok (.aload_n 1, 1) := by decide +kernel
theorem eX7_doYear_113 : decode (mB MX7_doYear) 113 = .ok (.aload_n 2, 1) := by decide +kernel
theorem eX7_doYear_114 : decode (mB MX7_doYear) 114 = .ok (.iload 10, 2) := by decide +kernel
theorem eX7_doYear_116 : decode (mB MX7_doYear) 116 = .ok (.i2l, 1) := by decide +kernel
theorem eX7_doYear_117 : decode (mB MX7_doYear) 117 = .ok (.invokevirtual 87, 3) := by decide +kernel
theorem eX7_doYear_120 : decode (mB MX7_doYear) 120 = .ok (.ifCond .ne 7, 3) := by decide +kernel
theorem eX7_doYear_123 : decode (mB MX7_doYear) 123 = .ok (.iconst 1, 1) := by decide +kernel
theorem eX7_doYear_124 : decode (mB MX7_doYear) 124 = .ok (.goto 4, 3) := by decide +kernel
theorem eX7_doYear_127 : decode (mB MX7_doYear) 127 = .ok (.iconst 0, 1) := by decide +kernel
theorem eX7_doYear_128 : decode (mB MX7_doYear) 128 = .ok (.iadd, 1) := by decide +kernel
theorem eX7_doYear_129 : decode (mB MX7_doYear) 129 = .ok (.istore 6, 2) := by decide +kernel
theorem eX7_doYear_131 : decode (mB MX7_doYear) 131 = .ok (.iinc 7 1, 3) := by decide +kernel
theorem eX7_doYear_134 : decode (mB MX7_doYear) 134 = .ok (.goto (-125), 3) := by decide +kernel
theorem eX7_doYear_137 : decode (mB MX7_doYear) 137 = .ok (.iload 6, 2) := by decide +kernel
theorem eX7_doYear_139 : decode (mB MX7_doYear) 139 = .ok (.ireturn, 1) := by decide +kernel
theorem eX7_nextDraw_0 : decode (mB MX7_nextDraw) 0 = .ok (.ldc 94, 2) := by decide +kernel
theorem eX7_nextDraw_2 : decode (mB MX7_nextDraw) 2 = .ok (.iload_n 0, 1) := by decide +kernel
theorem eX7_nextDraw_3 : decode (mB MX7_nextDraw) 3 = .ok (.imul, 1) := by decide +kernel
theorem eX7_nextDraw_4 : decode (mB MX7_nextDraw) 4 = .ok (.sipush 12345, 3) := by decide +kernel
theorem eX7_nextDraw_7 : decode (mB MX7_nextDraw) 7 = .ok (.iadd, 1) := by decide +kernel
theorem eX7_nextDraw_8 : decode (mB MX7_nextDraw) 8 = .ok (.ireturn, 1) := by decide +kernel
theorem eX7_lostUnits_0 : decode (mB MX7_lostUnits) 0 = .ok (.iconst 0, 1) := by decide +kernel
theorem eX7_lostUnits_1 : decode (mB MX7_lostUnits) 1 = .ok (.istore_n 3, 1) := by decide +kernel
theorem eX7_lostUnits_2 : decode (mB MX7_lostUnits) 2 = .ok (.iconst 0, 1) := by decide +kernel
theorem eX7_lostUnits_3 : decode (mB MX7_lostUnits) 3 = .ok (.istore 4, 2) := by decide +kernel
theorem eX7_lostUnits_5 : decode (mB MX7_lostUnits) 5 = .ok (.iload 4, 2) := by decide +kernel
theorem eX7_lostUnits_7 : decode (mB MX7_lostUnits) 7 = .ok (.aload_n 1, 1) := by decide +kernel
theorem eX7_lostUnits_8 : decode (mB MX7_lostUnits) 8 = .ok (.getfield 95, 3) := by decide +kernel
theorem eX7_lostUnits_11 : decode (mB MX7_lostUnits) 11 = .ok (.if_icmp .ge 20, 3) := by decide +kernel
theorem eX7_lostUnits_14 : decode (mB MX7_lostUnits) 14 = .ok (.iload_n 3, 1) := by decide +kernel
theorem eX7_lostUnits_15 : decode (mB MX7_lostUnits) 15 = .ok (.aload_n 0, 1) := by decide +kernel
theorem eX7_lostUnits_16 : decode (mB MX7_lostUnits) 16 = .ok (.aload_n 1, 1) := by decide +kernel
theorem eX7_lostUnits_17 : decode (mB MX7_lostUnits) 17 = .ok (.aload_n 2, 1) := by decide +kernel
theorem eX7_lostUnits_18 : decode (mB MX7_lostUnits) 18 = .ok (.iload 4, 2) := by decide +kernel
theorem eX7_lostUnits_20 : decode (mB MX7_lostUnits) 20 = .ok (.invokevirtual 98, 3) := by decide +kernel
theorem eX7_lostUnits_23 : decode (mB MX7_lostUnits) 23 = .ok (.iadd, 1) := by decide +kernel
theorem eX7_lostUnits_24 : decode (mB MX7_lostUnits) 24 = .ok (.istore_n 3, 1) := by decide +kernel
theorem eX7_lostUnits_25 : decode (mB MX7_lostUnits) 25 = .ok (.iinc 4 1, 3) := by decide +kernel
theorem eX7_lostUnits_28 : decode (mB MX7_lostUnits) 28 = .ok (.goto (-23), 3) := by decide +kernel
theorem eX7_lostUnits_31 : decode (mB MX7_lostUnits) 31 = .ok (.iload_n 3, 1) := by decide +kernel
theorem eX7_lostUnits_32 : decode (mB MX7_lostUnits) 32 = .ok (.ireturn, 1) := by decide +kernel
theorem eX7_lostOf_0 : decode (mB MX7_lostOf) 0 = .ok (.iconst 0, 1) := by decide +kernel
theorem eX7_lostOf_1 : decode (mB MX7_lostOf) 1 = .ok (.istore 4, 2) := by decide +kernel
theorem eX7_lostOf_3 : decode (mB MX7_lostOf) 3 = .ok (.iconst 0, 1) := by decide +kernel
theorem eX7_lostOf_4 : decode (mB MX7_lostOf) 4 = .ok (.istore 5, 2) := by decide +kernel
theorem eX7_lostOf_6 : decode (mB MX7_lostOf) 6 = .ok (.iload 5, 2) := by decide +kernel
theorem eX7_lostOf_8 : decode (mB MX7_lostOf) 8 = .ok (.aload_n 1, 1) := by decide +kernel
theorem eX7_lostOf_9 : decode (mB MX7_lostOf) 9 = .ok (.getfield 101, 3) := by decide +kernel
theorem eX7_lostOf_12 : decode (mB MX7_lostOf) 12 = .ok (.iload_n 3, 1) := by decide +kernel
theorem eX7_lostOf_13 : decode (mB MX7_lostOf) 13 = .ok (.iaload, 1) := by decide +kernel
theorem eX7_lostOf_14 : decode (mB MX7_lostOf) 14 = .ok (.if_icmp .ge 41, 3) := by decide +kernel
theorem eX7_lostOf_17 : decode (mB MX7_lostOf) 17 = .ok (.aload_n 2, 1) := by decide +kernel
theorem eX7_lostOf_18 : decode (mB MX7_lostOf) 18 = .ok (.iload_n 3, 1) := by decide +kernel
theorem eX7_lostOf_19 : decode (mB MX7_lostOf) 19 = .ok (.invokevirtual 41, 3) := by decide +kernel
theorem eX7_lostOf_22 : decode (mB MX7_lostOf) 22 = .ok (.ifCond .eq 33, 3) := by decide +kernel
theorem eX7_lostOf_25 : decode (mB MX7_lostOf) 25 = .ok (.iload 4, 2) := by decide +kernel
theorem eX7_lostOf_27 : decode (mB MX7_lostOf) 27 = .ok (.aload_n 2, 1) := by decide +kernel
theorem eX7_lostOf_28 : decode (mB MX7_lostOf) 28 = .ok (.getfield 34, 3) := by decide +kernel
theorem eX7_lostOf_31 : decode (mB MX7_lostOf) 31 = .ok (.iload_n 3, 1) := by decide +kernel
theorem eX7_lostOf_32 : decode (mB MX7_lostOf) 32 = .ok (.iconst 2, 1) := by decide +kernel
theorem eX7_lostOf_33 : decode (mB MX7_lostOf) 33 = .ok (.imul, 1) := by decide +kernel
theorem eX7_lostOf_34 : decode (mB MX7_lostOf) 34 = .ok (.iload 5, 2) := by decide +kernel
theorem eX7_lostOf_36 : decode (mB MX7_lostOf) 36 = .ok (.iadd, 1) := by decide +kernel
theorem eX7_lostOf_37 : decode (mB MX7_lostOf) 37 = .ok (.iaload, 1) := by decide +kernel
theorem eX7_lostOf_38 : decode (mB MX7_lostOf) 38 = .ok (.ifCond .ge 7, 3) := by decide +kernel
theorem eX7_lostOf_41 : decode (mB MX7_lostOf) 41 = .ok (.iconst 1, 1) := by decide +kernel
theorem eX7_lostOf_42 : decode (mB MX7_lostOf) 42 = .ok (.goto 4, 3) := by decide +kernel
theorem eX7_lostOf_45 : decode (mB MX7_lostOf) 45 = .ok (.iconst 0, 1) := by decide +kernel
theorem eX7_lostOf_46 : decode (mB MX7_lostOf) 46 = .ok (.iadd, 1) := by decide +kernel
theorem eX7_lostOf_47 : decode (mB MX7_lostOf) 47 = .ok (.istore 4, 2) := by decide +kernel
theorem eX7_lostOf_49 : decode (mB MX7_lostOf) 49 = .ok (.iinc 5 1, 3) := by decide +kernel
theorem eX7_lostOf_52 : decode (mB MX7_lostOf) 52 = .ok (.goto (-46), 3) := by decide +kernel
theorem eX7_lostOf_55 : decode (mB MX7_lostOf) 55 = .ok (.iload 4, 2) := by decide +kernel
theorem eX7_lostOf_57 : decode (mB MX7_lostOf) 57 = .ok (.ireturn, 1) := by decide +kernel
theorem eX7_tryLost_0 : decode (mB MX7_tryLost) 0 = .ok (.aload_n 2, 1) := by decide +kernel
theorem eX7_tryLost_1 : decode (mB MX7_tryLost) 1 = .ok (.getfield 44, 3) := by decide +kernel
theorem eX7_tryLost_4 : decode (mB MX7_tryLost) 4 = .ok (.ifCond .ne 4, 3) := by decide +kernel
theorem eX7_tryLost_7 : decode (mB MX7_tryLost) 7 = .ok (.return_, 1) := by decide +kernel
theorem eX7_tryLost_8 : decode (mB MX7_tryLost) 8 = .ok (.iconst 0, 1) := by decide +kernel
theorem eX7_tryLost_9 : decode (mB MX7_tryLost) 9 = .ok (.istore_n 3, 1) := by decide +kernel
theorem eX7_tryLost_10 : decode (mB MX7_tryLost) 10 = .ok (.iload_n 3, 1) := by decide +kernel
theorem eX7_tryLost_11 : decode (mB MX7_tryLost) 11 = .ok (.bipush 20, 2) := by decide +kernel
theorem eX7_tryLost_13 : decode (mB MX7_tryLost) 13 = .ok (.if_icmp .ge 44, 3) := by decide +kernel
theorem eX7_tryLost_16 : decode (mB MX7_tryLost) 16 = .ok (.aload_n 2, 1) := by decide +kernel
theorem eX7_tryLost_17 : decode (mB MX7_tryLost) 17 = .ok (.getfield 34, 3) := by decide +kernel
theorem eX7_tryLost_20 : decode (mB MX7_tryLost) 20 = .ok (.iload_n 3, 1) := by decide +kernel
theorem eX7_tryLost_21 : decode (mB MX7_tryLost) 21 = .ok (.iaload, 1) := by decide +kernel
theorem eX7_tryLost_22 : decode (mB MX7_tryLost) 22 = .ok (.ifCond .lt 29, 3) := by decide +kernel
theorem eX7_tryLost_25 : decode (mB MX7_tryLost) 25 = .ok (.aload_n 0, 1) := by decide +kernel
theorem eX7_tryLost_26 : decode (mB MX7_tryLost) 26 = .ok (.getfield 9, 3) := by decide +kernel
theorem eX7_tryLost_29 : decode (mB MX7_tryLost) 29 = .ok (.aload_n 2, 1) := by decide +kernel
theorem eX7_tryLost_30 : decode (mB MX7_tryLost) 30 = .ok (.getfield 34, 3) := by decide +kernel
theorem eX7_tryLost_33 : decode (mB MX7_tryLost) 33 = .ok (.iload_n 3, 1) := by decide +kernel
theorem eX7_tryLost_34 : decode (mB MX7_tryLost) 34 = .ok (.iaload, 1) := by decide +kernel
theorem eX7_tryLost_35 : decode (mB MX7_tryLost) 35 = .ok (.bipush 10, 2) := by decide +kernel
theorem eX7_tryLost_37 : decode (mB MX7_tryLost) 37 = .ok (.ishr, 1) := by decide +kernel
theorem eX7_tryLost_38 : decode (mB MX7_tryLost) 38 = .ok (.dup2, 1) := by decide +kernel
theorem eX7_tryLost_39 : decode (mB MX7_tryLost) 39 = .ok (.iaload, 1) := by decide +kernel
theorem eX7_tryLost_40 : decode (mB MX7_tryLost) 40 = .ok (.aload_n 2, 1) := by decide +kernel
theorem eX7_tryLost_41 : decode (mB MX7_tryLost) 41 = .ok (.getfield 34, 3) := by decide +kernel
theorem eX7_tryLost_44 : decode (mB MX7_tryLost) 44 = .ok (.iload_n 3, 1) := by decide +kernel
theorem eX7_tryLost_45 : decode (mB MX7_tryLost) 45 = .ok (.iaload, 1) := by decide +kernel
theorem eX7_tryLost_46 : decode (mB MX7_tryLost) 46 = .ok (.invokestatic 47, 3) := by decide +kernel
theorem eX7_tryLost_49 : decode (mB MX7_tryLost) 49 = .ok (.ior, 1) := by decide +kernel
theorem eX7_tryLost_50 : decode (mB MX7_tryLost) 50 = .ok (.iastore, 1) := by decide +kernel
theorem eX7_tryLost_51 : decode (mB MX7_tryLost) 51 = .ok (.iinc 3 1, 3) := by decide +kernel
theorem eX7_tryLost_54 : decode (mB MX7_tryLost) 54 = .ok (.goto (-44), 3) := by decide +kernel
theorem eX7_tryLost_57 : decode (mB MX7_tryLost) 57 = .ok (.iconst 0, 1) := by decide +kernel
theorem eX7_tryLost_58 : decode (mB MX7_tryLost) 58 = .ok (.istore_n 3, 1) := by decide +kernel
theorem eX7_tryLost_59 : decode (mB MX7_tryLost) 59 = .ok (.iload_n 3, 1) := by decide +kernel
theorem eX7_tryLost_60 : decode (mB MX7_tryLost) 60 = .ok (.aload_n 1, 1) := by decide +kernel
theorem eX7_tryLost_61 : decode (mB MX7_tryLost) 61 = .ok (.getfield 95, 3) := by decide +kernel
theorem eX7_tryLost_64 : decode (mB MX7_tryLost) 64 = .ok (.if_icmp .ge 69, 3) := by decide +kernel
theorem eX7_tryLost_67 : decode (mB MX7_tryLost) 67 = .ok (.iconst 0, 1) := by decide +kernel
theorem eX7_tryLost_68 : decode (mB MX7_tryLost) 68 = .ok (.istore 4, 2) := by decide +kernel
theorem eX7_tryLost_70 : decode (mB MX7_tryLost) 70 = .ok (.iload 4, 2) := by decide +kernel
theorem eX7_tryLost_72 : decode (mB MX7_tryLost) 72 = .ok (.aload_n 1, 1) := by decide +kernel
theorem eX7_tryLost_73 : decode (mB MX7_tryLost) 73 = .ok (.getfield 101, 3) := by decide +kernel
theorem eX7_tryLost_76 : decode (mB MX7_tryLost) 76 = .ok (.iload_n 3, 1) := by decide +kernel
theorem eX7_tryLost_77 : decode (mB MX7_tryLost) 77 = .ok (.iaload, 1) := by decide +kernel
theorem eX7_tryLost_78 : decode (mB MX7_tryLost) 78 = .ok (.if_icmp .ge 49, 3) := by decide +kernel
theorem eX7_tryLost_81 : decode (mB MX7_tryLost) 81 = .ok (.aload_n 2, 1) := by decide +kernel
theorem eX7_tryLost_82 : decode (mB MX7_tryLost) 82 = .ok (.iload_n 3, 1) := by decide +kernel
theorem eX7_tryLost_83 : decode (mB MX7_tryLost) 83 = .ok (.invokevirtual 41, 3) := by decide +kernel
theorem eX7_tryLost_86 : decode (mB MX7_tryLost) 86 = .ok (.ifCond .eq 41, 3) := by decide +kernel
theorem eX7_tryLost_89 : decode (mB MX7_tryLost) 89 = .ok (.aload_n 2, 1) := by decide +kernel
theorem eX7_tryLost_90 : decode (mB MX7_tryLost) 90 = .ok (.getfield 34, 3) := by decide +kernel
theorem eX7_tryLost_93 : decode (mB MX7_tryLost) 93 = .ok (.iload_n 3, 1) := by decide +kernel
theorem eX7_tryLost_94 : decode (mB MX7_tryLost) 94 = .ok (.iconst 2, 1) := by decide +kernel
theorem eX7_tryLost_95 : decode (mB MX7_tryLost) 95 = .ok (.imul, 1) := by decide +kernel
theorem eX7_tryLost_96 : decode (mB MX7_tryLost) 96 = .ok (.iload 4, 2) := by decide +kernel
theorem eX7_tryLost_98 : decode (mB MX7_tryLost) 98 = .ok (.iadd, 1) := by decide +kernel
theorem eX7_tryLost_99 : decode (mB MX7_tryLost) 99 = .ok (.iaload, 1) := by decide +kernel
theorem eX7_tryLost_100 : decode (mB MX7_tryLost) 100 = .ok (.ifCond .ge 21, 3) := by decide +kernel
theorem eX7_tryLost_103 : decode (mB MX7_tryLost) 103 = .ok (.aload_n 2, 1) := by decide +kernel
theorem eX7_tryLost_104 : decode (mB MX7_tryLost) 104 = .ok (.getfield 34, 3) := by decide +kernel
theorem eX7_tryLost_107 : decode (mB MX7_tryLost) 107 = .ok (.iload_n 3, 1) := by decide +kernel
theorem eX7_tryLost_108 : decode (mB MX7_tryLost) 108 = .ok (.iconst 2, 1) := by decide +kernel
theorem eX7_tryLost_109 : decode (mB MX7_tryLost) 109 = .ok (.imul, 1) := by decide +kernel
theorem eX7_tryLost_110 : decode (mB MX7_tryLost) 110 = .ok (.iload 4, 2) := by decide +kernel
theorem eX7_tryLost_112 : decode (mB MX7_tryLost) 112 = .ok (.iadd, 1) := by decide +kernel
theorem eX7_tryLost_113 : decode (mB MX7_tryLost) 113 = .ok (.aload_n 0, 1) := by decide +kernel
theorem eX7_tryLost_114 : decode (mB MX7_tryLost) 114 = .ok (.aload_n 1, 1) := by decide +kernel
theorem eX7_tryLost_115 : decode (mB MX7_tryLost) 115 = .ok (.aload_n 2, 1) := by decide +kernel
theorem eX7_tryLost_116 : decode (mB MX7_tryLost) 116 = .ok (.iload_n 3, 1) := by decide +kernel
theorem eX7_tryLost_117 : decode (mB MX7_tryLost) 117 = .ok (.invokevirtual 104, 3) := by decide +kernel
theorem eX7_tryLost_120 : decode (mB MX7_tryLost) 120 = .ok (.iastore, 1) := by decide +kernel
theorem eX7_tryLost_121 : decode (mB MX7_tryLost) 121 = .ok (.iinc 4 1, 3) := by decide +kernel
theorem eX7_tryLost_124 : decode (mB MX7_tryLost) 124 = .ok (.goto (-54), 3) := by decide +kernel
theorem eX7_tryLost_127 : decode (mB MX7_tryLost) 127 = .ok (.iinc 3 1, 3) := by decide +kernel
theorem eX7_tryLost_130 : decode (mB MX7_tryLost) 130 = .ok (.goto (-71), 3) := by decide +kernel
theorem eX7_tryLost_133 : decode (mB MX7_tryLost) 133 = .ok (.iconst 0, 1) := by decide +kernel
theorem eX7_tryLost_134 : decode (mB MX7_tryLost) 134 = .ok (.istore_n 3, 1) := by decide +kernel
theorem eX7_tryLost_135 : decode (mB MX7_tryLost) 135 = .ok (.iload_n 3, 1) := by decide +kernel
theorem eX7_tryLost_136 : decode (mB MX7_tryLost) 136 = .ok (.bipush 20, 2) := by decide +kernel
theorem eX7_tryLost_138 : decode (mB MX7_tryLost) 138 = .ok (.if_icmp .ge 33, 3) := by decide +kernel
theorem eX7_tryLost_141 : decode (mB MX7_tryLost) 141 = .ok (.aload_n 2, 1) := by decide +kernel
theorem eX7_tryLost_142 : decode (mB MX7_tryLost) 142 = .ok (.getfield 34, 3) := by decide +kernel
theorem eX7_tryLost_145 : decode (mB MX7_tryLost) 145 = .ok (.iload_n 3, 1) := by decide +kernel
theorem eX7_tryLost_146 : decode (mB MX7_tryLost) 146 = .ok (.iaload, 1) := by decide +kernel
theorem eX7_tryLost_147 : decode (mB MX7_tryLost) 147 = .ok (.ifCond .lt 18, 3) := by decide +kernel
theorem eX7_tryLost_150 : decode (mB MX7_tryLost) 150 = .ok (.aload_n 0, 1) := by decide +kernel
theorem eX7_tryLost_151 : decode (mB MX7_tryLost) 151 = .ok (.getfield 9, 3) := by decide +kernel
theorem eX7_tryLost_154 : decode (mB MX7_tryLost) 154 = .ok (.aload_n 2, 1) := by decide +kernel
theorem eX7_tryLost_155 : decode (mB MX7_tryLost) 155 = .ok (.getfield 34, 3) := by decide +kernel
theorem eX7_tryLost_158 : decode (mB MX7_tryLost) 158 = .ok (.iload_n 3, 1) := by decide +kernel
theorem eX7_tryLost_159 : decode (mB MX7_tryLost) 159 = .ok (.iaload, 1) := by decide +kernel
theorem eX7_tryLost_160 : decode (mB MX7_tryLost) 160 = .ok (.bipush 10, 2) := by decide +kernel
theorem eX7_tryLost_162 : decode (mB MX7_tryLost) 162 = .ok (.ishr, 1) := by decide +kernel
theorem eX7_tryLost_163 : decode (mB MX7_tryLost) 163 = .ok (.iconst 0, 1) := by decide +kernel
theorem eX7_tryLost_164 : decode (mB MX7_tryLost) 164 = .ok (.iastore, 1) := by decide +kernel
theorem eX7_tryLost_165 : decode (mB MX7_tryLost) 165 = .ok (.iinc 3 1, 3) := by decide +kernel
theorem eX7_tryLost_168 : decode (mB MX7_tryLost) 168 = .ok (.goto (-33), 3) := by decide +kernel
theorem eX7_tryLost_171 : decode (mB MX7_tryLost) 171 = .ok (.return_, 1) := by decide +kernel
theorem eX7_firstFree_0 : decode (mB MX7_firstFree) 0 = .ok (.iconst 0, 1) := by decide +kernel
theorem eX7_firstFree_1 : decode (mB MX7_firstFree) 1 = .ok (.istore 4, 2) := by decide +kernel
theorem eX7_firstFree_3 : decode (mB MX7_firstFree) 3 = .ok (.iload 4, 2) := by decide +kernel
theorem eX7_firstFree_5 : decode (mB MX7_firstFree) 5 = .ok (.aload_n 1, 1) := by decide +kernel
theorem eX7_firstFree_6 : decode (mB MX7_firstFree) 6 = .ok (.getfield 107, 3) := by decide +kernel
theorem eX7_firstFree_9 : decode (mB MX7_firstFree) 9 = .ok (.if_icmp .ge 128, 3) := by decide +kernel
theorem eX7_firstFree_12 : decode (mB MX7_firstFree) 12 = .ok (.aload_n 1, 1) := by decide +kernel
theorem eX7_firstFree_13 : decode (mB MX7_firstFree) 13 = .ok (.iload 4, 2) := by decide +kernel
theorem eX7_firstFree_15 : decode (mB MX7_firstFree) 15 = .ok (.iload_n 3, 1) := by decide +kernel
theorem eX7_firstFree_16 : decode (mB MX7_firstFree) 16 = .ok (.iconst 0, 1) := by decide +kernel
theorem eX7_firstFree_17 : decode (mB MX7_firstFree) 17 = .ok (.invokevirtual 110, 3) := by decide +kernel
theorem eX7_firstFree_20 : decode (mB MX7_firstFree) 20 = .ok (.ifCond .ne 7, 3) := by decide +kernel
theorem eX7_firstFree_23 : decode (mB MX7_firstFree) 23 = .ok (.iconst 0, 1) := by decide +kernel
theorem eX7_firstFree_24 : decode (mB MX7_firstFree) 24 = .ok (.goto 10, 3) := by decide +kernel
theorem eX7_firstFree_27 : decode (mB MX7_firstFree) 27 = .ok (.aload_n 2, 1) := by decide +kernel
theorem eX7_firstFree_28 : decode (mB MX7_firstFree) 28 = .ok (.getfield 27, 3) := by decide +kernel
theorem eX7_firstFree_31 : decode (mB MX7_firstFree) 31 = .ok (.iload 4, 2) := by decide +kernel
theorem eX7_firstFree_33 : decode (mB MX7_firstFree) 33 = .ok (.iaload, 1) := by decide +kernel
theorem eX7_firstFree_34 : decode (mB MX7_firstFree) 34 = .ok (.istore 5, 2) := by decide +kernel
theorem eX7_firstFree_36 : decode (mB MX7_firstFree) 36 = .ok (.iconst 0, 1) := by decide +kernel
theorem eX7_firstFree_37 : decode (mB MX7_firstFree) 37 = .ok (.istore 6, 2) := by decide +kernel
theorem eX7_firstFree_39 : decode (mB MX7_firstFree) 39 = .ok (.iload 6, 2) := by decide +kernel
theorem eX7_firstFree_41 : decode (mB MX7_firstFree) 41 = .ok (.iload 5, 2) := by decide +kernel
theorem eX7_firstFree_43 : decode (mB MX7_firstFree) 43 = .ok (.if_icmp .ge 88, 3) := by decide +kernel
theorem eX7_firstFree_46 : decode (mB MX7_firstFree) 46 = .ok (.iload 4, 2) := by decide +kernel
theorem eX7_firstFree_48 : decode (mB MX7_firstFree) 48 = .ok (.bipush 9, 2) := by decide +kernel
theorem eX7_firstFree_50 : decode (mB MX7_firstFree) 50 = .ok (.imul, 1) := by decide +kernel
theorem eX7_firstFree_51 : decode (mB MX7_firstFree) 51 = .ok (.iload 6, 2) := by decide +kernel
theorem eX7_firstFree_53 : decode (mB MX7_firstFree) 53 = .ok (.iadd, 1) := by decide +kernel
theorem eX7_firstFree_54 : decode (mB MX7_firstFree) 54 = .ok (.istore 7, 2) := by decide +kernel
theorem eX7_firstFree_56 : decode (mB MX7_firstFree) 56 = .ok (.iconst 0, 1) := by decide +kernel
theorem eX7_firstFree_57 : decode (mB MX7_firstFree) 57 = .ok (.istore 8, 2) := by decide +kernel
theorem eX7_firstFree_59 : decode (mB MX7_firstFree) 59 = .ok (.iload 8, 2) := by decide +kernel
theorem eX7_firstFree_61 : decode (mB MX7_firstFree) 61 = .ok (.iconst 2, 1) := by decide +kernel
theorem eX7_firstFree_62 : decode (mB MX7_firstFree) 62 = .ok (.if_icmp .ge 63, 3) := by decide +kernel
theorem eX7_firstFree_65 : decode (mB MX7_firstFree) 65 = .ok (.aload_n 1, 1) := by decide +kernel
theorem eX7_firstFree_66 : decode (mB MX7_firstFree) 66 = .ok (.iload 4, 2) := by decide +kernel
theorem eX7_firstFree_68 : decode (mB MX7_firstFree) 68 = .ok (.iload_n 3, 1) := by decide +kernel
theorem eX7_firstFree_69 : decode (mB MX7_firstFree) 69 = .ok (.iload 8, 2) := by decide +kernel
theorem eX7_firstFree_71 : decode (mB MX7_firstFree) 71 = .ok (.invokevirtual 110, 3) := by decide +kernel
theorem eX7_firstFree_74 : decode (mB MX7_firstFree) 74 = .ok (.istore 9, 2) := by decide +kernel
theorem eX7_firstFree_76 : decode (mB MX7_firstFree) 76 = .ok (.iload 9, 2) := by decide +kernel
theorem eX7_firstFree_78 : decode (mB MX7_firstFree) 78 = .ok (.ifCond .eq 41, 3) := by decide +kernel
theorem eX7_firstFree_81 : decode (mB MX7_firstFree) 81 = .ok (.iload 9, 2) := by decide +kernel
theorem eX7_firstFree_83 : decode (mB MX7_firstFree) 83 = .ok (.aload_n 2, 1) := by decide +kernel
theorem eX7_firstFree_84 : decode (mB MX7_firstFree) 84 = .ok (.getfield 44, 3) := by decide +kernel
theorem eX7_firstFree_87 : decode (mB MX7_firstFree) 87 = .ok (.aload_n 0, 1) := by decide +kernel
theorem eX7_firstFree_88 : decode (mB MX7_firstFree) 88 = .ok (.getfield 9, 3) := by decide +kernel
theorem eX7_firstFree_91 : decode (mB MX7_firstFree) 91 = .ok (.iload 7, 2) := by decide +kernel
theorem eX7_firstFree_93 : decode (mB MX7_firstFree) 93 = .ok (.iaload, 1) := by decide +kernel
theorem eX7_firstFree_94 : decode (mB MX7_firstFree) 94 = .ok (.ior, 1) := by decide +kernel
theorem eX7_firstFree_95 : decode (mB MX7_firstFree) 95 = .ok (.iand, 1) := by decide +kernel
theorem eX7_firstFree_96 : decode (mB MX7_firstFree) 96 = .ok (.ifCond .ne 23, 3) := by decide +kernel
theorem eX7_firstFree_99 : decode (mB MX7_firstFree) 99 = .ok (.aload_n 0, 1) := by decide +kernel
theorem eX7_firstFree_100 : decode (mB MX7_firstFree) 100 = .ok (.getfield 9, 3) := by decide +kernel
theorem eX7_firstFree_103 : decode (mB MX7_firstFree) 103 = .ok (.iload 7, 2) := by decide +kernel
theorem eX7_firstFree_105 : decode (mB MX7_firstFree) 105 = .ok (.dup2, 1) := by decide +kernel
theorem eX7_firstFree_106 : decode (mB MX7_firstFree) 106 = .ok (.iaload, 1) := by decide +kernel
theorem eX7_firstFree_107 : decode (mB MX7_firstFree) 107 = .ok (.iload 9, 2) := by decide +kernel
theorem eX7_firstFree_109 : decode (mB MX7_firstFree) 109 = .ok (.ior, 1) := by decide +kernel
theorem eX7_firstFree_110 : decode (mB MX7_firstFree) 110 = .ok (.iastore, 1) := by decide +kernel
theorem eX7_firstFree_111 : decode (mB MX7_firstFree) 111 = .ok (.iload 7, 2) := by decide +kernel
theorem eX7_firstFree_113 : decode (mB MX7_firstFree) 113 = .ok (.iload 9, 2) := by decide +kernel
theorem eX7_firstFree_115 : decode (mB MX7_firstFree) 115 = .ok (.invokestatic 114, 3) := by decide +kernel
theorem eX7_firstFree_118 : decode (mB MX7_firstFree) 118 = .ok (.ireturn, 1) := by decide +kernel
theorem eX7_firstFree_119 : decode (mB MX7_firstFree) 119 = .ok (.iinc 8 1, 3) := by decide +kernel
theorem eX7_firstFree_122 : decode (mB MX7_firstFree) 122 = .ok (.goto (-63), 3) := by decide +kernel
theorem eX7_firstFree_125 : decode (mB MX7_firstFree) 125 = .ok (.iinc 6 1, 3) := by decide +kernel
theorem eX7_firstFree_128 : decode (mB MX7_firstFree) 128 = .ok (.goto (-89), 3) := by decide +kernel
theorem eX7_firstFree_131 : decode (mB MX7_firstFree) 131 = .ok (.iinc 4 1, 3) := by decide +kernel
theorem eX7_firstFree_134 : decode (mB MX7_firstFree) 134 = .ok (.goto (-131), 3) := by decide +kernel
theorem eX7_firstFree_137 : decode (mB MX7_firstFree) 137 = .ok (.iconst (-1), 1) := by decide +kernel
theorem eX7_firstFree_138 : decode (mB MX7_firstFree) 138 = .ok (.ireturn, 1) := by decide +kernel
theorem eX8_init_0 : decode (mB MX8_init) 0 = .ok (.aload_n 0, 1) := by decide +kernel
theorem eX8_init_1 : decode (mB MX8_init) 1 = .ok (.invokespecial 3, 3) := by decide +kernel
theorem eX8_init_4 : decode (mB MX8_init) 4 = .ok (.aload_n 0, 1) := by decide +kernel
theorem eX8_init_5 : decode (mB MX8_init) 5 = .ok (.iconst 0, 1) := by decide +kernel
theorem eX8_init_6 : decode (mB MX8_init) 6 = .ok (.putfield 9, 3) := by decide +kernel
theorem eX8_init_9 : decode (mB MX8_init) 9 = .ok (.aload_n 0, 1) := by decide +kernel
theorem eX8_init_10 : decode (mB MX8_init) 10 = .ok (.iconst (-1), 1) := by decide +kernel
theorem eX8_init_11 : decode (mB MX8_init) 11 = .ok (.putfield 15, 3) := by decide +kernel
theorem eX8_init_14 : decode (mB MX8_init) 14 = .ok (.aload_n 0, 1) := by decide +kernel
theorem eX8_init_15 : decode (mB MX8_init) 15 = .ok (.bipush 40, 2) := by decide +kernel
theorem eX8_init_17 : decode (mB MX8_init) 17 = .ok (.newarray .long, 2) := by decide +kernel
theorem eX8_init_19 : decode (mB MX8_init) 19 = .ok (.putfield 18, 3) := by decide +kernel
theorem eX8_init_22 : decode (mB MX8_init) 22 = .ok (.return_, 1) := by decide +kernel
theorem eX8_isMissing_0 : decode (mB MX8_isMissing) 0 = .ok (.aload_n 0, 1) := by decide +kernel
theorem eX8_isMissing_1 : decode (mB MX8_isMissing) 1 = .ok (.getfield 15, 3) := by decide +kernel
theorem eX8_isMissing_4 : decode (mB MX8_isMissing) 4 = .ok (.ifCond .ge 7, 3) := by decide +kernel
theorem eX8_isMissing_7 : decode (mB MX8_isMissing) 7 = .ok (.iconst 1, 1) := by decide +kernel
theorem eX8_isMissing_8 : decode (mB MX8_isMissing) 8 = .ok (.goto 4, 3) := by decide +kernel
theorem eX8_isMissing_11 : decode (mB MX8_isMissing) 11 = .ok (.iconst 0, 1) := by decide +kernel
theorem eX8_isMissing_12 : decode (mB MX8_isMissing) 12 = .ok (.ireturn, 1) := by decide +kernel
theorem eX8_begin_0 : decode (mB MX8_begin) 0 = .ok (.aload_n 0, 1) := by decide +kernel
theorem eX8_begin_1 : decode (mB MX8_begin) 1 = .ok (.iload_n 1, 1) := by decide +kernel
theorem eX8_begin_2 : decode (mB MX8_begin) 2 = .ok (.putfield 9, 3) := by decide +kernel
theorem eX8_begin_5 : decode (mB MX8_begin) 5 = .ok (.aload_n 0, 1) := by decide +kernel
theorem eX8_begin_6 : decode (mB MX8_begin) 6 = .ok (.iload_n 2, 1) := by decide +kernel
theorem eX8_begin_7 : decode (mB MX8_begin) 7 = .ok (.putfield 15, 3) := by decide +kernel
theorem eX8_begin_10 : decode (mB MX8_begin) 10 = .ok (.iconst 0, 1) := by decide +kernel
theorem eX8_begin_11 : decode (mB MX8_begin) 11 = .ok (.istore_n 3, 1) := by decide +kernel
theorem eX8_begin_12 : decode (mB MX8_begin) 12 = .ok (.iload_n 3, 1) := by decide +kernel
theorem eX8_begin_13 : decode (mB MX8_begin) 13 = .ok (.bipush 40, 2) := by decide +kernel
theorem eX8_begin_15 : decode (mB MX8_begin) 15 = .ok (.if_icmp .ge 16, 3) := by decide +kernel
theorem eX8_begin_18 : decode (mB MX8_begin) 18 = .ok (.aload_n 0, 1) := by decide +kernel
theorem eX8_begin_19 : decode (mB MX8_begin) 19 = .ok (.getfield 18, 3) := by decide +kernel
theorem eX8_begin_22 : decode (mB MX8_begin) 22 = .ok (.iload_n 3, 1) := by decide +kernel
theorem eX8_begin_23 : decode (mB MX8_begin) 23 = .ok (.lconst 0, 1) := by decide +kernel
theorem eX8_begin_24 : decode (mB MX8_begin) 24 = .ok (.lastore, 1) := by decide +kernel
theorem eX8_begin_25 : decode (mB MX8_begin) 25 = .ok (.iinc 3 1, 3) := by decide +kernel
theorem eX8_begin_28 : decode (mB MX8_begin) 28 = .ok (.goto (-16), 3) := by decide +kernel
theorem eX8_begin_31 : decode (mB MX8_begin) 31 = .ok (.return_, 1) := by decide +kernel
theorem eX8_put_0 : decode (mB MX8_put) 0 = .ok (.aload_n 0, 1) := by decide +kernel
theorem eX8_put_1 : decode (mB MX8_put) 1 = .ok (.getfield 9, 3) := by decide +kernel
theorem eX8_put_4 : decode (mB MX8_put) 4 = .ok (.tableswitch 66 0 2 #[28, 41, 54], 28) := by decide +kernel
theorem eX8_put_32 : decode (mB MX8_put) 32 = .ok (.aload_n 0, 1) := by decide +kernel
theorem eX8_put_33 : decode (mB MX8_put) 33 = .ok (.getfield 18, 3) := by decide +kernel
theorem eX8_put_36 : decode (mB MX8_put) 36 = .ok (.iload_n 1, 1) := by decide +kernel
theorem eX8_put_37 : decode (mB MX8_put) 37 = .ok (.lload_n 2, 1) := by decide +kernel
theorem eX8_put_38 : decode (mB MX8_put) 38 = .ok (.l2i, 1) := by decide +kernel
theorem eX8_put_39 : decode (mB MX8_put) 39 = .ok (.i2b, 1) := by decide +kernel
theorem eX8_put_40 : decode (mB MX8_put) 40 = .ok (.i2l, 1) := by decide +kernel
theorem eX8_put_41 : decode (mB MX8_put) 41 = .ok (.lastore, 1) := by decide +kernel
theorem eX8_put_42 : decode (mB MX8_put) 42 = .ok (.goto 35, 3) := by decide +kernel
theorem eX8_put_45 : decode (mB MX8_put) 45 = .ok (.aload_n 0, 1) := by decide +kernel
theorem eX8_put_46 : decode (mB MX8_put) 46 = .ok (.getfield 18, 3) := by decide +kernel
theorem eX8_put_49 : decode (mB MX8_put) 49 = .ok (.iload_n 1, 1) := by decide +kernel
theorem eX8_put_50 : decode (mB MX8_put) 50 = .ok (.lload_n 2, 1) := by decide +kernel
theorem eX8_put_51 : decode (mB MX8_put) 51 = .ok (.l2i, 1) := by decide +kernel
theorem eX8_put_52 : decode (mB MX8_put) 52 = .ok (.i2s, 1) := by decide +kernel
theorem eX8_put_53 : decode (mB MX8_put) 53 = .ok (.i2l, 1) := by decide +kernel
theorem eX8_put_54 : decode (mB MX8_put) 54 = .ok (.lastore, 1) := by decide +kernel
theorem eX8_put_55 : decode (mB MX8_put) 55 = .ok (.goto 22, 3) := by decide +kernel
theorem eX8_put_58 : decode (mB MX8_put) 58 = .ok (.aload_n 0, 1) := by decide +kernel
theorem eX8_put_59 : decode (mB MX8_put) 59 = .ok (.getfield 18, 3) := by decide +kernel
theorem eX8_put_62 : decode (mB MX8_put) 62 = .ok (.iload_n 1, 1) := by decide +kernel
theorem eX8_put_63 : decode (mB MX8_put) 63 = .ok (.lload_n 2, 1) := by decide +kernel
theorem eX8_put_64 : decode (mB MX8_put) 64 = .ok (.l2i, 1) := by decide +kernel
theorem eX8_put_65 : decode (mB MX8_put) 65 = .ok (.i2l, 1) := by decide +kernel
theorem eX8_put_66 : decode (mB MX8_put) 66 = .ok (.lastore, 1) := by decide +kernel
theorem eX8_put_67 : decode (mB MX8_put) 67 = .ok (.goto 10, 3) := by decide +kernel
theorem eX8_put_70 : decode (mB MX8_put) 70 = .ok (.aload_n 0, 1) := by decide +kernel
theorem eX8_put_71 : decode (mB MX8_put) 71 = .ok (.getfield 18, 3) := by decide +kernel
theorem eX8_put_74 : decode (mB MX8_put) 74 = .ok (.iload_n 1, 1) := by decide +kernel
theorem eX8_put_75 : decode (mB MX8_put) 75 = .ok (.lload_n 2, 1) := by decide +kernel
theorem eX8_put_76 : decode (mB MX8_put) 76 = .ok (.lastore, 1) := by decide +kernel
theorem eX8_put_77 : decode (mB MX8_put) 77 = .ok (.return_, 1) := by decide +kernel
theorem eX9_init_0 : decode (mB MX9_init) 0 = .ok (.aload_n 0, 1) := by decide +kernel
theorem eX9_init_1 : decode (mB MX9_init) 1 = .ok (.invokespecial 3, 3) := by decide +kernel
theorem eX9_init_4 : decode (mB MX9_init) 4 = .ok (.aload_n 0, 1) := by decide +kernel
theorem eX9_init_5 : decode (mB MX9_init) 5 = .ok (.new 9, 3) := by decide +kernel
theorem eX9_init_8 : decode (mB MX9_init) 8 = .ok (.dup, 1) := by decide +kernel
theorem eX9_init_9 : decode (mB MX9_init) 9 = .ok (.invokespecial 11, 3) := by decide +kernel
theorem eX9_init_12 : decode (mB MX9_init) 12 = .ok (.putfield 12, 3) := by decide +kernel
theorem eX9_init_15 : decode (mB MX9_init) 15 = .ok (.aload_n 0, 1) := by decide +kernel
theorem eX9_init_16 : decode (mB MX9_init) 16 = .ok (.new 16, 3) := by decide +kernel
theorem eX9_init_19 : decode (mB MX9_init) 19 = .ok (.dup, 1) := by decide +kernel
theorem eX9_init_20 : decode (mB MX9_init) 20 = .ok (.invokespecial 18, 3) := by decide +kernel
theorem eX9_init_23 : decode (mB MX9_init) 23 = .ok (.putfield 19, 3) := by decide +kernel
theorem eX9_init_26 : decode (mB MX9_init) 26 = .ok (.aload_n 0, 1) := by decide +kernel
theorem eX9_init_27 : decode (mB MX9_init) 27 = .ok (.new 23, 3) := by decide +kernel
theorem eX9_init_30 : decode (mB MX9_init) 30 = .ok (.dup, 1) := by decide +kernel
theorem eX9_init_31 : decode (mB MX9_init) 31 = .ok (.invokespecial 25, 3) := by decide +kernel
theorem eX9_init_34 : decode (mB MX9_init) 34 = .ok (.putfield 26, 3) := by decide +kernel
theorem eX9_init_37 : decode (mB MX9_init) 37 = .ok (.aload_n 0, 1) := by decide +kernel
theorem eX9_init_38 : decode (mB MX9_init) 38 = .ok (.new 23, 3) := by decide +kernel
theorem eX9_init_41 : decode (mB MX9_init) 41 = .ok (.dup, 1) := by decide +kernel
theorem eX9_init_42 : decode (mB MX9_init) 42 = .ok (.invokespecial 25, 3) := by decide +kernel
theorem eX9_init_45 : decode (mB MX9_init) 45 = .ok (.putfield 30, 3) := by decide +kernel
theorem eX9_init_48 : decode (mB MX9_init) 48 = .ok (.aload_n 0, 1) := by decide +kernel
theorem eX9_init_49 : decode (mB MX9_init) 49 = .ok (.iconst 4, 1) := by decide +kernel
theorem eX9_init_50 : decode (mB MX9_init) 50 = .ok (.invokestatic 33, 3) := by decide +kernel
theorem eX9_init_53 : decode (mB MX9_init) 53 = .ok (.putfield 37, 3) := by decide +kernel
theorem eX9_init_56 : decode (mB MX9_init) 56 = .ok (.aload_n 0, 1) := by decide +kernel
theorem eX9_init_57 : decode (mB MX9_init) 57 = .ok (.new 41, 3) := by decide +kernel
theorem eX9_init_60 : decode (mB MX9_init) 60 = .ok (.dup, 1) := by decide +kernel
theorem eX9_init_61 : decode (mB MX9_init) 61 = .ok (.invokespecial 43, 3) := by decide +kernel
theorem eX9_init_64 : decode (mB MX9_init) 64 = .ok (.putfield 44, 3) := by decide +kernel
theorem eX9_init_67 : decode (mB MX9_init) 67 = .ok (.aload_n 0, 1) := by decide +kernel
theorem eX9_init_68 : decode (mB MX9_init) 68 = .ok (.new 48, 3) := by decide +kernel
theorem eX9_init_71 : decode (mB MX9_init) 71 = .ok (.dup, 1) := by decide +kernel
theorem eX9_init_72 : decode (mB MX9_init) 72 = .ok (.invokespecial 50, 3) := by decide +kernel
theorem eX9_init_75 : decode (mB MX9_init) 75 = .ok (.putfield 51, 3) := by decide +kernel
theorem eX9_init_78 : decode (mB MX9_init) 78 = .ok (.aload_n 0, 1) := by decide +kernel
theorem eX9_init_79 : decode (mB MX9_init) 79 = .ok (.new 55, 3) := by decide +kernel
theorem eX9_init_82 : decode (mB MX9_init) 82 = .ok (.dup, 1) := by decide +kernel
theorem eX9_init_83 : decode (mB MX9_init) 83 = .ok (.invokespecial 57, 3) := by decide +kernel
theorem eX9_init_86 : decode (mB MX9_init) 86 = .ok (.putfield 58, 3) := by decide +kernel
theorem eX9_init_89 : decode (mB MX9_init) 89 = .ok (.aload_n 0, 1) := by decide +kernel
theorem eX9_init_90 : decode (mB MX9_init) 90 = .ok (.new 62, 3) := by decide +kernel
theorem eX9_init_93 : decode (mB MX9_init) 93 = .ok (.dup, 1) := by decide +kernel
theorem eX9_init_94 : decode (mB MX9_init) 94 = .ok (.invokespecial 64, 3) := by decide +kernel
theorem eX9_init_97 : decode (mB MX9_init) 97 = .ok (.putfield 65, 3) := by decide +kernel
theorem eX9_init_100 : decode (mB MX9_init) 100 = .ok (.aload_n 0, 1) := by decide +kernel
theorem eX9_init_101 : decode (mB MX9_init) 101 = .ok (.invokestatic 69, 3) := by decide +kernel
theorem eX9_init_104 : decode (mB MX9_init) 104 = .ok (.putfield 73, 3) := by decide +kernel
theorem eX9_init_107 : decode (mB MX9_init) 107 = .ok (.aload_n 0, 1) := by decide +kernel
theorem eX9_init_108 : decode (mB MX9_init) 108 = .ok (.iconst 2, 1) := by decide +kernel
theorem eX9_init_109 : decode (mB MX9_init) 109 = .ok (.anewarray 16, 3) := by decide +kernel
theorem eX9_init_112 : decode (mB MX9_init) 112 = .ok (.putfield 77, 3) := by decide +kernel
theorem eX9_init_115 : decode (mB MX9_init) 115 = .ok (.aload_n 0, 1) := by decide +kernel
theorem eX9_init_116 : decode (mB MX9_init) 116 = .ok (.iconst 2, 1) := by decide +kernel
theorem eX9_init_117 : decode (mB MX9_init) 117 = .ok (.invokestatic 33, 3) := by decide +kernel
theorem eX9_init_120 : decode (mB MX9_init) 120 = .ok (.putfield 81, 3) := by decide +kernel
theorem eX9_init_123 : decode (mB MX9_init) 123 = .ok (.return_, 1) := by decide +kernel
theorem eX9_newStates_0 : decode (mB MX9_newStates) 0 = .ok (.iload_n 0, 1) := by decide +kernel
theorem eX9_newStates_1 : decode (mB MX9_newStates) 1 = .ok (.anewarray 23, 3) := by decide +kernel
theorem eX9_newStates_4 : decode (mB MX9_newStates) 4 = .ok (.astore_n 1, 1) := by decide +kernel
theorem eX9_newStates_5 : decode (mB MX9_newStates) 5 = .ok (.iconst 0, 1) := by decide +kernel
theorem eX9_newStates_6 : decode (mB MX9_newStates) 6 = .ok (.istore_n 2, 1) := by decide +kernel
theorem eX9_newStates_7 : decode (mB MX9_newStates) 7 = .ok (.iload_n 2, 1) := by decide +kernel
theorem eX9_newStates_8 : decode (mB MX9_newStates) 8 = .ok (.iload_n 0, 1) := by decide +kernel
theorem eX9_newStates_9 : decode (mB MX9_newStates) 9 = .ok (.if_icmp .ge 19, 3) := by decide +kernel
theorem eX9_newStates_12 : decode (mB MX9_newStates) 12 = .ok (.aload_n 1, 1) := by decide +kernel
theorem eX9_newStates_13 : decode (mB MX9_newStates) 13 = .ok (.iload_n 2, 1) := by decide +kernel
theorem eX9_newStates_14 : decode (mB MX9_newStates) 14 = .ok (.new 23, 3) := by decide +kernel
theorem eX9_newStates_17 : decode (mB MX9_newStates) 17 = .ok (.dup, 1) := by decide +kernel
theorem eX9_newStates_18 : decode (mB MX9_newStates) 18 = .ok (.invokespecial 25, 3) := by decide +kernel
theorem eX9_newStates_21 : decode (mB MX9_newStates) 21 = .ok (.aastore, 1) := by decide +kernel
theorem eX9_newStates_22 : decode (mB MX9_newStates) 22 = .ok (.iinc 2 1, 3) := by decide +kernel
theorem eX9_newStates_25 : decode (mB MX9_newStates) 25 = .ok (.goto (-18), 3) := by decide +kernel
theorem eX9_newStates_28 : decode (mB MX9_newStates) 28 = .ok (.aload_n 1, 1) := by decide +kernel
theorem eX9_newStates_29 : decode (mB MX9_newStates) 29 = .ok (.areturn, 1) := by decide +kernel
theorem eX9_newTrays_0 : decode (mB MX9_newTrays) 0 = .ok (.iconst 4, 1) := by decide +kernel
theorem eX9_newTrays_1 : decode (mB MX9_newTrays) 1 = .ok (.anewarray 84, 3) := by decide +kernel
theorem eX9_newTrays_4 : decode (mB MX9_newTrays) 4 = .ok (.astore_n 0, 1) := by decide +kernel
theorem eX9_newTrays_5 : decode (mB MX9_newTrays) 5 = .ok (.iconst 0, 1) := by decide +kernel
theorem eX9_newTrays_6 : decode (mB MX9_newTrays) 6 = .ok (.istore_n 1, 1) := by decide +kernel
theorem eX9_newTrays_7 : decode (mB MX9_newTrays) 7 = .ok (.iload_n 1, 1) := by decide +kernel
theorem eX9_newTrays_8 : decode (mB MX9_newTrays) 8 = .ok (.iconst 4, 1) := by decide +kernel
theorem eX9_newTrays_9 : decode (mB MX9_newTrays) 9 = .ok (.if_icmp .ge 19, 3) := by decide +kernel
theorem eX9_newTrays_12 : decode (mB MX9_newTrays) 12 = .ok (.aload_n 0, 1) := by decide +kernel
theorem eX9_newTrays_13 : decode (mB MX9_newTrays) 13 = .ok (.iload_n 1, 1) := by decide +kernel
theorem eX9_newTrays_14 : decode (mB MX9_newTrays) 14 = .ok (.new 84, 3) := by decide +kernel
theorem eX9_newTrays_17 : decode (mB MX9_newTrays) 17 = .ok (.dup, 1) := by decide +kernel
theorem eX9_newTrays_18 : decode (mB MX9_newTrays) 18 = .ok (.invokespecial 86, 3) := by decide +kernel
theorem eX9_newTrays_21 : decode (mB MX9_newTrays) 21 = .ok (.aastore, 1) := by decide +kernel
theorem eX9_newTrays_22 : decode (mB MX9_newTrays) 22 = .ok (.iinc 1 1, 3) := by decide +kernel
theorem eX9_newTrays_25 : decode (mB MX9_newTrays) 25 = .ok (.goto (-18), 3) := by decide +kernel
theorem eX9_newTrays_28 : decode (mB MX9_newTrays) 28 = .ok (.aload_n 0, 1) := by decide +kernel
theorem eX9_newTrays_29 : decode (mB MX9_newTrays) 29 = .ok (.areturn, 1) := by decide +kernel
theorem eX9_feed_0 : decode (mB MX9_feed) 0 = .ok (.aload_n 0, 1) := by decide +kernel
theorem eX9_feed_1 : decode (mB MX9_feed) 1 = .ok (.getfield 12, 3) := by decide +kernel
theorem eX9_feed_4 : decode (mB MX9_feed) 4 = .ok (.getfield 87, 3) := by decide +kernel
theorem eX9_feed_7 : decode (mB MX9_feed) 7 = .ok (.bipush 20, 2) := by decide +kernel
theorem eX9_feed_9 : decode (mB MX9_feed) 9 = .ok (.iadd, 1) := by decide +kernel
theorem eX9_feed_10 : decode (mB MX9_feed) 10 = .ok (.sipush 900, 3) := by decide +kernel
theorem eX9_feed_13 : decode (mB MX9_feed) 13 = .ok (.if_icmp .le 6, 3) := by decide +kernel
theorem eX9_feed_16 : decode (mB MX9_feed) 16 = .ok (.bipush (-5), 2) := by decide +kernel
theorem eX9_feed_18 : decode (mB MX9_feed) 18 = .ok (.ireturn, 1) := by decide +kernel
theorem eX9_feed_19 : decode (mB MX9_feed) 19 = .ok (.aload_n 0, 1) := by decide +kernel
theorem eX9_feed_20 : decode (mB MX9_feed) 20 = .ok (.getfield 12, 3) := by decide +kernel
theorem eX9_feed_23 : decode (mB MX9_feed) 23 = .ok (.iload_n 1, 1) := by decide +kernel
theorem eX9_feed_24 : decode (mB MX9_feed) 24 = .ok (.invokevirtual 91, 3) := by decide +kernel
theorem eX9_feed_27 : decode (mB MX9_feed) 27 = .ok (.aload_n 0, 1) := by decide +kernel
theorem eX9_feed_28 : decode (mB MX9_feed) 28 = .ok (.getfield 12, 3) := by decide +kernel
theorem eX9_feed_31 : decode (mB MX9_feed) 31 = .ok (.iload_n 2, 1) := by decide +kernel
theorem eX9_feed_32 : decode (mB MX9_feed) 32 = .ok (.invokevirtual 91, 3) := by decide +kernel
theorem eX9_feed_35 : decode (mB MX9_feed) 35 = .ok (.aload_n 0, 1) := by decide +kernel
theorem eX9_feed_36 : decode (mB MX9_feed) 36 = .ok (.getfield 12, 3) := by decide +kernel
theorem eX9_feed_39 : decode (mB MX9_feed) 39 = .ok (.iload_n 3, 1) := by decide +kernel
theorem eX9_feed_40 : decode (mB MX9_feed) 40 = .ok (.invokevirtual 91, 3) := by decide +kernel
theorem eX9_feed_43 : decode (mB MX9_feed) 43 = .ok (.aload_n 0, 1) := by decide +kernel
theorem eX9_feed_44 : decode (mB MX9_feed) 44 = .ok (.getfield 12, 3) := by decide +kernel
theorem eX9_feed_47 : decode (mB MX9_feed) 47 = .ok (.iload 4, 2) := by decide +kernel
theorem eX9_feed_49 : decode (mB MX9_feed) 49 = .ok (.invokevirtual 91, 3) := by decide +kernel
theorem eX9_feed_52 : decode (mB MX9_feed) 52 = .ok (.aload_n 0, 1) := by decide +kernel
theorem eX9_feed_53 : decode (mB MX9_feed) 53 = .ok (.getfield 12, 3) := by decide +kernel
theorem eX9_feed_56 : decode (mB MX9_feed) 56 = .ok (.iload 5, 2) := by decide +kernel
theorem eX9_feed_58 : decode (mB MX9_feed) 58 = .ok (.invokevirtual 91, 3) := by decide +kernel
theorem eX9_feed_61 : decode (mB MX9_feed) 61 = .ok (.aload_n 0, 1) := by decide +kernel
theorem eX9_feed_62 : decode (mB MX9_feed) 62 = .ok (.getfield 12, 3) := by decide +kernel
theorem eX9_feed_65 : decode (mB MX9_feed) 65 = .ok (.getfield 87, 3) := by decide +kernel
theorem eX9_feed_68 : decode (mB MX9_feed) 68 = .ok (.ireturn, 1) := by decide +kernel
theorem eX9_net_0 : decode (mB MX9_net) 0 = .ok (.iload_n 1, 1) := by decide +kernel
theorem eX9_net_1 : decode (mB MX9_net) 1 = .ok (.ifCond .lt 14, 3) := by decide +kernel
theorem eX9_net_4 : decode (mB MX9_net) 4 = .ok (.iload_n 1, 1) := by decide +kernel
theorem eX9_net_5 : decode (mB MX9_net) 5 = .ok (.aload_n 0, 1) := by decide +kernel
theorem eX9_net_6 : decode (mB MX9_net) 6 = .ok (.getfield 12, 3) := by decide +kernel
theorem eX9_net_9 : decode (mB MX9_net) 9 = .ok (.getfield 87, 3) := by decide +kernel
theorem eX9_net_12 : decode (mB MX9_net) 12 = .ok (.if_icmp .le 6, 3) := by decide +kernel
theorem eX9_net_15 : decode (mB MX9_net) 15 = .ok (.bipush (-3), 2) := by decide +kernel
theorem eX9_net_17 : decode (mB MX9_net) 17 = .ok (.ireturn, 1) := by decide +kernel
theorem eX9_net_18 : decode (mB MX9_net) 18 = .ok (.aload_n 0, 1) := by decide +kernel
theorem eX9_net_19 : decode (mB MX9_net) 19 = .ok (.getfield 12, 3) := by decide +kernel
theorem eX9_net_22 : decode (mB MX9_net) 22 = .ok (.iload_n 1, 1) := by decide +kernel
theorem eX9_net_23 : decode (mB MX9_net) 23 = .ok (.invokevirtual 95, 3) := by decide +kernel
theorem eX9_net_26 : decode (mB MX9_net) 26 = .ok (.astore_n 2, 1) := by decide +kernel
theorem eX9_net_27 : decode (mB MX9_net) 27 = .ok (.aload_n 2, 1) := by decide +kernel
theorem eX9_net_28 : decode (mB MX9_net) 28 = .ok (.ifnonnull 14, 3) := by decide +kernel
theorem eX9_net_31 : decode (mB MX9_net) 31 = .ok (.bipush (-30), 2) := by decide +kernel
theorem eX9_net_33 : decode (mB MX9_net) 33 = .ok (.aload_n 0, 1) := by decide +kernel
theorem eX9_net_34 : decode (mB MX9_net) 34 = .ok (.getfield 12, 3) := by decide +kernel
theorem eX9_net_37 : decode (mB MX9_net) 37 = .ok (.getfield 99, 3) := by decide +kernel
theorem eX9_net_40 : decode (mB MX9_net) 40 = .ok (.isub, 1) := by decide +kernel
theorem eX9_net_41 : decode (mB MX9_net) 41 = .ok (.ireturn, 1) := by decide +kernel
theorem eX9_net_42 : decode (mB MX9_net) 42 = .ok (.aload_n 0, 1) := by decide +kernel
theorem eX9_net_43 : decode (mB MX9_net) 43 = .ok (.aload_n 2, 1) := by decide +kernel
theorem eX9_net_44 : decode (mB MX9_net) 44 = .ok (.putfield 19, 3) := by decide +kernel
theorem eX9_net_47 : decode (mB MX9_net) 47 = .ok (.aload_n 0, 1) := by decide +kernel
theorem eX9_net_48 : decode (mB MX9_net) 48 = .ok (.getfield 26, 3) := by decide +kernel
theorem eX9_net_51 : decode (mB MX9_net) 51 = .ok (.aload_n 2, 1) := by decide +kernel
theorem eX9_net_52 : decode (mB MX9_net) 52 = .ok (.getfield 102, 3) := by decide +kernel
theorem eX9_net_55 : decode (mB MX9_net) 55 = .ok (.invokevirtual 105, 3) := by decide +kernel
theorem eX9_net_58 : decode (mB MX9_net) 58 = .ok (.aload_n 0, 1) := by decide +kernel
theorem eX9_net_59 : decode (mB MX9_net) 59 = .ok (.getfield 44, 3) := by decide +kernel
theorem eX9_net_62 : decode (mB MX9_net) 62 = .ok (.invokevirtual 108, 3) := by decide +kernel
theorem eX9_net_65 : decode (mB MX9_net) 65 = .ok (.aload_n 2, 1) := by decide +kernel
theorem eX9_net_66 : decode (mB MX9_net) 66 = .ok (.getfield 111, 3) := by decide +kernel
theorem eX9_net_69 : decode (mB MX9_net) 69 = .ok (.ireturn, 1) := by decide +kernel
theorem eX9_fault_0 : decode (mB MX9_fault) 0 = .ok (.iload_n 1, 1) := by decide +kernel
theorem eX9_fault_1 : decode (mB MX9_fault) 1 = .ok (.lookupswitch 43 #[(0, 27), (1, 35)], 27) := by decide +kernel
theorem eX9_fault_28 : decode (mB MX9_fault) 28 = .ok (.aload_n 0, 1) := by decide +kernel
theorem eX9_fault_29 : decode (mB MX9_fault) 29 = .ok (.getfield 12, 3) := by decide +kernel
theorem eX9_fault_32 : decode (mB MX9_fault) 32 = .ok (.getfield 99, 3) := by decide +kernel
theorem eX9_fault_35 : decode (mB MX9_fault) 35 = .ok (.ireturn, 1) := by decide +kernel
theorem eX9_fault_36 : decode (mB MX9_fault) 36 = .ok (.aload_n 0, 1) := by decide +kernel
theorem eX9_fault_37 : decode (mB MX9_fault) 37 = .ok (.getfield 12, 3) := by decide +kernel
theorem eX9_fault_40 : decode (mB MX9_fault) 40 = .ok (.getfield 114, 3) := by decide +kernel
theorem eX9_fault_43 : decode (mB MX9_fault) 43 = .ok (.ireturn, 1) := by decide +kernel
theorem eX9_fault_44 : decode (mB MX9_fault) 44 = .ok (.iconst (-1), 1) := by decide +kernel
theorem eX9_fault_45 : decode (mB MX9_fault) 45 = .ok (.ireturn, 1) := by decide +kernel
theorem eX9_link_0 : decode (mB MX9_link) 0 = .ok (.aload_n 0, 1) := by decide +kernel
theorem eX9_link_1 : decode (mB MX9_link) 1 = .ok (.getfield 19, 3) := by decide +kernel
theorem eX9_link_4 : decode (mB MX9_link) 4 = .ok (.iload_n 1, 1) := by decide +kernel
theorem eX9_link_5 : decode (mB MX9_link) 5 = .ok (.invokevirtual 117, 3) := by decide +kernel
theorem eX9_link_8 : decode (mB MX9_link) 8 = .ok (.ifCond .ne 6, 3) := by decide +kernel
theorem eX9_link_11 : decode (mB MX9_link) 11 = .ok (.bipush (-2), 2) := by decide +kernel
theorem eX9_link_13 : decode (mB MX9_link) 13 = .ok (.ireturn, 1) := by decide +kernel
theorem eX9_link_14 : decode (mB MX9_link) 14 = .ok (.iload_n 2, 1) := by decide +kernel
theorem eX9_link_15 : decode (mB MX9_link) 15 = .ok (.tableswitch 128 0 6 #[41, 51, 61, 71, 81, 98, 111], 41) := by decide +kernel
theorem eX9_link_56 : decode (mB MX9_link) 56 = .ok (.aload_n 0, 1) := by decide +kernel
theorem eX9_link_57 : decode (mB MX9_link) 57 = .ok (.getfield 19, 3) := by decide +kernel
theorem eX9_link_60 : decode (mB MX9_link) 60 = .ok (.getfield 121, 3) := by decide +kernel
theorem eX9_link_63 : decode (mB MX9_link) 63 = .ok (.iload_n 1, 1) := by decide +kernel
theorem eX9_link_64 : decode (mB MX9_link) 64 = .ok (.iaload, 1) := by decide +kernel
theorem eX9_link_65 : decode (mB MX9_link) 65 = .ok (.ireturn, 1) := by decide +kernel
theorem eX9_link_66 : decode (mB MX9_link) 66 = .ok (.aload_n 0, 1) := by decide +kernel
theorem eX9_link_67 : decode (mB MX9_link) 67 = .ok (.getfield 19, 3) := by decide +kernel
theorem eX9_link_70 : decode (mB MX9_link) 70 = .ok (.getfield 125, 3) := by decide +kernel
theorem eX9_link_73 : decode (mB MX9_link) 73 = .ok (.iload_n 1, 1) := by decide +kernel
theorem eX9_link_74 : decode (mB MX9_link) 74 = .ok (.iaload, 1) := by decide +kernel
theorem eX9_link_75 : decode (mB MX9_link) 75 = .ok (.ireturn, 1) := by decide +kernel
theorem eX9_link_76 : decode (mB MX9_link) 76 = .ok (.aload_n 0, 1) := by decide +kernel
theorem eX9_link_77 : decode (mB MX9_link) 77 = .ok (.getfield 19, 3) := by decide +kernel
theorem eX9_link_80 : decode (mB MX9_link) 80 = .ok (.getfield 128, 3) := by decide +kernel
theorem eX9_link_83 : decode (mB MX9_link) 83 = .ok (.iload_n 1, 1) := by decide +kernel
theorem eX9_link_84 : decode (mB MX9_link) 84 = .ok (.iaload, 1) := by decide +kernel
theorem eX9_link_85 : decode (mB MX9_link) 85 = .ok (.ireturn, 1) := by decide +kernel
theorem eX9_link_86 : decode (mB MX9_link) 86 = .ok (.aload_n 0, 1) := by decide +kernel
theorem eX9_link_87 : decode (mB MX9_link) 87 = .ok (.getfield 19, 3) := by decide +kernel
theorem eX9_link_90 : decode (mB MX9_link) 90 = .ok (.getfield 131, 3) := by decide +kernel
theorem eX9_link_93 : decode (mB MX9_link) 93 = .ok (.iload_n 1, 1) := by decide +kernel
theorem eX9_link_94 : decode (mB MX9_link) 94 = .ok (.iaload, 1) := by decide +kernel
theorem eX9_link_95 : decode (mB MX9_link) 95 = .ok (.ireturn, 1) := by decide +kernel
theorem eX9_link_96 : decode (mB MX9_link) 96 = .ok (.aload_n 0, 1) := by decide +kernel
theorem eX9_link_97 : decode (mB MX9_link) 97 = .ok (.getfield 26, 3) := by decide +kernel
theorem eX9_link_100 : decode (mB MX9_link) 100 = .ok (.iload_n 1, 1) := by decide +kernel
theorem eX9_link_101 : decode (mB MX9_link) 101 = .ok (.invokevirtual 134, 3) := by decide +kernel
theorem eX9_link_104 : decode (mB MX9_link) 104 = .ok (.ifCond .eq 7, 3) := by decide +kernel
theorem eX9_link_107 : decode (mB MX9_link) 107 = .ok (.iconst 1, 1) := by decide +kernel
theorem eX9_link_108 : decode (mB MX9_link) 108 = .ok (.goto 4, 3) := by decide +kernel
theorem eX9_link_111 : decode (mB MX9_link) 111 = .ok (.iconst 0, 1) := by decide +kernel
theorem eX9_link_112 : decode (mB MX9_link) 112 = .ok (.ireturn, 1) := by decide +kernel
theorem eX9_link_113 : decode (mB MX9_link) 113 = .ok (.aload_n 0, 1) := by decide +kernel
theorem eX9_link_114 : decode (mB MX9_link) 114 = .ok (.getfield 19, 3) := by decide +kernel
theorem eX9_link_117 : decode (mB MX9_link) 117 = .ok (.aload_n 0, 1) := by decide +kernel
theorem eX9_link_118 : decode (mB MX9_link) 118 = .ok (.getfield 26, 3) := by decide +kernel
theorem eX9_link_121 : decode (mB MX9_link) 121 = .ok (.iload_n 1, 1) := by decide +kernel
theorem eX9_link_122 : decode (mB MX9_link) 122 = .ok (.invokevirtual 137, 3) := by decide +kernel
theorem eX9_link_125 : decode (mB MX9_link) 125 = .ok (.ireturn, 1) := by decide +kernel
theorem eX9_link_126 : decode (mB MX9_link) 126 = .ok (.aload_n 0, 1) := by decide +kernel
theorem eX9_link_127 : decode (mB MX9_link) 127 = .ok (.getfield 51, 3) := by decide +kernel
theorem eX9_link_130 : decode (mB MX9_link) 130 = .ok (.aload_n 0, 1) := by decide +kernel
theorem eX9_link_131 : decode (mB MX9_link) 131 = .ok (.getfield 19, 3) := by decide +kernel
theorem eX9_link_134 : decode (mB MX9_link) 134 = .ok (.aload_n 0, 1) := by decide +kernel
theorem eX9_link_135 : decode (mB MX9_link) 135 = .ok (.getfield 26, 3) := by decide +kernel
theorem eX9_link_138 : decode (mB MX9_link) 138 = .ok (.iload_n 1, 1) := by decide +kernel
theorem eX9_link_139 : decode (mB MX9_link) 139 = .ok (.invokevirtual 141, 3) := by decide +kernel
theorem eX9_link_142 : decode (mB MX9_link) 142 = .ok (.ireturn, 1) := by decide +kernel
theorem eX9_link_143 : decode (mB MX9_link) 143 = .ok (.bipush (-2), 2) := by decide +kernel
theorem eX9_link_145 : decode (mB MX9_link) 145 = .ok (.ireturn, 1) := by decide +kernel
theorem eX9_ring_0 : decode (mB MX9_ring) 0 = .ok (.aload_n 0, 1) := by decide +kernel
theorem eX9_ring_1 : decode (mB MX9_ring) 1 = .ok (.getfield 19, 3) := by decide +kernel
theorem eX9_ring_4 : decode (mB MX9_ring) 4 = .ok (.aload_n 0, 1) := by decide +kernel
theorem eX9_ring_5 : decode (mB MX9_ring) 5 = .ok (.getfield 26, 3) := by decide +kernel
theorem eX9_ring_8 : decode (mB MX9_ring) 8 = .ok (.getfield 145, 3) := by decide +kernel
theorem eX9_ring_11 : decode (mB MX9_ring) 11 = .ok (.iload_n 1, 1) := by decide +kernel
theorem eX9_ring_12 : decode (mB MX9_ring) 12 = .ok (.invokevirtual 148, 3) := by decide +kernel
theorem eX9_ring_15 : decode (mB MX9_ring) 15 = .ok (.istore_n 3, 1) := by decide +kernel
theorem eX9_ring_16 : decode (mB MX9_ring) 16 = .ok (.iload_n 3, 1) := by decide +kernel
theorem eX9_ring_17 : decode (mB MX9_ring) 17 = .ok (.ifCond .ge 6, 3) := by decide +kernel
theorem eX9_ring_20 : decode (mB MX9_ring) 20 = .ok (.bipush (-2), 2) := by decide +kernel
theorem eX9_ring_22 : decode (mB MX9_ring) 22 = .ok (.ireturn, 1) := by decide +kernel
theorem eX9_ring_23 : decode (mB MX9_ring) 23 = .ok (.iload_n 2, 1) := by decide +kernel
theorem eX9_ring_24 : decode (mB MX9_ring) 24 = .ok (.tableswitch 105 0 5 #[40, 50, 60, 70, 86, 95], 40) := by decide +kernel
theorem eX9_ring_64 : decode (mB MX9_ring) 64 = .ok (.aload_n 0, 1) := by decide +kernel
theorem eX9_ring_65 : decode (mB MX9_ring) 65 = .ok (.getfield 19, 3) := by decide +kernel
theorem eX9_ring_68 : decode (mB MX9_ring) 68 = .ok (.getfield 152, 3) := by decide +kernel
theorem eX9_ring_71 : decode (mB MX9_ring) 71 = .ok (.iload_n 3, 1) := by decide +kernel
theorem eX9_ring_72 : decode (mB MX9_ring) 72 = .ok (.iaload, 1) := by decide +kernel
theorem eX9_ring_73 : decode (mB MX9_ring) 73 = .ok (.ireturn, 1) := by decide +kernel
theorem eX9_ring_74 : decode (mB MX9_ring) 74 = .ok (.aload_n 0, 1) := by decide +kernel
theorem eX9_ring_75 : decode (mB MX9_ring) 75 = .ok (.getfield 19, 3) := by decide +kernel
theorem eX9_ring_78 : decode (mB MX9_ring) 78 = .ok (.getfield 155, 3) := by decide +kernel
theorem eX9_ring_81 : decode (mB MX9_ring) 81 = .ok (.iload_n 3, 1) := by decide +kernel
theorem eX9_ring_82 : decode (mB MX9_ring) 82 = .ok (.iaload, 1) := by decide +kernel
theorem eX9_ring_83 : decode (mB MX9_ring) 83 = .ok (.ireturn, 1) := by decide +kernel
theorem eX9_ring_84 : decode (mB MX9_ring) 84 = .ok (.aload_n 0, 1) := by decide +kernel
theorem eX9_ring_85 : decode (mB MX9_ring) 85 = .ok (.getfield 19, 3) := by decide +kernel
theorem eX9_ring_88 : decode (mB MX9_ring) 88 = .ok (.getfield 158, 3) := by decide +kernel
theorem eX9_ring_91 : decode (mB MX9_ring) 91 = .ok (.iload_n 3, 1) := by decide +kernel
theorem eX9_ring_92 : decode (mB MX9_ring) 92 = .ok (.iaload, 1) := by decide +kernel
theorem eX9_ring_93 : decode (mB MX9_ring) 93 = .ok (.ireturn, 1) := by decide +kernel
theorem eX9_ring_94 : decode (mB MX9_ring) 94 = .ok (.aload_n 0, 1) := by decide +kernel
theorem eX9_ring_95 : decode (mB MX9_ring) 95 = .ok (.getfield 19, 3) := by decide +kernel
theorem eX9_ring_98 : decode (mB MX9_ring) 98 = .ok (.iload_n 3, 1) := by decide +kernel
theorem eX9_ring_99 : decode (mB MX9_ring) 99 = .ok (.aload_n 0, 1) := by decide +kernel
theorem eX9_ring_100 : decode (mB MX9_ring) 100 = .ok (.getfield 26, 3) := by decide +kernel
theorem eX9_ring_103 : decode (mB MX9_ring) 103 = .ok (.getfield 145, 3) := by decide +kernel
theorem eX9_ring_106 : decode (mB MX9_ring) 106 = .ok (.invokevirtual 161, 3) := by decide +kernel
theorem eX9_ring_109 : decode (mB MX9_ring) 109 = .ok (.ireturn, 1) := by decide +kernel
theorem eX9_ring_110 : decode (mB MX9_ring) 110 = .ok (.aload_n 0, 1) := by decide +kernel
theorem eX9_ring_111 : decode (mB MX9_ring) 111 = .ok (.getfield 19, 3) := by decide +kernel
theorem eX9_ring_114 : decode (mB MX9_ring) 114 = .ok (.iload_n 3, 1) := by decide +kernel
theorem eX9_ring_115 : decode (mB MX9_ring) 115 = .ok (.invokevirtual 164, 3) := by decide +kernel
theorem eX9_ring_118 : decode (mB MX9_ring) 118 = .ok (.ireturn, 1) := by decide +kernel
theorem eX9_ring_119 : decode (mB MX9_ring) 119 = .ok (.aload_n 0, 1) := by decide +kernel
theorem eX9_ring_120 : decode (mB MX9_ring) 120 = .ok (.getfield 26, 3) := by decide +kernel
theorem eX9_ring_123 : decode (mB MX9_ring) 123 = .ok (.getfield 168, 3) := by decide +kernel
theorem eX9_ring_126 : decode (mB MX9_ring) 126 = .ok (.iload_n 3, 1) := by decide +kernel
theorem eX9_ring_127 : decode (mB MX9_ring) 127 = .ok (.iaload, 1) := by decide +kernel
theorem eX9_ring_128 : decode (mB MX9_ring) 128 = .ok (.ireturn, 1) := by decide +kernel
theorem eX9_ring_129 : decode (mB MX9_ring) 129 = .ok (.bipush (-2), 2) := by decide +kernel
theorem eX9_ring_131 : decode (mB MX9_ring) 131 = .ok (.ireturn, 1) := by decide +kernel
theorem eX9_ringOf_0 : decode (mB MX9_ringOf) 0 = .ok (.aload_n 0, 1) := by decide +kernel
theorem eX9_ringOf_1 : decode (mB MX9_ringOf) 1 = .ok (.getfield 19, 3) := by decide +kernel
theorem eX9_ringOf_4 : decode (mB MX9_ringOf) 4 = .ok (.aload_n 0, 1) := by decide +kernel
theorem eX9_ringOf_5 : decode (mB MX9_ringOf) 5 = .ok (.getfield 26, 3) := by decide +kernel
theorem eX9_ringOf_8 : decode (mB MX9_ringOf) 8 = .ok (.getfield 145, 3) := by decide +kernel
theorem eX9_ringOf_11 : decode (mB MX9_ringOf) 11 = .ok (.invokevirtual 171, 3) := by decide +kernel
theorem eX9_ringOf_14 : decode (mB MX9_ringOf) 14 = .ok (.istore_n 2, 1) := by decide +kernel
theorem eX9_ringOf_15 : decode (mB MX9_ringOf) 15 = .ok (.iconst 0, 1) := by decide +kernel
theorem eX9_ringOf_16 : decode (mB MX9_ringOf) 16 = .ok (.istore_n 3, 1) := by decide +kernel
theorem eX9_ringOf_17 : decode (mB MX9_ringOf) 17 = .ok (.iload_n 3, 1) := by decide +kernel
theorem eX9_ringOf_18 : decode (mB MX9_ringOf) 18 = .ok (.iload_n 2, 1) := by decide +kernel
theorem eX9_ringOf_19 : decode (mB MX9_ringOf) 19 = .ok (.if_icmp .ge 47, 3) := by decide +kernel
theorem eX9_ringOf_22 : decode (mB MX9_ringOf) 22 = .ok (.aload_n 0, 1) := by decide +kernel
theorem eX9_ringOf_23 : decode (mB MX9_ringOf) 23 = .ok (.getfield 19, 3) := by decide +kernel
theorem eX9_ringOf_26 : decode (mB MX9_ringOf) 26 = .ok (.aload_n 0, 1) := by decide +kernel
theorem eX9_ringOf_27 : decode (mB MX9_ringOf) 27 = .ok (.getfield 26, 3) := by decide +kernel
theorem eX9_ringOf_30 : decode (mB MX9_ringOf) 30 = .ok (.getfield 145, 3) := by decide +kernel
theorem eX9_ringOf_33 : decode (mB MX9_ringOf) 33 = .ok (.iload_n 3, 1) := by decide +kernel
theorem eX9_ringOf_34 : decode (mB MX9_ringOf) 34 = .ok (.invokevirtual 148, 3) := by decide +kernel
theorem eX9_ringOf_37 : decode (mB MX9_ringOf) 37 = .ok (.istore 4, 2) := by decide +kernel
theorem eX9_ringOf_39 : decode (mB MX9_ringOf) 39 = .ok (.iload 4, 2) := by decide +kernel
theorem eX9_ringOf_41 : decode (mB MX9_ringOf) 41 = .ok (.ifCond .lt 19, 3) := by decide +kernel
theorem eX9_ringOf_44 : decode (mB MX9_ringOf) 44 = .ok (.aload_n 0, 1) := by decide +kernel
theorem eX9_ringOf_45 : decode (mB MX9_ringOf) 45 = .ok (.getfield 19, 3) := by decide +kernel
theorem eX9_ringOf_48 : decode (mB MX9_ringOf) 48 = .ok (.getfield 152, 3) := by decide +kernel
theorem eX9_ringOf_51 : decode (mB MX9_ringOf) 51 = .ok (.iload 4, 2) := by decide +kernel
theorem eX9_ringOf_53 : decode (mB MX9_ringOf) 53 = .ok (.iaload, 1) := by decide +kernel
theorem eX9_ringOf_54 : decode (mB MX9_ringOf) 54 = .ok (.iload_n 1, 1) := by decide +kernel
theorem eX9_ringOf_55 : decode (mB MX9_ringOf) 55 = .ok (.if_icmp .ne 5, 3) := by decide +kernel
theorem eX9_ringOf_58 : decode (mB MX9_ringOf) 58 = .ok (.iload_n 3, 1) := by decide +kernel
theorem eX9_ringOf_59 : decode (mB MX9_ringOf) 59 = .ok (.ireturn, 1) := by decide +kernel
theorem eX9_ringOf_60 : decode (mB MX9_ringOf) 60 = .ok (.iinc 3 1, 3) := by decide +kernel
theorem eX9_ringOf_63 : decode (mB MX9_ringOf) 63 = .ok (.goto (-46), 3) := by decide +kernel
theorem eX9_ringOf_66 : decode (mB MX9_ringOf) 66 = .ok (.iconst (-1), 1) := by decide +kernel
theorem eX9_ringOf_67 : decode (mB MX9_ringOf) 67 = .ok (.ireturn, 1) := by decide +kernel
theorem eX9_use_0 : decode (mB MX9_use) 0 = .ok (.aload_n 0, 1) := by decide +kernel
theorem eX9_use_1 : decode (mB MX9_use) 1 = .ok (.getfield 19, 3) := by decide +kernel
theorem eX9_use_4 : decode (mB MX9_use) 4 = .ok (.aload_n 0, 1) := by decide +kernel
theorem eX9_use_5 : decode (mB MX9_use) 5 = .ok (.getfield 26, 3) := by decide +kernel
theorem eX9_use_8 : decode (mB MX9_use) 8 = .ok (.getfield 145, 3) := by decide +kernel
theorem eX9_use_11 : decode (mB MX9_use) 11 = .ok (.iload_n 1, 1) := by decide +kernel
theorem eX9_use_12 : decode (mB MX9_use) 12 = .ok (.invokevirtual 148, 3) := by decide +kernel
theorem eX9_use_15 : decode (mB MX9_use) 15 = .ok (.istore_n 3, 1) := by decide +kernel
theorem eX9_use_16 : decode (mB MX9_use) 16 = .ok (.iload_n 3, 1) := by decide +kernel
theorem eX9_use_17 : decode (mB MX9_use) 17 = .ok (.ifCond .lt 14, 3) := by decide +kernel
theorem eX9_use_20 : decode (mB MX9_use) 20 = .ok (.aload_n 0, 1) := by decide +kernel
theorem eX9_use_21 : decode (mB MX9_use) 21 = .ok (.getfield 19, 3) := by decide +kernel
theorem eX9_use_24 : decode (mB MX9_use) 24 = .ok (.iload_n 2, 1) := by decide +kernel
theorem eX9_use_25 : decode (mB MX9_use) 25 = .ok (.invokevirtual 117, 3) := by decide +kernel
theorem eX9_use_28 : decode (mB MX9_use) 28 = .ok (.ifCond .ne 6, 3) := by decide +kernel
theorem eX9_use_31 : decode (mB MX9_use) 31 = .ok (.bipush (-2), 2) := by decide +kernel
theorem eX9_use_33 : decode (mB MX9_use) 33 = .ok (.ireturn, 1) := by decide +kernel
theorem eX9_use_34 : decode (mB MX9_use) 34 = .ok (.aload_n 0, 1) := by decide +kernel
theorem eX9_use_35 : decode (mB MX9_use) 35 = .ok (.getfield 19, 3) := by decide +kernel
theorem eX9_use_38 : decode (mB MX9_use) 38 = .ok (.iload_n 3, 1) := by decide +kernel
theorem eX9_use_39 : decode (mB MX9_use) 39 = .ok (.iload_n 2, 1) := by decide +kernel
theorem eX9_use_40 : decode (mB MX9_use) 40 = .ok (.invokevirtual 174, 3) := by decide +kernel
theorem eX9_use_43 : decode (mB MX9_use) 43 = .ok (.ireturn, 1) := by decide +kernel
theorem eX9_path_0 : decode (mB MX9_path) 0 = .ok (.aload_n 0, 1) := by decide +kernel
theorem eX9_path_1 : decode (mB MX9_path) 1 = .ok (.getfield 19, 3) := by decide +kernel
theorem eX9_path_4 : decode (mB MX9_path) 4 = .ok (.aload_n 0, 1) := by decide +kernel
theorem eX9_path_5 : decode (mB MX9_path) 5 = .ok (.getfield 26, 3) := by decide +kernel
theorem eX9_path_8 : decode (mB MX9_path) 8 = .ok (.getfield 145, 3) := by decide +kernel
theorem eX9_path_11 : decode (mB MX9_path) 11 = .ok (.iload_n 1, 1) := by decide +kernel
theorem eX9_path_12 : decode (mB MX9_path) 12 = .ok (.invokevirtual 148, 3) := by decide +kernel
theorem eX9_path_15 : decode (mB MX9_path) 15 = .ok (.istore 4, 2) := by decide +kernel
theorem eX9_path_17 : decode (mB MX9_path) 17 = .ok (.iload 4, 2) := by decide +kernel
theorem eX9_path_19 : decode (mB MX9_path) 19 = .ok (.ifCond .lt 14, 3) := by decide +kernel
theorem eX9_path_22 : decode (mB MX9_path) 22 = .ok (.aload_n 0, 1) := by decide +kernel
theorem eX9_path_23 : decode (mB MX9_path) 23 = .ok (.getfield 19, 3) := by decide +kernel
theorem eX9_path_26 : decode (mB MX9_path) 26 = .ok (.iload_n 2, 1) := by decide +kernel
theorem eX9_path_27 : decode (mB MX9_path) 27 = .ok (.invokevirtual 117, 3) := by decide +kernel
theorem eX9_path_30 : decode (mB MX9_path) 30 = .ok (.ifCond .ne 6, 3) := by decide +kernel
theorem eX9_path_33 : decode (mB MX9_path) 33 = .ok (.bipush (-2), 2) := by decide +kernel
theorem eX9_path_35 : decode (mB MX9_path) 35 = .ok (.ireturn, 1) := by decide +kernel
theorem eX9_path_36 : decode (mB MX9_path) 36 = .ok (.iload_n 3, 1) := by decide +kernel
theorem eX9_path_37 : decode (mB MX9_path) 37 = .ok (.ifCond .ge 6, 3) := by decide +kernel
theorem eX9_path_40 : decode (mB MX9_path) 40 = .ok (.bipush (-3), 2) := by decide +kernel
theorem eX9_path_42 : decode (mB MX9_path) 42 = .ok (.ireturn, 1) := by decide +kernel
theorem eX9_path_43 : decode (mB MX9_path) 43 = .ok (.iload_n 3, 1) := by decide +kernel
theorem eX9_path_44 : decode (mB MX9_path) 44 = .ok (.iconst 1, 1) := by decide +kernel
theorem eX9_path_45 : decode (mB MX9_path) 45 = .ok (.if_icmp .le 7, 3) := by decide +kernel
theorem eX9_path_48 : decode (mB MX9_path) 48 = .ok (.iconst 0, 1) := by decide +kernel
theorem eX9_path_49 : decode (mB MX9_path) 49 = .ok (.goto 14, 3) := by decide +kernel
theorem eX9_path_52 : decode (mB MX9_path) 52 = .ok (.aload_n 0, 1) := by decide +kernel
theorem eX9_path_53 : decode (mB MX9_path) 53 = .ok (.getfield 19, 3) := by decide +kernel
theorem eX9_path_56 : decode (mB MX9_path) 56 = .ok (.iload 4, 2) := by decide +kernel
theorem eX9_path_58 : decode (mB MX9_path) 58 = .ok (.iload_n 2, 1) := by decide +kernel
theorem eX9_path_59 : decode (mB MX9_path) 59 = .ok (.iload_n 3, 1) := by decide +kernel
theorem eX9_path_60 : decode (mB MX9_path) 60 = .ok (.invokevirtual 177, 3) := by decide +kernel
theorem eX9_path_63 : decode (mB MX9_path) 63 = .ok (.istore 5, 2) := by decide +kernel
theorem eX9_path_65 : decode (mB MX9_path) 65 = .ok (.iload 5, 2) := by decide +kernel
theorem eX9_path_67 : decode (mB MX9_path) 67 = .ok (.ifCond .ne 7, 3) := by decide +kernel
theorem eX9_path_70 : decode (mB MX9_path) 70 = .ok (.iconst (-1), 1) := by decide +kernel
theorem eX9_path_71 : decode (mB MX9_path) 71 = .ok (.goto 5, 3) := by decide +kernel
theorem eX9_path_74 : decode (mB MX9_path) 74 = .ok (.iload 5, 2) := by decide +kernel
theorem eX9_path_76 : decode (mB MX9_path) 76 = .ok (.ireturn, 1) := by decide +kernel
theorem eX9_lay_0 : decode (mB MX9_lay) 0 = .ok (.aload_n 0, 1) := by decide +kernel
theorem eX9_lay_1 : decode (mB MX9_lay) 1 = .ok (.getfield 30, 3) := by decide +kernel
theorem eX9_lay_4 : decode (mB MX9_lay) 4 = .ok (.aload_n 0, 1) := by decide +kernel
theorem eX9_lay_5 : decode (mB MX9_lay) 5 = .ok (.getfield 26, 3) := by decide +kernel
theorem eX9_lay_8 : decode (mB MX9_lay) 8 = .ok (.invokevirtual 181, 3) := by decide +kernel
theorem eX9_lay_11 : decode (mB MX9_lay) 11 = .ok (.aload_n 0, 1) := by decide +kernel
theorem eX9_lay_12 : decode (mB MX9_lay) 12 = .ok (.getfield 51, 3) := by decide +kernel
theorem eX9_lay_15 : decode (mB MX9_lay) 15 = .ok (.aload_n 0, 1) := by decide +kernel
theorem eX9_lay_16 : decode (mB MX9_lay) 16 = .ok (.getfield 19, 3) := by decide +kernel
theorem eX9_lay_19 : decode (mB MX9_lay) 19 = .ok (.aload_n 0, 1) := by decide +kernel
theorem eX9_lay_20 : decode (mB MX9_lay) 20 = .ok (.getfield 26, 3) := by decide +kernel
theorem eX9_lay_23 : decode (mB MX9_lay) 23 = .ok (.iload_n 1, 1) := by decide +kernel
theorem eX9_lay_24 : decode (mB MX9_lay) 24 = .ok (.invokevirtual 185, 3) := by decide +kernel
theorem eX9_lay_27 : decode (mB MX9_lay) 27 = .ok (.istore_n 2, 1) := by decide +kernel
theorem eX9_lay_28 : decode (mB MX9_lay) 28 = .ok (.aload_n 0, 1) := by decide +kernel
theorem eX9_lay_29 : decode (mB MX9_lay) 29 = .ok (.iload_n 2, 1) := by decide +kernel
theorem eX9_lay_30 : decode (mB MX9_lay) 30 = .ok (.aload_n 0, 1) := by decide +kernel
theorem eX9_lay_31 : decode (mB MX9_lay) 31 = .ok (.iload_n 1, 1) := by decide +kernel
theorem eX9_lay_32 : decode (mB MX9_lay) 32 = .ok (.invokevirtual 188, 3) := by decide +kernel
theorem eX9_lay_35 : decode (mB MX9_lay) 35 = .ok (.invokevirtual 191, 3) := by decide +kernel
theorem eX9_lay_38 : decode (mB MX9_lay) 38 = .ok (.ireturn, 1) := by decide +kernel
theorem eX9_take_0 : decode (mB MX9_take) 0 = .ok (.aload_n 0, 1) := by decide +kernel
theorem eX9_take_1 : decode (mB MX9_take) 1 = .ok (.getfield 30, 3) := by decide +kernel
theorem eX9_take_4 : decode (mB MX9_take) 4 = .ok (.aload_n 0, 1) := by decide +kernel
theorem eX9_take_5 : decode (mB MX9_take) 5 = .ok (.getfield 26, 3) := by decide +kernel
theorem eX9_take_8 : decode (mB MX9_take) 8 = .ok (.invokevirtual 181, 3) := by decide +kernel
theorem eX9_take_11 : decode (mB MX9_take) 11 = .ok (.aload_n 0, 1) := by decide +kernel
theorem eX9_take_12 : decode (mB MX9_take) 12 = .ok (.getfield 51, 3) := by decide +kernel
theorem eX9_take_15 : decode (mB MX9_take) 15 = .ok (.aload_n 0, 1) := by decide +kernel
theorem eX9_take_16 : decode (mB MX9_take) 16 = .ok (.getfield 19, 3) := by decide +kernel
theorem eX9_take_19 : decode (mB MX9_take) 19 = .ok (.aload_n 0, 1) := by decide +kernel
theorem eX9_take_20 : decode (mB MX9_take) 20 = .ok (.getfield 26, 3) := by decide +kernel
theorem eX9_take_23 : decode (mB MX9_take) 23 = .ok (.iload_n 1, 1) := by decide +kernel
theorem eX9_take_24 : decode (mB MX9_take) 24 = .ok (.invokevirtual 194, 3) := by decide +kernel
theorem eX9_take_27 : decode (mB MX9_take) 27 = .ok (.istore_n 2, 1) := by decide +kernel
theorem eX9_take_28 : decode (mB MX9_take) 28 = .ok (.aload_n 0, 1) := by decide +kernel
theorem eX9_take_29 : decode (mB MX9_take) 29 = .ok (.iload_n 2, 1) := by decide +kernel
theorem eX9_take_30 : decode (mB MX9_take) 30 = .ok (.aload_n 0, 1) := by decide +kernel
theorem eX9_take_31 : decode (mB MX9_take) 31 = .ok (.iload_n 1, 1) := by decide +kernel
theorem eX9_take_32 : decode (mB MX9_take) 32 = .ok (.invokevirtual 188, 3) := by decide +kernel
theorem eX9_take_35 : decode (mB MX9_take) 35 = .ok (.invokevirtual 191, 3) := by decide +kernel
theorem eX9_take_38 : decode (mB MX9_take) 38 = .ok (.ireturn, 1) := by decide +kernel
theorem eX9_fail_0 : decode (mB MX9_fail) 0 = .ok (.aload_n 0, 1) := by decide +kernel
theorem eX9_fail_1 : decode (mB MX9_fail) 1 = .ok (.getfield 30, 3) := by decide +kernel
theorem eX9_fail_4 : decode (mB MX9_fail) 4 = .ok (.aload_n 0, 1) := by decide +kernel
theorem eX9_fail_5 : decode (mB MX9_fail) 5 = .ok (.getfield 26, 3) := by decide +kernel
theorem eX9_fail_8 : decode (mB MX9_fail) 8 = .ok (.invokevirtual 181, 3) := by decide +kernel
theorem eX9_fail_11 : decode (mB MX9_fail) 11 = .ok (.aload_n 0, 1) := by decide +kernel
theorem eX9_fail_12 : decode (mB MX9_fail) 12 = .ok (.getfield 51, 3) := by decide +kernel
theorem eX9_fail_15 : decode (mB MX9_fail) 15 = .ok (.aload_n 0, 1) := by decide +kernel
theorem eX9_fail_16 : decode (mB MX9_fail) 16 = .ok (.getfield 19, 3) := by decide +kernel
theorem eX9_fail_19 : decode (mB MX9_fail) 19 = .ok (.aload_n 0, 1) := by decide +kernel
theorem eX9_fail_20 : decode (mB MX9_fail) 20 = .ok (.getfield 26, 3) := by decide +kernel
theorem eX9_fail_23 : decode (mB MX9_fail) 23 = .ok (.iload_n 1, 1) := by decide +kernel
theorem eX9_fail_24 : decode (mB MX9_fail) 24 = .ok (.invokevirtual 197, 3) := by decide +kernel
theorem eX9_fail_27 : decode (mB MX9_fail) 27 = .ok (.istore_n 2, 1) := by decide +kernel
theorem eX9_fail_28 : decode (mB MX9_fail) 28 = .ok (.aload_n 0, 1) := by decide +kernel
theorem eX9_fail_29 : decode (mB MX9_fail) 29 = .ok (.iload_n 2, 1) := by decide +kernel
theorem eX9_fail_30 : decode (mB MX9_fail) 30 = .ok (.aload_n 0, 1) := by decide +kernel
theorem eX9_fail_31 : decode (mB MX9_fail) 31 = .ok (.getfield 51, 3) := by decide +kernel
theorem eX9_fail_34 : decode (mB MX9_fail) 34 = .ok (.aload_n 0, 1) := by decide +kernel
theorem eX9_fail_35 : decode (mB MX9_fail) 35 = .ok (.getfield 19, 3) := by decide +kernel
theorem eX9_fail_38 : decode (mB MX9_fail) 38 = .ok (.aload_n 0, 1) := by decide +kernel
theorem eX9_fail_39 : decode (mB MX9_fail) 39 = .ok (.getfield 26, 3) := by decide +kernel
theorem eX9_fail_42 : decode (mB MX9_fail) 42 = .ok (.invokevirtual 200, 3) := by decide +kernel
theorem eX9_fail_45 : decode (mB MX9_fail) 45 = .ok (.invokevirtual 191, 3) := by decide +kernel
theorem eX9_fail_48 : decode (mB MX9_fail) 48 = .ok (.ireturn, 1) := by decide +kernel
theorem eX9_mend_0 : decode (mB MX9_mend) 0 = .ok (.aload_n 0, 1) := by decide +kernel
theorem eX9_mend_1 : decode (mB MX9_mend) 1 = .ok (.getfield 30, 3) := by decide +kernel
theorem eX9_mend_4 : decode (mB MX9_mend) 4 = .ok (.aload_n 0, 1) := by decide +kernel
theorem eX9_mend_5 : decode (mB MX9_mend) 5 = .ok (.getfield 26, 3) := by decide +kernel
theorem eX9_mend_8 : decode (mB MX9_mend) 8 = .ok (.invokevirtual 181, 3) := by decide +kernel
theorem eX9_mend_11 : decode (mB MX9_mend) 11 = .ok (.aload_n 0, 1) := by decide +kernel
theorem eX9_mend_12 : decode (mB MX9_mend) 12 = .ok (.getfield 51, 3) := by decide +kernel
theorem eX9_mend_15 : decode (mB MX9_mend) 15 = .ok (.aload_n 0, 1) := by decide +kernel
theorem eX9_mend_16 : decode (mB MX9_mend) 16 = .ok (.getfield 19, 3) := by decide +kernel
theorem eX9_mend_19 : decode (mB MX9_mend) 19 = .ok (.aload_n 0, 1) := by decide +kernel
theorem eX9_mend_20 : decode (mB MX9_mend) 20 = .ok (.getfield 26, 3) := by decide +kernel
theorem eX9_mend_23 : decode (mB MX9_mend) 23 = .ok (.iload_n 1, 1) := by decide +kernel
theorem eX9_mend_24 : decode (mB MX9_mend) 24 = .ok (.invokevirtual 204, 3) := by decide +kernel
theorem eX9_mend_27 : decode (mB MX9_mend) 27 = .ok (.istore_n 2, 1) := by decide +kernel
theorem eX9_mend_28 : decode (mB MX9_mend) 28 = .ok (.aload_n 0, 1) := by decide +kernel
theorem eX9_mend_29 : decode (mB MX9_mend) 29 = .ok (.iload_n 2, 1) := by decide +kernel
theorem eX9_mend_30 : decode (mB MX9_mend) 30 = .ok (.aload_n 0, 1) := by decide +kernel
theorem eX9_mend_31 : decode (mB MX9_mend) 31 = .ok (.getfield 51, 3) := by decide +kernel
theorem eX9_mend_34 : decode (mB MX9_mend) 34 = .ok (.aload_n 0, 1) := by decide +kernel
theorem eX9_mend_35 : decode (mB MX9_mend) 35 = .ok (.getfield 19, 3) := by decide +kernel
theorem eX9_mend_38 : decode (mB MX9_mend) 38 = .ok (.aload_n 0, 1) := by decide +kernel
theorem eX9_mend_39 : decode (mB MX9_mend) 39 = .ok (.getfield 26, 3) := by decide +kernel
theorem eX9_mend_42 : decode (mB MX9_mend) 42 = .ok (.invokevirtual 200, 3) := by decide +kernel
theorem eX9_mend_45 : decode (mB MX9_mend) 45 = .ok (.invokevirtual 191, 3) := by decide +kernel
theorem eX9_mend_48 : decode (mB MX9_mend) 48 = .ok (.ireturn, 1) := by decide +kernel
theorem eX9_rate_0 : decode (mB MX9_rate) 0 = .ok (.aload_n 0, 1) := by decide +kernel
theorem eX9_rate_1 : decode (mB MX9_rate) 1 = .ok (.getfield 30, 3) := by decide +kernel
theorem eX9_rate_4 : decode (mB MX9_rate) 4 = .ok (.aload_n 0, 1) := by decide +kernel
theorem eX9_rate_5 : decode (mB MX9_rate) 5 = .ok (.getfield 26, 3) := by decide +kernel
theorem eX9_rate_8 : decode (mB MX9_rate) 8 = .ok (.invokevirtual 181, 3) := by decide +kernel
theorem eX9_rate_11 : decode (mB MX9_rate) 11 = .ok (.aload_n 0, 1) := by decide +kernel
theorem eX9_rate_12 : decode (mB MX9_rate) 12 = .ok (.getfield 51, 3) := by decide +kernel
theorem eX9_rate_15 : decode (mB MX9_rate) 15 = .ok (.aload_n 0, 1) := by decide +kernel
theorem eX9_rate_16 : decode (mB MX9_rate) 16 = .ok (.getfield 19, 3) := by decide +kernel
theorem eX9_rate_19 : decode (mB MX9_rate) 19 = .ok (.aload_n 0, 1) := by decide +kernel
theorem eX9_rate_20 : decode (mB MX9_rate) 20 = .ok (.getfield 26, 3) := by decide +kernel
theorem eX9_rate_23 : decode (mB MX9_rate) 23 = .ok (.iload_n 1, 1) := by decide +kernel
theorem eX9_rate_24 : decode (mB MX9_rate) 24 = .ok (.invokevirtual 207, 3) := by decide +kernel
theorem eX9_rate_27 : decode (mB MX9_rate) 27 = .ok (.istore_n 2, 1) := by decide +kernel
theorem eX9_rate_28 : decode (mB MX9_rate) 28 = .ok (.aload_n 0, 1) := by decide +kernel
theorem eX9_rate_29 : decode (mB MX9_rate) 29 = .ok (.iload_n 2, 1) := by decide +kernel
theorem eX9_rate_30 : decode (mB MX9_rate) 30 = .ok (.aload_n 0, 1) := by decide +kernel
theorem eX9_rate_31 : decode (mB MX9_rate) 31 = .ok (.getfield 19, 3) := by decide +kernel
theorem eX9_rate_34 : decode (mB MX9_rate) 34 = .ok (.aload_n 0, 1) := by decide +kernel
theorem eX9_rate_35 : decode (mB MX9_rate) 35 = .ok (.getfield 26, 3) := by decide +kernel
theorem eX9_rate_38 : decode (mB MX9_rate) 38 = .ok (.getfield 145, 3) := by decide +kernel
theorem eX9_rate_41 : decode (mB MX9_rate) 41 = .ok (.invokevirtual 171, 3) := by decide +kernel
theorem eX9_rate_44 : decode (mB MX9_rate) 44 = .ok (.invokevirtual 191, 3) := by decide +kernel
theorem eX9_rate_47 : decode (mB MX9_rate) 47 = .ok (.ireturn, 1) := by decide +kernel
theorem eX9_ended_0 : decode (mB MX9_ended) 0 = .ok (.iload_n 1, 1) := by decide +kernel
theorem eX9_ended_1 : decode (mB MX9_ended) 1 = .ok (.ifCond .eq 8, 3) := by decide +kernel
theorem eX9_ended_4 : decode (mB MX9_ended) 4 = .ok (.bipush (-10), 2) := by decide +kernel
theorem eX9_ended_6 : decode (mB MX9_ended) 6 = .ok (.iload_n 1, 1) := by decide +kernel
theorem eX9_ended_7 : decode (mB MX9_ended) 7 = .ok (.isub, 1) := by decide +kernel
theorem eX9_ended_8 : decode (mB MX9_ended) 8 = .ok (.ireturn, 1) := by decide +kernel
theorem eX9_ended_9 : decode (mB MX9_ended) 9 = .ok (.aload_n 0, 1) := by decide +kernel
theorem eX9_ended_10 : decode (mB MX9_ended) 10 = .ok (.getfield 44, 3) := by decide +kernel
theorem eX9_ended_13 : decode (mB MX9_ended) 13 = .ok (.aload_n 0, 1) := by decide +kernel
theorem eX9_ended_14 : decode (mB MX9_ended) 14 = .ok (.getfield 30, 3) := by decide +kernel
theorem eX9_ended_17 : decode (mB MX9_ended) 17 = .ok (.invokevirtual 210, 3) := by decide +kernel
theorem eX9_ended_20 : decode (mB MX9_ended) 20 = .ok (.iload_n 2, 1) := by decide +kernel
theorem eX9_ended_21 : decode (mB MX9_ended) 21 = .ok (.ireturn, 1) := by decide +kernel
theorem eX9_copiesOf_0 : decode (mB MX9_copiesOf) 0 = .ok (.aload_n 0, 1) := by decide +kernel
theorem eX9_copiesOf_1 : decode (mB MX9_copiesOf) 1 = .ok (.getfield 19, 3) := by decide +kernel
theorem eX9_copiesOf_4 : decode (mB MX9_copiesOf) 4 = .ok (.aload_n 0, 1) := by decide +kernel
theorem eX9_copiesOf_5 : decode (mB MX9_copiesOf) 5 = .ok (.getfield 26, 3) := by decide +kernel
theorem eX9_copiesOf_8 : decode (mB MX9_copiesOf) 8 = .ok (.getfield 145, 3) := by decide +kernel
theorem eX9_copiesOf_11 : decode (mB MX9_copiesOf) 11 = .ok (.iload_n 1, 1) := by decide +kernel
theorem eX9_copiesOf_12 : decode (mB MX9_copiesOf) 12 = .ok (.invokevirtual 148, 3) := by decide +kernel
theorem eX9_copiesOf_15 : decode (mB MX9_copiesOf) 15 = .ok (.istore_n 2, 1) := by decide +kernel
theorem eX9_copiesOf_16 : decode (mB MX9_copiesOf) 16 = .ok (.iload_n 2, 1) := by decide +kernel
theorem eX9_copiesOf_17 : decode (mB MX9_copiesOf) 17 = .ok (.ifCond .ge 7, 3) := by decide +kernel
theorem eX9_copiesOf_20 : decode (mB MX9_copiesOf) 20 = .ok (.iconst 0, 1) := by decide +kernel
theorem eX9_copiesOf_21 : decode (mB MX9_copiesOf) 21 = .ok (.goto 12, 3) := by decide +kernel
theorem eX9_copiesOf_24 : decode (mB MX9_copiesOf) 24 = .ok (.aload_n 0, 1) := by decide +kernel
theorem eX9_copiesOf_25 : decode (mB MX9_copiesOf) 25 = .ok (.getfield 26, 3) := by decide +kernel
theorem eX9_copiesOf_28 : decode (mB MX9_copiesOf) 28 = .ok (.getfield 168, 3) := by decide +kernel
theorem eX9_copiesOf_31 : decode (mB MX9_copiesOf) 31 = .ok (.iload_n 2, 1) := by decide +kernel
theorem eX9_copiesOf_32 : decode (mB MX9_copiesOf) 32 = .ok (.iaload, 1) := by decide +kernel
theorem eX9_copiesOf_33 : decode (mB MX9_copiesOf) 33 = .ok (.ireturn, 1) := by decide +kernel
theorem eX9_undo_0 : decode (mB MX9_undo) 0 = .ok (.iload_n 1, 1) := by decide +kernel
theorem eX9_undo_1 : decode (mB MX9_undo) 1 = .ok (.iconst 1, 1) := by decide +kernel
theorem eX9_undo_2 : decode (mB MX9_undo) 2 = .ok (.if_icmp .lt 14, 3) := by decide +kernel
theorem eX9_undo_5 : decode (mB MX9_undo) 5 = .ok (.iload_n 1, 1) := by decide +kernel
theorem eX9_undo_6 : decode (mB MX9_undo) 6 = .ok (.aload_n 0, 1) := by decide +kernel
theorem eX9_undo_7 : decode (mB MX9_undo) 7 = .ok (.getfield 44, 3) := by decide +kernel
theorem eX9_undo_10 : decode (mB MX9_undo) 10 = .ok (.getfield 213, 3) := by decide +kernel
theorem eX9_undo_13 : decode (mB MX9_undo) 13 = .ok (.if_icmp .le 6, 3) := by decide +kernel
theorem eX9_undo_16 : decode (mB MX9_undo) 16 = .ok (.bipush (-3), 2) := by decide +kernel
theorem eX9_undo_18 : decode (mB MX9_undo) 18 = .ok (.ireturn, 1) := by decide +kernel
theorem eX9_undo_19 : decode (mB MX9_undo) 19 = .ok (.aload_n 0, 1) := by decide +kernel
theorem eX9_undo_20 : decode (mB MX9_undo) 20 = .ok (.getfield 44, 3) := by decide +kernel
theorem eX9_undo_23 : decode (mB MX9_undo) 23 = .ok (.iload_n 1, 1) := by decide +kernel
theorem eX9_undo_24 : decode (mB MX9_undo) 24 = .ok (.aload_n 0, 1) := by decide +kernel
theorem eX9_undo_25 : decode (mB MX9_undo) 25 = .ok (.getfield 26, 3) := by decide +kernel
theorem eX9_undo_28 : decode (mB MX9_undo) 28 = .ok (.invokevirtual 216, 3) := by decide +kernel
theorem eX9_undo_31 : decode (mB MX9_undo) 31 = .ok (.aload_n 0, 1) := by decide +kernel
theorem eX9_undo_32 : decode (mB MX9_undo) 32 = .ok (.getfield 44, 3) := by decide +kernel
theorem eX9_undo_35 : decode (mB MX9_undo) 35 = .ok (.getfield 213, 3) := by decide +kernel
theorem eX9_undo_38 : decode (mB MX9_undo) 38 = .ok (.ireturn, 1) := by decide +kernel
theorem eX9_judge_0 : decode (mB MX9_judge) 0 = .ok (.iload_n 1, 1) := by decide +kernel
theorem eX9_judge_1 : decode (mB MX9_judge) 1 = .ok (.invokestatic 220, 3) := by decide +kernel
theorem eX9_judge_4 : decode (mB MX9_judge) 4 = .ok (.ifCond .eq 12, 3) := by decide +kernel
theorem eX9_judge_7 : decode (mB MX9_judge) 7 = .ok (.iload_n 2, 1) := by decide +kernel
theorem eX9_judge_8 : decode (mB MX9_judge) 8 = .ok (.ifCond .lt 8, 3) := by decide +kernel
theorem eX9_judge_11 : decode (mB MX9_judge) 11 = .ok (.iload_n 2, 1) := by decide +kernel
theorem eX9_judge_12 : decode (mB MX9_judge) 12 = .ok (.iconst 3, 1) := by decide +kernel
theorem eX9_judge_13 : decode (mB MX9_judge) 13 = .ok (.if_icmp .le 6, 3) := by decide +kernel
theorem eX9_judge_16 : decode (mB MX9_judge) 16 = .ok (.bipush (-2), 2) := by decide +kernel
theorem eX9_judge_18 : decode (mB MX9_judge) 18 = .ok (.ireturn, 1) := by decide +kernel
theorem eX9_judge_19 : decode (mB MX9_judge) 19 = .ok (.aload_n 0, 1) := by decide +kernel
theorem eX9_judge_20 : decode (mB MX9_judge) 20 = .ok (.getfield 73, 3) := by decide +kernel
theorem eX9_judge_23 : decode (mB MX9_judge) 23 = .ok (.iload_n 1, 1) := by decide +kernel
theorem eX9_judge_24 : decode (mB MX9_judge) 24 = .ok (.aaload, 1) := by decide +kernel
theorem eX9_judge_25 : decode (mB MX9_judge) 25 = .ok (.astore_n 3, 1) := by decide +kernel
theorem eX9_judge_26 : decode (mB MX9_judge) 26 = .ok (.aload_n 3, 1) := by decide +kernel
theorem eX9_judge_27 : decode (mB MX9_judge) 27 = .ok (.invokevirtual 223, 3) := by decide +kernel
theorem eX9_judge_30 : decode (mB MX9_judge) 30 = .ok (.ifCond .eq 6, 3) := by decide +kernel
theorem eX9_judge_33 : decode (mB MX9_judge) 33 = .ok (.bipush (-6), 2) := by decide +kernel
theorem eX9_judge_35 : decode (mB MX9_judge) 35 = .ok (.ireturn, 1) := by decide +kernel
theorem eX9_judge_36 : decode (mB MX9_judge) 36 = .ok (.aload_n 0, 1) := by decide +kernel
theorem eX9_judge_37 : decode (mB MX9_judge) 37 = .ok (.getfield 37, 3) := by decide +kernel
theorem eX9_judge_40 : decode (mB MX9_judge) 40 = .ok (.iconst 0, 1) := by decide +kernel
theorem eX9_judge_41 : decode (mB MX9_judge) 41 = .ok (.aaload, 1) := by decide +kernel
theorem eX9_judge_42 : decode (mB MX9_judge) 42 = .ok (.astore 4, 2) := by decide +kernel
theorem eX9_judge_44 : decode (mB MX9_judge) 44 = .ok (.aload 4, 2) := by decide +kernel
theorem eX9_judge_46 : decode (mB MX9_judge) 46 = .ok (.aload_n 0, 1) := by decide +kernel
theorem eX9_judge_47 : decode (mB MX9_judge) 47 = .ok (.getfield 26, 3) := by decide +kernel
theorem eX9_judge_50 : decode (mB MX9_judge) 50 = .ok (.invokevirtual 181, 3) := by decide +kernel
theorem eX9_judge_53 : decode (mB MX9_judge) 53 = .ok (.aload_n 0, 1) := by decide +kernel
theorem eX9_judge_54 : decode (mB MX9_judge) 54 = .ok (.getfield 51, 3) := by decide +kernel
theorem eX9_judge_57 : decode (mB MX9_judge) 57 = .ok (.aload_n 0, 1) := by decide +kernel
theorem eX9_judge_58 : decode (mB MX9_judge) 58 = .ok (.getfield 19, 3) := by decide +kernel
theorem eX9_judge_61 : decode (mB MX9_judge) 61 = .ok (.aload 4, 2) := by decide +kernel
theorem eX9_judge_63 : decode (mB MX9_judge) 63 = .ok (.aload_n 3, 1) := by decide +kernel
theorem eX9_judge_64 : decode (mB MX9_judge) 64 = .ok (.invokevirtual 227, 3) := by decide +kernel
theorem eX9_judge_67 : decode (mB MX9_judge) 67 = .ok (.istore 5, 2) := by decide +kernel
theorem eX9_judge_69 : decode (mB MX9_judge) 69 = .ok (.iload_n 2, 1) := by decide +kernel
theorem eX9_judge_70 : decode (mB MX9_judge) 70 = .ok (.tableswitch 90 0 2 #[26, 42, 76], 26) := by decide +kernel
theorem eX9_judge_96 : decode (mB MX9_judge) 96 = .ok (.iload 5, 2) := by decide +kernel
theorem eX9_judge_98 : decode (mB MX9_judge) 98 = .ok (.aload_n 3, 1) := by decide +kernel
theorem eX9_judge_99 : decode (mB MX9_judge) 99 = .ok (.getfield 231, 3) := by decide +kernel
theorem eX9_judge_102 : decode (mB MX9_judge) 102 = .ok (.if_icmp .ge 8, 3) := by decide +kernel
theorem eX9_judge_105 : decode (mB MX9_judge) 105 = .ok (.iload 5, 2) := by decide +kernel
theorem eX9_judge_107 : decode (mB MX9_judge) 107 = .ok (.goto 4, 3) := by decide +kernel
theorem eX9_judge_110 : decode (mB MX9_judge) 110 = .ok (.iconst (-1), 1) := by decide +kernel
theorem eX9_judge_111 : decode (mB MX9_judge) 111 = .ok (.ireturn, 1) := by decide +kernel
theorem eX9_judge_112 : decode (mB MX9_judge) 112 = .ok (.iload 5, 2) := by decide +kernel
theorem eX9_judge_114 : decode (mB MX9_judge) 114 = .ok (.aload_n 3, 1) := by decide +kernel
theorem eX9_judge_115 : decode (mB MX9_judge) 115 = .ok (.getfield 231, 3) := by decide +kernel
theorem eX9_judge_118 : decode (mB MX9_judge) 118 = .ok (.if_icmp .ge 26, 3) := by decide +kernel
theorem eX9_judge_121 : decode (mB MX9_judge) 121 = .ok (.aload_n 0, 1) := by decide +kernel
theorem eX9_judge_122 : decode (mB MX9_judge) 122 = .ok (.getfield 51, 3) := by decide +kernel
theorem eX9_judge_125 : decode (mB MX9_judge) 125 = .ok (.aload_n 0, 1) := by decide +kernel
theorem eX9_judge_126 : decode (mB MX9_judge) 126 = .ok (.getfield 19, 3) := by decide +kernel
theorem eX9_judge_129 : decode (mB MX9_judge) 129 = .ok (.aload 4, 2) := by decide +kernel
theorem eX9_judge_131 : decode (mB MX9_judge) 131 = .ok (.aload_n 3, 1) := by decide +kernel
theorem eX9_judge_132 : decode (mB MX9_judge) 132 = .ok (.getfield 232, 3) := by decide +kernel
theorem eX9_judge_135 : decode (mB MX9_judge) 135 = .ok (.iload 5, 2) := by decide +kernel
theorem eX9_judge_137 : decode (mB MX9_judge) 137 = .ok (.laload, 1) := by decide +kernel
theorem eX9_judge_138 : decode (mB MX9_judge) 138 = .ok (.invokevirtual 236, 3) := by decide +kernel
theorem eX9_judge_141 : decode (mB MX9_judge) 141 = .ok (.goto 4, 3) := by decide +kernel
theorem eX9_judge_144 : decode (mB MX9_judge) 144 = .ok (.iconst 0, 1) := by decide +kernel
theorem eX9_judge_145 : decode (mB MX9_judge) 145 = .ok (.ireturn, 1) := by decide +kernel
theorem eX9_judge_146 : decode (mB MX9_judge) 146 = .ok (.aload_n 0, 1) := by decide +kernel
theorem eX9_judge_147 : decode (mB MX9_judge) 147 = .ok (.getfield 51, 3) := by decide +kernel
theorem eX9_judge_150 : decode (mB MX9_judge) 150 = .ok (.aload_n 0, 1) := by decide +kernel
theorem eX9_judge_151 : decode (mB MX9_judge) 151 = .ok (.getfield 19, 3) := by decide +kernel
theorem eX9_judge_154 : decode (mB MX9_judge) 154 = .ok (.aload 4, 2) := by decide +kernel
theorem eX9_judge_156 : decode (mB MX9_judge) 156 = .ok (.invokevirtual 200, 3) := by decide +kernel
theorem eX9_judge_159 : decode (mB MX9_judge) 159 = .ok (.ireturn, 1) := by decide +kernel
theorem eX9_judge_160 : decode (mB MX9_judge) 160 = .ok (.aload 4, 2) := by decide +kernel
theorem eX9_judge_162 : decode (mB MX9_judge) 162 = .ok (.getfield 240, 3) := by decide +kernel
theorem eX9_judge_165 : decode (mB MX9_judge) 165 = .ok (.ireturn, 1) := by decide +kernel
theorem eX9_perform_0 : decode (mB MX9_perform) 0 = .ok (.iload_n 1, 1) := by decide +kernel
theorem eX9_perform_1 : decode (mB MX9_perform) 1 = .ok (.invokestatic 220, 3) := by decide +kernel
theorem eX9_perform_4 : decode (mB MX9_perform) 4 = .ok (.ifCond .ne 6, 3) := by decide +kernel
theorem eX9_perform_7 : decode (mB MX9_perform) 7 = .ok (.bipush (-2), 2) := by decide +kernel
theorem eX9_perform_9 : decode (mB MX9_perform) 9 = .ok (.ireturn, 1) := by decide +kernel
theorem eX9_perform_10 : decode (mB MX9_perform) 10 = .ok (.aload_n 0, 1) := by decide +kernel
theorem eX9_perform_11 : decode (mB MX9_perform) 11 = .ok (.getfield 73, 3) := by decide +kernel
theorem eX9_perform_14 : decode (mB MX9_perform) 14 = .ok (.iload_n 1, 1) := by decide +kernel
theorem eX9_perform_15 : decode (mB MX9_perform) 15 = .ok (.aaload, 1) := by decide +kernel
theorem eX9_perform_16 : decode (mB MX9_perform) 16 = .ok (.invokevirtual 223, 3) := by decide +kernel
theorem eX9_perform_19 : decode (mB MX9_perform) 19 = .ok (.ifCond .eq 6, 3) := by decide +kernel
theorem eX9_perform_22 : decode (mB MX9_perform) 22 = .ok (.bipush (-6), 2) := by decide +kernel
theorem eX9_perform_24 : decode (mB MX9_perform) 24 = .ok (.ireturn, 1) := by decide +kernel
theorem eX9_perform_25 : decode (mB MX9_perform) 25 = .ok (.aload_n 0, 1) := by decide +kernel
theorem eX9_perform_26 : decode (mB MX9_perform) 26 = .ok (.getfield 30, 3) := by decide +kernel
theorem eX9_perform_29 : decode (mB MX9_perform) 29 = .ok (.aload_n 0, 1) := by decide +kernel
theorem eX9_perform_30 : decode (mB MX9_perform) 30 = .ok (.getfield 26, 3) := by decide +kernel
theorem eX9_perform_33 : decode (mB MX9_perform) 33 = .ok (.invokevirtual 181, 3) := by decide +kernel
theorem eX9_perform_36 : decode (mB MX9_perform) 36 = .ok (.aload_n 0, 1) := by decide +kernel
theorem eX9_perform_37 : decode (mB MX9_perform) 37 = .ok (.aload_n 0, 1) := by decide +kernel
theorem eX9_perform_38 : decode (mB MX9_perform) 38 = .ok (.getfield 51, 3) := by decide +kernel
theorem eX9_perform_41 : decode (mB MX9_perform) 41 = .ok (.aload_n 0, 1) := by decide +kernel
theorem eX9_perform_42 : decode (mB MX9_perform) 42 = .ok (.getfield 19, 3) := by decide +kernel
theorem eX9_perform_45 : decode (mB MX9_perform) 45 = .ok (.aload_n 0, 1) := by decide +kernel
theorem eX9_perform_46 : decode (mB MX9_perform) 46 = .ok (.getfield 26, 3) := by decide +kernel
theorem eX9_perform_49 : decode (mB MX9_perform) 49 = .ok (.aload_n 0, 1) := by decide +kernel
theorem eX9_perform_50 : decode (mB MX9_perform) 50 = .ok (.getfield 73, 3) := by decide +kernel
theorem eX9_perform_53 : decode (mB MX9_perform) 53 = .ok (.iload_n 1, 1) := by decide +kernel
theorem eX9_perform_54 : decode (mB MX9_perform) 54 = .ok (.aaload, 1) := by decide +kernel
theorem eX9_perform_55 : decode (mB MX9_perform) 55 = .ok (.invokevirtual 227, 3) := by decide +kernel
theorem eX9_perform_58 : decode (mB MX9_perform) 58 = .ok (.invokevirtual 243, 3) := by decide +kernel
theorem eX9_perform_61 : decode (mB MX9_perform) 61 = .ok (.ireturn, 1) := by decide +kernel
theorem eX9_year_0 : decode (mB MX9_year) 0 = .ok (.iload_n 2, 1) := by decide +kernel
theorem eX9_year_1 : decode (mB MX9_year) 1 = .ok (.iconst 1, 1) := by decide +kernel
theorem eX9_year_2 : decode (mB MX9_year) 2 = .ok (.if_icmp .lt 9, 3) := by decide +kernel
theorem eX9_year_5 : decode (mB MX9_year) 5 = .ok (.iload_n 2, 1) := by decide +kernel
theorem eX9_year_6 : decode (mB MX9_year) 6 = .ok (.bipush 40, 2) := by decide +kernel
theorem eX9_year_8 : decode (mB MX9_year) 8 = .ok (.if_icmp .le 6, 3) := by decide +kernel
theorem eX9_year_11 : decode (mB MX9_year) 11 = .ok (.bipush (-3), 2) := by decide +kernel
theorem eX9_year_13 : decode (mB MX9_year) 13 = .ok (.ireturn, 1) := by decide +kernel
theorem eX9_year_14 : decode (mB MX9_year) 14 = .ok (.aload_n 0, 1) := by decide +kernel
theorem eX9_year_15 : decode (mB MX9_year) 15 = .ok (.getfield 30, 3) := by decide +kernel
theorem eX9_year_18 : decode (mB MX9_year) 18 = .ok (.aload_n 0, 1) := by decide +kernel
theorem eX9_year_19 : decode (mB MX9_year) 19 = .ok (.getfield 26, 3) := by decide +kernel
theorem eX9_year_22 : decode (mB MX9_year) 22 = .ok (.invokevirtual 181, 3) := by decide +kernel
theorem eX9_year_25 : decode (mB MX9_year) 25 = .ok (.aload_n 0, 1) := by decide +kernel
theorem eX9_year_26 : decode (mB MX9_year) 26 = .ok (.aload_n 0, 1) := by decide +kernel
theorem eX9_year_27 : decode (mB MX9_year) 27 = .ok (.getfield 51, 3) := by decide +kernel
theorem eX9_year_30 : decode (mB MX9_year) 30 = .ok (.aload_n 0, 1) := by decide +kernel
theorem eX9_year_31 : decode (mB MX9_year) 31 = .ok (.getfield 19, 3) := by decide +kernel
theorem eX9_year_34 : decode (mB MX9_year) 34 = .ok (.aload_n 0, 1) := by decide +kernel
theorem eX9_year_35 : decode (mB MX9_year) 35 = .ok (.getfield 26, 3) := by decide +kernel
theorem eX9_year_38 : decode (mB MX9_year) 38 = .ok (.iload_n 1, 1) := by decide +kernel
theorem eX9_year_39 : decode (mB MX9_year) 39 = .ok (.iload_n 2, 1) := by decide +kernel
theorem eX9_year_40 : decode (mB MX9_year) 40 = .ok (.invokevirtual 246, 3) := by decide +kernel
theorem eX9_year_43 : decode (mB MX9_year) 43 = .ok (.invokevirtual 243, 3) := by decide +kernel
theorem eX9_year_46 : decode (mB MX9_year) 46 = .ok (.ireturn, 1) := by decide +kernel
theorem eX9_keptIfSome_0 : decode (mB MX9_keptIfSome) 0 = .ok (.iload_n 1, 1) := by decide +kernel
theorem eX9_keptIfSome_1 : decode (mB MX9_keptIfSome) 1 = .ok (.ifCond .le 14, 3) := by decide +kernel
theorem eX9_keptIfSome_4 : decode (mB MX9_keptIfSome) 4 = .ok (.aload_n 0, 1) := by decide +kernel
theorem eX9_keptIfSome_5 : decode (mB MX9_keptIfSome) 5 = .ok (.getfield 44, 3) := by decide +kernel
theorem eX9_keptIfSome_8 : decode (mB MX9_keptIfSome) 8 = .ok (.aload_n 0, 1) := by decide +kernel
theorem eX9_keptIfSome_9 : decode (mB MX9_keptIfSome) 9 = .ok (.getfield 30, 3) := by decide +kernel
theorem eX9_keptIfSome_12 : decode (mB MX9_keptIfSome) 12 = .ok (.invokevirtual 210, 3) := by decide +kernel
theorem eX9_keptIfSome_15 : decode (mB MX9_keptIfSome) 15 = .ok (.iload_n 1, 1) := by decide +kernel
theorem eX9_keptIfSome_16 : decode (mB MX9_keptIfSome) 16 = .ok (.ireturn, 1) := by decide +kernel
theorem eX9_isCover_0 : decode (mB MX9_isCover) 0 = .ok (.aload_n 0, 1) := by decide +kernel
theorem eX9_isCover_1 : decode (mB MX9_isCover) 1 = .ok (.getfield 19, 3) := by decide +kernel
theorem eX9_isCover_4 : decode (mB MX9_isCover) 4 = .ok (.aload_n 0, 1) := by decide +kernel
theorem eX9_isCover_5 : decode (mB MX9_isCover) 5 = .ok (.getfield 26, 3) := by decide +kernel
theorem eX9_isCover_8 : decode (mB MX9_isCover) 8 = .ok (.iconst 1, 1) := by decide +kernel
theorem eX9_isCover_9 : decode (mB MX9_isCover) 9 = .ok (.invokevirtual 250, 3) := by decide +kernel
theorem eX9_isCover_12 : decode (mB MX9_isCover) 12 = .ok (.ifCond .ne 7, 3) := by decide +kernel
theorem eX9_isCover_15 : decode (mB MX9_isCover) 15 = .ok (.iconst 1, 1) := by decide +kernel
theorem eX9_isCover_16 : decode (mB MX9_isCover) 16 = .ok (.goto 4, 3) := by decide +kernel
theorem eX9_isCover_19 : decode (mB MX9_isCover) 19 = .ok (.iconst 0, 1) := by decide +kernel
theorem eX9_isCover_20 : decode (mB MX9_isCover) 20 = .ok (.ireturn, 1) := by decide +kernel
theorem eX9_cost_0 : decode (mB MX9_cost) 0 = .ok (.iconst 0, 1) := by decide +kernel
theorem eX9_cost_1 : decode (mB MX9_cost) 1 = .ok (.istore_n 1, 1) := by decide +kernel
theorem eX9_cost_2 : decode (mB MX9_cost) 2 = .ok (.iconst 0, 1) := by decide +kernel
theorem eX9_cost_3 : decode (mB MX9_cost) 3 = .ok (.istore_n 2, 1) := by decide +kernel
theorem eX9_cost_4 : decode (mB MX9_cost) 4 = .ok (.iload_n 2, 1) := by decide +kernel
theorem eX9_cost_5 : decode (mB MX9_cost) 5 = .ok (.aload_n 0, 1) := by decide +kernel
theorem eX9_cost_6 : decode (mB MX9_cost) 6 = .ok (.getfield 19, 3) := by decide +kernel
theorem eX9_cost_9 : decode (mB MX9_cost) 9 = .ok (.getfield 253, 3) := by decide +kernel
theorem eX9_cost_12 : decode (mB MX9_cost) 12 = .ok (.if_icmp .ge 37, 3) := by decide +kernel
theorem eX9_cost_15 : decode (mB MX9_cost) 15 = .ok (.iload_n 1, 1) := by decide +kernel
theorem eX9_cost_16 : decode (mB MX9_cost) 16 = .ok (.aload_n 0, 1) := by decide +kernel
theorem eX9_cost_17 : decode (mB MX9_cost) 17 = .ok (.getfield 26, 3) := by decide +kernel
theorem eX9_cost_20 : decode (mB MX9_cost) 20 = .ok (.getfield 168, 3) := by decide +kernel
theorem eX9_cost_23 : decode (mB MX9_cost) 23 = .ok (.iload_n 2, 1) := by decide +kernel
theorem eX9_cost_24 : decode (mB MX9_cost) 24 = .ok (.iaload, 1) := by decide +kernel
theorem eX9_cost_25 : decode (mB MX9_cost) 25 = .ok (.aload_n 0, 1) := by decide +kernel
theorem eX9_cost_26 : decode (mB MX9_cost) 26 = .ok (.getfield 19, 3) := by decide +kernel
theorem eX9_cost_29 : decode (mB MX9_cost) 29 = .ok (.iload_n 2, 1) := by decide +kernel
theorem eX9_cost_30 : decode (mB MX9_cost) 30 = .ok (.aload_n 0, 1) := by decide +kernel
theorem eX9_cost_31 : decode (mB MX9_cost) 31 = .ok (.getfield 26, 3) := by decide +kernel
theorem eX9_cost_34 : decode (mB MX9_cost) 34 = .ok (.getfield 145, 3) := by decide +kernel
theorem eX9_cost_37 : decode (mB MX9_cost) 37 = .ok (.invokevirtual 161, 3) := by decide +kernel
theorem eX9_cost_40 : decode (mB MX9_cost) 40 = .ok (.imul, 1) := by decide +kernel
theorem eX9_cost_41 : decode (mB MX9_cost) 41 = .ok (.iadd, 1) := by decide +kernel
theorem eX9_cost_42 : decode (mB MX9_cost) 42 = .ok (.istore_n 1, 1) := by decide +kernel
theorem eX9_cost_43 : decode (mB MX9_cost) 43 = .ok (.iinc 2 1, 3) := by decide +kernel
theorem eX9_cost_46 : decode (mB MX9_cost) 46 = .ok (.goto (-42), 3) := by decide +kernel
theorem eX9_cost_49 : decode (mB MX9_cost) 49 = .ok (.iload_n 1, 1) := by decide +kernel
theorem eX9_cost_50 : decode (mB MX9_cost) 50 = .ok (.ireturn, 1) := by decide +kernel
theorem eX9_yet_0 : decode (mB MX9_yet) 0 = .ok (.iload_n 1, 1) := by decide +kernel
theorem eX9_yet_1 : decode (mB MX9_yet) 1 = .ok (.invokestatic 256, 3) := by decide +kernel
theorem eX9_yet_4 : decode (mB MX9_yet) 4 = .ok (.ifCond .eq 12, 3) := by decide +kernel
theorem eX9_yet_7 : decode (mB MX9_yet) 7 = .ok (.iload_n 2, 1) := by decide +kernel
theorem eX9_yet_8 : decode (mB MX9_yet) 8 = .ok (.ifCond .lt 8, 3) := by decide +kernel
theorem eX9_yet_11 : decode (mB MX9_yet) 11 = .ok (.iload_n 2, 1) := by decide +kernel
theorem eX9_yet_12 : decode (mB MX9_yet) 12 = .ok (.iconst 1, 1) := by decide +kernel
theorem eX9_yet_13 : decode (mB MX9_yet) 13 = .ok (.if_icmp .le 6, 3) := by decide +kernel
theorem eX9_yet_16 : decode (mB MX9_yet) 16 = .ok (.bipush (-2), 2) := by decide +kernel
theorem eX9_yet_18 : decode (mB MX9_yet) 18 = .ok (.ireturn, 1) := by decide +kernel
theorem eX9_yet_19 : decode (mB MX9_yet) 19 = .ok (.aload_n 0, 1) := by decide +kernel
theorem eX9_yet_20 : decode (mB MX9_yet) 20 = .ok (.getfield 58, 3) := by decide +kernel
theorem eX9_yet_23 : decode (mB MX9_yet) 23 = .ok (.aload_n 0, 1) := by decide +kernel
theorem eX9_yet_24 : decode (mB MX9_yet) 24 = .ok (.getfield 19, 3) := by decide +kernel
theorem eX9_yet_27 : decode (mB MX9_yet) 27 = .ok (.aload_n 0, 1) := by decide +kernel
theorem eX9_yet_28 : decode (mB MX9_yet) 28 = .ok (.getfield 26, 3) := by decide +kernel
theorem eX9_yet_31 : decode (mB MX9_yet) 31 = .ok (.iload_n 1, 1) := by decide +kernel
theorem eX9_yet_32 : decode (mB MX9_yet) 32 = .ok (.invokevirtual 259, 3) := by decide +kernel
theorem eX9_yet_35 : decode (mB MX9_yet) 35 = .ok (.ifCond .ne 5, 3) := by decide +kernel
theorem eX9_yet_38 : decode (mB MX9_yet) 38 = .ok (.iconst (-1), 1) := by decide +kernel
theorem eX9_yet_39 : decode (mB MX9_yet) 39 = .ok (.ireturn, 1) := by decide +kernel
theorem eX9_yet_40 : decode (mB MX9_yet) 40 = .ok (.iload_n 2, 1) := by decide +kernel
theorem eX9_yet_41 : decode (mB MX9_yet) 41 = .ok (.ifCond .ne 13, 3) := by decide +kernel
theorem eX9_yet_44 : decode (mB MX9_yet) 44 = .ok (.aload_n 0, 1) := by decide +kernel
theorem eX9_yet_45 : decode (mB MX9_yet) 45 = .ok (.getfield 58, 3) := by decide +kernel
theorem eX9_yet_48 : decode (mB MX9_yet) 48 = .ok (.getfield 263, 3) := by decide +kernel
theorem eX9_yet_51 : decode (mB MX9_yet) 51 = .ok (.goto 10, 3) := by decide +kernel
theorem eX9_yet_54 : decode (mB MX9_yet) 54 = .ok (.aload_n 0, 1) := by decide +kernel
theorem eX9_yet_55 : decode (mB MX9_yet) 55 = .ok (.getfield 58, 3) := by decide +kernel
theorem eX9_yet_58 : decode (mB MX9_yet) 58 = .ok (.getfield 266, 3) := by decide +kernel
theorem eX9_yet_61 : decode (mB MX9_yet) 61 = .ok (.ireturn, 1) := by decide +kernel
theorem eX9_among_0 : decode (mB MX9_among) 0 = .ok (.iload_n 1, 1) := by decide +kernel
theorem eX9_among_1 : decode (mB MX9_among) 1 = .ok (.invokestatic 256, 3) := by decide +kernel
theorem eX9_among_4 : decode (mB MX9_among) 4 = .ok (.ifCond .eq 21, 3) := by decide +kernel
theorem eX9_among_7 : decode (mB MX9_among) 7 = .ok (.aload_n 0, 1) := by decide +kernel
theorem eX9_among_8 : decode (mB MX9_among) 8 = .ok (.getfield 19, 3) := by decide +kernel
theorem eX9_among_11 : decode (mB MX9_among) 11 = .ok (.aload_n 0, 1) := by decide +kernel
theorem eX9_among_12 : decode (mB MX9_among) 12 = .ok (.getfield 26, 3) := by decide +kernel
theorem eX9_among_15 : decode (mB MX9_among) 15 = .ok (.getfield 145, 3) := by decide +kernel
theorem eX9_among_18 : decode (mB MX9_among) 18 = .ok (.iload_n 2, 1) := by decide +kernel
theorem eX9_among_19 : decode (mB MX9_among) 19 = .ok (.invokevirtual 148, 3) := by decide +kernel
theorem eX9_among_22 : decode (mB MX9_among) 22 = .ok (.ifCond .ge 6, 3) := by decide +kernel
theorem eX9_among_25 : decode (mB MX9_among) 25 = .ok (.bipush (-2), 2) := by decide +kernel
theorem eX9_among_27 : decode (mB MX9_among) 27 = .ok (.ireturn, 1) := by decide +kernel
theorem eX9_among_28 : decode (mB MX9_among) 28 = .ok (.aload_n 0, 1) := by decide +kernel
theorem eX9_among_29 : decode (mB MX9_among) 29 = .ok (.getfield 58, 3) := by decide +kernel
theorem eX9_among_32 : decode (mB MX9_among) 32 = .ok (.aload_n 0, 1) := by decide +kernel
theorem eX9_among_33 : decode (mB MX9_among) 33 = .ok (.getfield 19, 3) := by decide +kernel
theorem eX9_among_36 : decode (mB MX9_among) 36 = .ok (.aload_n 0, 1) := by decide +kernel
theorem eX9_among_37 : decode (mB MX9_among) 37 = .ok (.getfield 26, 3) := by decide +kernel
theorem eX9_among_40 : decode (mB MX9_among) 40 = .ok (.iload_n 1, 1) := by decide +kernel
theorem eX9_among_41 : decode (mB MX9_among) 41 = .ok (.invokevirtual 259, 3) := by decide +kernel
theorem eX9_among_44 : decode (mB MX9_among) 44 = .ok (.ifCond .eq 15, 3) := by decide +kernel
theorem eX9_among_47 : decode (mB MX9_among) 47 = .ok (.aload_n 0, 1) := by decide +kernel
theorem eX9_among_48 : decode (mB MX9_among) 48 = .ok (.getfield 58, 3) := by decide +kernel
theorem eX9_among_51 : decode (mB MX9_among) 51 = .ok (.getfield 269, 3) := by decide +kernel
theorem eX9_among_54 : decode (mB MX9_among) 54 = .ok (.iload_n 2, 1) := by decide +kernel
theorem eX9_among_55 : decode (mB MX9_among) 55 = .ok (.iaload, 1) := by decide +kernel
theorem eX9_among_56 : decode (mB MX9_among) 56 = .ok (.goto 4, 3) := by decide +kernel
theorem eX9_among_59 : decode (mB MX9_among) 59 = .ok (.iconst (-1), 1) := by decide +kernel
theorem eX9_among_60 : decode (mB MX9_among) 60 = .ok (.ireturn, 1) := by decide +kernel
theorem eX9_bound_0 : decode (mB MX9_bound) 0 = .ok (.iload_n 1, 1) := by decide +kernel
theorem eX9_bound_1 : decode (mB MX9_bound) 1 = .ok (.ifCond .lt 8, 3) := by decide +kernel
theorem eX9_bound_4 : decode (mB MX9_bound) 4 = .ok (.iload_n 1, 1) := by decide +kernel
theorem eX9_bound_5 : decode (mB MX9_bound) 5 = .ok (.iconst 1, 1) := by decide +kernel
theorem eX9_bound_6 : decode (mB MX9_bound) 6 = .ok (.if_icmp .le 7, 3) := by decide +kernel
theorem eX9_bound_9 : decode (mB MX9_bound) 9 = .ok (.ldc2_w 272, 3) := by decide +kernel
theorem eX9_bound_12 : decode (mB MX9_bound) 12 = .ok (.lreturn, 1) := by decide +kernel
theorem eX9_bound_13 : decode (mB MX9_bound) 13 = .ok (.aload_n 0, 1) := by decide +kernel
theorem eX9_bound_14 : decode (mB MX9_bound) 14 = .ok (.getfield 58, 3) := by decide +kernel
theorem eX9_bound_17 : decode (mB MX9_bound) 17 = .ok (.aload_n 0, 1) := by decide +kernel
theorem eX9_bound_18 : decode (mB MX9_bound) 18 = .ok (.getfield 19, 3) := by decide +kernel
theorem eX9_bound_21 : decode (mB MX9_bound) 21 = .ok (.aload_n 0, 1) := by decide +kernel
theorem eX9_bound_22 : decode (mB MX9_bound) 22 = .ok (.getfield 26, 3) := by decide +kernel
theorem eX9_bound_25 : decode (mB MX9_bound) 25 = .ok (.getfield 145, 3) := by decide +kernel
theorem eX9_bound_28 : decode (mB MX9_bound) 28 = .ok (.aload_n 0, 1) := by decide +kernel
theorem eX9_bound_29 : decode (mB MX9_bound) 29 = .ok (.getfield 65, 3) := by decide +kernel
theorem eX9_bound_32 : decode (mB MX9_bound) 32 = .ok (.invokevirtual 274, 3) := by decide +kernel
theorem eX9_bound_35 : decode (mB MX9_bound) 35 = .ok (.ifCond .ne 7, 3) := by decide +kernel
theorem eX9_bound_38 : decode (mB MX9_bound) 38 = .ok (.ldc2_w 278, 3) := by decide +kernel
theorem eX9_bound_41 : decode (mB MX9_bound) 41 = .ok (.lreturn, 1) := by decide +kernel
theorem eX9_bound_42 : decode (mB MX9_bound) 42 = .ok (.aload_n 0, 1) := by decide +kernel
theorem eX9_bound_43 : decode (mB MX9_bound) 43 = .ok (.getfield 65, 3) := by decide +kernel
theorem eX9_bound_46 : decode (mB MX9_bound) 46 = .ok (.iload_n 1, 1) := by decide +kernel
theorem eX9_bound_47 : decode (mB MX9_bound) 47 = .ok (.invokevirtual 280, 3) := by decide +kernel
theorem eX9_bound_50 : decode (mB MX9_bound) 50 = .ok (.lreturn, 1) := by decide +kernel
theorem eX9_covers_0 : decode (mB MX9_covers) 0 = .ok (.iload_n 1, 1) := by decide +kernel
theorem eX9_covers_1 : decode (mB MX9_covers) 1 = .ok (.ifCond .lt 8, 3) := by decide +kernel
theorem eX9_covers_4 : decode (mB MX9_covers) 4 = .ok (.iload_n 1, 1) := by decide +kernel
theorem eX9_covers_5 : decode (mB MX9_covers) 5 = .ok (.iconst 3, 1) := by decide +kernel
theorem eX9_covers_6 : decode (mB MX9_covers) 6 = .ok (.if_icmp .le 6, 3) := by decide +kernel
theorem eX9_covers_9 : decode (mB MX9_covers) 9 = .ok (.bipush (-3), 2) := by decide +kernel
theorem eX9_covers_11 : decode (mB MX9_covers) 11 = .ok (.ireturn, 1) := by decide +kernel
theorem eX9_covers_12 : decode (mB MX9_covers) 12 = .ok (.aload_n 0, 1) := by decide +kernel
theorem eX9_covers_13 : decode (mB MX9_covers) 13 = .ok (.getfield 58, 3) := by decide +kernel
theorem eX9_covers_16 : decode (mB MX9_covers) 16 = .ok (.aload_n 0, 1) := by decide +kernel
theorem eX9_covers_17 : decode (mB MX9_covers) 17 = .ok (.getfield 19, 3) := by decide +kernel
theorem eX9_covers_20 : decode (mB MX9_covers) 20 = .ok (.aload_n 0, 1) := by decide +kernel
theorem eX9_covers_21 : decode (mB MX9_covers) 21 = .ok (.getfield 26, 3) := by decide +kernel
theorem eX9_covers_24 : decode (mB MX9_covers) 24 = .ok (.getfield 145, 3) := by decide +kernel
theorem eX9_covers_27 : decode (mB MX9_covers) 27 = .ok (.iload_n 1, 1) := by decide +kernel
theorem eX9_covers_28 : decode (mB MX9_covers) 28 = .ok (.invokevirtual 284, 3) := by decide +kernel
theorem eX9_covers_31 : decode (mB MX9_covers) 31 = .ok (.ireturn, 1) := by decide +kernel
theorem eX9_best_0 : decode (mB MX9_best) 0 = .ok (.aload_n 0, 1) := by decide +kernel
theorem eX9_best_1 : decode (mB MX9_best) 1 = .ok (.getfield 58, 3) := by decide +kernel
theorem eX9_best_4 : decode (mB MX9_best) 4 = .ok (.aload_n 0, 1) := by decide +kernel
theorem eX9_best_5 : decode (mB MX9_best) 5 = .ok (.getfield 19, 3) := by decide +kernel
theorem eX9_best_8 : decode (mB MX9_best) 8 = .ok (.aload_n 0, 1) := by decide +kernel
theorem eX9_best_9 : decode (mB MX9_best) 9 = .ok (.getfield 26, 3) := by decide +kernel
theorem eX9_best_12 : decode (mB MX9_best) 12 = .ok (.getfield 145, 3) := by decide +kernel
theorem eX9_best_15 : decode (mB MX9_best) 15 = .ok (.iconst (-1), 1) := by decide +kernel
theorem eX9_best_16 : decode (mB MX9_best) 16 = .ok (.invokevirtual 288, 3) := by decide +kernel
theorem eX9_best_19 : decode (mB MX9_best) 19 = .ok (.ireturn, 1) := by decide +kernel
theorem eX9_spare_0 : decode (mB MX9_spare) 0 = .ok (.aload_n 0, 1) := by decide +kernel
theorem eX9_spare_1 : decode (mB MX9_spare) 1 = .ok (.getfield 19, 3) := by decide +kernel
theorem eX9_spare_4 : decode (mB MX9_spare) 4 = .ok (.aload_n 0, 1) := by decide +kernel
theorem eX9_spare_5 : decode (mB MX9_spare) 5 = .ok (.getfield 26, 3) := by decide +kernel
theorem eX9_spare_8 : decode (mB MX9_spare) 8 = .ok (.iconst 1, 1) := by decide +kernel
theorem eX9_spare_9 : decode (mB MX9_spare) 9 = .ok (.invokevirtual 250, 3) := by decide +kernel
theorem eX9_spare_12 : decode (mB MX9_spare) 12 = .ok (.ifCond .eq 5, 3) := by decide +kernel
theorem eX9_spare_15 : decode (mB MX9_spare) 15 = .ok (.iconst 0, 1) := by decide +kernel
theorem eX9_spare_16 : decode (mB MX9_spare) 16 = .ok (.ireturn, 1) := by decide +kernel
theorem eX9_spare_17 : decode (mB MX9_spare) 17 = .ok (.aload_n 0, 1) := by decide +kernel
theorem eX9_spare_18 : decode (mB MX9_spare) 18 = .ok (.getfield 37, 3) := by decide +kernel
theorem eX9_spare_21 : decode (mB MX9_spare) 21 = .ok (.iconst 0, 1) := by decide +kernel
theorem eX9_spare_22 : decode (mB MX9_spare) 22 = .ok (.aaload, 1) := by decide +kernel
theorem eX9_spare_23 : decode (mB MX9_spare) 23 = .ok (.astore_n 1, 1) := by decide +kernel
theorem eX9_spare_24 : decode (mB MX9_spare) 24 = .ok (.aload_n 1, 1) := by decide +kernel
theorem eX9_spare_25 : decode (mB MX9_spare) 25 = .ok (.aload_n 0, 1) := by decide +kernel
theorem eX9_spare_26 : decode (mB MX9_spare) 26 = .ok (.getfield 26, 3) := by decide +kernel
theorem eX9_spare_29 : decode (mB MX9_spare) 29 = .ok (.invokevirtual 181, 3) := by decide +kernel
theorem eX9_spare_32 : decode (mB MX9_spare) 32 = .ok (.iconst 0, 1) := by decide +kernel
theorem eX9_spare_33 : decode (mB MX9_spare) 33 = .ok (.istore_n 2, 1) := by decide +kernel
theorem eX9_spare_34 : decode (mB MX9_spare) 34 = .ok (.aload_n 0, 1) := by decide +kernel
theorem eX9_spare_35 : decode (mB MX9_spare) 35 = .ok (.getfield 19, 3) := by decide +kernel
theorem eX9_spare_38 : decode (mB MX9_spare) 38 = .ok (.aload_n 0, 1) := by decide +kernel
theorem eX9_spare_39 : decode (mB MX9_spare) 39 = .ok (.getfield 26, 3) := by decide +kernel
theorem eX9_spare_42 : decode (mB MX9_spare) 42 = .ok (.getfield 145, 3) := by decide +kernel
theorem eX9_spare_45 : decode (mB MX9_spare) 45 = .ok (.invokevirtual 171, 3) := by decide +kernel
theorem eX9_spare_48 : decode (mB MX9_spare) 48 = .ok (.bipush 31, 2) := by decide +kernel
theorem eX9_spare_50 : decode (mB MX9_spare) 50 = .ok (.invokestatic 291, 3) := by decide +kernel
theorem eX9_spare_53 : decode (mB MX9_spare) 53 = .ok (.istore_n 3, 1) := by decide +kernel
theorem eX9_spare_54 : decode (mB MX9_spare) 54 = .ok (.iconst 0, 1) := by decide +kernel
theorem eX9_spare_55 : decode (mB MX9_spare) 55 = .ok (.istore 4, 2) := by decide +kernel
theorem eX9_spare_57 : decode (mB MX9_spare) 57 = .ok (.iload 4, 2) := by decide +kernel
theorem eX9_spare_59 : decode (mB MX9_spare) 59 = .ok (.iload_n 3, 1) := by decide +kernel
theorem eX9_spare_60 : decode (mB MX9_spare) 60 = .ok (.if_icmp .ge 87, 3) := by decide +kernel
theorem eX9_spare_63 : decode (mB MX9_spare) 63 = .ok (.aload_n 0, 1) := by decide +kernel
theorem eX9_spare_64 : decode (mB MX9_spare) 64 = .ok (.getfield 19, 3) := by decide +kernel
theorem eX9_spare_67 : decode (mB MX9_spare) 67 = .ok (.aload_n 0, 1) := by decide +kernel
theorem eX9_spare_68 : decode (mB MX9_spare) 68 = .ok (.getfield 26, 3) := by decide +kernel
theorem eX9_spare_71 : decode (mB MX9_spare) 71 = .ok (.getfield 145, 3) := by decide +kernel
theorem eX9_spare_74 : decode (mB MX9_spare) 74 = .ok (.iload 4, 2) := by decide +kernel
theorem eX9_spare_76 : decode (mB MX9_spare) 76 = .ok (.invokevirtual 148, 3) := by decide +kernel
theorem eX9_spare_79 : decode (mB MX9_spare) 79 = .ok (.istore 5, 2) := by decide +kernel
theorem eX9_spare_81 : decode (mB MX9_spare) 81 = .ok (.iload 5, 2) := by decide +kernel
theorem eX9_spare_83 : decode (mB MX9_spare) 83 = .ok (.ifCond .lt 58, 3) := by decide +kernel
theorem eX9_spare_86 : decode (mB MX9_spare) 86 = .ok (.aload_n 1, 1) := by decide +kernel
theorem eX9_spare_87 : decode (mB MX9_spare) 87 = .ok (.getfield 168, 3) := by decide +kernel
theorem eX9_spare_90 : decode (mB MX9_spare) 90 = .ok (.iload 5, 2) := by decide +kernel
theorem eX9_spare_92 : decode (mB MX9_spare) 92 = .ok (.iaload, 1) := by decide +kernel
theorem eX9_spare_93 : decode (mB MX9_spare) 93 = .ok (.ifCond .le 48, 3) := by decide +kernel
theorem eX9_spare_96 : decode (mB MX9_spare) 96 = .ok (.aload_n 1, 1) := by decide +kernel
theorem eX9_spare_97 : decode (mB MX9_spare) 97 = .ok (.getfield 168, 3) := by decide +kernel
theorem eX9_spare_100 : decode (mB MX9_spare) 100 = .ok (.iload 5, 2) := by decide +kernel
theorem eX9_spare_102 : decode (mB MX9_spare) 102 = .ok (.dup2, 1) := by decide +kernel
theorem eX9_spare_103 : decode (mB MX9_spare) 103 = .ok (.iaload, 1) := by decide +kernel
theorem eX9_spare_104 : decode (mB MX9_spare) 104 = .ok (.iconst 1, 1) := by decide +kernel
theorem eX9_spare_105 : decode (mB MX9_spare) 105 = .ok (.isub, 1) := by decide +kernel
theorem eX9_spare_106 : decode (mB MX9_spare) 106 = .ok (.iastore, 1) := by decide +kernel
theorem eX9_spare_107 : decode (mB MX9_spare) 107 = .ok (.iload_n 2, 1) := by decide +kernel
theorem eX9_spare_108 : decode (mB MX9_spare) 108 = .ok (.aload_n 0, 1) := by decide +kernel
theorem eX9_spare_109 : decode (mB MX9_spare) 109 = .ok (.getfield 19, 3) := by decide +kernel
theorem eX9_spare_112 : decode (mB MX9_spare) 112 = .ok (.aload_n 1, 1) := by decide +kernel
theorem eX9_spare_113 : decode (mB MX9_spare) 113 = .ok (.iconst 1, 1) := by decide +kernel
theorem eX9_spare_114 : decode (mB MX9_spare) 114 = .ok (.invokevirtual 250, 3) := by decide +kernel
theorem eX9_spare_117 : decode (mB MX9_spare) 117 = .ok (.ifCond .ne 10, 3) := by decide +kernel
theorem eX9_spare_120 : decode (mB MX9_spare) 120 = .ok (.iconst 1, 1) := by decide +kernel
theorem eX9_spare_121 : decode (mB MX9_spare) 121 = .ok (.iload 4, 2) := by decide +kernel
theorem eX9_spare_123 : decode (mB MX9_spare) 123 = .ok (.ishl, 1) := by decide +kernel
theorem eX9_spare_124 : decode (mB MX9_spare) 124 = .ok (.goto 4, 3) := by decide +kernel
theorem eX9_spare_127 : decode (mB MX9_spare) 127 = .ok (.iconst 0, 1) := by decide +kernel
theorem eX9_spare_128 : decode (mB MX9_spare) 128 = .ok (.ior, 1) := by decide +kernel
theorem eX9_spare_129 : decode (mB MX9_spare) 129 = .ok (.istore_n 2, 1) := by decide +kernel
theorem eX9_spare_130 : decode (mB MX9_spare) 130 = .ok (.aload_n 1, 1) := by decide +kernel
theorem eX9_spare_131 : decode (mB MX9_spare) 131 = .ok (.getfield 168, 3) := by decide +kernel
theorem eX9_spare_134 : decode (mB MX9_spare) 134 = .ok (.iload 5, 2) := by decide +kernel
theorem eX9_spare_136 : decode (mB MX9_spare) 136 = .ok (.dup2, 1) := by decide +kernel
theorem eX9_spare_137 : decode (mB MX9_spare) 137 = .ok (.iaload, 1) := by decide +kernel
theorem eX9_spare_138 : decode (mB MX9_spare) 138 = .ok (.iconst 1, 1) := by decide +kernel
theorem eX9_spare_139 : decode (mB MX9_spare) 139 = .ok (.iadd, 1) := by decide +kernel
theorem eX9_spare_140 : decode (mB MX9_spare) 140 = .ok (.iastore, 1) := by decide +kernel
theorem eX9_spare_141 : decode (mB MX9_spare) 141 = .ok (.iinc 4 1, 3) := by decide +kernel
theorem eX9_spare_144 : decode (mB MX9_spare) 144 = .ok (.goto (-87), 3) := by decide +kernel
theorem eX9_spare_147 : decode (mB MX9_spare) 147 = .ok (.iload_n 2, 1) := by decide +kernel
theorem eX9_spare_148 : decode (mB MX9_spare) 148 = .ok (.ireturn, 1) := by decide +kernel
theorem eX9_isAim_0 : decode (mB MX9_isAim) 0 = .ok (.iload_n 0, 1) := by decide +kernel
theorem eX9_isAim_1 : decode (mB MX9_isAim) 1 = .ok (.ifCond .eq 8, 3) := by decide +kernel
theorem eX9_isAim_4 : decode (mB MX9_isAim) 4 = .ok (.iload_n 0, 1) := by decide +kernel
theorem eX9_isAim_5 : decode (mB MX9_isAim) 5 = .ok (.iconst 1, 1) := by decide +kernel
theorem eX9_isAim_6 : decode (mB MX9_isAim) 6 = .ok (.if_icmp .ne 7, 3) := by decide +kernel
theorem eX9_isAim_9 : decode (mB MX9_isAim) 9 = .ok (.iconst 1, 1) := by decide +kernel
theorem eX9_isAim_10 : decode (mB MX9_isAim) 10 = .ok (.goto 4, 3) := by decide +kernel
theorem eX9_isAim_13 : decode (mB MX9_isAim) 13 = .ok (.iconst 0, 1) := by decide +kernel
theorem eX9_isAim_14 : decode (mB MX9_isAim) 14 = .ok (.ireturn, 1) := by decide +kernel
theorem eX9_runs_0 : decode (mB MX9_runs) 0 = .ok (.aload_n 0, 1) := by decide +kernel
theorem eX9_runs_1 : decode (mB MX9_runs) 1 = .ok (.getfield 19, 3) := by decide +kernel
theorem eX9_runs_4 : decode (mB MX9_runs) 4 = .ok (.iload_n 1, 1) := by decide +kernel
theorem eX9_runs_5 : decode (mB MX9_runs) 5 = .ok (.invokevirtual 117, 3) := by decide +kernel
theorem eX9_runs_8 : decode (mB MX9_runs) 8 = .ok (.ifCond .eq 29, 3) := by decide +kernel
theorem eX9_runs_11 : decode (mB MX9_runs) 11 = .ok (.iload_n 2, 1) := by decide +kernel
theorem eX9_runs_12 : decode (mB MX9_runs) 12 = .ok (.ifCond .lt 25, 3) := by decide +kernel
theorem eX9_runs_15 : decode (mB MX9_runs) 15 = .ok (.iload_n 2, 1) := by decide +kernel
theorem eX9_runs_16 : decode (mB MX9_runs) 16 = .ok (.aload_n 0, 1) := by decide +kernel
theorem eX9_runs_17 : decode (mB MX9_runs) 17 = .ok (.getfield 19, 3) := by decide +kernel
theorem eX9_runs_20 : decode (mB MX9_runs) 20 = .ok (.getfield 131, 3) := by decide +kernel
theorem eX9_runs_23 : decode (mB MX9_runs) 23 = .ok (.iload_n 1, 1) := by decide +kernel
theorem eX9_runs_24 : decode (mB MX9_runs) 24 = .ok (.iaload, 1) := by decide +kernel
theorem eX9_runs_25 : decode (mB MX9_runs) 25 = .ok (.if_icmp .ge 12, 3) := by decide +kernel
theorem eX9_runs_28 : decode (mB MX9_runs) 28 = .ok (.iload_n 3, 1) := by decide +kernel
theorem eX9_runs_29 : decode (mB MX9_runs) 29 = .ok (.ifCond .lt 8, 3) := by decide +kernel
theorem eX9_runs_32 : decode (mB MX9_runs) 32 = .ok (.iload_n 3, 1) := by decide +kernel
theorem eX9_runs_33 : decode (mB MX9_runs) 33 = .ok (.iconst 2, 1) := by decide +kernel
theorem eX9_runs_34 : decode (mB MX9_runs) 34 = .ok (.if_icmp .le 6, 3) := by decide +kernel
theorem eX9_runs_37 : decode (mB MX9_runs) 37 = .ok (.bipush (-2), 2) := by decide +kernel
theorem eX9_runs_39 : decode (mB MX9_runs) 39 = .ok (.ireturn, 1) := by decide +kernel
theorem eX9_runs_40 : decode (mB MX9_runs) 40 = .ok (.aload_n 0, 1) := by decide +kernel
theorem eX9_runs_41 : decode (mB MX9_runs) 41 = .ok (.getfield 26, 3) := by decide +kernel
theorem eX9_runs_44 : decode (mB MX9_runs) 44 = .ok (.getfield 296, 3) := by decide +kernel
theorem eX9_runs_47 : decode (mB MX9_runs) 47 = .ok (.iload_n 1, 1) := by decide +kernel
theorem eX9_runs_48 : decode (mB MX9_runs) 48 = .ok (.iconst 2, 1) := by decide +kernel
theorem eX9_runs_49 : decode (mB MX9_runs) 49 = .ok (.imul, 1) := by decide +kernel
theorem eX9_runs_50 : decode (mB MX9_runs) 50 = .ok (.iload_n 2, 1) := by decide +kernel
theorem eX9_runs_51 : decode (mB MX9_runs) 51 = .ok (.iadd, 1) := by decide +kernel
theorem eX9_runs_52 : decode (mB MX9_runs) 52 = .ok (.iaload, 1) := by decide +kernel
theorem eX9_runs_53 : decode (mB MX9_runs) 53 = .ok (.istore 4, 2) := by decide +kernel
theorem eX9_runs_55 : decode (mB MX9_runs) 55 = .ok (.iload 4, 2) := by decide +kernel
theorem eX9_runs_57 : decode (mB MX9_runs) 57 = .ok (.ifCond .ge 5, 3) := by decide +kernel
theorem eX9_runs_60 : decode (mB MX9_runs) 60 = .ok (.iconst (-1), 1) := by decide +kernel
theorem eX9_runs_61 : decode (mB MX9_runs) 61 = .ok (.ireturn, 1) := by decide +kernel
theorem eX9_runs_62 : decode (mB MX9_runs) 62 = .ok (.iload 4, 2) := by decide +kernel
theorem eX9_runs_64 : decode (mB MX9_runs) 64 = .ok (.bipush 10, 2) := by decide +kernel
theorem eX9_runs_66 : decode (mB MX9_runs) 66 = .ok (.ishr, 1) := by decide +kernel
theorem eX9_runs_67 : decode (mB MX9_runs) 67 = .ok (.istore 5, 2) := by decide +kernel
theorem eX9_runs_69 : decode (mB MX9_runs) 69 = .ok (.iload_n 3, 1) := by decide +kernel
theorem eX9_runs_70 : decode (mB MX9_runs) 70 = .ok (.lookupswitch 52 #[(0, 26), (1, 46)], 26) := by decide +kernel
theorem eX9_runs_96 : decode (mB MX9_runs) 96 = .ok (.aload_n 0, 1) := by decide +kernel
theorem eX9_runs_97 : decode (mB MX9_runs) 97 = .ok (.getfield 19, 3) := by decide +kernel
theorem eX9_runs_100 : decode (mB MX9_runs) 100 = .ok (.aload_n 0, 1) := by decide +kernel
theorem eX9_runs_101 : decode (mB MX9_runs) 101 = .ok (.getfield 26, 3) := by decide +kernel
theorem eX9_runs_104 : decode (mB MX9_runs) 104 = .ok (.getfield 145, 3) := by decide +kernel
theorem eX9_runs_107 : decode (mB MX9_runs) 107 = .ok (.iload 5, 2) := by decide +kernel
theorem eX9_runs_109 : decode (mB MX9_runs) 109 = .ok (.bipush 9, 2) := by decide +kernel
theorem eX9_runs_111 : decode (mB MX9_runs) 111 = .ok (.idiv, 1) := by decide +kernel
theorem eX9_runs_112 : decode (mB MX9_runs) 112 = .ok (.invokevirtual 299, 3) := by decide +kernel
theorem eX9_runs_115 : decode (mB MX9_runs) 115 = .ok (.ireturn, 1) := by decide +kernel
theorem eX9_runs_116 : decode (mB MX9_runs) 116 = .ok (.iload 5, 2) := by decide +kernel
theorem eX9_runs_118 : decode (mB MX9_runs) 118 = .ok (.bipush 9, 2) := by decide +kernel
theorem eX9_runs_120 : decode (mB MX9_runs) 120 = .ok (.irem, 1) := by decide +kernel
theorem eX9_runs_121 : decode (mB MX9_runs) 121 = .ok (.ireturn, 1) := by decide +kernel
theorem eX9_runs_122 : decode (mB MX9_runs) 122 = .ok (.iload 4, 2) := by decide +kernel
theorem eX9_runs_124 : decode (mB MX9_runs) 124 = .ok (.invokestatic 302, 3) := by decide +kernel
theorem eX9_runs_127 : decode (mB MX9_runs) 127 = .ok (.ireturn, 1) := by decide +kernel
theorem eX9_lost_0 : decode (mB MX9_lost) 0 = .ok (.aload_n 0, 1) := by decide +kernel
theorem eX9_lost_1 : decode (mB MX9_lost) 1 = .ok (.getfield 51, 3) := by decide +kernel
theorem eX9_lost_4 : decode (mB MX9_lost) 4 = .ok (.aload_n 0, 1) := by decide +kernel
theorem eX9_lost_5 : decode (mB MX9_lost) 5 = .ok (.getfield 19, 3) := by decide +kernel
theorem eX9_lost_8 : decode (mB MX9_lost) 8 = .ok (.aload_n 0, 1) := by decide +kernel
theorem eX9_lost_9 : decode (mB MX9_lost) 9 = .ok (.getfield 26, 3) := by decide +kernel
theorem eX9_lost_12 : decode (mB MX9_lost) 12 = .ok (.invokevirtual 200, 3) := by decide +kernel
theorem eX9_lost_15 : decode (mB MX9_lost) 15 = .ok (.ireturn, 1) := by decide +kernel
theorem eX9_ifFails_0 : decode (mB MX9_ifFails) 0 = .ok (.aload_n 0, 1) := by decide +kernel
theorem eX9_ifFails_1 : decode (mB MX9_ifFails) 1 = .ok (.getfield 19, 3) := by decide +kernel
theorem eX9_ifFails_4 : decode (mB MX9_ifFails) 4 = .ok (.iload_n 1, 1) := by decide +kernel
theorem eX9_ifFails_5 : decode (mB MX9_ifFails) 5 = .ok (.invokevirtual 117, 3) := by decide +kernel
theorem eX9_ifFails_8 : decode (mB MX9_ifFails) 8 = .ok (.ifCond .ne 6, 3) := by decide +kernel
theorem eX9_ifFails_11 : decode (mB MX9_ifFails) 11 = .ok (.bipush (-2), 2) := by decide +kernel
theorem eX9_ifFails_13 : decode (mB MX9_ifFails) 13 = .ok (.ireturn, 1) := by decide +kernel
theorem eX9_ifFails_14 : decode (mB MX9_ifFails) 14 = .ok (.aload_n 0, 1) := by decide +kernel
theorem eX9_ifFails_15 : decode (mB MX9_ifFails) 15 = .ok (.getfield 26, 3) := by decide +kernel
theorem eX9_ifFails_18 : decode (mB MX9_ifFails) 18 = .ok (.iload_n 1, 1) := by decide +kernel
theorem eX9_ifFails_19 : decode (mB MX9_ifFails) 19 = .ok (.invokevirtual 134, 3) := by decide +kernel
theorem eX9_ifFails_22 : decode (mB MX9_ifFails) 22 = .ok (.ifCond .eq 8, 3) := by decide +kernel
theorem eX9_ifFails_25 : decode (mB MX9_ifFails) 25 = .ok (.bipush (-5), 2) := by decide +kernel
theorem eX9_ifFails_27 : decode (mB MX9_ifFails) 27 = .ok (.goto 18, 3) := by decide +kernel
theorem eX9_ifFails_30 : decode (mB MX9_ifFails) 30 = .ok (.aload_n 0, 1) := by decide +kernel
theorem eX9_ifFails_31 : decode (mB MX9_ifFails) 31 = .ok (.aload_n 0, 1) := by decide +kernel
theorem eX9_ifFails_32 : decode (mB MX9_ifFails) 32 = .ok (.getfield 26, 3) := by decide +kernel
theorem eX9_ifFails_35 : decode (mB MX9_ifFails) 35 = .ok (.iload_n 1, 1) := by decide +kernel
theorem eX9_ifFails_36 : decode (mB MX9_ifFails) 36 = .ok (.aload_n 0, 1) := by decide +kernel
theorem eX9_ifFails_37 : decode (mB MX9_ifFails) 37 = .ok (.getfield 37, 3) := by decide +kernel
theorem eX9_ifFails_40 : decode (mB MX9_ifFails) 40 = .ok (.iconst 0, 1) := by decide +kernel
theorem eX9_ifFails_41 : decode (mB MX9_ifFails) 41 = .ok (.aaload, 1) := by decide +kernel
theorem eX9_ifFails_42 : decode (mB MX9_ifFails) 42 = .ok (.invokevirtual 305, 3) := by decide +kernel
theorem eX9_ifFails_45 : decode (mB MX9_ifFails) 45 = .ok (.ireturn, 1) := by decide +kernel
theorem eX9_lostBehind_0 : decode (mB MX9_lostBehind) 0 = .ok (.aload_n 3, 1) := by decide +kernel
theorem eX9_lostBehind_1 : decode (mB MX9_lostBehind) 1 = .ok (.aload_n 1, 1) := by decide +kernel
theorem eX9_lostBehind_2 : decode (mB MX9_lostBehind) 2 = .ok (.invokevirtual 181, 3) := by decide +kernel
theorem eX9_lostBehind_5 : decode (mB MX9_lostBehind) 5 = .ok (.aload_n 0, 1) := by decide +kernel
theorem eX9_lostBehind_6 : decode (mB MX9_lostBehind) 6 = .ok (.getfield 51, 3) := by decide +kernel
theorem eX9_lostBehind_9 : decode (mB MX9_lostBehind) 9 = .ok (.aload_n 0, 1) := by decide +kernel
theorem eX9_lostBehind_10 : decode (mB MX9_lostBehind) 10 = .ok (.getfield 19, 3) := by decide +kernel
theorem eX9_lostBehind_13 : decode (mB MX9_lostBehind) 13 = .ok (.aload_n 3, 1) := by decide +kernel
theorem eX9_lostBehind_14 : decode (mB MX9_lostBehind) 14 = .ok (.iload_n 2, 1) := by decide +kernel
theorem eX9_lostBehind_15 : decode (mB MX9_lostBehind) 15 = .ok (.invokevirtual 197, 3) := by decide +kernel
theorem eX9_lostBehind_18 : decode (mB MX9_lostBehind) 18 = .ok (.pop, 1) := by decide +kernel
theorem eX9_lostBehind_19 : decode (mB MX9_lostBehind) 19 = .ok (.aload_n 0, 1) := by decide +kernel
theorem eX9_lostBehind_20 : decode (mB MX9_lostBehind) 20 = .ok (.getfield 51, 3) := by decide +kernel
theorem eX9_lostBehind_23 : decode (mB MX9_lostBehind) 23 = .ok (.aload_n 0, 1) := by decide +kernel
theorem eX9_lostBehind_24 : decode (mB MX9_lostBehind) 24 = .ok (.getfield 19, 3) := by decide +kernel
theorem eX9_lostBehind_27 : decode (mB MX9_lostBehind) 27 = .ok (.aload_n 3, 1) := by decide +kernel
theorem eX9_lostBehind_28 : decode (mB MX9_lostBehind) 28 = .ok (.invokevirtual 200, 3) := by decide +kernel
theorem eX9_lostBehind_31 : decode (mB MX9_lostBehind) 31 = .ok (.ireturn, 1) := by decide +kernel
theorem eX9_worst_0 : decode (mB MX9_worst) 0 = .ok (.iconst (-1), 1) := by decide +kernel
theorem eX9_worst_1 : decode (mB MX9_worst) 1 = .ok (.istore_n 1, 1) := by decide +kernel
theorem eX9_worst_2 : decode (mB MX9_worst) 2 = .ok (.iconst (-1), 1) := by decide +kernel
theorem eX9_worst_3 : decode (mB MX9_worst) 3 = .ok (.istore_n 2, 1) := by decide +kernel
theorem eX9_worst_4 : decode (mB MX9_worst) 4 = .ok (.iconst 0, 1) := by decide +kernel
theorem eX9_worst_5 : decode (mB MX9_worst) 5 = .ok (.istore_n 3, 1) := by decide +kernel
theorem eX9_worst_6 : decode (mB MX9_worst) 6 = .ok (.iload_n 3, 1) := by decide +kernel
theorem eX9_worst_7 : decode (mB MX9_worst) 7 = .ok (.aload_n 0, 1) := by decide +kernel
theorem eX9_worst_8 : decode (mB MX9_worst) 8 = .ok (.getfield 19, 3) := by decide +kernel
theorem eX9_worst_11 : decode (mB MX9_worst) 11 = .ok (.getfield 309, 3) := by decide +kernel
theorem eX9_worst_14 : decode (mB MX9_worst) 14 = .ok (.if_icmp .ge 52, 3) := by decide +kernel
theorem eX9_worst_17 : decode (mB MX9_worst) 17 = .ok (.aload_n 0, 1) := by decide +kernel
theorem eX9_worst_18 : decode (mB MX9_worst) 18 = .ok (.getfield 26, 3) := by decide +kernel
theorem eX9_worst_21 : decode (mB MX9_worst) 21 = .ok (.iload_n 3, 1) := by decide +kernel
theorem eX9_worst_22 : decode (mB MX9_worst) 22 = .ok (.invokevirtual 134, 3) := by decide +kernel
theorem eX9_worst_25 : decode (mB MX9_worst) 25 = .ok (.ifCond .eq 7, 3) := by decide +kernel
theorem eX9_worst_28 : decode (mB MX9_worst) 28 = .ok (.iconst (-1), 1) := by decide +kernel
theorem eX9_worst_29 : decode (mB MX9_worst) 29 = .ok (.goto 18, 3) := by decide +kernel
theorem eX9_worst_32 : decode (mB MX9_worst) 32 = .ok (.aload_n 0, 1) := by decide +kernel
theorem eX9_worst_33 : decode (mB MX9_worst) 33 = .ok (.aload_n 0, 1) := by decide +kernel
theorem eX9_worst_34 : decode (mB MX9_worst) 34 = .ok (.getfield 26, 3) := by decide +kernel
theorem eX9_worst_37 : decode (mB MX9_worst) 37 = .ok (.iload_n 3, 1) := by decide +kernel
theorem eX9_worst_38 : decode (mB MX9_worst) 38 = .ok (.aload_n 0, 1) := by decide +kernel
theorem eX9_worst_39 : decode (mB MX9_worst) 39 = .ok (.getfield 37, 3) := by decide +kernel
theorem eX9_worst_42 : decode (mB MX9_worst) 42 = .ok (.iconst 0, 1) := by decide +kernel
theorem eX9_worst_43 : decode (mB MX9_worst) 43 = .ok (.aaload, 1) := by decide +kernel
theorem eX9_worst_44 : decode (mB MX9_worst) 44 = .ok (.invokevirtual 305, 3) := by decide +kernel
theorem eX9_worst_47 : decode (mB MX9_worst) 47 = .ok (.istore 4, 2) := by decide +kernel
theorem eX9_worst_49 : decode (mB MX9_worst) 49 = .ok (.iload 4, 2) := by decide +kernel
theorem eX9_worst_51 : decode (mB MX9_worst) 51 = .ok (.iload_n 1, 1) := by decide +kernel
theorem eX9_worst_52 : decode (mB MX9_worst) 52 = .ok (.if_icmp .le 8, 3) := by decide +kernel
theorem eX9_worst_55 : decode (mB MX9_worst) 55 = .ok (.iload 4, 2) := by decide +kernel
theorem eX9_worst_57 : decode (mB MX9_worst) 57 = .ok (.istore_n 1, 1) := by decide +kernel
theorem eX9_worst_58 : decode (mB MX9_worst) 58 = .ok (.iload_n 3, 1) := by decide +kernel
theorem eX9_worst_59 : decode (mB MX9_worst) 59 = .ok (.istore_n 2, 1) := by decide +kernel
theorem eX9_worst_60 : decode (mB MX9_worst) 60 = .ok (.iinc 3 1, 3) := by decide +kernel
theorem eX9_worst_63 : decode (mB MX9_worst) 63 = .ok (.goto (-57), 3) := by decide +kernel
theorem eX9_worst_66 : decode (mB MX9_worst) 66 = .ok (.iload_n 2, 1) := by decide +kernel
theorem eX9_worst_67 : decode (mB MX9_worst) 67 = .ok (.ireturn, 1) := by decide +kernel
theorem eX9_two_0 : decode (mB MX9_two) 0 = .ok (.aload_n 0, 1) := by decide +kernel
theorem eX9_two_1 : decode (mB MX9_two) 1 = .ok (.getfield 19, 3) := by decide +kernel
theorem eX9_two_4 : decode (mB MX9_two) 4 = .ok (.iload_n 1, 1) := by decide +kernel
theorem eX9_two_5 : decode (mB MX9_two) 5 = .ok (.invokevirtual 117, 3) := by decide +kernel
theorem eX9_two_8 : decode (mB MX9_two) 8 = .ok (.ifCond .eq 19, 3) := by decide +kernel
theorem eX9_two_11 : decode (mB MX9_two) 11 = .ok (.aload_n 0, 1) := by decide +kernel
theorem eX9_two_12 : decode (mB MX9_two) 12 = .ok (.getfield 19, 3) := by decide +kernel
theorem eX9_two_15 : decode (mB MX9_two) 15 = .ok (.iload_n 2, 1) := by decide +kernel
theorem eX9_two_16 : decode (mB MX9_two) 16 = .ok (.invokevirtual 117, 3) := by decide +kernel
theorem eX9_two_19 : decode (mB MX9_two) 19 = .ok (.ifCond .eq 8, 3) := by decide +kernel
theorem eX9_two_22 : decode (mB MX9_two) 22 = .ok (.iload_n 1, 1) := by decide +kernel
theorem eX9_two_23 : decode (mB MX9_two) 23 = .ok (.iload_n 2, 1) := by decide +kernel
theorem eX9_two_24 : decode (mB MX9_two) 24 = .ok (.if_icmp .ne 6, 3) := by decide +kernel
theorem eX9_two_27 : decode (mB MX9_two) 27 = .ok (.bipush (-2), 2) := by decide +kernel
theorem eX9_two_29 : decode (mB MX9_two) 29 = .ok (.ireturn, 1) := by decide +kernel
theorem eX9_two_30 : decode (mB MX9_two) 30 = .ok (.aload_n 0, 1) := by decide +kernel
theorem eX9_two_31 : decode (mB MX9_two) 31 = .ok (.getfield 37, 3) := by decide +kernel
theorem eX9_two_34 : decode (mB MX9_two) 34 = .ok (.iconst 0, 1) := by decide +kernel
theorem eX9_two_35 : decode (mB MX9_two) 35 = .ok (.aaload, 1) := by decide +kernel
theorem eX9_two_36 : decode (mB MX9_two) 36 = .ok (.aload_n 0, 1) := by decide +kernel
theorem eX9_two_37 : decode (mB MX9_two) 37 = .ok (.getfield 26, 3) := by decide +kernel
theorem eX9_two_40 : decode (mB MX9_two) 40 = .ok (.invokevirtual 312, 3) := by decide +kernel
theorem eX9_two_43 : decode (mB MX9_two) 43 = .ok (.aload_n 0, 1) := by decide +kernel
theorem eX9_two_44 : decode (mB MX9_two) 44 = .ok (.aload_n 0, 1) := by decide +kernel
theorem eX9_two_45 : decode (mB MX9_two) 45 = .ok (.getfield 37, 3) := by decide +kernel
theorem eX9_two_48 : decode (mB MX9_two) 48 = .ok (.iconst 0, 1) := by decide +kernel
theorem eX9_two_49 : decode (mB MX9_two) 49 = .ok (.aaload, 1) := by decide +kernel
theorem eX9_two_50 : decode (mB MX9_two) 50 = .ok (.iload_n 1, 1) := by decide +kernel
theorem eX9_two_51 : decode (mB MX9_two) 51 = .ok (.aload_n 0, 1) := by decide +kernel
theorem eX9_two_52 : decode (mB MX9_two) 52 = .ok (.getfield 37, 3) := by decide +kernel
theorem eX9_two_55 : decode (mB MX9_two) 55 = .ok (.iconst 1, 1) := by decide +kernel
theorem eX9_two_56 : decode (mB MX9_two) 56 = .ok (.aaload, 1) := by decide +kernel
theorem eX9_two_57 : decode (mB MX9_two) 57 = .ok (.invokevirtual 305, 3) := by decide +kernel
theorem eX9_two_60 : decode (mB MX9_two) 60 = .ok (.pop, 1) := by decide +kernel
theorem eX9_two_61 : decode (mB MX9_two) 61 = .ok (.aload_n 0, 1) := by decide +kernel
theorem eX9_two_62 : decode (mB MX9_two) 62 = .ok (.aload_n 0, 1) := by decide +kernel
theorem eX9_two_63 : decode (mB MX9_two) 63 = .ok (.getfield 37, 3) := by decide +kernel
theorem eX9_two_66 : decode (mB MX9_two) 66 = .ok (.iconst 1, 1) := by decide +kernel
theorem eX9_two_67 : decode (mB MX9_two) 67 = .ok (.aaload, 1) := by decide +kernel
theorem eX9_two_68 : decode (mB MX9_two) 68 = .ok (.iload_n 2, 1) := by decide +kernel
theorem eX9_two_69 : decode (mB MX9_two) 69 = .ok (.aload_n 0, 1) := by decide +kernel
theorem eX9_two_70 : decode (mB MX9_two) 70 = .ok (.getfield 37, 3) := by decide +kernel
theorem eX9_two_73 : decode (mB MX9_two) 73 = .ok (.iconst 2, 1) := by decide +kernel
theorem eX9_two_74 : decode (mB MX9_two) 74 = .ok (.aaload, 1) := by decide +kernel
theorem eX9_two_75 : decode (mB MX9_two) 75 = .ok (.invokevirtual 305, 3) := by decide +kernel
theorem eX9_two_78 : decode (mB MX9_two) 78 = .ok (.ireturn, 1) := by decide +kernel
theorem eX9_twos_0 : decode (mB MX9_twos) 0 = .ok (.iload_n 1, 1) := by decide +kernel
theorem eX9_twos_1 : decode (mB MX9_twos) 1 = .ok (.ifCond .lt 8, 3) := by decide +kernel
theorem eX9_twos_4 : decode (mB MX9_twos) 4 = .ok (.iload_n 1, 1) := by decide +kernel
theorem eX9_twos_5 : decode (mB MX9_twos) 5 = .ok (.iconst 2, 1) := by decide +kernel
theorem eX9_twos_6 : decode (mB MX9_twos) 6 = .ok (.if_icmp .le 6, 3) := by decide +kernel
theorem eX9_twos_9 : decode (mB MX9_twos) 9 = .ok (.bipush (-2), 2) := by decide +kernel
theorem eX9_twos_11 : decode (mB MX9_twos) 11 = .ok (.ireturn, 1) := by decide +kernel
theorem eX9_twos_12 : decode (mB MX9_twos) 12 = .ok (.iconst 0, 1) := by decide +kernel
theorem eX9_twos_13 : decode (mB MX9_twos) 13 = .ok (.istore_n 2, 1) := by decide +kernel
theorem eX9_twos_14 : decode (mB MX9_twos) 14 = .ok (.iconst 0, 1) := by decide +kernel
theorem eX9_twos_15 : decode (mB MX9_twos) 15 = .ok (.istore_n 3, 1) := by decide +kernel
theorem eX9_twos_16 : decode (mB MX9_twos) 16 = .ok (.iconst (-1), 1) := by decide +kernel
theorem eX9_twos_17 : decode (mB MX9_twos) 17 = .ok (.istore 4, 2) := by decide +kernel
theorem eX9_twos_19 : decode (mB MX9_twos) 19 = .ok (.iconst (-1), 1) := by decide +kernel
theorem eX9_twos_20 : decode (mB MX9_twos) 20 = .ok (.istore 5, 2) := by decide +kernel
theorem eX9_twos_22 : decode (mB MX9_twos) 22 = .ok (.aload_n 0, 1) := by decide +kernel
theorem eX9_twos_23 : decode (mB MX9_twos) 23 = .ok (.getfield 37, 3) := by decide +kernel
theorem eX9_twos_26 : decode (mB MX9_twos) 26 = .ok (.iconst 0, 1) := by decide +kernel
theorem eX9_twos_27 : decode (mB MX9_twos) 27 = .ok (.aaload, 1) := by decide +kernel
theorem eX9_twos_28 : decode (mB MX9_twos) 28 = .ok (.aload_n 0, 1) := by decide +kernel
theorem eX9_twos_29 : decode (mB MX9_twos) 29 = .ok (.getfield 26, 3) := by decide +kernel
theorem eX9_twos_32 : decode (mB MX9_twos) 32 = .ok (.invokevirtual 312, 3) := by decide +kernel
theorem eX9_twos_35 : decode (mB MX9_twos) 35 = .ok (.iconst 0, 1) := by decide +kernel
theorem eX9_twos_36 : decode (mB MX9_twos) 36 = .ok (.istore 6, 2) := by decide +kernel
theorem eX9_twos_38 : decode (mB MX9_twos) 38 = .ok (.iload 6, 2) := by decide +kernel
theorem eX9_twos_40 : decode (mB MX9_twos) 40 = .ok (.aload_n 0, 1) := by decide +kernel
theorem eX9_twos_41 : decode (mB MX9_twos) 41 = .ok (.getfield 19, 3) := by decide +kernel
theorem eX9_twos_44 : decode (mB MX9_twos) 44 = .ok (.getfield 309, 3) := by decide +kernel
theorem eX9_twos_47 : decode (mB MX9_twos) 47 = .ok (.if_icmp .ge 125, 3) := by decide +kernel
theorem eX9_twos_50 : decode (mB MX9_twos) 50 = .ok (.aload_n 0, 1) := by decide +kernel
theorem eX9_twos_51 : decode (mB MX9_twos) 51 = .ok (.aload_n 0, 1) := by decide +kernel
theorem eX9_twos_52 : decode (mB MX9_twos) 52 = .ok (.getfield 37, 3) := by decide +kernel
theorem eX9_twos_55 : decode (mB MX9_twos) 55 = .ok (.iconst 0, 1) := by decide +kernel
theorem eX9_twos_56 : decode (mB MX9_twos) 56 = .ok (.aaload, 1) := by decide +kernel
theorem eX9_twos_57 : decode (mB MX9_twos) 57 = .ok (.iload 6, 2) := by decide +kernel
theorem eX9_twos_59 : decode (mB MX9_twos) 59 = .ok (.aload_n 0, 1) := by decide +kernel
theorem eX9_twos_60 : decode (mB MX9_twos) 60 = .ok (.getfield 37, 3) := by decide +kernel
theorem eX9_twos_63 : decode (mB MX9_twos) 63 = .ok (.iconst 1, 1) := by decide +kernel
theorem eX9_twos_64 : decode (mB MX9_twos) 64 = .ok (.aaload, 1) := by decide +kernel
theorem eX9_twos_65 : decode (mB MX9_twos) 65 = .ok (.invokevirtual 305, 3) := by decide +kernel
theorem eX9_twos_68 : decode (mB MX9_twos) 68 = .ok (.pop, 1) := by decide +kernel
theorem eX9_twos_69 : decode (mB MX9_twos) 69 = .ok (.iconst 0, 1) := by decide +kernel
theorem eX9_twos_70 : decode (mB MX9_twos) 70 = .ok (.istore 7, 2) := by decide +kernel
theorem eX9_twos_72 : decode (mB MX9_twos) 72 = .ok (.iload 7, 2) := by decide +kernel
theorem eX9_twos_74 : decode (mB MX9_twos) 74 = .ok (.aload_n 0, 1) := by decide +kernel
theorem eX9_twos_75 : decode (mB MX9_twos) 75 = .ok (.getfield 19, 3) := by decide +kernel
theorem eX9_twos_78 : decode (mB MX9_twos) 78 = .ok (.getfield 309, 3) := by decide +kernel
theorem eX9_twos_81 : decode (mB MX9_twos) 81 = .ok (.if_icmp .ge 85, 3) := by decide +kernel
theorem eX9_twos_84 : decode (mB MX9_twos) 84 = .ok (.iload 7, 2) := by decide +kernel
theorem eX9_twos_86 : decode (mB MX9_twos) 86 = .ok (.iload 6, 2) := by decide +kernel
theorem eX9_twos_88 : decode (mB MX9_twos) 88 = .ok (.if_icmp .eq 72, 3) := by decide +kernel
theorem eX9_twos_91 : decode (mB MX9_twos) 91 = .ok (.aload_n 0, 1) := by decide +kernel
theorem eX9_twos_92 : decode (mB MX9_twos) 92 = .ok (.aload_n 0, 1) := by decide +kernel
theorem eX9_twos_93 : decode (mB MX9_twos) 93 = .ok (.getfield 37, 3) := by decide +kernel
theorem eX9_twos_96 : decode (mB MX9_twos) 96 = .ok (.iconst 1, 1) := by decide +kernel
theorem eX9_twos_97 : decode (mB MX9_twos) 97 = .ok (.aaload, 1) := by decide +kernel
theorem eX9_twos_98 : decode (mB MX9_twos) 98 = .ok (.iload 7, 2) := by decide +kernel
theorem eX9_twos_100 : decode (mB MX9_twos) 100 = .ok (.aload_n 0, 1) := by decide +kernel
theorem eX9_twos_101 : decode (mB MX9_twos) 101 = .ok (.getfield 37, 3) := by decide +kernel
theorem eX9_twos_104 : decode (mB MX9_twos) 104 = .ok (.iconst 2, 1) := by decide +kernel
theorem eX9_twos_105 : decode (mB MX9_twos) 105 = .ok (.aaload, 1) := by decide +kernel
theorem eX9_twos_106 : decode (mB MX9_twos) 106 = .ok (.invokevirtual 305, 3) := by decide +kernel
theorem eX9_twos_109 : decode (mB MX9_twos) 109 = .ok (.istore 8, 2) := by decide +kernel
theorem eX9_twos_111 : decode (mB MX9_twos) 111 = .ok (.iload_n 2, 1) := by decide +kernel
theorem eX9_twos_112 : decode (mB MX9_twos) 112 = .ok (.iload 8, 2) := by decide +kernel
theorem eX9_twos_114 : decode (mB MX9_twos) 114 = .ok (.iadd, 1) := by decide +kernel
theorem eX9_twos_115 : decode (mB MX9_twos) 115 = .ok (.istore_n 2, 1) := by decide +kernel
theorem eX9_twos_116 : decode (mB MX9_twos) 116 = .ok (.iload_n 3, 1) := by decide +kernel
theorem eX9_twos_117 : decode (mB MX9_twos) 117 = .ok (.iload 8, 2) := by decide +kernel
theorem eX9_twos_119 : decode (mB MX9_twos) 119 = .ok (.ifCond .le 7, 3) := by decide +kernel
theorem eX9_twos_122 : decode (mB MX9_twos) 122 = .ok (.iconst 1, 1) := by decide +kernel
theorem eX9_twos_123 : decode (mB MX9_twos) 123 = .ok (.goto 4, 3) := by decide +kernel
theorem eX9_twos_126 : decode (mB MX9_twos) 126 = .ok (.iconst 0, 1) := by decide +kernel
theorem eX9_twos_127 : decode (mB MX9_twos) 127 = .ok (.iadd, 1) := by decide +kernel
theorem eX9_twos_128 : decode (mB MX9_twos) 128 = .ok (.istore_n 3, 1) := by decide +kernel
theorem eX9_twos_129 : decode (mB MX9_twos) 129 = .ok (.iload 8, 2) := by decide +kernel
theorem eX9_twos_131 : decode (mB MX9_twos) 131 = .ok (.iload 4, 2) := by decide +kernel
theorem eX9_twos_133 : decode (mB MX9_twos) 133 = .ok (.if_icmp .le 14, 3) := by decide +kernel
theorem eX9_twos_136 : decode (mB MX9_twos) 136 = .ok (.bipush 10, 2) := by decide +kernel
theorem eX9_twos_138 : decode (mB MX9_twos) 138 = .ok (.iload 6, 2) := by decide +kernel
theorem eX9_twos_140 : decode (mB MX9_twos) 140 = .ok (.imul, 1) := by decide +kernel
theorem eX9_twos_141 : decode (mB MX9_twos) 141 = .ok (.iload 7, 2) := by decide +kernel
theorem eX9_twos_143 : decode (mB MX9_twos) 143 = .ok (.iadd, 1) := by decide +kernel
theorem eX9_twos_144 : decode (mB MX9_twos) 144 = .ok (.goto 5, 3) := by decide +kernel
theorem eX9_twos_147 : decode (mB MX9_twos) 147 = .ok (.iload 5, 2) := by decide +kernel
theorem eX9_twos_149 : decode (mB MX9_twos) 149 = .ok (.istore 5, 2) := by decide +kernel
theorem eX9_twos_151 : decode (mB MX9_twos) 151 = .ok (.iload 4, 2) := by decide +kernel
theorem eX9_twos_153 : decode (mB MX9_twos) 153 = .ok (.iload 8, 2) := by decide +kernel
theorem eX9_twos_155 : decode (mB MX9_twos) 155 = .ok (.invokestatic 315, 3) := by decide +kernel
theorem eX9_twos_158 : decode (mB MX9_twos) 158 = .ok (.istore 4, 2) := by decide +kernel
theorem eX9_twos_160 : decode (mB MX9_twos) 160 = .ok (.iinc 7 1, 3) := by decide +kernel
theorem eX9_twos_163 : decode (mB MX9_twos) 163 = .ok (.goto (-91), 3) := by decide +kernel
theorem eX9_twos_166 : decode (mB MX9_twos) 166 = .ok (.iinc 6 1, 3) := by decide +kernel
theorem eX9_twos_169 : decode (mB MX9_twos) 169 = .ok (.goto (-131), 3) := by decide +kernel
theorem eX9_twos_172 : decode (mB MX9_twos) 172 = .ok (.iload_n 1, 1) := by decide +kernel
theorem eX9_twos_173 : decode (mB MX9_twos) 173 = .ok (.ifCond .ne 7, 3) := by decide +kernel
theorem eX9_twos_176 : decode (mB MX9_twos) 176 = .ok (.iload_n 2, 1) := by decide +kernel
theorem eX9_twos_177 : decode (mB MX9_twos) 177 = .ok (.goto 14, 3) := by decide +kernel
theorem eX9_twos_180 : decode (mB MX9_twos) 180 = .ok (.iload_n 1, 1) := by decide +kernel
theorem eX9_twos_181 : decode (mB MX9_twos) 181 = .ok (.iconst 1, 1) := by decide +kernel
theorem eX9_twos_182 : decode (mB MX9_twos) 182 = .ok (.if_icmp .ne 7, 3) := by decide +kernel
theorem eX9_twos_185 : decode (mB MX9_twos) 185 = .ok (.iload_n 3, 1) := by decide +kernel
theorem eX9_twos_186 : decode (mB MX9_twos) 186 = .ok (.goto 5, 3) := by decide +kernel
theorem eX9_twos_189 : decode (mB MX9_twos) 189 = .ok (.iload 5, 2) := by decide +kernel
theorem eX9_twos_191 : decode (mB MX9_twos) 191 = .ok (.ireturn, 1) := by decide +kernel
theorem eX9_stands_0 : decode (mB MX9_stands) 0 = .ok (.aload_n 0, 1) := by decide +kernel
theorem eX9_stands_1 : decode (mB MX9_stands) 1 = .ok (.getfield 37, 3) := by decide +kernel
theorem eX9_stands_4 : decode (mB MX9_stands) 4 = .ok (.iconst 0, 1) := by decide +kernel
theorem eX9_stands_5 : decode (mB MX9_stands) 5 = .ok (.aaload, 1) := by decide +kernel
theorem eX9_stands_6 : decode (mB MX9_stands) 6 = .ok (.astore_n 1, 1) := by decide +kernel
theorem eX9_stands_7 : decode (mB MX9_stands) 7 = .ok (.aload_n 1, 1) := by decide +kernel
theorem eX9_stands_8 : decode (mB MX9_stands) 8 = .ok (.aload_n 0, 1) := by decide +kernel
theorem eX9_stands_9 : decode (mB MX9_stands) 9 = .ok (.getfield 26, 3) := by decide +kernel
theorem eX9_stands_12 : decode (mB MX9_stands) 12 = .ok (.invokevirtual 312, 3) := by decide +kernel
theorem eX9_stands_15 : decode (mB MX9_stands) 15 = .ok (.iconst 0, 1) := by decide +kernel
theorem eX9_stands_16 : decode (mB MX9_stands) 16 = .ok (.istore_n 2, 1) := by decide +kernel
theorem eX9_stands_17 : decode (mB MX9_stands) 17 = .ok (.iload_n 2, 1) := by decide +kernel
theorem eX9_stands_18 : decode (mB MX9_stands) 18 = .ok (.aload_n 0, 1) := by decide +kernel
theorem eX9_stands_19 : decode (mB MX9_stands) 19 = .ok (.getfield 19, 3) := by decide +kernel
theorem eX9_stands_22 : decode (mB MX9_stands) 22 = .ok (.getfield 309, 3) := by decide +kernel
theorem eX9_stands_25 : decode (mB MX9_stands) 25 = .ok (.if_icmp .ge 42, 3) := by decide +kernel
theorem eX9_stands_28 : decode (mB MX9_stands) 28 = .ok (.aload_n 0, 1) := by decide +kernel
theorem eX9_stands_29 : decode (mB MX9_stands) 29 = .ok (.getfield 51, 3) := by decide +kernel
theorem eX9_stands_32 : decode (mB MX9_stands) 32 = .ok (.aload_n 0, 1) := by decide +kernel
theorem eX9_stands_33 : decode (mB MX9_stands) 33 = .ok (.getfield 19, 3) := by decide +kernel
theorem eX9_stands_36 : decode (mB MX9_stands) 36 = .ok (.aload_n 1, 1) := by decide +kernel
theorem eX9_stands_37 : decode (mB MX9_stands) 37 = .ok (.iload_n 2, 1) := by decide +kernel
theorem eX9_stands_38 : decode (mB MX9_stands) 38 = .ok (.invokevirtual 197, 3) := by decide +kernel
theorem eX9_stands_41 : decode (mB MX9_stands) 41 = .ok (.pop, 1) := by decide +kernel
theorem eX9_stands_42 : decode (mB MX9_stands) 42 = .ok (.aload_n 0, 1) := by decide +kernel
theorem eX9_stands_43 : decode (mB MX9_stands) 43 = .ok (.getfield 51, 3) := by decide +kernel
theorem eX9_stands_46 : decode (mB MX9_stands) 46 = .ok (.aload_n 0, 1) := by decide +kernel
theorem eX9_stands_47 : decode (mB MX9_stands) 47 = .ok (.getfield 19, 3) := by decide +kernel
theorem eX9_stands_50 : decode (mB MX9_stands) 50 = .ok (.aload_n 1, 1) := by decide +kernel
theorem eX9_stands_51 : decode (mB MX9_stands) 51 = .ok (.invokevirtual 200, 3) := by decide +kernel
theorem eX9_stands_54 : decode (mB MX9_stands) 54 = .ok (.ifCond .le 7, 3) := by decide +kernel
theorem eX9_stands_57 : decode (mB MX9_stands) 57 = .ok (.iload_n 2, 1) := by decide +kernel
theorem eX9_stands_58 : decode (mB MX9_stands) 58 = .ok (.iconst 1, 1) := by decide +kernel
theorem eX9_stands_59 : decode (mB MX9_stands) 59 = .ok (.iadd, 1) := by decide +kernel
theorem eX9_stands_60 : decode (mB MX9_stands) 60 = .ok (.ireturn, 1) := by decide +kernel
theorem eX9_stands_61 : decode (mB MX9_stands) 61 = .ok (.iinc 2 1, 3) := by decide +kernel
theorem eX9_stands_64 : decode (mB MX9_stands) 64 = .ok (.goto (-47), 3) := by decide +kernel
theorem eX9_stands_67 : decode (mB MX9_stands) 67 = .ok (.iconst (-1), 1) := by decide +kernel
theorem eX9_stands_68 : decode (mB MX9_stands) 68 = .ok (.ireturn, 1) := by decide +kernel
theorem eX9_rings_0 : decode (mB MX9_rings) 0 = .ok (.aload_n 0, 1) := by decide +kernel
theorem eX9_rings_1 : decode (mB MX9_rings) 1 = .ok (.getfield 19, 3) := by decide +kernel
theorem eX9_rings_4 : decode (mB MX9_rings) 4 = .ok (.aload_n 0, 1) := by decide +kernel
theorem eX9_rings_5 : decode (mB MX9_rings) 5 = .ok (.getfield 26, 3) := by decide +kernel
theorem eX9_rings_8 : decode (mB MX9_rings) 8 = .ok (.getfield 145, 3) := by decide +kernel
theorem eX9_rings_11 : decode (mB MX9_rings) 11 = .ok (.invokevirtual 171, 3) := by decide +kernel
theorem eX9_rings_14 : decode (mB MX9_rings) 14 = .ok (.ireturn, 1) := by decide +kernel
theorem eX9_bare_0 : decode (mB MX9_bare) 0 = .ok (.aload_n 0, 1) := by decide +kernel
theorem eX9_bare_1 : decode (mB MX9_bare) 1 = .ok (.getfield 58, 3) := by decide +kernel
theorem eX9_bare_4 : decode (mB MX9_bare) 4 = .ok (.aload_n 0, 1) := by decide +kernel
theorem eX9_bare_5 : decode (mB MX9_bare) 5 = .ok (.getfield 19, 3) := by decide +kernel
theorem eX9_bare_8 : decode (mB MX9_bare) 8 = .ok (.aload_n 0, 1) := by decide +kernel
theorem eX9_bare_9 : decode (mB MX9_bare) 9 = .ok (.getfield 26, 3) := by decide +kernel
theorem eX9_bare_12 : decode (mB MX9_bare) 12 = .ok (.getfield 145, 3) := by decide +kernel
theorem eX9_bare_15 : decode (mB MX9_bare) 15 = .ok (.invokevirtual 318, 3) := by decide +kernel
theorem eX9_bare_18 : decode (mB MX9_bare) 18 = .ok (.ireturn, 1) := by decide +kernel
theorem eX9_bridges_0 : decode (mB MX9_bridges) 0 = .ok (.iconst 0, 1) := by decide +kernel
theorem eX9_bridges_1 : decode (mB MX9_bridges) 1 = .ok (.istore_n 1, 1) := by decide +kernel
theorem eX9_bridges_2 : decode (mB MX9_bridges) 2 = .ok (.iconst 0, 1) := by decide +kernel
theorem eX9_bridges_3 : decode (mB MX9_bridges) 3 = .ok (.istore_n 2, 1) := by decide +kernel
theorem eX9_bridges_4 : decode (mB MX9_bridges) 4 = .ok (.iload_n 2, 1) := by decide +kernel
theorem eX9_bridges_5 : decode (mB MX9_bridges) 5 = .ok (.aload_n 0, 1) := by decide +kernel
theorem eX9_bridges_6 : decode (mB MX9_bridges) 6 = .ok (.getfield 19, 3) := by decide +kernel
theorem eX9_bridges_9 : decode (mB MX9_bridges) 9 = .ok (.getfield 309, 3) := by decide +kernel
theorem eX9_bridges_12 : decode (mB MX9_bridges) 12 = .ok (.if_icmp .ge 49, 3) := by decide +kernel
theorem eX9_bridges_15 : decode (mB MX9_bridges) 15 = .ok (.aload_n 0, 1) := by decide +kernel
theorem eX9_bridges_16 : decode (mB MX9_bridges) 16 = .ok (.getfield 19, 3) := by decide +kernel
theorem eX9_bridges_19 : decode (mB MX9_bridges) 19 = .ok (.aload_n 0, 1) := by decide +kernel
theorem eX9_bridges_20 : decode (mB MX9_bridges) 20 = .ok (.getfield 19, 3) := by decide +kernel
theorem eX9_bridges_23 : decode (mB MX9_bridges) 23 = .ok (.getfield 121, 3) := by decide +kernel
theorem eX9_bridges_26 : decode (mB MX9_bridges) 26 = .ok (.iload_n 2, 1) := by decide +kernel
theorem eX9_bridges_27 : decode (mB MX9_bridges) 27 = .ok (.iaload, 1) := by decide +kernel
theorem eX9_bridges_28 : decode (mB MX9_bridges) 28 = .ok (.iconst 1, 1) := by decide +kernel
theorem eX9_bridges_29 : decode (mB MX9_bridges) 29 = .ok (.iload_n 2, 1) := by decide +kernel
theorem eX9_bridges_30 : decode (mB MX9_bridges) 30 = .ok (.ishl, 1) := by decide +kernel
theorem eX9_bridges_31 : decode (mB MX9_bridges) 31 = .ok (.invokevirtual 322, 3) := by decide +kernel
theorem eX9_bridges_34 : decode (mB MX9_bridges) 34 = .ok (.iconst 1, 1) := by decide +kernel
theorem eX9_bridges_35 : decode (mB MX9_bridges) 35 = .ok (.aload_n 0, 1) := by decide +kernel
theorem eX9_bridges_36 : decode (mB MX9_bridges) 36 = .ok (.getfield 19, 3) := by decide +kernel
theorem eX9_bridges_39 : decode (mB MX9_bridges) 39 = .ok (.getfield 125, 3) := by decide +kernel
theorem eX9_bridges_42 : decode (mB MX9_bridges) 42 = .ok (.iload_n 2, 1) := by decide +kernel
theorem eX9_bridges_43 : decode (mB MX9_bridges) 43 = .ok (.iaload, 1) := by decide +kernel
theorem eX9_bridges_44 : decode (mB MX9_bridges) 44 = .ok (.ishl, 1) := by decide +kernel
theorem eX9_bridges_45 : decode (mB MX9_bridges) 45 = .ok (.iand, 1) := by decide +kernel
theorem eX9_bridges_46 : decode (mB MX9_bridges) 46 = .ok (.ifCond .ne 9, 3) := by decide +kernel
theorem eX9_bridges_49 : decode (mB MX9_bridges) 49 = .ok (.iload_n 1, 1) := by decide +kernel
theorem eX9_bridges_50 : decode (mB MX9_bridges) 50 = .ok (.iconst 1, 1) := by decide +kernel
theorem eX9_bridges_51 : decode (mB MX9_bridges) 51 = .ok (.iload_n 2, 1) := by decide +kernel
theorem eX9_bridges_52 : decode (mB MX9_bridges) 52 = .ok (.ishl, 1) := by decide +kernel
theorem eX9_bridges_53 : decode (mB MX9_bridges) 53 = .ok (.ior, 1) := by decide +kernel
theorem eX9_bridges_54 : decode (mB MX9_bridges) 54 = .ok (.istore_n 1, 1) := by decide +kernel
theorem eX9_bridges_55 : decode (mB MX9_bridges) 55 = .ok (.iinc 2 1, 3) := by decide +kernel
theorem eX9_bridges_58 : decode (mB MX9_bridges) 58 = .ok (.goto (-54), 3) := by decide +kernel
theorem eX9_bridges_61 : decode (mB MX9_bridges) 61 = .ok (.iload_n 1, 1) := by decide +kernel
theorem eX9_bridges_62 : decode (mB MX9_bridges) 62 = .ok (.ireturn, 1) := by decide +kernel
theorem eX9_cut_0 : decode (mB MX9_cut) 0 = .ok (.aload_n 0, 1) := by decide +kernel
theorem eX9_cut_1 : decode (mB MX9_cut) 1 = .ok (.getfield 19, 3) := by decide +kernel
theorem eX9_cut_4 : decode (mB MX9_cut) 4 = .ok (.iload_n 1, 1) := by decide +kernel
theorem eX9_cut_5 : decode (mB MX9_cut) 5 = .ok (.invokevirtual 325, 3) := by decide +kernel
theorem eX9_cut_8 : decode (mB MX9_cut) 8 = .ok (.ifCond .eq 23, 3) := by decide +kernel
theorem eX9_cut_11 : decode (mB MX9_cut) 11 = .ok (.aload_n 0, 1) := by decide +kernel
theorem eX9_cut_12 : decode (mB MX9_cut) 12 = .ok (.getfield 19, 3) := by decide +kernel
theorem eX9_cut_15 : decode (mB MX9_cut) 15 = .ok (.iload_n 2, 1) := by decide +kernel
theorem eX9_cut_16 : decode (mB MX9_cut) 16 = .ok (.invokevirtual 325, 3) := by decide +kernel
theorem eX9_cut_19 : decode (mB MX9_cut) 19 = .ok (.ifCond .eq 12, 3) := by decide +kernel
theorem eX9_cut_22 : decode (mB MX9_cut) 22 = .ok (.iload_n 3, 1) := by decide +kernel
theorem eX9_cut_23 : decode (mB MX9_cut) 23 = .ok (.ifCond .lt 8, 3) := by decide +kernel
theorem eX9_cut_26 : decode (mB MX9_cut) 26 = .ok (.iload_n 3, 1) := by decide +kernel
theorem eX9_cut_27 : decode (mB MX9_cut) 27 = .ok (.iconst 1, 1) := by decide +kernel
theorem eX9_cut_28 : decode (mB MX9_cut) 28 = .ok (.if_icmp .le 6, 3) := by decide +kernel
theorem eX9_cut_31 : decode (mB MX9_cut) 31 = .ok (.bipush (-2), 2) := by decide +kernel
theorem eX9_cut_33 : decode (mB MX9_cut) 33 = .ok (.ireturn, 1) := by decide +kernel
theorem eX9_cut_34 : decode (mB MX9_cut) 34 = .ok (.iload_n 1, 1) := by decide +kernel
theorem eX9_cut_35 : decode (mB MX9_cut) 35 = .ok (.iload_n 2, 1) := by decide +kernel
theorem eX9_cut_36 : decode (mB MX9_cut) 36 = .ok (.if_icmp .ne 5, 3) := by decide +kernel
theorem eX9_cut_39 : decode (mB MX9_cut) 39 = .ok (.iconst (-1), 1) := by decide +kernel
theorem eX9_cut_40 : decode (mB MX9_cut) 40 = .ok (.ireturn, 1) := by decide +kernel
theorem eX9_cut_41 : decode (mB MX9_cut) 41 = .ok (.aload_n 0, 1) := by decide +kernel
theorem eX9_cut_42 : decode (mB MX9_cut) 42 = .ok (.getfield 19, 3) := by decide +kernel
theorem eX9_cut_45 : decode (mB MX9_cut) 45 = .ok (.iload_n 1, 1) := by decide +kernel
theorem eX9_cut_46 : decode (mB MX9_cut) 46 = .ok (.iload_n 2, 1) := by decide +kernel
theorem eX9_cut_47 : decode (mB MX9_cut) 47 = .ok (.invokevirtual 328, 3) := by decide +kernel
theorem eX9_cut_50 : decode (mB MX9_cut) 50 = .ok (.istore 4, 2) := by decide +kernel
theorem eX9_cut_52 : decode (mB MX9_cut) 52 = .ok (.iload_n 3, 1) := by decide +kernel
theorem eX9_cut_53 : decode (mB MX9_cut) 53 = .ok (.ifCond .ne 11, 3) := by decide +kernel
theorem eX9_cut_56 : decode (mB MX9_cut) 56 = .ok (.iload 4, 2) := by decide +kernel
theorem eX9_cut_58 : decode (mB MX9_cut) 58 = .ok (.invokestatic 331, 3) := by decide +kernel
theorem eX9_cut_61 : decode (mB MX9_cut) 61 = .ok (.goto 5, 3) := by decide +kernel
theorem eX9_cut_64 : decode (mB MX9_cut) 64 = .ok (.iload 4, 2) := by decide +kernel
theorem eX9_cut_66 : decode (mB MX9_cut) 66 = .ok (.ireturn, 1) := by decide +kernel
theorem eX9_rates_0 : decode (mB MX9_rates) 0 = .ok (.aload_n 0, 1) := by decide +kernel
theorem eX9_rates_1 : decode (mB MX9_rates) 1 = .ok (.iload_n 1, 1) := by decide +kernel
theorem eX9_rates_2 : decode (mB MX9_rates) 2 = .ok (.invokevirtual 336, 3) := by decide +kernel
theorem eX9_rates_5 : decode (mB MX9_rates) 5 = .ok (.istore_n 2, 1) := by decide +kernel
theorem eX9_rates_6 : decode (mB MX9_rates) 6 = .ok (.iload_n 2, 1) := by decide +kernel
theorem eX9_rates_7 : decode (mB MX9_rates) 7 = .ok (.ifCond .eq 7, 3) := by decide +kernel
theorem eX9_rates_10 : decode (mB MX9_rates) 10 = .ok (.iload_n 2, 1) := by decide +kernel
theorem eX9_rates_11 : decode (mB MX9_rates) 11 = .ok (.goto 13, 3) := by decide +kernel
theorem eX9_rates_14 : decode (mB MX9_rates) 14 = .ok (.aload_n 0, 1) := by decide +kernel
theorem eX9_rates_15 : decode (mB MX9_rates) 15 = .ok (.aload_n 0, 1) := by decide +kernel
theorem eX9_rates_16 : decode (mB MX9_rates) 16 = .ok (.getfield 73, 3) := by decide +kernel
theorem eX9_rates_19 : decode (mB MX9_rates) 19 = .ok (.iload_n 1, 1) := by decide +kernel
theorem eX9_rates_20 : decode (mB MX9_rates) 20 = .ok (.aaload, 1) := by decide +kernel
theorem eX9_rates_21 : decode (mB MX9_rates) 21 = .ok (.invokevirtual 339, 3) := by decide +kernel
theorem eX9_rates_24 : decode (mB MX9_rates) 24 = .ok (.ireturn, 1) := by decide +kernel
theorem eX9_ask_0 : decode (mB MX9_ask) 0 = .ok (.aload_n 0, 1) := by decide +kernel
theorem eX9_ask_1 : decode (mB MX9_ask) 1 = .ok (.iload_n 1, 1) := by decide +kernel
theorem eX9_ask_2 : decode (mB MX9_ask) 2 = .ok (.invokevirtual 336, 3) := by decide +kernel
theorem eX9_ask_5 : decode (mB MX9_ask) 5 = .ok (.istore_n 2, 1) := by decide +kernel
theorem eX9_ask_6 : decode (mB MX9_ask) 6 = .ok (.iload_n 2, 1) := by decide +kernel
theorem eX9_ask_7 : decode (mB MX9_ask) 7 = .ok (.ifCond .eq 5, 3) := by decide +kernel
theorem eX9_ask_10 : decode (mB MX9_ask) 10 = .ok (.iload_n 2, 1) := by decide +kernel
theorem eX9_ask_11 : decode (mB MX9_ask) 11 = .ok (.ireturn, 1) := by decide +kernel
theorem eX9_ask_12 : decode (mB MX9_ask) 12 = .ok (.aload_n 0, 1) := by decide +kernel
theorem eX9_ask_13 : decode (mB MX9_ask) 13 = .ok (.aload_n 0, 1) := by decide +kernel
theorem eX9_ask_14 : decode (mB MX9_ask) 14 = .ok (.getfield 73, 3) := by decide +kernel
theorem eX9_ask_17 : decode (mB MX9_ask) 17 = .ok (.iload_n 1, 1) := by decide +kernel
theorem eX9_ask_18 : decode (mB MX9_ask) 18 = .ok (.aaload, 1) := by decide +kernel
theorem eX9_ask_19 : decode (mB MX9_ask) 19 = .ok (.invokevirtual 339, 3) := by decide +kernel
theorem eX9_ask_22 : decode (mB MX9_ask) 22 = .ok (.istore_n 3, 1) := by decide +kernel
theorem eX9_ask_23 : decode (mB MX9_ask) 23 = .ok (.iload_n 3, 1) := by decide +kernel
theorem eX9_ask_24 : decode (mB MX9_ask) 24 = .ok (.ifCond .ne 5, 3) := by decide +kernel
theorem eX9_ask_27 : decode (mB MX9_ask) 27 = .ok (.iconst (-1), 1) := by decide +kernel
theorem eX9_ask_28 : decode (mB MX9_ask) 28 = .ok (.ireturn, 1) := by decide +kernel
theorem eX9_ask_29 : decode (mB MX9_ask) 29 = .ok (.aload_n 0, 1) := by decide +kernel
theorem eX9_ask_30 : decode (mB MX9_ask) 30 = .ok (.getfield 19, 3) := by decide +kernel
theorem eX9_ask_33 : decode (mB MX9_ask) 33 = .ok (.aload_n 0, 1) := by decide +kernel
theorem eX9_ask_34 : decode (mB MX9_ask) 34 = .ok (.getfield 26, 3) := by decide +kernel
theorem eX9_ask_37 : decode (mB MX9_ask) 37 = .ok (.getfield 145, 3) := by decide +kernel
theorem eX9_ask_40 : decode (mB MX9_ask) 40 = .ok (.invokevirtual 171, 3) := by decide +kernel
theorem eX9_ask_43 : decode (mB MX9_ask) 43 = .ok (.istore 4, 2) := by decide +kernel
theorem eX9_ask_45 : decode (mB MX9_ask) 45 = .ok (.bipush 11, 2) := by decide +kernel
theorem eX9_ask_47 : decode (mB MX9_ask) 47 = .ok (.istore 5, 2) := by decide +kernel
theorem eX9_ask_49 : decode (mB MX9_ask) 49 = .ok (.iconst (-1), 1) := by decide +kernel
theorem eX9_ask_50 : decode (mB MX9_ask) 50 = .ok (.istore 6, 2) := by decide +kernel
theorem eX9_ask_52 : decode (mB MX9_ask) 52 = .ok (.iconst 0, 1) := by decide +kernel
theorem eX9_ask_53 : decode (mB MX9_ask) 53 = .ok (.istore 7, 2) := by decide +kernel
theorem eX9_ask_55 : decode (mB MX9_ask) 55 = .ok (.iload 7, 2) := by decide +kernel
theorem eX9_ask_57 : decode (mB MX9_ask) 57 = .ok (.iload 4, 2) := by decide +kernel
theorem eX9_ask_59 : decode (mB MX9_ask) 59 = .ok (.if_icmp .ge 50, 3) := by decide +kernel
theorem eX9_ask_62 : decode (mB MX9_ask) 62 = .ok (.aload_n 0, 1) := by decide +kernel
theorem eX9_ask_63 : decode (mB MX9_ask) 63 = .ok (.getfield 19, 3) := by decide +kernel
theorem eX9_ask_66 : decode (mB MX9_ask) 66 = .ok (.aload_n 0, 1) := by decide +kernel
theorem eX9_ask_67 : decode (mB MX9_ask) 67 = .ok (.getfield 19, 3) := by decide +kernel
theorem eX9_ask_70 : decode (mB MX9_ask) 70 = .ok (.aload_n 0, 1) := by decide +kernel
theorem eX9_ask_71 : decode (mB MX9_ask) 71 = .ok (.getfield 26, 3) := by decide +kernel
theorem eX9_ask_74 : decode (mB MX9_ask) 74 = .ok (.getfield 145, 3) := by decide +kernel
theorem eX9_ask_77 : decode (mB MX9_ask) 77 = .ok (.iload 7, 2) := by decide +kernel
theorem eX9_ask_79 : decode (mB MX9_ask) 79 = .ok (.invokevirtual 148, 3) := by decide +kernel
theorem eX9_ask_82 : decode (mB MX9_ask) 82 = .ok (.iload_n 3, 1) := by decide +kernel
theorem eX9_ask_83 : decode (mB MX9_ask) 83 = .ok (.invokevirtual 343, 3) := by decide +kernel
theorem eX9_ask_86 : decode (mB MX9_ask) 86 = .ok (.istore 8, 2) := by decide +kernel
theorem eX9_ask_88 : decode (mB MX9_ask) 88 = .ok (.iload 8, 2) := by decide +kernel
theorem eX9_ask_90 : decode (mB MX9_ask) 90 = .ok (.iload 5, 2) := by decide +kernel
theorem eX9_ask_92 : decode (mB MX9_ask) 92 = .ok (.if_icmp .ge 11, 3) := by decide +kernel
theorem eX9_ask_95 : decode (mB MX9_ask) 95 = .ok (.iload 8, 2) := by decide +kernel
theorem eX9_ask_97 : decode (mB MX9_ask) 97 = .ok (.istore 5, 2) := by decide +kernel
theorem eX9_ask_99 : decode (mB MX9_ask) 99 = .ok (.iload 7, 2) := by decide +kernel
theorem eX9_ask_101 : decode (mB MX9_ask) 101 = .ok (.istore 6, 2) := by decide +kernel
theorem eX9_ask_103 : decode (mB MX9_ask) 103 = .ok (.iinc 7 1, 3) := by decide +kernel
theorem eX9_ask_106 : decode (mB MX9_ask) 106 = .ok (.goto (-51), 3) := by decide +kernel
theorem eX9_ask_109 : decode (mB MX9_ask) 109 = .ok (.iload 6, 2) := by decide +kernel
theorem eX9_ask_111 : decode (mB MX9_ask) 111 = .ok (.ireturn, 1) := by decide +kernel
theorem eX9_refusedPrices_0 : decode (mB MX9_refusedPrices) 0 = .ok (.iload_n 1, 1) := by decide +kernel
theorem eX9_refusedPrices_1 : decode (mB MX9_refusedPrices) 1 = .ok (.invokestatic 220, 3) := by decide +kernel
theorem eX9_refusedPrices_4 : decode (mB MX9_refusedPrices) 4 = .ok (.ifCond .ne 6, 3) := by decide +kernel
theorem eX9_refusedPrices_7 : decode (mB MX9_refusedPrices) 7 = .ok (.bipush (-2), 2) := by decide +kernel
theorem eX9_refusedPrices_9 : decode (mB MX9_refusedPrices) 9 = .ok (.ireturn, 1) := by decide +kernel
theorem eX9_refusedPrices_10 : decode (mB MX9_refusedPrices) 10 = .ok (.aload_n 0, 1) := by decide +kernel
theorem eX9_refusedPrices_11 : decode (mB MX9_refusedPrices) 11 = .ok (.getfield 73, 3) := by decide +kernel
theorem eX9_refusedPrices_14 : decode (mB MX9_refusedPrices) 14 = .ok (.iload_n 1, 1) := by decide +kernel
theorem eX9_refusedPrices_15 : decode (mB MX9_refusedPrices) 15 = .ok (.aaload, 1) := by decide +kernel
theorem eX9_refusedPrices_16 : decode (mB MX9_refusedPrices) 16 = .ok (.astore_n 2, 1) := by decide +kernel
theorem eX9_refusedPrices_17 : decode (mB MX9_refusedPrices) 17 = .ok (.aload_n 2, 1) := by decide +kernel
