theorem eX10_undo_75 : decode (mB MX10_undo) 75 = .ok (.iadd, 1) := by decide +kernel
theorem eX10_undo_76 : decode (mB MX10_undo) 76 = .ok (.iload_n 2, 1) := by decide +kernel
theorem eX10_undo_77 : decode (mB MX10_undo) 77 = .ok (.iadd, 1) := by decide +kernel
theorem eX10_undo_78 : decode (mB MX10_undo) 78 = .ok (.iaload, 1) := by decide +kernel
theorem eX10_undo_79 : decode (mB MX10_undo) 79 = .ok (.iastore, 1) := by decide +kernel
theorem eX10_undo_80 : decode (mB MX10_undo) 80 = .ok (.iinc 2 1, 3) := by decide +kernel
theorem eX10_undo_83 : decode (mB MX10_undo) 83 = .ok (.goto (-37), 3) := by decide +kernel
theorem eX10_undo_86 : decode (mB MX10_undo) 86 = .ok (.aload_n 0, 1) := by decide +kernel
theorem eX10_undo_87 : decode (mB MX10_undo) 87 = .ok (.invokevirtual 341, 3) := by decide +kernel
theorem eX10_undo_90 : decode (mB MX10_undo) 90 = .ok (.aload_n 0, 1) := by decide +kernel
theorem eX10_undo_91 : decode (mB MX10_undo) 91 = .ok (.getfield 13, 3) := by decide +kernel
theorem eX10_undo_94 : decode (mB MX10_undo) 94 = .ok (.sipush 175, 3) := by decide +kernel
theorem eX10_undo_97 : decode (mB MX10_undo) 97 = .ok (.iaload, 1) := by decide +kernel
theorem eX10_undo_98 : decode (mB MX10_undo) 98 = .ok (.ireturn, 1) := by decide +kernel
theorem eX10_whyNot_0 : decode (mB MX10_whyNot) 0 = .ok (.lload_n 1, 1) := by decide +kernel
theorem eX10_whyNot_1 : decode (mB MX10_whyNot) 1 = .ok (.ldc2_w 339, 3) := by decide +kernel
theorem eX10_whyNot_4 : decode (mB MX10_whyNot) 4 = .ok (.ldc2_w 344, 3) := by decide +kernel
theorem eX10_whyNot_7 : decode (mB MX10_whyNot) 7 = .ok (.invokestatic 149, 3) := by decide +kernel
theorem eX10_whyNot_10 : decode (mB MX10_whyNot) 10 = .ok (.ifCond .eq 5, 3) := by decide +kernel
theorem eX10_whyNot_13 : decode (mB MX10_whyNot) 13 = .ok (.iconst 0, 1) := by decide +kernel
theorem eX10_whyNot_14 : decode (mB MX10_whyNot) 14 = .ok (.ireturn, 1) := by decide +kernel
theorem eX10_whyNot_15 : decode (mB MX10_whyNot) 15 = .ok (.lload_n 1, 1) := by decide +kernel
theorem eX10_whyNot_16 : decode (mB MX10_whyNot) 16 = .ok (.ldc2_w 346, 3) := by decide +kernel
theorem eX10_whyNot_19 : decode (mB MX10_whyNot) 19 = .ok (.ldc2_w 348, 3) := by decide +kernel
theorem eX10_whyNot_22 : decode (mB MX10_whyNot) 22 = .ok (.invokestatic 149, 3) := by decide +kernel
theorem eX10_whyNot_25 : decode (mB MX10_whyNot) 25 = .ok (.ifCond .eq 13, 3) := by decide +kernel
theorem eX10_whyNot_28 : decode (mB MX10_whyNot) 28 = .ok (.aload_n 0, 1) := by decide +kernel
theorem eX10_whyNot_29 : decode (mB MX10_whyNot) 29 = .ok (.lload_n 1, 1) := by decide +kernel
theorem eX10_whyNot_30 : decode (mB MX10_whyNot) 30 = .ok (.ldc2_w 346, 3) := by decide +kernel
theorem eX10_whyNot_33 : decode (mB MX10_whyNot) 33 = .ok (.lsub, 1) := by decide +kernel
theorem eX10_whyNot_34 : decode (mB MX10_whyNot) 34 = .ok (.invokevirtual 319, 3) := by decide +kernel
theorem eX10_whyNot_37 : decode (mB MX10_whyNot) 37 = .ok (.ireturn, 1) := by decide +kernel
theorem eX10_whyNot_38 : decode (mB MX10_whyNot) 38 = .ok (.lload_n 1, 1) := by decide +kernel
theorem eX10_whyNot_39 : decode (mB MX10_whyNot) 39 = .ok (.ldc2_w 350, 3) := by decide +kernel
theorem eX10_whyNot_42 : decode (mB MX10_whyNot) 42 = .ok (.ldc2_w 352, 3) := by decide +kernel
theorem eX10_whyNot_45 : decode (mB MX10_whyNot) 45 = .ok (.invokestatic 149, 3) := by decide +kernel
theorem eX10_whyNot_48 : decode (mB MX10_whyNot) 48 = .ok (.ifCond .eq 13, 3) := by decide +kernel
theorem eX10_whyNot_51 : decode (mB MX10_whyNot) 51 = .ok (.aload_n 0, 1) := by decide +kernel
theorem eX10_whyNot_52 : decode (mB MX10_whyNot) 52 = .ok (.lload_n 1, 1) := by decide +kernel
theorem eX10_whyNot_53 : decode (mB MX10_whyNot) 53 = .ok (.ldc2_w 350, 3) := by decide +kernel
theorem eX10_whyNot_56 : decode (mB MX10_whyNot) 56 = .ok (.lsub, 1) := by decide +kernel
theorem eX10_whyNot_57 : decode (mB MX10_whyNot) 57 = .ok (.invokevirtual 328, 3) := by decide +kernel
theorem eX10_whyNot_60 : decode (mB MX10_whyNot) 60 = .ok (.ireturn, 1) := by decide +kernel
theorem eX10_whyNot_61 : decode (mB MX10_whyNot) 61 = .ok (.lload_n 1, 1) := by decide +kernel
theorem eX10_whyNot_62 : decode (mB MX10_whyNot) 62 = .ok (.ldc2_w 354, 3) := by decide +kernel
theorem eX10_whyNot_65 : decode (mB MX10_whyNot) 65 = .ok (.ldc2_w 356, 3) := by decide +kernel
theorem eX10_whyNot_68 : decode (mB MX10_whyNot) 68 = .ok (.invokestatic 149, 3) := by decide +kernel
theorem eX10_whyNot_71 : decode (mB MX10_whyNot) 71 = .ok (.ifCond .eq 13, 3) := by decide +kernel
theorem eX10_whyNot_74 : decode (mB MX10_whyNot) 74 = .ok (.aload_n 0, 1) := by decide +kernel
theorem eX10_whyNot_75 : decode (mB MX10_whyNot) 75 = .ok (.lload_n 1, 1) := by decide +kernel
theorem eX10_whyNot_76 : decode (mB MX10_whyNot) 76 = .ok (.ldc2_w 354, 3) := by decide +kernel
theorem eX10_whyNot_79 : decode (mB MX10_whyNot) 79 = .ok (.lsub, 1) := by decide +kernel
theorem eX10_whyNot_80 : decode (mB MX10_whyNot) 80 = .ok (.invokevirtual 300, 3) := by decide +kernel
theorem eX10_whyNot_83 : decode (mB MX10_whyNot) 83 = .ok (.ireturn, 1) := by decide +kernel
theorem eX10_whyNot_84 : decode (mB MX10_whyNot) 84 = .ok (.lload_n 1, 1) := by decide +kernel
theorem eX10_whyNot_85 : decode (mB MX10_whyNot) 85 = .ok (.ldc2_w 358, 3) := by decide +kernel
theorem eX10_whyNot_88 : decode (mB MX10_whyNot) 88 = .ok (.ldc2_w 360, 3) := by decide +kernel
theorem eX10_whyNot_91 : decode (mB MX10_whyNot) 91 = .ok (.invokestatic 149, 3) := by decide +kernel
theorem eX10_whyNot_94 : decode (mB MX10_whyNot) 94 = .ok (.ifCond .eq 15, 3) := by decide +kernel
theorem eX10_whyNot_97 : decode (mB MX10_whyNot) 97 = .ok (.aload_n 0, 1) := by decide +kernel
theorem eX10_whyNot_98 : decode (mB MX10_whyNot) 98 = .ok (.lload_n 1, 1) := by decide +kernel
theorem eX10_whyNot_99 : decode (mB MX10_whyNot) 99 = .ok (.ldc2_w 358, 3) := by decide +kernel
theorem eX10_whyNot_102 : decode (mB MX10_whyNot) 102 = .ok (.lsub, 1) := by decide +kernel
theorem eX10_whyNot_103 : decode (mB MX10_whyNot) 103 = .ok (.invokevirtual 313, 3) := by decide +kernel
theorem eX10_whyNot_106 : decode (mB MX10_whyNot) 106 = .ok (.goto 4, 3) := by decide +kernel
theorem eX10_whyNot_109 : decode (mB MX10_whyNot) 109 = .ok (.iconst 1, 1) := by decide +kernel
theorem eX10_whyNot_110 : decode (mB MX10_whyNot) 110 = .ok (.ireturn, 1) := by decide +kernel
theorem eX10_does_0 : decode (mB MX10_does) 0 = .ok (.iload_n 1, 1) := by decide +kernel
theorem eX10_does_1 : decode (mB MX10_does) 1 = .ok (.bipush 20, 2) := by decide +kernel
theorem eX10_does_3 : decode (mB MX10_does) 3 = .ok (.if_icmp .ge 14, 3) := by decide +kernel
theorem eX10_does_6 : decode (mB MX10_does) 6 = .ok (.aload_n 0, 1) := by decide +kernel
theorem eX10_does_7 : decode (mB MX10_does) 7 = .ok (.iload_n 1, 1) := by decide +kernel
theorem eX10_does_8 : decode (mB MX10_does) 8 = .ok (.bipush 10, 2) := by decide +kernel
theorem eX10_does_10 : decode (mB MX10_does) 10 = .ok (.isub, 1) := by decide +kernel
theorem eX10_does_11 : decode (mB MX10_does) 11 = .ok (.invokevirtual 336, 3) := by decide +kernel
theorem eX10_does_14 : decode (mB MX10_does) 14 = .ok (.goto 65, 3) := by decide +kernel
theorem eX10_does_17 : decode (mB MX10_does) 17 = .ok (.iload_n 1, 1) := by decide +kernel
theorem eX10_does_18 : decode (mB MX10_does) 18 = .ok (.bipush 110, 2) := by decide +kernel
theorem eX10_does_20 : decode (mB MX10_does) 20 = .ok (.if_icmp .ge 14, 3) := by decide +kernel
theorem eX10_does_23 : decode (mB MX10_does) 23 = .ok (.aload_n 0, 1) := by decide +kernel
theorem eX10_does_24 : decode (mB MX10_does) 24 = .ok (.iload_n 1, 1) := by decide +kernel
theorem eX10_does_25 : decode (mB MX10_does) 25 = .ok (.bipush 100, 2) := by decide +kernel
theorem eX10_does_27 : decode (mB MX10_does) 27 = .ok (.isub, 1) := by decide +kernel
theorem eX10_does_28 : decode (mB MX10_does) 28 = .ok (.invokevirtual 322, 3) := by decide +kernel
theorem eX10_does_31 : decode (mB MX10_does) 31 = .ok (.goto 48, 3) := by decide +kernel
theorem eX10_does_34 : decode (mB MX10_does) 34 = .ok (.iload_n 1, 1) := by decide +kernel
theorem eX10_does_35 : decode (mB MX10_does) 35 = .ok (.bipush 120, 2) := by decide +kernel
theorem eX10_does_37 : decode (mB MX10_does) 37 = .ok (.if_icmp .ge 14, 3) := by decide +kernel
theorem eX10_does_40 : decode (mB MX10_does) 40 = .ok (.aload_n 0, 1) := by decide +kernel
theorem eX10_does_41 : decode (mB MX10_does) 41 = .ok (.iload_n 1, 1) := by decide +kernel
theorem eX10_does_42 : decode (mB MX10_does) 42 = .ok (.bipush 110, 2) := by decide +kernel
theorem eX10_does_44 : decode (mB MX10_does) 44 = .ok (.isub, 1) := by decide +kernel
theorem eX10_does_45 : decode (mB MX10_does) 45 = .ok (.invokevirtual 331, 3) := by decide +kernel
theorem eX10_does_48 : decode (mB MX10_does) 48 = .ok (.goto 31, 3) := by decide +kernel
theorem eX10_does_51 : decode (mB MX10_does) 51 = .ok (.iload_n 1, 1) := by decide +kernel
theorem eX10_does_52 : decode (mB MX10_does) 52 = .ok (.sipush 300, 3) := by decide +kernel
theorem eX10_does_55 : decode (mB MX10_does) 55 = .ok (.if_icmp .ge 15, 3) := by decide +kernel
theorem eX10_does_58 : decode (mB MX10_does) 58 = .ok (.aload_n 0, 1) := by decide +kernel
theorem eX10_does_59 : decode (mB MX10_does) 59 = .ok (.iload_n 1, 1) := by decide +kernel
theorem eX10_does_60 : decode (mB MX10_does) 60 = .ok (.sipush 200, 3) := by decide +kernel
theorem eX10_does_63 : decode (mB MX10_does) 63 = .ok (.isub, 1) := by decide +kernel
theorem eX10_does_64 : decode (mB MX10_does) 64 = .ok (.invokevirtual 307, 3) := by decide +kernel
theorem eX10_does_67 : decode (mB MX10_does) 67 = .ok (.goto 12, 3) := by decide +kernel
theorem eX10_does_70 : decode (mB MX10_does) 70 = .ok (.aload_n 0, 1) := by decide +kernel
theorem eX10_does_71 : decode (mB MX10_does) 71 = .ok (.iload_n 1, 1) := by decide +kernel
theorem eX10_does_72 : decode (mB MX10_does) 72 = .ok (.sipush 300, 3) := by decide +kernel
theorem eX10_does_75 : decode (mB MX10_does) 75 = .ok (.isub, 1) := by decide +kernel
theorem eX10_does_76 : decode (mB MX10_does) 76 = .ok (.invokevirtual 316, 3) := by decide +kernel
theorem eX10_does_79 : decode (mB MX10_does) 79 = .ok (.return_, 1) := by decide +kernel
theorem eX10_tells_0 : decode (mB MX10_tells) 0 = .ok (.aload_n 0, 1) := by decide +kernel
theorem eX10_tells_1 : decode (mB MX10_tells) 1 = .ok (.iconst 0, 1) := by decide +kernel
theorem eX10_tells_2 : decode (mB MX10_tells) 2 = .ok (.putfield 362, 3) := by decide +kernel
theorem eX10_tells_5 : decode (mB MX10_tells) 5 = .ok (.iconst 0, 1) := by decide +kernel
theorem eX10_tells_6 : decode (mB MX10_tells) 6 = .ok (.istore_n 2, 1) := by decide +kernel
theorem eX10_tells_7 : decode (mB MX10_tells) 7 = .ok (.iload_n 2, 1) := by decide +kernel
theorem eX10_tells_8 : decode (mB MX10_tells) 8 = .ok (.aload_n 0, 1) := by decide +kernel
theorem eX10_tells_9 : decode (mB MX10_tells) 9 = .ok (.getfield 73, 3) := by decide +kernel
theorem eX10_tells_12 : decode (mB MX10_tells) 12 = .ok (.iload_n 1, 1) := by decide +kernel
theorem eX10_tells_13 : decode (mB MX10_tells) 13 = .ok (.iaload, 1) := by decide +kernel
theorem eX10_tells_14 : decode (mB MX10_tells) 14 = .ok (.if_icmp .ge 53, 3) := by decide +kernel
theorem eX10_tells_17 : decode (mB MX10_tells) 17 = .ok (.aload_n 0, 1) := by decide +kernel
theorem eX10_tells_18 : decode (mB MX10_tells) 18 = .ok (.aload_n 0, 1) := by decide +kernel
theorem eX10_tells_19 : decode (mB MX10_tells) 19 = .ok (.aload_n 0, 1) := by decide +kernel
theorem eX10_tells_20 : decode (mB MX10_tells) 20 = .ok (.getfield 76, 3) := by decide +kernel
theorem eX10_tells_23 : decode (mB MX10_tells) 23 = .ok (.bipush 40, 2) := by decide +kernel
theorem eX10_tells_25 : decode (mB MX10_tells) 25 = .ok (.iload_n 1, 1) := by decide +kernel
theorem eX10_tells_26 : decode (mB MX10_tells) 26 = .ok (.imul, 1) := by decide +kernel
theorem eX10_tells_27 : decode (mB MX10_tells) 27 = .ok (.iload_n 2, 1) := by decide +kernel
theorem eX10_tells_28 : decode (mB MX10_tells) 28 = .ok (.iadd, 1) := by decide +kernel
theorem eX10_tells_29 : decode (mB MX10_tells) 29 = .ok (.laload, 1) := by decide +kernel
theorem eX10_tells_30 : decode (mB MX10_tells) 30 = .ok (.invokevirtual 365, 3) := by decide +kernel
theorem eX10_tells_33 : decode (mB MX10_tells) 33 = .ok (.putfield 362, 3) := by decide +kernel
theorem eX10_tells_36 : decode (mB MX10_tells) 36 = .ok (.aload_n 0, 1) := by decide +kernel
theorem eX10_tells_37 : decode (mB MX10_tells) 37 = .ok (.getfield 362, 3) := by decide +kernel
theorem eX10_tells_40 : decode (mB MX10_tells) 40 = .ok (.ifCond .eq 5, 3) := by decide +kernel
theorem eX10_tells_43 : decode (mB MX10_tells) 43 = .ok (.iload_n 2, 1) := by decide +kernel
theorem eX10_tells_44 : decode (mB MX10_tells) 44 = .ok (.ireturn, 1) := by decide +kernel
theorem eX10_tells_45 : decode (mB MX10_tells) 45 = .ok (.aload_n 0, 1) := by decide +kernel
theorem eX10_tells_46 : decode (mB MX10_tells) 46 = .ok (.aload_n 0, 1) := by decide +kernel
theorem eX10_tells_47 : decode (mB MX10_tells) 47 = .ok (.getfield 76, 3) := by decide +kernel
theorem eX10_tells_50 : decode (mB MX10_tells) 50 = .ok (.bipush 40, 2) := by decide +kernel
theorem eX10_tells_52 : decode (mB MX10_tells) 52 = .ok (.iload_n 1, 1) := by decide +kernel
theorem eX10_tells_53 : decode (mB MX10_tells) 53 = .ok (.imul, 1) := by decide +kernel
theorem eX10_tells_54 : decode (mB MX10_tells) 54 = .ok (.iload_n 2, 1) := by decide +kernel
theorem eX10_tells_55 : decode (mB MX10_tells) 55 = .ok (.iadd, 1) := by decide +kernel
theorem eX10_tells_56 : decode (mB MX10_tells) 56 = .ok (.laload, 1) := by decide +kernel
theorem eX10_tells_57 : decode (mB MX10_tells) 57 = .ok (.l2i, 1) := by decide +kernel
theorem eX10_tells_58 : decode (mB MX10_tells) 58 = .ok (.invokevirtual 368, 3) := by decide +kernel
theorem eX10_tells_61 : decode (mB MX10_tells) 61 = .ok (.iinc 2 1, 3) := by decide +kernel
theorem eX10_tells_64 : decode (mB MX10_tells) 64 = .ok (.goto (-57), 3) := by decide +kernel
theorem eX10_tells_67 : decode (mB MX10_tells) 67 = .ok (.aload_n 0, 1) := by decide +kernel
theorem eX10_tells_68 : decode (mB MX10_tells) 68 = .ok (.getfield 73, 3) := by decide +kernel
theorem eX10_tells_71 : decode (mB MX10_tells) 71 = .ok (.iload_n 1, 1) := by decide +kernel
theorem eX10_tells_72 : decode (mB MX10_tells) 72 = .ok (.iaload, 1) := by decide +kernel
theorem eX10_tells_73 : decode (mB MX10_tells) 73 = .ok (.ireturn, 1) := by decide +kernel
theorem eX10_noTray_0 : decode (mB MX10_noTray) 0 = .ok (.iload_n 1, 1) := by decide +kernel
theorem eX10_noTray_1 : decode (mB MX10_noTray) 1 = .ok (.i2l, 1) := by decide +kernel
theorem eX10_noTray_2 : decode (mB MX10_noTray) 2 = .ok (.lconst 0, 1) := by decide +kernel
theorem eX10_noTray_3 : decode (mB MX10_noTray) 3 = .ok (.ldc2_w 371, 3) := by decide +kernel
theorem eX10_noTray_6 : decode (mB MX10_noTray) 6 = .ok (.invokestatic 149, 3) := by decide +kernel
theorem eX10_noTray_9 : decode (mB MX10_noTray) 9 = .ok (.ifCond .ne 8, 3) := by decide +kernel
theorem eX10_noTray_12 : decode (mB MX10_noTray) 12 = .ok (.bipush (-2), 2) := by decide +kernel
theorem eX10_noTray_14 : decode (mB MX10_noTray) 14 = .ok (.goto 19, 3) := by decide +kernel
theorem eX10_noTray_17 : decode (mB MX10_noTray) 17 = .ok (.aload_n 0, 1) := by decide +kernel
theorem eX10_noTray_18 : decode (mB MX10_noTray) 18 = .ok (.getfield 70, 3) := by decide +kernel
theorem eX10_noTray_21 : decode (mB MX10_noTray) 21 = .ok (.iload_n 1, 1) := by decide +kernel
theorem eX10_noTray_22 : decode (mB MX10_noTray) 22 = .ok (.iaload, 1) := by decide +kernel
theorem eX10_noTray_23 : decode (mB MX10_noTray) 23 = .ok (.iconst (-1), 1) := by decide +kernel
theorem eX10_noTray_24 : decode (mB MX10_noTray) 24 = .ok (.if_icmp .ne 8, 3) := by decide +kernel
theorem eX10_noTray_27 : decode (mB MX10_noTray) 27 = .ok (.bipush (-6), 2) := by decide +kernel
theorem eX10_noTray_29 : decode (mB MX10_noTray) 29 = .ok (.goto 4, 3) := by decide +kernel
theorem eX10_noTray_32 : decode (mB MX10_noTray) 32 = .ok (.iconst 0, 1) := by decide +kernel
theorem eX10_noTray_33 : decode (mB MX10_noTray) 33 = .ok (.ireturn, 1) := by decide +kernel
theorem eX10_judge_0 : decode (mB MX10_judge) 0 = .ok (.aload_n 0, 1) := by decide +kernel
theorem eX10_judge_1 : decode (mB MX10_judge) 1 = .ok (.iconst 0, 1) := by decide +kernel
theorem eX10_judge_2 : decode (mB MX10_judge) 2 = .ok (.putfield 1, 3) := by decide +kernel
theorem eX10_judge_5 : decode (mB MX10_judge) 5 = .ok (.iload_n 2, 1) := by decide +kernel
theorem eX10_judge_6 : decode (mB MX10_judge) 6 = .ok (.i2l, 1) := by decide +kernel
theorem eX10_judge_7 : decode (mB MX10_judge) 7 = .ok (.lconst 0, 1) := by decide +kernel
theorem eX10_judge_8 : decode (mB MX10_judge) 8 = .ok (.ldc2_w 371, 3) := by decide +kernel
theorem eX10_judge_11 : decode (mB MX10_judge) 11 = .ok (.invokestatic 149, 3) := by decide +kernel
theorem eX10_judge_14 : decode (mB MX10_judge) 14 = .ok (.ifCond .ne 6, 3) := by decide +kernel
theorem eX10_judge_17 : decode (mB MX10_judge) 17 = .ok (.bipush (-2), 2) := by decide +kernel
theorem eX10_judge_19 : decode (mB MX10_judge) 19 = .ok (.ireturn, 1) := by decide +kernel
theorem eX10_judge_20 : decode (mB MX10_judge) 20 = .ok (.aload_n 0, 1) := by decide +kernel
theorem eX10_judge_21 : decode (mB MX10_judge) 21 = .ok (.iload_n 1, 1) := by decide +kernel
theorem eX10_judge_22 : decode (mB MX10_judge) 22 = .ok (.invokevirtual 373, 3) := by decide +kernel
theorem eX10_judge_25 : decode (mB MX10_judge) 25 = .ok (.istore_n 3, 1) := by decide +kernel
theorem eX10_judge_26 : decode (mB MX10_judge) 26 = .ok (.iload_n 3, 1) := by decide +kernel
theorem eX10_judge_27 : decode (mB MX10_judge) 27 = .ok (.ifCond .eq 5, 3) := by decide +kernel
theorem eX10_judge_30 : decode (mB MX10_judge) 30 = .ok (.iload_n 3, 1) := by decide +kernel
theorem eX10_judge_31 : decode (mB MX10_judge) 31 = .ok (.ireturn, 1) := by decide +kernel
theorem eX10_judge_32 : decode (mB MX10_judge) 32 = .ok (.aload_n 0, 1) := by decide +kernel
theorem eX10_judge_33 : decode (mB MX10_judge) 33 = .ok (.invokevirtual 304, 3) := by decide +kernel
theorem eX10_judge_36 : decode (mB MX10_judge) 36 = .ok (.aload_n 0, 1) := by decide +kernel
theorem eX10_judge_37 : decode (mB MX10_judge) 37 = .ok (.iload_n 1, 1) := by decide +kernel
theorem eX10_judge_38 : decode (mB MX10_judge) 38 = .ok (.invokevirtual 376, 3) := by decide +kernel
theorem eX10_judge_41 : decode (mB MX10_judge) 41 = .ok (.istore 4, 2) := by decide +kernel
theorem eX10_judge_43 : decode (mB MX10_judge) 43 = .ok (.aload_n 0, 1) := by decide +kernel
theorem eX10_judge_44 : decode (mB MX10_judge) 44 = .ok (.invokevirtual 325, 3) := by decide +kernel
theorem eX10_judge_47 : decode (mB MX10_judge) 47 = .ok (.istore 5, 2) := by decide +kernel
theorem eX10_judge_49 : decode (mB MX10_judge) 49 = .ok (.aload_n 0, 1) := by decide +kernel
theorem eX10_judge_50 : decode (mB MX10_judge) 50 = .ok (.getfield 13, 3) := by decide +kernel
theorem eX10_judge_53 : decode (mB MX10_judge) 53 = .ok (.bipush 113, 2) := by decide +kernel
theorem eX10_judge_55 : decode (mB MX10_judge) 55 = .ok (.iaload, 1) := by decide +kernel
theorem eX10_judge_56 : decode (mB MX10_judge) 56 = .ok (.istore 6, 2) := by decide +kernel
theorem eX10_judge_58 : decode (mB MX10_judge) 58 = .ok (.aload_n 0, 1) := by decide +kernel
theorem eX10_judge_59 : decode (mB MX10_judge) 59 = .ok (.invokevirtual 341, 3) := by decide +kernel
theorem eX10_judge_62 : decode (mB MX10_judge) 62 = .ok (.iload_n 2, 1) := by decide +kernel
theorem eX10_judge_63 : decode (mB MX10_judge) 63 = .ok (.ifCond .ne 19, 3) := by decide +kernel
theorem eX10_judge_66 : decode (mB MX10_judge) 66 = .ok (.aload_n 0, 1) := by decide +kernel
theorem eX10_judge_67 : decode (mB MX10_judge) 67 = .ok (.getfield 362, 3) := by decide +kernel
theorem eX10_judge_70 : decode (mB MX10_judge) 70 = .ok (.ifCond .ne 7, 3) := by decide +kernel
theorem eX10_judge_73 : decode (mB MX10_judge) 73 = .ok (.iconst (-1), 1) := by decide +kernel
theorem eX10_judge_74 : decode (mB MX10_judge) 74 = .ok (.goto 32, 3) := by decide +kernel
theorem eX10_judge_77 : decode (mB MX10_judge) 77 = .ok (.iload 4, 2) := by decide +kernel
theorem eX10_judge_79 : decode (mB MX10_judge) 79 = .ok (.goto 27, 3) := by decide +kernel
theorem eX10_judge_82 : decode (mB MX10_judge) 82 = .ok (.iload_n 2, 1) := by decide +kernel
theorem eX10_judge_83 : decode (mB MX10_judge) 83 = .ok (.iconst 1, 1) := by decide +kernel
theorem eX10_judge_84 : decode (mB MX10_judge) 84 = .ok (.if_icmp .ne 10, 3) := by decide +kernel
theorem eX10_judge_87 : decode (mB MX10_judge) 87 = .ok (.aload_n 0, 1) := by decide +kernel
theorem eX10_judge_88 : decode (mB MX10_judge) 88 = .ok (.getfield 362, 3) := by decide +kernel
theorem eX10_judge_91 : decode (mB MX10_judge) 91 = .ok (.goto 15, 3) := by decide +kernel
theorem eX10_judge_94 : decode (mB MX10_judge) 94 = .ok (.iload_n 2, 1) := by decide +kernel
theorem eX10_judge_95 : decode (mB MX10_judge) 95 = .ok (.iconst 2, 1) := by decide +kernel
theorem eX10_judge_96 : decode (mB MX10_judge) 96 = .ok (.if_icmp .ne 8, 3) := by decide +kernel
theorem eX10_judge_99 : decode (mB MX10_judge) 99 = .ok (.iload 5, 2) := by decide +kernel
theorem eX10_judge_101 : decode (mB MX10_judge) 101 = .ok (.goto 5, 3) := by decide +kernel
theorem eX10_judge_104 : decode (mB MX10_judge) 104 = .ok (.iload 6, 2) := by decide +kernel
theorem eX10_judge_106 : decode (mB MX10_judge) 106 = .ok (.ireturn, 1) := by decide +kernel
theorem eX10_perform_0 : decode (mB MX10_perform) 0 = .ok (.aload_n 0, 1) := by decide +kernel
theorem eX10_perform_1 : decode (mB MX10_perform) 1 = .ok (.iconst 0, 1) := by decide +kernel
theorem eX10_perform_2 : decode (mB MX10_perform) 2 = .ok (.putfield 1, 3) := by decide +kernel
theorem eX10_perform_5 : decode (mB MX10_perform) 5 = .ok (.aload_n 0, 1) := by decide +kernel
theorem eX10_perform_6 : decode (mB MX10_perform) 6 = .ok (.iload_n 1, 1) := by decide +kernel
theorem eX10_perform_7 : decode (mB MX10_perform) 7 = .ok (.invokevirtual 373, 3) := by decide +kernel
theorem eX10_perform_10 : decode (mB MX10_perform) 10 = .ok (.istore_n 2, 1) := by decide +kernel
theorem eX10_perform_11 : decode (mB MX10_perform) 11 = .ok (.iload_n 2, 1) := by decide +kernel
theorem eX10_perform_12 : decode (mB MX10_perform) 12 = .ok (.ifCond .eq 5, 3) := by decide +kernel
theorem eX10_perform_15 : decode (mB MX10_perform) 15 = .ok (.iload_n 2, 1) := by decide +kernel
theorem eX10_perform_16 : decode (mB MX10_perform) 16 = .ok (.ireturn, 1) := by decide +kernel
theorem eX10_perform_17 : decode (mB MX10_perform) 17 = .ok (.aload_n 0, 1) := by decide +kernel
theorem eX10_perform_18 : decode (mB MX10_perform) 18 = .ok (.invokevirtual 304, 3) := by decide +kernel
theorem eX10_perform_21 : decode (mB MX10_perform) 21 = .ok (.aload_n 0, 1) := by decide +kernel
theorem eX10_perform_22 : decode (mB MX10_perform) 22 = .ok (.iload_n 1, 1) := by decide +kernel
theorem eX10_perform_23 : decode (mB MX10_perform) 23 = .ok (.invokevirtual 376, 3) := by decide +kernel
theorem eX10_perform_26 : decode (mB MX10_perform) 26 = .ok (.istore_n 3, 1) := by decide +kernel
theorem eX10_perform_27 : decode (mB MX10_perform) 27 = .ok (.iload_n 3, 1) := by decide +kernel
theorem eX10_perform_28 : decode (mB MX10_perform) 28 = .ok (.ifCond .le 7, 3) := by decide +kernel
theorem eX10_perform_31 : decode (mB MX10_perform) 31 = .ok (.aload_n 0, 1) := by decide +kernel
theorem eX10_perform_32 : decode (mB MX10_perform) 32 = .ok (.invokevirtual 310, 3) := by decide +kernel
theorem eX10_perform_35 : decode (mB MX10_perform) 35 = .ok (.iload_n 3, 1) := by decide +kernel
theorem eX10_perform_36 : decode (mB MX10_perform) 36 = .ok (.ireturn, 1) := by decide +kernel
theorem eX10_draw_0 : decode (mB MX10_draw) 0 = .ok (.aload_n 0, 1) := by decide +kernel
theorem eX10_draw_1 : decode (mB MX10_draw) 1 = .ok (.ldc_w 379, 3) := by decide +kernel
theorem eX10_draw_4 : decode (mB MX10_draw) 4 = .ok (.aload_n 0, 1) := by decide +kernel
theorem eX10_draw_5 : decode (mB MX10_draw) 5 = .ok (.getfield 380, 3) := by decide +kernel
theorem eX10_draw_8 : decode (mB MX10_draw) 8 = .ok (.imul, 1) := by decide +kernel
theorem eX10_draw_9 : decode (mB MX10_draw) 9 = .ok (.sipush 12345, 3) := by decide +kernel
theorem eX10_draw_12 : decode (mB MX10_draw) 12 = .ok (.iadd, 1) := by decide +kernel
theorem eX10_draw_13 : decode (mB MX10_draw) 13 = .ok (.putfield 380, 3) := by decide +kernel
theorem eX10_draw_16 : decode (mB MX10_draw) 16 = .ok (.aload_n 0, 1) := by decide +kernel
theorem eX10_draw_17 : decode (mB MX10_draw) 17 = .ok (.getfield 380, 3) := by decide +kernel
theorem eX10_draw_20 : decode (mB MX10_draw) 20 = .ok (.bipush 16, 2) := by decide +kernel
theorem eX10_draw_22 : decode (mB MX10_draw) 22 = .ok (.iushr, 1) := by decide +kernel
theorem eX10_draw_23 : decode (mB MX10_draw) 23 = .ok (.iload_n 1, 1) := by decide +kernel
theorem eX10_draw_24 : decode (mB MX10_draw) 24 = .ok (.irem, 1) := by decide +kernel
theorem eX10_draw_25 : decode (mB MX10_draw) 25 = .ok (.ireturn, 1) := by decide +kernel
theorem eX10_drawn_0 : decode (mB MX10_drawn) 0 = .ok (.aload_n 0, 1) := by decide +kernel
theorem eX10_drawn_1 : decode (mB MX10_drawn) 1 = .ok (.iconst 5, 1) := by decide +kernel
theorem eX10_drawn_2 : decode (mB MX10_drawn) 2 = .ok (.invokevirtual 383, 3) := by decide +kernel
theorem eX10_drawn_5 : decode (mB MX10_drawn) 5 = .ok (.istore_n 1, 1) := by decide +kernel
theorem eX10_drawn_6 : decode (mB MX10_drawn) 6 = .ok (.iload_n 1, 1) := by decide +kernel
theorem eX10_drawn_7 : decode (mB MX10_drawn) 7 = .ok (.iconst 3, 1) := by decide +kernel
theorem eX10_drawn_8 : decode (mB MX10_drawn) 8 = .ok (.if_icmp .ge 25, 3) := by decide +kernel
theorem eX10_drawn_11 : decode (mB MX10_drawn) 11 = .ok (.iload_n 1, 1) := by decide +kernel
theorem eX10_drawn_12 : decode (mB MX10_drawn) 12 = .ok (.iconst 2, 1) := by decide +kernel
theorem eX10_drawn_13 : decode (mB MX10_drawn) 13 = .ok (.if_icmp .ge 9, 3) := by decide +kernel
theorem eX10_drawn_16 : decode (mB MX10_drawn) 16 = .ok (.sipush 200, 3) := by decide +kernel
theorem eX10_drawn_19 : decode (mB MX10_drawn) 19 = .ok (.goto 6, 3) := by decide +kernel
theorem eX10_drawn_22 : decode (mB MX10_drawn) 22 = .ok (.sipush 300, 3) := by decide +kernel
theorem eX10_drawn_25 : decode (mB MX10_drawn) 25 = .ok (.aload_n 0, 1) := by decide +kernel
theorem eX10_drawn_26 : decode (mB MX10_drawn) 26 = .ok (.bipush 12, 2) := by decide +kernel
theorem eX10_drawn_28 : decode (mB MX10_drawn) 28 = .ok (.invokevirtual 383, 3) := by decide +kernel
theorem eX10_drawn_31 : decode (mB MX10_drawn) 31 = .ok (.iadd, 1) := by decide +kernel
theorem eX10_drawn_32 : decode (mB MX10_drawn) 32 = .ok (.ireturn, 1) := by decide +kernel
theorem eX10_drawn_33 : decode (mB MX10_drawn) 33 = .ok (.iload_n 1, 1) := by decide +kernel
theorem eX10_drawn_34 : decode (mB MX10_drawn) 34 = .ok (.iconst 3, 1) := by decide +kernel
theorem eX10_drawn_35 : decode (mB MX10_drawn) 35 = .ok (.if_icmp .ne 8, 3) := by decide +kernel
theorem eX10_drawn_38 : decode (mB MX10_drawn) 38 = .ok (.bipush 100, 2) := by decide +kernel
theorem eX10_drawn_40 : decode (mB MX10_drawn) 40 = .ok (.goto 5, 3) := by decide +kernel
theorem eX10_drawn_43 : decode (mB MX10_drawn) 43 = .ok (.bipush 110, 2) := by decide +kernel
theorem eX10_drawn_45 : decode (mB MX10_drawn) 45 = .ok (.aload_n 0, 1) := by decide +kernel
theorem eX10_drawn_46 : decode (mB MX10_drawn) 46 = .ok (.bipush 10, 2) := by decide +kernel
theorem eX10_drawn_48 : decode (mB MX10_drawn) 48 = .ok (.invokevirtual 383, 3) := by decide +kernel
theorem eX10_drawn_51 : decode (mB MX10_drawn) 51 = .ok (.iadd, 1) := by decide +kernel
theorem eX10_drawn_52 : decode (mB MX10_drawn) 52 = .ok (.ireturn, 1) := by decide +kernel
theorem eX10_year_0 : decode (mB MX10_year) 0 = .ok (.aload_n 0, 1) := by decide +kernel
theorem eX10_year_1 : decode (mB MX10_year) 1 = .ok (.iconst 0, 1) := by decide +kernel
theorem eX10_year_2 : decode (mB MX10_year) 2 = .ok (.putfield 1, 3) := by decide +kernel
theorem eX10_year_5 : decode (mB MX10_year) 5 = .ok (.iload_n 2, 1) := by decide +kernel
theorem eX10_year_6 : decode (mB MX10_year) 6 = .ok (.i2l, 1) := by decide +kernel
theorem eX10_year_7 : decode (mB MX10_year) 7 = .ok (.lconst 1, 1) := by decide +kernel
theorem eX10_year_8 : decode (mB MX10_year) 8 = .ok (.ldc2_w 386, 3) := by decide +kernel
theorem eX10_year_11 : decode (mB MX10_year) 11 = .ok (.invokestatic 149, 3) := by decide +kernel
theorem eX10_year_14 : decode (mB MX10_year) 14 = .ok (.ifCond .ne 6, 3) := by decide +kernel
theorem eX10_year_17 : decode (mB MX10_year) 17 = .ok (.bipush (-3), 2) := by decide +kernel
theorem eX10_year_19 : decode (mB MX10_year) 19 = .ok (.ireturn, 1) := by decide +kernel
theorem eX10_year_20 : decode (mB MX10_year) 20 = .ok (.aload_n 0, 1) := by decide +kernel
theorem eX10_year_21 : decode (mB MX10_year) 21 = .ok (.invokevirtual 304, 3) := by decide +kernel
theorem eX10_year_24 : decode (mB MX10_year) 24 = .ok (.aload_n 0, 1) := by decide +kernel
theorem eX10_year_25 : decode (mB MX10_year) 25 = .ok (.iload_n 1, 1) := by decide +kernel
theorem eX10_year_26 : decode (mB MX10_year) 26 = .ok (.putfield 380, 3) := by decide +kernel
theorem eX10_year_29 : decode (mB MX10_year) 29 = .ok (.iconst 0, 1) := by decide +kernel
theorem eX10_year_30 : decode (mB MX10_year) 30 = .ok (.istore_n 3, 1) := by decide +kernel
theorem eX10_year_31 : decode (mB MX10_year) 31 = .ok (.iconst 0, 1) := by decide +kernel
theorem eX10_year_32 : decode (mB MX10_year) 32 = .ok (.istore 4, 2) := by decide +kernel
theorem eX10_year_34 : decode (mB MX10_year) 34 = .ok (.iload 4, 2) := by decide +kernel
theorem eX10_year_36 : decode (mB MX10_year) 36 = .ok (.iload_n 2, 1) := by decide +kernel
theorem eX10_year_37 : decode (mB MX10_year) 37 = .ok (.if_icmp .ge 37, 3) := by decide +kernel
theorem eX10_year_40 : decode (mB MX10_year) 40 = .ok (.aload_n 0, 1) := by decide +kernel
theorem eX10_year_41 : decode (mB MX10_year) 41 = .ok (.invokevirtual 388, 3) := by decide +kernel
theorem eX10_year_44 : decode (mB MX10_year) 44 = .ok (.istore 5, 2) := by decide +kernel
theorem eX10_year_46 : decode (mB MX10_year) 46 = .ok (.aload_n 0, 1) := by decide +kernel
theorem eX10_year_47 : decode (mB MX10_year) 47 = .ok (.iload 5, 2) := by decide +kernel
theorem eX10_year_49 : decode (mB MX10_year) 49 = .ok (.i2l, 1) := by decide +kernel
theorem eX10_year_50 : decode (mB MX10_year) 50 = .ok (.invokevirtual 365, 3) := by decide +kernel
theorem eX10_year_53 : decode (mB MX10_year) 53 = .ok (.ifCond .eq 6, 3) := by decide +kernel
theorem eX10_year_56 : decode (mB MX10_year) 56 = .ok (.goto 12, 3) := by decide +kernel
theorem eX10_year_59 : decode (mB MX10_year) 59 = .ok (.aload_n 0, 1) := by decide +kernel
theorem eX10_year_60 : decode (mB MX10_year) 60 = .ok (.iload 5, 2) := by decide +kernel
theorem eX10_year_62 : decode (mB MX10_year) 62 = .ok (.invokevirtual 368, 3) := by decide +kernel
theorem eX10_year_65 : decode (mB MX10_year) 65 = .ok (.iinc 3 1, 3) := by decide +kernel
theorem eX10_year_68 : decode (mB MX10_year) 68 = .ok (.iinc 4 1, 3) := by decide +kernel
theorem eX10_year_71 : decode (mB MX10_year) 71 = .ok (.goto (-37), 3) := by decide +kernel
theorem eX10_year_74 : decode (mB MX10_year) 74 = .ok (.iload_n 3, 1) := by decide +kernel
theorem eX10_year_75 : decode (mB MX10_year) 75 = .ok (.ifCond .le 7, 3) := by decide +kernel
theorem eX10_year_78 : decode (mB MX10_year) 78 = .ok (.aload_n 0, 1) := by decide +kernel
theorem eX10_year_79 : decode (mB MX10_year) 79 = .ok (.invokevirtual 310, 3) := by decide +kernel
theorem eX10_year_82 : decode (mB MX10_year) 82 = .ok (.iload_n 3, 1) := by decide +kernel
theorem eX10_year_83 : decode (mB MX10_year) 83 = .ok (.ireturn, 1) := by decide +kernel
theorem eX10_lackNow_0 : decode (mB MX10_lackNow) 0 = .ok (.iconst 0, 1) := by decide +kernel
theorem eX10_lackNow_1 : decode (mB MX10_lackNow) 1 = .ok (.istore_n 1, 1) := by decide +kernel
theorem eX10_lackNow_2 : decode (mB MX10_lackNow) 2 = .ok (.iconst 1, 1) := by decide +kernel
theorem eX10_lackNow_3 : decode (mB MX10_lackNow) 3 = .ok (.istore_n 2, 1) := by decide +kernel
theorem eX10_lackNow_4 : decode (mB MX10_lackNow) 4 = .ok (.iconst 0, 1) := by decide +kernel
theorem eX10_lackNow_5 : decode (mB MX10_lackNow) 5 = .ok (.istore_n 3, 1) := by decide +kernel
theorem eX10_lackNow_6 : decode (mB MX10_lackNow) 6 = .ok (.iload_n 3, 1) := by decide +kernel
theorem eX10_lackNow_7 : decode (mB MX10_lackNow) 7 = .ok (.bipush 10, 2) := by decide +kernel
theorem eX10_lackNow_9 : decode (mB MX10_lackNow) 9 = .ok (.if_icmp .ge 67, 3) := by decide +kernel
theorem eX10_lackNow_12 : decode (mB MX10_lackNow) 12 = .ok (.iload_n 3, 1) := by decide +kernel
theorem eX10_lackNow_13 : decode (mB MX10_lackNow) 13 = .ok (.aload_n 0, 1) := by decide +kernel
theorem eX10_lackNow_14 : decode (mB MX10_lackNow) 14 = .ok (.getfield 13, 3) := by decide +kernel
theorem eX10_lackNow_17 : decode (mB MX10_lackNow) 17 = .ok (.iconst 2, 1) := by decide +kernel
theorem eX10_lackNow_18 : decode (mB MX10_lackNow) 18 = .ok (.iaload, 1) := by decide +kernel
theorem eX10_lackNow_19 : decode (mB MX10_lackNow) 19 = .ok (.if_icmp .ge 21, 3) := by decide +kernel
theorem eX10_lackNow_22 : decode (mB MX10_lackNow) 22 = .ok (.aload_n 0, 1) := by decide +kernel
theorem eX10_lackNow_23 : decode (mB MX10_lackNow) 23 = .ok (.getfield 13, 3) := by decide +kernel
theorem eX10_lackNow_26 : decode (mB MX10_lackNow) 26 = .ok (.bipush 39, 2) := by decide +kernel
theorem eX10_lackNow_28 : decode (mB MX10_lackNow) 28 = .ok (.iload_n 3, 1) := by decide +kernel
theorem eX10_lackNow_29 : decode (mB MX10_lackNow) 29 = .ok (.iadd, 1) := by decide +kernel
theorem eX10_lackNow_30 : decode (mB MX10_lackNow) 30 = .ok (.iaload, 1) := by decide +kernel
theorem eX10_lackNow_31 : decode (mB MX10_lackNow) 31 = .ok (.aload_n 0, 1) := by decide +kernel
theorem eX10_lackNow_32 : decode (mB MX10_lackNow) 32 = .ok (.iload_n 3, 1) := by decide +kernel
theorem eX10_lackNow_33 : decode (mB MX10_lackNow) 33 = .ok (.invokevirtual 291, 3) := by decide +kernel
theorem eX10_lackNow_36 : decode (mB MX10_lackNow) 36 = .ok (.isub, 1) := by decide +kernel
theorem eX10_lackNow_37 : decode (mB MX10_lackNow) 37 = .ok (.goto 4, 3) := by decide +kernel
theorem eX10_lackNow_40 : decode (mB MX10_lackNow) 40 = .ok (.iconst 0, 1) := by decide +kernel
theorem eX10_lackNow_41 : decode (mB MX10_lackNow) 41 = .ok (.istore 4, 2) := by decide +kernel
theorem eX10_lackNow_43 : decode (mB MX10_lackNow) 43 = .ok (.iload_n 1, 1) := by decide +kernel
theorem eX10_lackNow_44 : decode (mB MX10_lackNow) 44 = .ok (.iload 4, 2) := by decide +kernel
theorem eX10_lackNow_46 : decode (mB MX10_lackNow) 46 = .ok (.ifCond .le 10, 3) := by decide +kernel
theorem eX10_lackNow_49 : decode (mB MX10_lackNow) 49 = .ok (.iload 4, 2) := by decide +kernel
theorem eX10_lackNow_51 : decode (mB MX10_lackNow) 51 = .ok (.iload_n 2, 1) := by decide +kernel
theorem eX10_lackNow_52 : decode (mB MX10_lackNow) 52 = .ok (.imul, 1) := by decide +kernel
theorem eX10_lackNow_53 : decode (mB MX10_lackNow) 53 = .ok (.goto 4, 3) := by decide +kernel
theorem eX10_lackNow_56 : decode (mB MX10_lackNow) 56 = .ok (.iconst 0, 1) := by decide +kernel
theorem eX10_lackNow_57 : decode (mB MX10_lackNow) 57 = .ok (.iadd, 1) := by decide +kernel
theorem eX10_lackNow_58 : decode (mB MX10_lackNow) 58 = .ok (.istore_n 1, 1) := by decide +kernel
theorem eX10_lackNow_59 : decode (mB MX10_lackNow) 59 = .ok (.aload_n 0, 1) := by decide +kernel
theorem eX10_lackNow_60 : decode (mB MX10_lackNow) 60 = .ok (.getfield 61, 3) := by decide +kernel
theorem eX10_lackNow_63 : decode (mB MX10_lackNow) 63 = .ok (.iload_n 3, 1) := by decide +kernel
theorem eX10_lackNow_64 : decode (mB MX10_lackNow) 64 = .ok (.iload_n 2, 1) := by decide +kernel
theorem eX10_lackNow_65 : decode (mB MX10_lackNow) 65 = .ok (.iastore, 1) := by decide +kernel
theorem eX10_lackNow_66 : decode (mB MX10_lackNow) 66 = .ok (.iload_n 2, 1) := by decide +kernel
theorem eX10_lackNow_67 : decode (mB MX10_lackNow) 67 = .ok (.iconst 3, 1) := by decide +kernel
theorem eX10_lackNow_68 : decode (mB MX10_lackNow) 68 = .ok (.imul, 1) := by decide +kernel
theorem eX10_lackNow_69 : decode (mB MX10_lackNow) 69 = .ok (.istore_n 2, 1) := by decide +kernel
theorem eX10_lackNow_70 : decode (mB MX10_lackNow) 70 = .ok (.iinc 3 1, 3) := by decide +kernel
theorem eX10_lackNow_73 : decode (mB MX10_lackNow) 73 = .ok (.goto (-67), 3) := by decide +kernel
theorem eX10_lackNow_76 : decode (mB MX10_lackNow) 76 = .ok (.iload_n 1, 1) := by decide +kernel
theorem eX10_lackNow_77 : decode (mB MX10_lackNow) 77 = .ok (.ireturn, 1) := by decide +kernel
theorem eX10_lackOf_0 : decode (mB MX10_lackOf) 0 = .ok (.iload_n 1, 1) := by decide +kernel
theorem eX10_lackOf_1 : decode (mB MX10_lackOf) 1 = .ok (.aload_n 0, 1) := by decide +kernel
theorem eX10_lackOf_2 : decode (mB MX10_lackOf) 2 = .ok (.getfield 61, 3) := by decide +kernel
theorem eX10_lackOf_5 : decode (mB MX10_lackOf) 5 = .ok (.iload_n 2, 1) := by decide +kernel
theorem eX10_lackOf_6 : decode (mB MX10_lackOf) 6 = .ok (.iaload, 1) := by decide +kernel
theorem eX10_lackOf_7 : decode (mB MX10_lackOf) 7 = .ok (.idiv, 1) := by decide +kernel
theorem eX10_lackOf_8 : decode (mB MX10_lackOf) 8 = .ok (.iconst 3, 1) := by decide +kernel
theorem eX10_lackOf_9 : decode (mB MX10_lackOf) 9 = .ok (.irem, 1) := by decide +kernel
theorem eX10_lackOf_10 : decode (mB MX10_lackOf) 10 = .ok (.ireturn, 1) := by decide +kernel
theorem eX10_lackWith_0 : decode (mB MX10_lackWith) 0 = .ok (.iload_n 1, 1) := by decide +kernel
theorem eX10_lackWith_1 : decode (mB MX10_lackWith) 1 = .ok (.istore_n 3, 1) := by decide +kernel
theorem eX10_lackWith_2 : decode (mB MX10_lackWith) 2 = .ok (.iconst 0, 1) := by decide +kernel
theorem eX10_lackWith_3 : decode (mB MX10_lackWith) 3 = .ok (.istore 4, 2) := by decide +kernel
theorem eX10_lackWith_5 : decode (mB MX10_lackWith) 5 = .ok (.iload 4, 2) := by decide +kernel
theorem eX10_lackWith_7 : decode (mB MX10_lackWith) 7 = .ok (.aload_n 0, 1) := by decide +kernel
theorem eX10_lackWith_8 : decode (mB MX10_lackWith) 8 = .ok (.getfield 13, 3) := by decide +kernel
theorem eX10_lackWith_11 : decode (mB MX10_lackWith) 11 = .ok (.iconst 2, 1) := by decide +kernel
theorem eX10_lackWith_12 : decode (mB MX10_lackWith) 12 = .ok (.iaload, 1) := by decide +kernel
theorem eX10_lackWith_13 : decode (mB MX10_lackWith) 13 = .ok (.if_icmp .ge 52, 3) := by decide +kernel
theorem eX10_lackWith_16 : decode (mB MX10_lackWith) 16 = .ok (.aload_n 0, 1) := by decide +kernel
theorem eX10_lackWith_17 : decode (mB MX10_lackWith) 17 = .ok (.iload_n 1, 1) := by decide +kernel
theorem eX10_lackWith_18 : decode (mB MX10_lackWith) 18 = .ok (.iload 4, 2) := by decide +kernel
theorem eX10_lackWith_20 : decode (mB MX10_lackWith) 20 = .ok (.invokevirtual 391, 3) := by decide +kernel
theorem eX10_lackWith_23 : decode (mB MX10_lackWith) 23 = .ok (.istore 5, 2) := by decide +kernel
theorem eX10_lackWith_25 : decode (mB MX10_lackWith) 25 = .ok (.aload_n 0, 1) := by decide +kernel
theorem eX10_lackWith_26 : decode (mB MX10_lackWith) 26 = .ok (.iload_n 2, 1) := by decide +kernel
theorem eX10_lackWith_27 : decode (mB MX10_lackWith) 27 = .ok (.iload 4, 2) := by decide +kernel
theorem eX10_lackWith_29 : decode (mB MX10_lackWith) 29 = .ok (.invokevirtual 254, 3) := by decide +kernel
theorem eX10_lackWith_32 : decode (mB MX10_lackWith) 32 = .ok (.istore 6, 2) := by decide +kernel
theorem eX10_lackWith_34 : decode (mB MX10_lackWith) 34 = .ok (.iload_n 3, 1) := by decide +kernel
theorem eX10_lackWith_35 : decode (mB MX10_lackWith) 35 = .ok (.iload 5, 2) := by decide +kernel
theorem eX10_lackWith_37 : decode (mB MX10_lackWith) 37 = .ok (.iload 6, 2) := by decide +kernel
theorem eX10_lackWith_39 : decode (mB MX10_lackWith) 39 = .ok (.if_icmp .ge 8, 3) := by decide +kernel
theorem eX10_lackWith_42 : decode (mB MX10_lackWith) 42 = .ok (.iload 5, 2) := by decide +kernel
theorem eX10_lackWith_44 : decode (mB MX10_lackWith) 44 = .ok (.goto 5, 3) := by decide +kernel
theorem eX10_lackWith_47 : decode (mB MX10_lackWith) 47 = .ok (.iload 6, 2) := by decide +kernel
theorem eX10_lackWith_49 : decode (mB MX10_lackWith) 49 = .ok (.aload_n 0, 1) := by decide +kernel
theorem eX10_lackWith_50 : decode (mB MX10_lackWith) 50 = .ok (.getfield 61, 3) := by decide +kernel
theorem eX10_lackWith_53 : decode (mB MX10_lackWith) 53 = .ok (.iload 4, 2) := by decide +kernel
theorem eX10_lackWith_55 : decode (mB MX10_lackWith) 55 = .ok (.iaload, 1) := by decide +kernel
theorem eX10_lackWith_56 : decode (mB MX10_lackWith) 56 = .ok (.imul, 1) := by decide +kernel
theorem eX10_lackWith_57 : decode (mB MX10_lackWith) 57 = .ok (.isub, 1) := by decide +kernel
theorem eX10_lackWith_58 : decode (mB MX10_lackWith) 58 = .ok (.istore_n 3, 1) := by decide +kernel
theorem eX10_lackWith_59 : decode (mB MX10_lackWith) 59 = .ok (.iinc 4 1, 3) := by decide +kernel
theorem eX10_lackWith_62 : decode (mB MX10_lackWith) 62 = .ok (.goto (-57), 3) := by decide +kernel
theorem eX10_lackWith_65 : decode (mB MX10_lackWith) 65 = .ok (.iload_n 3, 1) := by decide +kernel
theorem eX10_lackWith_66 : decode (mB MX10_lackWith) 66 = .ok (.ireturn, 1) := by decide +kernel
theorem eX10_firstLack_0 : decode (mB MX10_firstLack) 0 = .ok (.iconst 0, 1) := by decide +kernel
theorem eX10_firstLack_1 : decode (mB MX10_firstLack) 1 = .ok (.istore_n 2, 1) := by decide +kernel
theorem eX10_firstLack_2 : decode (mB MX10_firstLack) 2 = .ok (.aload_n 0, 1) := by decide +kernel
theorem eX10_firstLack_3 : decode (mB MX10_firstLack) 3 = .ok (.iload_n 1, 1) := by decide +kernel
theorem eX10_firstLack_4 : decode (mB MX10_firstLack) 4 = .ok (.iload_n 2, 1) := by decide +kernel
theorem eX10_firstLack_5 : decode (mB MX10_firstLack) 5 = .ok (.invokevirtual 391, 3) := by decide +kernel
theorem eX10_firstLack_8 : decode (mB MX10_firstLack) 8 = .ok (.ifCond .ne 9, 3) := by decide +kernel
theorem eX10_firstLack_11 : decode (mB MX10_firstLack) 11 = .ok (.iinc 2 1, 3) := by decide +kernel
theorem eX10_firstLack_14 : decode (mB MX10_firstLack) 14 = .ok (.goto (-12), 3) := by decide +kernel
theorem eX10_firstLack_17 : decode (mB MX10_firstLack) 17 = .ok (.iload_n 2, 1) := by decide +kernel
theorem eX10_firstLack_18 : decode (mB MX10_firstLack) 18 = .ok (.ireturn, 1) := by decide +kernel
theorem eX10_priceOf_0 : decode (mB MX10_priceOf) 0 = .ok (.iload_n 2, 1) := by decide +kernel
theorem eX10_priceOf_1 : decode (mB MX10_priceOf) 1 = .ok (.ifCond .ne 12, 3) := by decide +kernel
theorem eX10_priceOf_4 : decode (mB MX10_priceOf) 4 = .ok (.aload_n 0, 1) := by decide +kernel
theorem eX10_priceOf_5 : decode (mB MX10_priceOf) 5 = .ok (.getfield 45, 3) := by decide +kernel
theorem eX10_priceOf_8 : decode (mB MX10_priceOf) 8 = .ok (.iload_n 1, 1) := by decide +kernel
theorem eX10_priceOf_9 : decode (mB MX10_priceOf) 9 = .ok (.iaload, 1) := by decide +kernel
theorem eX10_priceOf_10 : decode (mB MX10_priceOf) 10 = .ok (.goto 4, 3) := by decide +kernel
theorem eX10_priceOf_13 : decode (mB MX10_priceOf) 13 = .ok (.iconst 1, 1) := by decide +kernel
theorem eX10_priceOf_14 : decode (mB MX10_priceOf) 14 = .ok (.ireturn, 1) := by decide +kernel
theorem eX10_leastFor_0 : decode (mB MX10_leastFor) 0 = .ok (.aload_n 0, 1) := by decide +kernel
theorem eX10_leastFor_1 : decode (mB MX10_leastFor) 1 = .ok (.getfield 55, 3) := by decide +kernel
theorem eX10_leastFor_4 : decode (mB MX10_leastFor) 4 = .ok (.iload_n 1, 1) := by decide +kernel
theorem eX10_leastFor_5 : decode (mB MX10_leastFor) 5 = .ok (.iaload, 1) := by decide +kernel
theorem eX10_leastFor_6 : decode (mB MX10_leastFor) 6 = .ok (.iconst (-1), 1) := by decide +kernel
theorem eX10_leastFor_7 : decode (mB MX10_leastFor) 7 = .ok (.if_icmp .eq 10, 3) := by decide +kernel
theorem eX10_leastFor_10 : decode (mB MX10_leastFor) 10 = .ok (.aload_n 0, 1) := by decide +kernel
theorem eX10_leastFor_11 : decode (mB MX10_leastFor) 11 = .ok (.getfield 55, 3) := by decide +kernel
theorem eX10_leastFor_14 : decode (mB MX10_leastFor) 14 = .ok (.iload_n 1, 1) := by decide +kernel
theorem eX10_leastFor_15 : decode (mB MX10_leastFor) 15 = .ok (.iaload, 1) := by decide +kernel
theorem eX10_leastFor_16 : decode (mB MX10_leastFor) 16 = .ok (.ireturn, 1) := by decide +kernel
theorem eX10_leastFor_17 : decode (mB MX10_leastFor) 17 = .ok (.iload_n 1, 1) := by decide +kernel
theorem eX10_leastFor_18 : decode (mB MX10_leastFor) 18 = .ok (.ifCond .ne 7, 3) := by decide +kernel
theorem eX10_leastFor_21 : decode (mB MX10_leastFor) 21 = .ok (.iconst 0, 1) := by decide +kernel
theorem eX10_leastFor_22 : decode (mB MX10_leastFor) 22 = .ok (.goto 6, 3) := by decide +kernel
theorem eX10_leastFor_25 : decode (mB MX10_leastFor) 25 = .ok (.ldc_w 394, 3) := by decide +kernel
theorem eX10_leastFor_28 : decode (mB MX10_leastFor) 28 = .ok (.istore_n 3, 1) := by decide +kernel
theorem eX10_leastFor_29 : decode (mB MX10_leastFor) 29 = .ok (.iconst 0, 1) := by decide +kernel
theorem eX10_leastFor_30 : decode (mB MX10_leastFor) 30 = .ok (.istore 4, 2) := by decide +kernel
theorem eX10_leastFor_32 : decode (mB MX10_leastFor) 32 = .ok (.iload 4, 2) := by decide +kernel
theorem eX10_leastFor_34 : decode (mB MX10_leastFor) 34 = .ok (.aload_n 0, 1) := by decide +kernel
theorem eX10_leastFor_35 : decode (mB MX10_leastFor) 35 = .ok (.getfield 216, 3) := by decide +kernel
theorem eX10_leastFor_38 : decode (mB MX10_leastFor) 38 = .ok (.if_icmp .ge 77, 3) := by decide +kernel
theorem eX10_leastFor_41 : decode (mB MX10_leastFor) 41 = .ok (.iload_n 1, 1) := by decide +kernel
theorem eX10_leastFor_42 : decode (mB MX10_leastFor) 42 = .ok (.ifCond .le 73, 3) := by decide +kernel
theorem eX10_leastFor_45 : decode (mB MX10_leastFor) 45 = .ok (.aload_n 0, 1) := by decide +kernel
theorem eX10_leastFor_46 : decode (mB MX10_leastFor) 46 = .ok (.iload 4, 2) := by decide +kernel
theorem eX10_leastFor_48 : decode (mB MX10_leastFor) 48 = .ok (.aload_n 0, 1) := by decide +kernel
theorem eX10_leastFor_49 : decode (mB MX10_leastFor) 49 = .ok (.iload_n 1, 1) := by decide +kernel
theorem eX10_leastFor_50 : decode (mB MX10_leastFor) 50 = .ok (.invokevirtual 395, 3) := by decide +kernel
theorem eX10_leastFor_53 : decode (mB MX10_leastFor) 53 = .ok (.invokevirtual 254, 3) := by decide +kernel
theorem eX10_leastFor_56 : decode (mB MX10_leastFor) 56 = .ok (.ifCond .ne 6, 3) := by decide +kernel
theorem eX10_leastFor_59 : decode (mB MX10_leastFor) 59 = .ok (.goto 50, 3) := by decide +kernel
theorem eX10_leastFor_62 : decode (mB MX10_leastFor) 62 = .ok (.aload_n 0, 1) := by decide +kernel
theorem eX10_leastFor_63 : decode (mB MX10_leastFor) 63 = .ok (.aload_n 0, 1) := by decide +kernel
theorem eX10_leastFor_64 : decode (mB MX10_leastFor) 64 = .ok (.iload_n 1, 1) := by decide +kernel
theorem eX10_leastFor_65 : decode (mB MX10_leastFor) 65 = .ok (.iload 4, 2) := by decide +kernel
theorem eX10_leastFor_67 : decode (mB MX10_leastFor) 67 = .ok (.invokevirtual 398, 3) := by decide +kernel
theorem eX10_leastFor_70 : decode (mB MX10_leastFor) 70 = .ok (.iload_n 2, 1) := by decide +kernel
theorem eX10_leastFor_71 : decode (mB MX10_leastFor) 71 = .ok (.invokevirtual 401, 3) := by decide +kernel
theorem eX10_leastFor_74 : decode (mB MX10_leastFor) 74 = .ok (.istore 5, 2) := by decide +kernel
theorem eX10_leastFor_76 : decode (mB MX10_leastFor) 76 = .ok (.iload 5, 2) := by decide +kernel
theorem eX10_leastFor_78 : decode (mB MX10_leastFor) 78 = .ok (.ldc_w 394, 3) := by decide +kernel
theorem eX10_leastFor_81 : decode (mB MX10_leastFor) 81 = .ok (.if_icmp .ge 28, 3) := by decide +kernel
theorem eX10_leastFor_84 : decode (mB MX10_leastFor) 84 = .ok (.iload 5, 2) := by decide +kernel
theorem eX10_leastFor_86 : decode (mB MX10_leastFor) 86 = .ok (.aload_n 0, 1) := by decide +kernel
theorem eX10_leastFor_87 : decode (mB MX10_leastFor) 87 = .ok (.iload 4, 2) := by decide +kernel
theorem eX10_leastFor_89 : decode (mB MX10_leastFor) 89 = .ok (.iload_n 2, 1) := by decide +kernel
theorem eX10_leastFor_90 : decode (mB MX10_leastFor) 90 = .ok (.invokevirtual 404, 3) := by decide +kernel
theorem eX10_leastFor_93 : decode (mB MX10_leastFor) 93 = .ok (.iadd, 1) := by decide +kernel
theorem eX10_leastFor_94 : decode (mB MX10_leastFor) 94 = .ok (.iload_n 3, 1) := by decide +kernel
theorem eX10_leastFor_95 : decode (mB MX10_leastFor) 95 = .ok (.if_icmp .ge 14, 3) := by decide +kernel
theorem eX10_leastFor_98 : decode (mB MX10_leastFor) 98 = .ok (.iload 5, 2) := by decide +kernel
theorem eX10_leastFor_100 : decode (mB MX10_leastFor) 100 = .ok (.aload_n 0, 1) := by decide +kernel
theorem eX10_leastFor_101 : decode (mB MX10_leastFor) 101 = .ok (.iload 4, 2) := by decide +kernel
theorem eX10_leastFor_103 : decode (mB MX10_leastFor) 103 = .ok (.iload_n 2, 1) := by decide +kernel
theorem eX10_leastFor_104 : decode (mB MX10_leastFor) 104 = .ok (.invokevirtual 404, 3) := by decide +kernel
theorem eX10_leastFor_107 : decode (mB MX10_leastFor) 107 = .ok (.iadd, 1) := by decide +kernel
theorem eX10_leastFor_108 : decode (mB MX10_leastFor) 108 = .ok (.istore_n 3, 1) := by decide +kernel
theorem eX10_leastFor_109 : decode (mB MX10_leastFor) 109 = .ok (.iinc 4 1, 3) := by decide +kernel
theorem eX10_leastFor_112 : decode (mB MX10_leastFor) 112 = .ok (.goto (-80), 3) := by decide +kernel
theorem eX10_leastFor_115 : decode (mB MX10_leastFor) 115 = .ok (.aload_n 0, 1) := by decide +kernel
theorem eX10_leastFor_116 : decode (mB MX10_leastFor) 116 = .ok (.getfield 55, 3) := by decide +kernel
theorem eX10_leastFor_119 : decode (mB MX10_leastFor) 119 = .ok (.iload_n 1, 1) := by decide +kernel
theorem eX10_leastFor_120 : decode (mB MX10_leastFor) 120 = .ok (.iload_n 3, 1) := by decide +kernel
theorem eX10_leastFor_121 : decode (mB MX10_leastFor) 121 = .ok (.iastore, 1) := by decide +kernel
theorem eX10_leastFor_122 : decode (mB MX10_leastFor) 122 = .ok (.iload_n 3, 1) := by decide +kernel
theorem eX10_leastFor_123 : decode (mB MX10_leastFor) 123 = .ok (.ireturn, 1) := by decide +kernel
theorem eX10_laysYet_0 : decode (mB MX10_laysYet) 0 = .ok (.iconst 0, 1) := by decide +kernel
theorem eX10_laysYet_1 : decode (mB MX10_laysYet) 1 = .ok (.istore_n 2, 1) := by decide +kernel
theorem eX10_laysYet_2 : decode (mB MX10_laysYet) 2 = .ok (.iload_n 2, 1) := by decide +kernel
theorem eX10_laysYet_3 : decode (mB MX10_laysYet) 3 = .ok (.ldc 54, 2) := by decide +kernel
theorem eX10_laysYet_5 : decode (mB MX10_laysYet) 5 = .ok (.if_icmp .ge 16, 3) := by decide +kernel
theorem eX10_laysYet_8 : decode (mB MX10_laysYet) 8 = .ok (.aload_n 0, 1) := by decide +kernel
theorem eX10_laysYet_9 : decode (mB MX10_laysYet) 9 = .ok (.getfield 55, 3) := by decide +kernel
theorem eX10_laysYet_12 : decode (mB MX10_laysYet) 12 = .ok (.iload_n 2, 1) := by decide +kernel
theorem eX10_laysYet_13 : decode (mB MX10_laysYet) 13 = .ok (.iconst (-1), 1) := by decide +kernel
theorem eX10_laysYet_14 : decode (mB MX10_laysYet) 14 = .ok (.iastore, 1) := by decide +kernel
theorem eX10_laysYet_15 : decode (mB MX10_laysYet) 15 = .ok (.iinc 2 1, 3) := by decide +kernel
theorem eX10_laysYet_18 : decode (mB MX10_laysYet) 18 = .ok (.goto (-16), 3) := by decide +kernel
theorem eX10_laysYet_21 : decode (mB MX10_laysYet) 21 = .ok (.iconst 0, 1) := by decide +kernel
theorem eX10_laysYet_22 : decode (mB MX10_laysYet) 22 = .ok (.istore_n 2, 1) := by decide +kernel
theorem eX10_laysYet_23 : decode (mB MX10_laysYet) 23 = .ok (.iload_n 2, 1) := by decide +kernel
theorem eX10_laysYet_24 : decode (mB MX10_laysYet) 24 = .ok (.bipush 64, 2) := by decide +kernel
theorem eX10_laysYet_26 : decode (mB MX10_laysYet) 26 = .ok (.if_icmp .ge 16, 3) := by decide +kernel
theorem eX10_laysYet_29 : decode (mB MX10_laysYet) 29 = .ok (.aload_n 0, 1) := by decide +kernel
theorem eX10_laysYet_30 : decode (mB MX10_laysYet) 30 = .ok (.getfield 58, 3) := by decide +kernel
theorem eX10_laysYet_33 : decode (mB MX10_laysYet) 33 = .ok (.iload_n 2, 1) := by decide +kernel
theorem eX10_laysYet_34 : decode (mB MX10_laysYet) 34 = .ok (.iconst 0, 1) := by decide +kernel
theorem eX10_laysYet_35 : decode (mB MX10_laysYet) 35 = .ok (.iastore, 1) := by decide +kernel
theorem eX10_laysYet_36 : decode (mB MX10_laysYet) 36 = .ok (.iinc 2 1, 3) := by decide +kernel
theorem eX10_laysYet_39 : decode (mB MX10_laysYet) 39 = .ok (.goto (-16), 3) := by decide +kernel
theorem eX10_laysYet_42 : decode (mB MX10_laysYet) 42 = .ok (.aload_n 0, 1) := by decide +kernel
theorem eX10_laysYet_43 : decode (mB MX10_laysYet) 43 = .ok (.invokevirtual 407, 3) := by decide +kernel
theorem eX10_laysYet_46 : decode (mB MX10_laysYet) 46 = .ok (.istore_n 2, 1) := by decide +kernel
theorem eX10_laysYet_47 : decode (mB MX10_laysYet) 47 = .ok (.aload_n 0, 1) := by decide +kernel
theorem eX10_laysYet_48 : decode (mB MX10_laysYet) 48 = .ok (.iload_n 2, 1) := by decide +kernel
theorem eX10_laysYet_49 : decode (mB MX10_laysYet) 49 = .ok (.iload_n 1, 1) := by decide +kernel
theorem eX10_laysYet_50 : decode (mB MX10_laysYet) 50 = .ok (.invokevirtual 401, 3) := by decide +kernel
theorem eX10_laysYet_53 : decode (mB MX10_laysYet) 53 = .ok (.ldc_w 394, 3) := by decide +kernel
theorem eX10_laysYet_56 : decode (mB MX10_laysYet) 56 = .ok (.if_icmp .ne 5, 3) := by decide +kernel
theorem eX10_laysYet_59 : decode (mB MX10_laysYet) 59 = .ok (.iconst 0, 1) := by decide +kernel
theorem eX10_laysYet_60 : decode (mB MX10_laysYet) 60 = .ok (.ireturn, 1) := by decide +kernel
theorem eX10_laysYet_61 : decode (mB MX10_laysYet) 61 = .ok (.iload_n 2, 1) := by decide +kernel
theorem eX10_laysYet_62 : decode (mB MX10_laysYet) 62 = .ok (.ifCond .le 71, 3) := by decide +kernel
theorem eX10_laysYet_65 : decode (mB MX10_laysYet) 65 = .ok (.iconst 0, 1) := by decide +kernel
theorem eX10_laysYet_66 : decode (mB MX10_laysYet) 66 = .ok (.istore_n 3, 1) := by decide +kernel
theorem eX10_laysYet_67 : decode (mB MX10_laysYet) 67 = .ok (.aload_n 0, 1) := by decide +kernel
theorem eX10_laysYet_68 : decode (mB MX10_laysYet) 68 = .ok (.iload_n 3, 1) := by decide +kernel
theorem eX10_laysYet_69 : decode (mB MX10_laysYet) 69 = .ok (.aload_n 0, 1) := by decide +kernel
theorem eX10_laysYet_70 : decode (mB MX10_laysYet) 70 = .ok (.iload_n 2, 1) := by decide +kernel
theorem eX10_laysYet_71 : decode (mB MX10_laysYet) 71 = .ok (.invokevirtual 395, 3) := by decide +kernel
theorem eX10_laysYet_74 : decode (mB MX10_laysYet) 74 = .ok (.invokevirtual 254, 3) := by decide +kernel
theorem eX10_laysYet_77 : decode (mB MX10_laysYet) 77 = .ok (.ifCond .eq 30, 3) := by decide +kernel
theorem eX10_laysYet_80 : decode (mB MX10_laysYet) 80 = .ok (.aload_n 0, 1) := by decide +kernel
theorem eX10_laysYet_81 : decode (mB MX10_laysYet) 81 = .ok (.aload_n 0, 1) := by decide +kernel
theorem eX10_laysYet_82 : decode (mB MX10_laysYet) 82 = .ok (.iload_n 2, 1) := by decide +kernel
theorem eX10_laysYet_83 : decode (mB MX10_laysYet) 83 = .ok (.iload_n 3, 1) := by decide +kernel
theorem eX10_laysYet_84 : decode (mB MX10_laysYet) 84 = .ok (.invokevirtual 398, 3) := by decide +kernel
theorem eX10_laysYet_87 : decode (mB MX10_laysYet) 87 = .ok (.iload_n 1, 1) := by decide +kernel
theorem eX10_laysYet_88 : decode (mB MX10_laysYet) 88 = .ok (.invokevirtual 401, 3) := by decide +kernel
theorem eX10_laysYet_91 : decode (mB MX10_laysYet) 91 = .ok (.aload_n 0, 1) := by decide +kernel
theorem eX10_laysYet_92 : decode (mB MX10_laysYet) 92 = .ok (.iload_n 3, 1) := by decide +kernel
theorem eX10_laysYet_93 : decode (mB MX10_laysYet) 93 = .ok (.iload_n 1, 1) := by decide +kernel
theorem eX10_laysYet_94 : decode (mB MX10_laysYet) 94 = .ok (.invokevirtual 404, 3) := by decide +kernel
theorem eX10_laysYet_97 : decode (mB MX10_laysYet) 97 = .ok (.iadd, 1) := by decide +kernel
theorem eX10_laysYet_98 : decode (mB MX10_laysYet) 98 = .ok (.aload_n 0, 1) := by decide +kernel
theorem eX10_laysYet_99 : decode (mB MX10_laysYet) 99 = .ok (.getfield 55, 3) := by decide +kernel
theorem eX10_laysYet_102 : decode (mB MX10_laysYet) 102 = .ok (.iload_n 2, 1) := by decide +kernel
theorem eX10_laysYet_103 : decode (mB MX10_laysYet) 103 = .ok (.iaload, 1) := by decide +kernel
theorem eX10_laysYet_104 : decode (mB MX10_laysYet) 104 = .ok (.if_icmp .eq 9, 3) := by decide +kernel
theorem eX10_laysYet_107 : decode (mB MX10_laysYet) 107 = .ok (.iinc 3 1, 3) := by decide +kernel
theorem eX10_laysYet_110 : decode (mB MX10_laysYet) 110 = .ok (.goto (-43), 3) := by decide +kernel
theorem eX10_laysYet_113 : decode (mB MX10_laysYet) 113 = .ok (.aload_n 0, 1) := by decide +kernel
theorem eX10_laysYet_114 : decode (mB MX10_laysYet) 114 = .ok (.getfield 58, 3) := by decide +kernel
theorem eX10_laysYet_117 : decode (mB MX10_laysYet) 117 = .ok (.iload_n 3, 1) := by decide +kernel
theorem eX10_laysYet_118 : decode (mB MX10_laysYet) 118 = .ok (.dup2, 1) := by decide +kernel
theorem eX10_laysYet_119 : decode (mB MX10_laysYet) 119 = .ok (.iaload, 1) := by decide +kernel
theorem eX10_laysYet_120 : decode (mB MX10_laysYet) 120 = .ok (.iconst 1, 1) := by decide +kernel
theorem eX10_laysYet_121 : decode (mB MX10_laysYet) 121 = .ok (.iadd, 1) := by decide +kernel
theorem eX10_laysYet_122 : decode (mB MX10_laysYet) 122 = .ok (.iastore, 1) := by decide +kernel
theorem eX10_laysYet_123 : decode (mB MX10_laysYet) 123 = .ok (.aload_n 0, 1) := by decide +kernel
theorem eX10_laysYet_124 : decode (mB MX10_laysYet) 124 = .ok (.iload_n 2, 1) := by decide +kernel
theorem eX10_laysYet_125 : decode (mB MX10_laysYet) 125 = .ok (.iload_n 3, 1) := by decide +kernel
theorem eX10_laysYet_126 : decode (mB MX10_laysYet) 126 = .ok (.invokevirtual 398, 3) := by decide +kernel
theorem eX10_laysYet_129 : decode (mB MX10_laysYet) 129 = .ok (.istore_n 2, 1) := by decide +kernel
theorem eX10_laysYet_130 : decode (mB MX10_laysYet) 130 = .ok (.goto (-69), 3) := by decide +kernel
theorem eX10_laysYet_133 : decode (mB MX10_laysYet) 133 = .ok (.iconst 1, 1) := by decide +kernel
theorem eX10_laysYet_134 : decode (mB MX10_laysYet) 134 = .ok (.ireturn, 1) := by decide +kernel
theorem eX10_isAim_0 : decode (mB MX10_isAim) 0 = .ok (.iload_n 0, 1) := by decide +kernel
theorem eX10_isAim_1 : decode (mB MX10_isAim) 1 = .ok (.i2l, 1) := by decide +kernel
theorem eX10_isAim_2 : decode (mB MX10_isAim) 2 = .ok (.lconst 0, 1) := by decide +kernel
theorem eX10_isAim_3 : decode (mB MX10_isAim) 3 = .ok (.lconst 1, 1) := by decide +kernel
theorem eX10_isAim_4 : decode (mB MX10_isAim) 4 = .ok (.invokestatic 149, 3) := by decide +kernel
theorem eX10_isAim_7 : decode (mB MX10_isAim) 7 = .ok (.ireturn, 1) := by decide +kernel
theorem eX10_isCover_0 : decode (mB MX10_isCover) 0 = .ok (.aload_n 0, 1) := by decide +kernel
theorem eX10_isCover_1 : decode (mB MX10_isCover) 1 = .ok (.iconst 0, 1) := by decide +kernel
theorem eX10_isCover_2 : decode (mB MX10_isCover) 2 = .ok (.putfield 1, 3) := by decide +kernel
theorem eX10_isCover_5 : decode (mB MX10_isCover) 5 = .ok (.aload_n 0, 1) := by decide +kernel
theorem eX10_isCover_6 : decode (mB MX10_isCover) 6 = .ok (.invokevirtual 407, 3) := by decide +kernel
theorem eX10_isCover_9 : decode (mB MX10_isCover) 9 = .ok (.ifCond .ne 7, 3) := by decide +kernel
theorem eX10_isCover_12 : decode (mB MX10_isCover) 12 = .ok (.iconst 1, 1) := by decide +kernel
theorem eX10_isCover_13 : decode (mB MX10_isCover) 13 = .ok (.goto 4, 3) := by decide +kernel
theorem eX10_isCover_16 : decode (mB MX10_isCover) 16 = .ok (.iconst 0, 1) := by decide +kernel
theorem eX10_isCover_17 : decode (mB MX10_isCover) 17 = .ok (.ireturn, 1) := by decide +kernel
theorem eX10_cost_0 : decode (mB MX10_cost) 0 = .ok (.aload_n 0, 1) := by decide +kernel
theorem eX10_cost_1 : decode (mB MX10_cost) 1 = .ok (.iconst 0, 1) := by decide +kernel
theorem eX10_cost_2 : decode (mB MX10_cost) 2 = .ok (.putfield 1, 3) := by decide +kernel
theorem eX10_cost_5 : decode (mB MX10_cost) 5 = .ok (.iconst 0, 1) := by decide +kernel
theorem eX10_cost_6 : decode (mB MX10_cost) 6 = .ok (.istore_n 1, 1) := by decide +kernel
theorem eX10_cost_7 : decode (mB MX10_cost) 7 = .ok (.iconst 0, 1) := by decide +kernel
theorem eX10_cost_8 : decode (mB MX10_cost) 8 = .ok (.istore_n 2, 1) := by decide +kernel
theorem eX10_cost_9 : decode (mB MX10_cost) 9 = .ok (.iload_n 2, 1) := by decide +kernel
theorem eX10_cost_10 : decode (mB MX10_cost) 10 = .ok (.aload_n 0, 1) := by decide +kernel
theorem eX10_cost_11 : decode (mB MX10_cost) 11 = .ok (.getfield 216, 3) := by decide +kernel
theorem eX10_cost_14 : decode (mB MX10_cost) 14 = .ok (.if_icmp .ge 28, 3) := by decide +kernel
theorem eX10_cost_17 : decode (mB MX10_cost) 17 = .ok (.iload_n 1, 1) := by decide +kernel
theorem eX10_cost_18 : decode (mB MX10_cost) 18 = .ok (.aload_n 0, 1) := by decide +kernel
theorem eX10_cost_19 : decode (mB MX10_cost) 19 = .ok (.getfield 13, 3) := by decide +kernel
theorem eX10_cost_22 : decode (mB MX10_cost) 22 = .ok (.bipush 49, 2) := by decide +kernel
theorem eX10_cost_24 : decode (mB MX10_cost) 24 = .ok (.iload_n 2, 1) := by decide +kernel
theorem eX10_cost_25 : decode (mB MX10_cost) 25 = .ok (.iadd, 1) := by decide +kernel
theorem eX10_cost_26 : decode (mB MX10_cost) 26 = .ok (.iaload, 1) := by decide +kernel
theorem eX10_cost_27 : decode (mB MX10_cost) 27 = .ok (.aload_n 0, 1) := by decide +kernel
theorem eX10_cost_28 : decode (mB MX10_cost) 28 = .ok (.getfield 45, 3) := by decide +kernel
theorem eX10_cost_31 : decode (mB MX10_cost) 31 = .ok (.iload_n 2, 1) := by decide +kernel
theorem eX10_cost_32 : decode (mB MX10_cost) 32 = .ok (.iaload, 1) := by decide +kernel
theorem eX10_cost_33 : decode (mB MX10_cost) 33 = .ok (.imul, 1) := by decide +kernel
theorem eX10_cost_34 : decode (mB MX10_cost) 34 = .ok (.iadd, 1) := by decide +kernel
theorem eX10_cost_35 : decode (mB MX10_cost) 35 = .ok (.istore_n 1, 1) := by decide +kernel
theorem eX10_cost_36 : decode (mB MX10_cost) 36 = .ok (.iinc 2 1, 3) := by decide +kernel
theorem eX10_cost_39 : decode (mB MX10_cost) 39 = .ok (.goto (-30), 3) := by decide +kernel
theorem eX10_cost_42 : decode (mB MX10_cost) 42 = .ok (.iload_n 1, 1) := by decide +kernel
theorem eX10_cost_43 : decode (mB MX10_cost) 43 = .ok (.ireturn, 1) := by decide +kernel
theorem eX10_yet_0 : decode (mB MX10_yet) 0 = .ok (.aload_n 0, 1) := by decide +kernel
theorem eX10_yet_1 : decode (mB MX10_yet) 1 = .ok (.iconst 0, 1) := by decide +kernel
theorem eX10_yet_2 : decode (mB MX10_yet) 2 = .ok (.putfield 1, 3) := by decide +kernel
theorem eX10_yet_5 : decode (mB MX10_yet) 5 = .ok (.iload_n 1, 1) := by decide +kernel
theorem eX10_yet_6 : decode (mB MX10_yet) 6 = .ok (.invokestatic 410, 3) := by decide +kernel
theorem eX10_yet_9 : decode (mB MX10_yet) 9 = .ok (.ifCond .eq 13, 3) := by decide +kernel
theorem eX10_yet_12 : decode (mB MX10_yet) 12 = .ok (.iload_n 2, 1) := by decide +kernel
theorem eX10_yet_13 : decode (mB MX10_yet) 13 = .ok (.i2l, 1) := by decide +kernel
theorem eX10_yet_14 : decode (mB MX10_yet) 14 = .ok (.lconst 0, 1) := by decide +kernel
theorem eX10_yet_15 : decode (mB MX10_yet) 15 = .ok (.lconst 1, 1) := by decide +kernel
theorem eX10_yet_16 : decode (mB MX10_yet) 16 = .ok (.invokestatic 149, 3) := by decide +kernel
theorem eX10_yet_19 : decode (mB MX10_yet) 19 = .ok (.ifCond .ne 6, 3) := by decide +kernel
theorem eX10_yet_22 : decode (mB MX10_yet) 22 = .ok (.bipush (-2), 2) := by decide +kernel
theorem eX10_yet_24 : decode (mB MX10_yet) 24 = .ok (.ireturn, 1) := by decide +kernel
theorem eX10_yet_25 : decode (mB MX10_yet) 25 = .ok (.aload_n 0, 1) := by decide +kernel
theorem eX10_yet_26 : decode (mB MX10_yet) 26 = .ok (.iload_n 1, 1) := by decide +kernel
theorem eX10_yet_27 : decode (mB MX10_yet) 27 = .ok (.invokevirtual 413, 3) := by decide +kernel
theorem eX10_yet_30 : decode (mB MX10_yet) 30 = .ok (.ifCond .ne 5, 3) := by decide +kernel
theorem eX10_yet_33 : decode (mB MX10_yet) 33 = .ok (.iconst (-1), 1) := by decide +kernel
theorem eX10_yet_34 : decode (mB MX10_yet) 34 = .ok (.ireturn, 1) := by decide +kernel
theorem eX10_yet_35 : decode (mB MX10_yet) 35 = .ok (.iconst 0, 1) := by decide +kernel
theorem eX10_yet_36 : decode (mB MX10_yet) 36 = .ok (.istore_n 3, 1) := by decide +kernel
theorem eX10_yet_37 : decode (mB MX10_yet) 37 = .ok (.iconst 0, 1) := by decide +kernel
theorem eX10_yet_38 : decode (mB MX10_yet) 38 = .ok (.istore 4, 2) := by decide +kernel
theorem eX10_yet_40 : decode (mB MX10_yet) 40 = .ok (.iload 4, 2) := by decide +kernel
theorem eX10_yet_42 : decode (mB MX10_yet) 42 = .ok (.aload_n 0, 1) := by decide +kernel
theorem eX10_yet_43 : decode (mB MX10_yet) 43 = .ok (.getfield 216, 3) := by decide +kernel
theorem eX10_yet_46 : decode (mB MX10_yet) 46 = .ok (.if_icmp .ge 27, 3) := by decide +kernel
theorem eX10_yet_49 : decode (mB MX10_yet) 49 = .ok (.iload_n 3, 1) := by decide +kernel
theorem eX10_yet_50 : decode (mB MX10_yet) 50 = .ok (.aload_n 0, 1) := by decide +kernel
theorem eX10_yet_51 : decode (mB MX10_yet) 51 = .ok (.getfield 58, 3) := by decide +kernel
theorem eX10_yet_54 : decode (mB MX10_yet) 54 = .ok (.iload 4, 2) := by decide +kernel
theorem eX10_yet_56 : decode (mB MX10_yet) 56 = .ok (.iaload, 1) := by decide +kernel
theorem eX10_yet_57 : decode (mB MX10_yet) 57 = .ok (.aload_n 0, 1) := by decide +kernel
theorem eX10_yet_58 : decode (mB MX10_yet) 58 = .ok (.iload 4, 2) := by decide +kernel
theorem eX10_yet_60 : decode (mB MX10_yet) 60 = .ok (.iload_n 2, 1) := by decide +kernel
theorem eX10_yet_61 : decode (mB MX10_yet) 61 = .ok (.invokevirtual 404, 3) := by decide +kernel
theorem eX10_yet_64 : decode (mB MX10_yet) 64 = .ok (.imul, 1) := by decide +kernel
theorem eX10_yet_65 : decode (mB MX10_yet) 65 = .ok (.iadd, 1) := by decide +kernel
theorem eX10_yet_66 : decode (mB MX10_yet) 66 = .ok (.istore_n 3, 1) := by decide +kernel
theorem eX10_yet_67 : decode (mB MX10_yet) 67 = .ok (.iinc 4 1, 3) := by decide +kernel
theorem eX10_yet_70 : decode (mB MX10_yet) 70 = .ok (.goto (-30), 3) := by decide +kernel
theorem eX10_yet_73 : decode (mB MX10_yet) 73 = .ok (.iload_n 3, 1) := by decide +kernel
theorem eX10_yet_74 : decode (mB MX10_yet) 74 = .ok (.ireturn, 1) := by decide +kernel
theorem eX10_among_0 : decode (mB MX10_among) 0 = .ok (.aload_n 0, 1) := by decide +kernel
theorem eX10_among_1 : decode (mB MX10_among) 1 = .ok (.iconst 0, 1) := by decide +kernel
theorem eX10_among_2 : decode (mB MX10_among) 2 = .ok (.putfield 1, 3) := by decide +kernel
theorem eX10_among_5 : decode (mB MX10_among) 5 = .ok (.iload_n 1, 1) := by decide +kernel
theorem eX10_among_6 : decode (mB MX10_among) 6 = .ok (.invokestatic 410, 3) := by decide +kernel
theorem eX10_among_9 : decode (mB MX10_among) 9 = .ok (.ifCond .eq 12, 3) := by decide +kernel
theorem eX10_among_12 : decode (mB MX10_among) 12 = .ok (.aload_n 0, 1) := by decide +kernel
theorem eX10_among_13 : decode (mB MX10_among) 13 = .ok (.iload_n 2, 1) := by decide +kernel
theorem eX10_among_14 : decode (mB MX10_among) 14 = .ok (.i2l, 1) := by decide +kernel
theorem eX10_among_15 : decode (mB MX10_among) 15 = .ok (.invokevirtual 294, 3) := by decide +kernel
theorem eX10_among_18 : decode (mB MX10_among) 18 = .ok (.ifCond .ne 6, 3) := by decide +kernel
theorem eX10_among_21 : decode (mB MX10_among) 21 = .ok (.bipush (-2), 2) := by decide +kernel
theorem eX10_among_23 : decode (mB MX10_among) 23 = .ok (.ireturn, 1) := by decide +kernel
theorem eX10_among_24 : decode (mB MX10_among) 24 = .ok (.aload_n 0, 1) := by decide +kernel
theorem eX10_among_25 : decode (mB MX10_among) 25 = .ok (.iload_n 1, 1) := by decide +kernel
theorem eX10_among_26 : decode (mB MX10_among) 26 = .ok (.invokevirtual 413, 3) := by decide +kernel
theorem eX10_among_29 : decode (mB MX10_among) 29 = .ok (.ifCond .eq 12, 3) := by decide +kernel
theorem eX10_among_32 : decode (mB MX10_among) 32 = .ok (.aload_n 0, 1) := by decide +kernel
theorem eX10_among_33 : decode (mB MX10_among) 33 = .ok (.getfield 58, 3) := by decide +kernel
theorem eX10_among_36 : decode (mB MX10_among) 36 = .ok (.iload_n 2, 1) := by decide +kernel
theorem eX10_among_37 : decode (mB MX10_among) 37 = .ok (.iaload, 1) := by decide +kernel
theorem eX10_among_38 : decode (mB MX10_among) 38 = .ok (.goto 4, 3) := by decide +kernel
theorem eX10_among_41 : decode (mB MX10_among) 41 = .ok (.iconst (-1), 1) := by decide +kernel
theorem eX10_among_42 : decode (mB MX10_among) 42 = .ok (.ireturn, 1) := by decide +kernel
theorem eX10_common_0 : decode (mB MX10_common) 0 = .ok (.lload_n 2, 1) := by decide +kernel
theorem eX10_common_1 : decode (mB MX10_common) 1 = .ok (.lconst 0, 1) := by decide +kernel
theorem eX10_common_2 : decode (mB MX10_common) 2 = .ok (.lcmp, 1) := by decide +kernel
theorem eX10_common_3 : decode (mB MX10_common) 3 = .ok (.ifCond .ne 7, 3) := by decide +kernel
theorem eX10_common_6 : decode (mB MX10_common) 6 = .ok (.lload_n 0, 1) := by decide +kernel
theorem eX10_common_7 : decode (mB MX10_common) 7 = .ok (.goto 10, 3) := by decide +kernel
theorem eX10_common_10 : decode (mB MX10_common) 10 = .ok (.lload_n 2, 1) := by decide +kernel
theorem eX10_common_11 : decode (mB MX10_common) 11 = .ok (.lload_n 0, 1) := by decide +kernel
theorem eX10_common_12 : decode (mB MX10_common) 12 = .ok (.lload_n 2, 1) := by decide +kernel
theorem eX10_common_13 : decode (mB MX10_common) 13 = .ok (.lrem, 1) := by decide +kernel
theorem eX10_common_14 : decode (mB MX10_common) 14 = .ok (.invokestatic 416, 3) := by decide +kernel
theorem eX10_common_17 : decode (mB MX10_common) 17 = .ok (.lreturn, 1) := by decide +kernel
theorem eX10_isCheaper_0 : decode (mB MX10_isCheaper) 0 = .ok (.aload_n 0, 1) := by decide +kernel
theorem eX10_isCheaper_1 : decode (mB MX10_isCheaper) 1 = .ok (.getfield 45, 3) := by decide +kernel
theorem eX10_isCheaper_4 : decode (mB MX10_isCheaper) 4 = .ok (.iload_n 1, 1) := by decide +kernel
theorem eX10_isCheaper_5 : decode (mB MX10_isCheaper) 5 = .ok (.iaload, 1) := by decide +kernel
theorem eX10_isCheaper_6 : decode (mB MX10_isCheaper) 6 = .ok (.aload_n 0, 1) := by decide +kernel
theorem eX10_isCheaper_7 : decode (mB MX10_isCheaper) 7 = .ok (.iload_n 2, 1) := by decide +kernel
theorem eX10_isCheaper_8 : decode (mB MX10_isCheaper) 8 = .ok (.invokevirtual 297, 3) := by decide +kernel
theorem eX10_isCheaper_11 : decode (mB MX10_isCheaper) 11 = .ok (.imul, 1) := by decide +kernel
theorem eX10_isCheaper_12 : decode (mB MX10_isCheaper) 12 = .ok (.aload_n 0, 1) := by decide +kernel
theorem eX10_isCheaper_13 : decode (mB MX10_isCheaper) 13 = .ok (.getfield 45, 3) := by decide +kernel
theorem eX10_isCheaper_16 : decode (mB MX10_isCheaper) 16 = .ok (.iload_n 2, 1) := by decide +kernel
theorem eX10_isCheaper_17 : decode (mB MX10_isCheaper) 17 = .ok (.iaload, 1) := by decide +kernel
theorem eX10_isCheaper_18 : decode (mB MX10_isCheaper) 18 = .ok (.aload_n 0, 1) := by decide +kernel
theorem eX10_isCheaper_19 : decode (mB MX10_isCheaper) 19 = .ok (.iload_n 1, 1) := by decide +kernel
theorem eX10_isCheaper_20 : decode (mB MX10_isCheaper) 20 = .ok (.invokevirtual 297, 3) := by decide +kernel
theorem eX10_isCheaper_23 : decode (mB MX10_isCheaper) 23 = .ok (.imul, 1) := by decide +kernel
theorem eX10_isCheaper_24 : decode (mB MX10_isCheaper) 24 = .ok (.if_icmp .ge 7, 3) := by decide +kernel
theorem eX10_isCheaper_27 : decode (mB MX10_isCheaper) 27 = .ok (.iconst 1, 1) := by decide +kernel
theorem eX10_isCheaper_28 : decode (mB MX10_isCheaper) 28 = .ok (.goto 4, 3) := by decide +kernel
theorem eX10_isCheaper_31 : decode (mB MX10_isCheaper) 31 = .ok (.iconst 0, 1) := by decide +kernel
theorem eX10_isCheaper_32 : decode (mB MX10_isCheaper) 32 = .ok (.ireturn, 1) := by decide +kernel
theorem eX10_cheapestFor_0 : decode (mB MX10_cheapestFor) 0 = .ok (.iconst (-1), 1) := by decide +kernel
theorem eX10_cheapestFor_1 : decode (mB MX10_cheapestFor) 1 = .ok (.istore_n 2, 1) := by decide +kernel
theorem eX10_cheapestFor_2 : decode (mB MX10_cheapestFor) 2 = .ok (.iconst 0, 1) := by decide +kernel
theorem eX10_cheapestFor_3 : decode (mB MX10_cheapestFor) 3 = .ok (.istore_n 3, 1) := by decide +kernel
theorem eX10_cheapestFor_4 : decode (mB MX10_cheapestFor) 4 = .ok (.iload_n 3, 1) := by decide +kernel
theorem eX10_cheapestFor_5 : decode (mB MX10_cheapestFor) 5 = .ok (.aload_n 0, 1) := by decide +kernel
theorem eX10_cheapestFor_6 : decode (mB MX10_cheapestFor) 6 = .ok (.getfield 216, 3) := by decide +kernel
theorem eX10_cheapestFor_9 : decode (mB MX10_cheapestFor) 9 = .ok (.if_icmp .ge 39, 3) := by decide +kernel
theorem eX10_cheapestFor_12 : decode (mB MX10_cheapestFor) 12 = .ok (.iload_n 1, 1) := by decide +kernel
theorem eX10_cheapestFor_13 : decode (mB MX10_cheapestFor) 13 = .ok (.iconst (-1), 1) := by decide +kernel
theorem eX10_cheapestFor_14 : decode (mB MX10_cheapestFor) 14 = .ok (.if_icmp .eq 12, 3) := by decide +kernel
theorem eX10_cheapestFor_17 : decode (mB MX10_cheapestFor) 17 = .ok (.aload_n 0, 1) := by decide +kernel
theorem eX10_cheapestFor_18 : decode (mB MX10_cheapestFor) 18 = .ok (.iload_n 3, 1) := by decide +kernel
theorem eX10_cheapestFor_19 : decode (mB MX10_cheapestFor) 19 = .ok (.iload_n 1, 1) := by decide +kernel
theorem eX10_cheapestFor_20 : decode (mB MX10_cheapestFor) 20 = .ok (.invokevirtual 254, 3) := by decide +kernel
theorem eX10_cheapestFor_23 : decode (mB MX10_cheapestFor) 23 = .ok (.ifCond .le 19, 3) := by decide +kernel
theorem eX10_cheapestFor_26 : decode (mB MX10_cheapestFor) 26 = .ok (.iload_n 2, 1) := by decide +kernel
theorem eX10_cheapestFor_27 : decode (mB MX10_cheapestFor) 27 = .ok (.iconst (-1), 1) := by decide +kernel
theorem eX10_cheapestFor_28 : decode (mB MX10_cheapestFor) 28 = .ok (.if_icmp .eq 12, 3) := by decide +kernel
theorem eX10_cheapestFor_31 : decode (mB MX10_cheapestFor) 31 = .ok (.aload_n 0, 1) := by decide +kernel
theorem eX10_cheapestFor_32 : decode (mB MX10_cheapestFor) 32 = .ok (.iload_n 3, 1) := by decide +kernel
theorem eX10_cheapestFor_33 : decode (mB MX10_cheapestFor) 33 = .ok (.iload_n 2, 1) := by decide +kernel
theorem eX10_cheapestFor_34 : decode (mB MX10_cheapestFor) 34 = .ok (.invokevirtual 420, 3) := by decide +kernel
theorem eX10_cheapestFor_37 : decode (mB MX10_cheapestFor) 37 = .ok (.ifCond .eq 5, 3) := by decide +kernel
theorem eX10_cheapestFor_40 : decode (mB MX10_cheapestFor) 40 = .ok (.iload_n 3, 1) := by decide +kernel
theorem eX10_cheapestFor_41 : decode (mB MX10_cheapestFor) 41 = .ok (.istore_n 2, 1) := by decide +kernel
theorem eX10_cheapestFor_42 : decode (mB MX10_cheapestFor) 42 = .ok (.iinc 3 1, 3) := by decide +kernel
theorem eX10_cheapestFor_45 : decode (mB MX10_cheapestFor) 45 = .ok (.goto (-41), 3) := by decide +kernel
theorem eX10_cheapestFor_48 : decode (mB MX10_cheapestFor) 48 = .ok (.iload_n 2, 1) := by decide +kernel
theorem eX10_cheapestFor_49 : decode (mB MX10_cheapestFor) 49 = .ok (.ireturn, 1) := by decide +kernel
theorem eX10_bound_0 : decode (mB MX10_bound) 0 = .ok (.aload_n 0, 1) := by decide +kernel
theorem eX10_bound_1 : decode (mB MX10_bound) 1 = .ok (.iconst 0, 1) := by decide +kernel
theorem eX10_bound_2 : decode (mB MX10_bound) 2 = .ok (.putfield 1, 3) := by decide +kernel
theorem eX10_bound_5 : decode (mB MX10_bound) 5 = .ok (.iload_n 1, 1) := by decide +kernel
theorem eX10_bound_6 : decode (mB MX10_bound) 6 = .ok (.i2l, 1) := by decide +kernel
theorem eX10_bound_7 : decode (mB MX10_bound) 7 = .ok (.lconst 0, 1) := by decide +kernel
theorem eX10_bound_8 : decode (mB MX10_bound) 8 = .ok (.lconst 1, 1) := by decide +kernel
theorem eX10_bound_9 : decode (mB MX10_bound) 9 = .ok (.invokestatic 149, 3) := by decide +kernel
theorem eX10_bound_12 : decode (mB MX10_bound) 12 = .ok (.ifCond .ne 7, 3) := by decide +kernel
theorem eX10_bound_15 : decode (mB MX10_bound) 15 = .ok (.ldc2_w 423, 3) := by decide +kernel
theorem eX10_bound_18 : decode (mB MX10_bound) 18 = .ok (.lreturn, 1) := by decide +kernel
theorem eX10_bound_19 : decode (mB MX10_bound) 19 = .ok (.lconst 0, 1) := by decide +kernel
theorem eX10_bound_20 : decode (mB MX10_bound) 20 = .ok (.lstore_n 2, 1) := by decide +kernel
theorem eX10_bound_21 : decode (mB MX10_bound) 21 = .ok (.lconst 1, 1) := by decide +kernel
theorem eX10_bound_22 : decode (mB MX10_bound) 22 = .ok (.lstore 4, 2) := by decide +kernel
theorem eX10_bound_24 : decode (mB MX10_bound) 24 = .ok (.iconst 0, 1) := by decide +kernel
theorem eX10_bound_25 : decode (mB MX10_bound) 25 = .ok (.istore 6, 2) := by decide +kernel
theorem eX10_bound_27 : decode (mB MX10_bound) 27 = .ok (.iload 6, 2) := by decide +kernel
theorem eX10_bound_29 : decode (mB MX10_bound) 29 = .ok (.aload_n 0, 1) := by decide +kernel
theorem eX10_bound_30 : decode (mB MX10_bound) 30 = .ok (.getfield 13, 3) := by decide +kernel
theorem eX10_bound_33 : decode (mB MX10_bound) 33 = .ok (.iconst 2, 1) := by decide +kernel
theorem eX10_bound_34 : decode (mB MX10_bound) 34 = .ok (.iaload, 1) := by decide +kernel
theorem eX10_bound_35 : decode (mB MX10_bound) 35 = .ok (.if_icmp .ge 109, 3) := by decide +kernel
theorem eX10_bound_38 : decode (mB MX10_bound) 38 = .ok (.aload_n 0, 1) := by decide +kernel
theorem eX10_bound_39 : decode (mB MX10_bound) 39 = .ok (.getfield 13, 3) := by decide +kernel
theorem eX10_bound_42 : decode (mB MX10_bound) 42 = .ok (.bipush 39, 2) := by decide +kernel
theorem eX10_bound_44 : decode (mB MX10_bound) 44 = .ok (.iload 6, 2) := by decide +kernel
theorem eX10_bound_46 : decode (mB MX10_bound) 46 = .ok (.iadd, 1) := by decide +kernel
theorem eX10_bound_47 : decode (mB MX10_bound) 47 = .ok (.iaload, 1) := by decide +kernel
theorem eX10_bound_48 : decode (mB MX10_bound) 48 = .ok (.ifCond .ne 6, 3) := by decide +kernel
theorem eX10_bound_51 : decode (mB MX10_bound) 51 = .ok (.goto 87, 3) := by decide +kernel
theorem eX10_bound_54 : decode (mB MX10_bound) 54 = .ok (.aload_n 0, 1) := by decide +kernel
theorem eX10_bound_55 : decode (mB MX10_bound) 55 = .ok (.iload 6, 2) := by decide +kernel
theorem eX10_bound_57 : decode (mB MX10_bound) 57 = .ok (.invokevirtual 425, 3) := by decide +kernel
theorem eX10_bound_60 : decode (mB MX10_bound) 60 = .ok (.istore 7, 2) := by decide +kernel
theorem eX10_bound_62 : decode (mB MX10_bound) 62 = .ok (.iload 7, 2) := by decide +kernel
theorem eX10_bound_64 : decode (mB MX10_bound) 64 = .ok (.iconst (-1), 1) := by decide +kernel
theorem eX10_bound_65 : decode (mB MX10_bound) 65 = .ok (.if_icmp .ne 7, 3) := by decide +kernel
theorem eX10_bound_68 : decode (mB MX10_bound) 68 = .ok (.ldc2_w 428, 3) := by decide +kernel
theorem eX10_bound_71 : decode (mB MX10_bound) 71 = .ok (.lreturn, 1) := by decide +kernel
theorem eX10_bound_72 : decode (mB MX10_bound) 72 = .ok (.lload_n 2, 1) := by decide +kernel
theorem eX10_bound_73 : decode (mB MX10_bound) 73 = .ok (.aload_n 0, 1) := by decide +kernel
theorem eX10_bound_74 : decode (mB MX10_bound) 74 = .ok (.iload 7, 2) := by decide +kernel
theorem eX10_bound_76 : decode (mB MX10_bound) 76 = .ok (.invokevirtual 297, 3) := by decide +kernel
theorem eX10_bound_79 : decode (mB MX10_bound) 79 = .ok (.i2l, 1) := by decide +kernel
theorem eX10_bound_80 : decode (mB MX10_bound) 80 = .ok (.lmul, 1) := by decide +kernel
theorem eX10_bound_81 : decode (mB MX10_bound) 81 = .ok (.lload 4, 2) := by decide +kernel
theorem eX10_bound_83 : decode (mB MX10_bound) 83 = .ok (.aload_n 0, 1) := by decide +kernel
theorem eX10_bound_84 : decode (mB MX10_bound) 84 = .ok (.getfield 13, 3) := by decide +kernel
theorem eX10_bound_87 : decode (mB MX10_bound) 87 = .ok (.bipush 39, 2) := by decide +kernel
theorem eX10_bound_89 : decode (mB MX10_bound) 89 = .ok (.iload 6, 2) := by decide +kernel
theorem eX10_bound_91 : decode (mB MX10_bound) 91 = .ok (.iadd, 1) := by decide +kernel
theorem eX10_bound_92 : decode (mB MX10_bound) 92 = .ok (.iaload, 1) := by decide +kernel
theorem eX10_bound_93 : decode (mB MX10_bound) 93 = .ok (.i2l, 1) := by decide +kernel
theorem eX10_bound_94 : decode (mB MX10_bound) 94 = .ok (.lmul, 1) := by decide +kernel
theorem eX10_bound_95 : decode (mB MX10_bound) 95 = .ok (.aload_n 0, 1) := by decide +kernel
theorem eX10_bound_96 : decode (mB MX10_bound) 96 = .ok (.getfield 45, 3) := by decide +kernel
theorem eX10_bound_99 : decode (mB MX10_bound) 99 = .ok (.iload 7, 2) := by decide +kernel
theorem eX10_bound_101 : decode (mB MX10_bound) 101 = .ok (.iaload, 1) := by decide +kernel
theorem eX10_bound_102 : decode (mB MX10_bound) 102 = .ok (.i2l, 1) := by decide +kernel
theorem eX10_bound_103 : decode (mB MX10_bound) 103 = .ok (.lmul, 1) := by decide +kernel
theorem eX10_bound_104 : decode (mB MX10_bound) 104 = .ok (.ladd, 1) := by decide +kernel
theorem eX10_bound_105 : decode (mB MX10_bound) 105 = .ok (.lstore_n 2, 1) := by decide +kernel
theorem eX10_bound_106 : decode (mB MX10_bound) 106 = .ok (.lload 4, 2) := by decide +kernel
theorem eX10_bound_108 : decode (mB MX10_bound) 108 = .ok (.aload_n 0, 1) := by decide +kernel
theorem eX10_bound_109 : decode (mB MX10_bound) 109 = .ok (.iload 7, 2) := by decide +kernel
theorem eX10_bound_111 : decode (mB MX10_bound) 111 = .ok (.invokevirtual 297, 3) := by decide +kernel
theorem eX10_bound_114 : decode (mB MX10_bound) 114 = .ok (.i2l, 1) := by decide +kernel
theorem eX10_bound_115 : decode (mB MX10_bound) 115 = .ok (.lmul, 1) := by decide +kernel
theorem eX10_bound_116 : decode (mB MX10_bound) 116 = .ok (.lstore 4, 2) := by decide +kernel
theorem eX10_bound_118 : decode (mB MX10_bound) 118 = .ok (.lload_n 2, 1) := by decide +kernel
theorem eX10_bound_119 : decode (mB MX10_bound) 119 = .ok (.lload 4, 2) := by decide +kernel
theorem eX10_bound_121 : decode (mB MX10_bound) 121 = .ok (.invokestatic 416, 3) := by decide +kernel
theorem eX10_bound_124 : decode (mB MX10_bound) 124 = .ok (.lstore 8, 2) := by decide +kernel
theorem eX10_bound_126 : decode (mB MX10_bound) 126 = .ok (.lload_n 2, 1) := by decide +kernel
theorem eX10_bound_127 : decode (mB MX10_bound) 127 = .ok (.lload 8, 2) := by decide +kernel
theorem eX10_bound_129 : decode (mB MX10_bound) 129 = .ok (.ldiv, 1) := by decide +kernel
theorem eX10_bound_130 : decode (mB MX10_bound) 130 = .ok (.lstore_n 2, 1) := by decide +kernel
theorem eX10_bound_131 : decode (mB MX10_bound) 131 = .ok (.lload 4, 2) := by decide +kernel
theorem eX10_bound_133 : decode (mB MX10_bound) 133 = .ok (.lload 8, 2) := by decide +kernel
theorem eX10_bound_135 : decode (mB MX10_bound) 135 = .ok (.ldiv, 1) := by decide +kernel
theorem eX10_bound_136 : decode (mB MX10_bound) 136 = .ok (.lstore 4, 2) := by decide +kernel
theorem eX10_bound_138 : decode (mB MX10_bound) 138 = .ok (.iinc 6 1, 3) := by decide +kernel
theorem eX10_bound_141 : decode (mB MX10_bound) 141 = .ok (.goto (-114), 3) := by decide +kernel
theorem eX10_bound_144 : decode (mB MX10_bound) 144 = .ok (.iload_n 1, 1) := by decide +kernel
theorem eX10_bound_145 : decode (mB MX10_bound) 145 = .ok (.ifCond .ne 7, 3) := by decide +kernel
theorem eX10_bound_148 : decode (mB MX10_bound) 148 = .ok (.lload_n 2, 1) := by decide +kernel
theorem eX10_bound_149 : decode (mB MX10_bound) 149 = .ok (.goto 5, 3) := by decide +kernel
theorem eX10_bound_152 : decode (mB MX10_bound) 152 = .ok (.lload 4, 2) := by decide +kernel
theorem eX10_bound_154 : decode (mB MX10_bound) 154 = .ok (.lreturn, 1) := by decide +kernel
theorem eX10_coversFrom_0 : decode (mB MX10_coversFrom) 0 = .ok (.iload_n 3, 1) := by decide +kernel
theorem eX10_coversFrom_1 : decode (mB MX10_coversFrom) 1 = .ok (.ifCond .ne 13, 3) := by decide +kernel
theorem eX10_coversFrom_4 : decode (mB MX10_coversFrom) 4 = .ok (.iload_n 1, 1) := by decide +kernel
theorem eX10_coversFrom_5 : decode (mB MX10_coversFrom) 5 = .ok (.ifCond .ne 7, 3) := by decide +kernel
theorem eX10_coversFrom_8 : decode (mB MX10_coversFrom) 8 = .ok (.iconst 1, 1) := by decide +kernel
theorem eX10_coversFrom_9 : decode (mB MX10_coversFrom) 9 = .ok (.goto 4, 3) := by decide +kernel
theorem eX10_coversFrom_12 : decode (mB MX10_coversFrom) 12 = .ok (.iconst 0, 1) := by decide +kernel
theorem eX10_coversFrom_13 : decode (mB MX10_coversFrom) 13 = .ok (.ireturn, 1) := by decide +kernel
theorem eX10_coversFrom_14 : decode (mB MX10_coversFrom) 14 = .ok (.iconst 0, 1) := by decide +kernel
theorem eX10_coversFrom_15 : decode (mB MX10_coversFrom) 15 = .ok (.istore 4, 2) := by decide +kernel
theorem eX10_coversFrom_17 : decode (mB MX10_coversFrom) 17 = .ok (.iload_n 2, 1) := by decide +kernel
theorem eX10_coversFrom_18 : decode (mB MX10_coversFrom) 18 = .ok (.istore 5, 2) := by decide +kernel
theorem eX10_coversFrom_20 : decode (mB MX10_coversFrom) 20 = .ok (.iload 5, 2) := by decide +kernel
theorem eX10_coversFrom_22 : decode (mB MX10_coversFrom) 22 = .ok (.aload_n 0, 1) := by decide +kernel
theorem eX10_coversFrom_23 : decode (mB MX10_coversFrom) 23 = .ok (.getfield 216, 3) := by decide +kernel
theorem eX10_coversFrom_26 : decode (mB MX10_coversFrom) 26 = .ok (.if_icmp .ge 30, 3) := by decide +kernel
theorem eX10_coversFrom_29 : decode (mB MX10_coversFrom) 29 = .ok (.iload 4, 2) := by decide +kernel
theorem eX10_coversFrom_31 : decode (mB MX10_coversFrom) 31 = .ok (.aload_n 0, 1) := by decide +kernel
theorem eX10_coversFrom_32 : decode (mB MX10_coversFrom) 32 = .ok (.aload_n 0, 1) := by decide +kernel
theorem eX10_coversFrom_33 : decode (mB MX10_coversFrom) 33 = .ok (.iload_n 1, 1) := by decide +kernel
theorem eX10_coversFrom_34 : decode (mB MX10_coversFrom) 34 = .ok (.iload 5, 2) := by decide +kernel
theorem eX10_coversFrom_36 : decode (mB MX10_coversFrom) 36 = .ok (.invokevirtual 398, 3) := by decide +kernel
theorem eX10_coversFrom_39 : decode (mB MX10_coversFrom) 39 = .ok (.iload 5, 2) := by decide +kernel
theorem eX10_coversFrom_41 : decode (mB MX10_coversFrom) 41 = .ok (.iload_n 3, 1) := by decide +kernel
theorem eX10_coversFrom_42 : decode (mB MX10_coversFrom) 42 = .ok (.iconst 1, 1) := by decide +kernel
theorem eX10_coversFrom_43 : decode (mB MX10_coversFrom) 43 = .ok (.isub, 1) := by decide +kernel
theorem eX10_coversFrom_44 : decode (mB MX10_coversFrom) 44 = .ok (.invokevirtual 430, 3) := by decide +kernel
theorem eX10_coversFrom_47 : decode (mB MX10_coversFrom) 47 = .ok (.iadd, 1) := by decide +kernel
theorem eX10_coversFrom_48 : decode (mB MX10_coversFrom) 48 = .ok (.istore 4, 2) := by decide +kernel
theorem eX10_coversFrom_50 : decode (mB MX10_coversFrom) 50 = .ok (.iinc 5 1, 3) := by decide +kernel
theorem eX10_coversFrom_53 : decode (mB MX10_coversFrom) 53 = .ok (.goto (-33), 3) := by decide +kernel
theorem eX10_coversFrom_56 : decode (mB MX10_coversFrom) 56 = .ok (.iload 4, 2) := by decide +kernel
theorem eX10_coversFrom_58 : decode (mB MX10_coversFrom) 58 = .ok (.ireturn, 1) := by decide +kernel
theorem eX10_covers_0 : decode (mB MX10_covers) 0 = .ok (.aload_n 0, 1) := by decide +kernel
theorem eX10_covers_1 : decode (mB MX10_covers) 1 = .ok (.iconst 0, 1) := by decide +kernel
theorem eX10_covers_2 : decode (mB MX10_covers) 2 = .ok (.putfield 1, 3) := by decide +kernel
theorem eX10_covers_5 : decode (mB MX10_covers) 5 = .ok (.iload_n 1, 1) := by decide +kernel
theorem eX10_covers_6 : decode (mB MX10_covers) 6 = .ok (.i2l, 1) := by decide +kernel
theorem eX10_covers_7 : decode (mB MX10_covers) 7 = .ok (.lconst 0, 1) := by decide +kernel
theorem eX10_covers_8 : decode (mB MX10_covers) 8 = .ok (.ldc2_w 371, 3) := by decide +kernel
theorem eX10_covers_11 : decode (mB MX10_covers) 11 = .ok (.invokestatic 149, 3) := by decide +kernel
theorem eX10_covers_14 : decode (mB MX10_covers) 14 = .ok (.ifCond .ne 6, 3) := by decide +kernel
theorem eX10_covers_17 : decode (mB MX10_covers) 17 = .ok (.bipush (-3), 2) := by decide +kernel
theorem eX10_covers_19 : decode (mB MX10_covers) 19 = .ok (.ireturn, 1) := by decide +kernel
theorem eX10_covers_20 : decode (mB MX10_covers) 20 = .ok (.aload_n 0, 1) := by decide +kernel
theorem eX10_covers_21 : decode (mB MX10_covers) 21 = .ok (.invokevirtual 407, 3) := by decide +kernel
theorem eX10_covers_24 : decode (mB MX10_covers) 24 = .ok (.pop, 1) := by decide +kernel
theorem eX10_covers_25 : decode (mB MX10_covers) 25 = .ok (.iconst 0, 1) := by decide +kernel
theorem eX10_covers_26 : decode (mB MX10_covers) 26 = .ok (.istore_n 2, 1) := by decide +kernel
theorem eX10_covers_27 : decode (mB MX10_covers) 27 = .ok (.iconst 0, 1) := by decide +kernel
theorem eX10_covers_28 : decode (mB MX10_covers) 28 = .ok (.istore_n 3, 1) := by decide +kernel
theorem eX10_covers_29 : decode (mB MX10_covers) 29 = .ok (.iload_n 3, 1) := by decide +kernel
theorem eX10_covers_30 : decode (mB MX10_covers) 30 = .ok (.aload_n 0, 1) := by decide +kernel
theorem eX10_covers_31 : decode (mB MX10_covers) 31 = .ok (.getfield 13, 3) := by decide +kernel
theorem eX10_covers_34 : decode (mB MX10_covers) 34 = .ok (.iconst 2, 1) := by decide +kernel
theorem eX10_covers_35 : decode (mB MX10_covers) 35 = .ok (.iaload, 1) := by decide +kernel
theorem eX10_covers_36 : decode (mB MX10_covers) 36 = .ok (.if_icmp .ge 28, 3) := by decide +kernel
theorem eX10_covers_39 : decode (mB MX10_covers) 39 = .ok (.iload_n 2, 1) := by decide +kernel
theorem eX10_covers_40 : decode (mB MX10_covers) 40 = .ok (.aload_n 0, 1) := by decide +kernel
theorem eX10_covers_41 : decode (mB MX10_covers) 41 = .ok (.getfield 13, 3) := by decide +kernel
theorem eX10_covers_44 : decode (mB MX10_covers) 44 = .ok (.bipush 39, 2) := by decide +kernel
theorem eX10_covers_46 : decode (mB MX10_covers) 46 = .ok (.iload_n 3, 1) := by decide +kernel
theorem eX10_covers_47 : decode (mB MX10_covers) 47 = .ok (.iadd, 1) := by decide +kernel
theorem eX10_covers_48 : decode (mB MX10_covers) 48 = .ok (.iaload, 1) := by decide +kernel
theorem eX10_covers_49 : decode (mB MX10_covers) 49 = .ok (.aload_n 0, 1) := by decide +kernel
theorem eX10_covers_50 : decode (mB MX10_covers) 50 = .ok (.getfield 61, 3) := by decide +kernel
theorem eX10_covers_53 : decode (mB MX10_covers) 53 = .ok (.iload_n 3, 1) := by decide +kernel
theorem eX10_covers_54 : decode (mB MX10_covers) 54 = .ok (.iaload, 1) := by decide +kernel
theorem eX10_covers_55 : decode (mB MX10_covers) 55 = .ok (.imul, 1) := by decide +kernel
theorem eX10_covers_56 : decode (mB MX10_covers) 56 = .ok (.iadd, 1) := by decide +kernel
theorem eX10_covers_57 : decode (mB MX10_covers) 57 = .ok (.istore_n 2, 1) := by decide +kernel
theorem eX10_covers_58 : decode (mB MX10_covers) 58 = .ok (.iinc 3 1, 3) := by decide +kernel
theorem eX10_covers_61 : decode (mB MX10_covers) 61 = .ok (.goto (-32), 3) := by decide +kernel
theorem eX10_covers_64 : decode (mB MX10_covers) 64 = .ok (.aload_n 0, 1) := by decide +kernel
theorem eX10_covers_65 : decode (mB MX10_covers) 65 = .ok (.iload_n 2, 1) := by decide +kernel
theorem eX10_covers_66 : decode (mB MX10_covers) 66 = .ok (.iconst 0, 1) := by decide +kernel
theorem eX10_covers_67 : decode (mB MX10_covers) 67 = .ok (.iload_n 1, 1) := by decide +kernel
theorem eX10_covers_68 : decode (mB MX10_covers) 68 = .ok (.invokevirtual 430, 3) := by decide +kernel
theorem eX10_covers_71 : decode (mB MX10_covers) 71 = .ok (.ireturn, 1) := by decide +kernel
theorem eX10_best_0 : decode (mB MX10_best) 0 = .ok (.aload_n 0, 1) := by decide +kernel
theorem eX10_best_1 : decode (mB MX10_best) 1 = .ok (.iconst 0, 1) := by decide +kernel
theorem eX10_best_2 : decode (mB MX10_best) 2 = .ok (.putfield 1, 3) := by decide +kernel
theorem eX10_best_5 : decode (mB MX10_best) 5 = .ok (.aload_n 0, 1) := by decide +kernel
theorem eX10_best_6 : decode (mB MX10_best) 6 = .ok (.iconst (-1), 1) := by decide +kernel
theorem eX10_best_7 : decode (mB MX10_best) 7 = .ok (.invokevirtual 425, 3) := by decide +kernel
theorem eX10_best_10 : decode (mB MX10_best) 10 = .ok (.ireturn, 1) := by decide +kernel
theorem eX10_spare_0 : decode (mB MX10_spare) 0 = .ok (.aload_n 0, 1) := by decide +kernel
theorem eX10_spare_1 : decode (mB MX10_spare) 1 = .ok (.iconst 0, 1) := by decide +kernel
theorem eX10_spare_2 : decode (mB MX10_spare) 2 = .ok (.putfield 1, 3) := by decide +kernel
theorem eX10_spare_5 : decode (mB MX10_spare) 5 = .ok (.iconst 0, 1) := by decide +kernel
theorem eX10_spare_6 : decode (mB MX10_spare) 6 = .ok (.istore_n 1, 1) := by decide +kernel
theorem eX10_spare_7 : decode (mB MX10_spare) 7 = .ok (.aload_n 0, 1) := by decide +kernel
theorem eX10_spare_8 : decode (mB MX10_spare) 8 = .ok (.invokevirtual 407, 3) := by decide +kernel
theorem eX10_spare_11 : decode (mB MX10_spare) 11 = .ok (.ifCond .le 5, 3) := by decide +kernel
theorem eX10_spare_14 : decode (mB MX10_spare) 14 = .ok (.iload_n 1, 1) := by decide +kernel
theorem eX10_spare_15 : decode (mB MX10_spare) 15 = .ok (.ireturn, 1) := by decide +kernel
theorem eX10_spare_16 : decode (mB MX10_spare) 16 = .ok (.iconst 0, 1) := by decide +kernel
theorem eX10_spare_17 : decode (mB MX10_spare) 17 = .ok (.istore_n 2, 1) := by decide +kernel
theorem eX10_spare_18 : decode (mB MX10_spare) 18 = .ok (.iload_n 2, 1) := by decide +kernel
theorem eX10_spare_19 : decode (mB MX10_spare) 19 = .ok (.aload_n 0, 1) := by decide +kernel
theorem eX10_spare_20 : decode (mB MX10_spare) 20 = .ok (.getfield 216, 3) := by decide +kernel
theorem eX10_spare_23 : decode (mB MX10_spare) 23 = .ok (.if_icmp .ge 73, 3) := by decide +kernel
theorem eX10_spare_26 : decode (mB MX10_spare) 26 = .ok (.iload_n 2, 1) := by decide +kernel
theorem eX10_spare_27 : decode (mB MX10_spare) 27 = .ok (.bipush 30, 2) := by decide +kernel
theorem eX10_spare_29 : decode (mB MX10_spare) 29 = .ok (.if_icmp .gt 67, 3) := by decide +kernel
theorem eX10_spare_32 : decode (mB MX10_spare) 32 = .ok (.aload_n 0, 1) := by decide +kernel
theorem eX10_spare_33 : decode (mB MX10_spare) 33 = .ok (.getfield 13, 3) := by decide +kernel
theorem eX10_spare_36 : decode (mB MX10_spare) 36 = .ok (.bipush 49, 2) := by decide +kernel
theorem eX10_spare_38 : decode (mB MX10_spare) 38 = .ok (.iload_n 2, 1) := by decide +kernel
theorem eX10_spare_39 : decode (mB MX10_spare) 39 = .ok (.iadd, 1) := by decide +kernel
theorem eX10_spare_40 : decode (mB MX10_spare) 40 = .ok (.iaload, 1) := by decide +kernel
theorem eX10_spare_41 : decode (mB MX10_spare) 41 = .ok (.ifCond .ne 6, 3) := by decide +kernel
theorem eX10_spare_44 : decode (mB MX10_spare) 44 = .ok (.goto 46, 3) := by decide +kernel
theorem eX10_spare_47 : decode (mB MX10_spare) 47 = .ok (.aload_n 0, 1) := by decide +kernel
theorem eX10_spare_48 : decode (mB MX10_spare) 48 = .ok (.getfield 13, 3) := by decide +kernel
theorem eX10_spare_51 : decode (mB MX10_spare) 51 = .ok (.bipush 49, 2) := by decide +kernel
theorem eX10_spare_53 : decode (mB MX10_spare) 53 = .ok (.iload_n 2, 1) := by decide +kernel
theorem eX10_spare_54 : decode (mB MX10_spare) 54 = .ok (.iadd, 1) := by decide +kernel
theorem eX10_spare_55 : decode (mB MX10_spare) 55 = .ok (.dup2, 1) := by decide +kernel
theorem eX10_spare_56 : decode (mB MX10_spare) 56 = .ok (.iaload, 1) := by decide +kernel
theorem eX10_spare_57 : decode (mB MX10_spare) 57 = .ok (.iconst 1, 1) := by decide +kernel
theorem eX10_spare_58 : decode (mB MX10_spare) 58 = .ok (.isub, 1) := by decide +kernel
theorem eX10_spare_59 : decode (mB MX10_spare) 59 = .ok (.iastore, 1) := by decide +kernel
theorem eX10_spare_60 : decode (mB MX10_spare) 60 = .ok (.iload_n 1, 1) := by decide +kernel
theorem eX10_spare_61 : decode (mB MX10_spare) 61 = .ok (.aload_n 0, 1) := by decide +kernel
theorem eX10_spare_62 : decode (mB MX10_spare) 62 = .ok (.invokevirtual 407, 3) := by decide +kernel
theorem eX10_spare_65 : decode (mB MX10_spare) 65 = .ok (.ifCond .ne 9, 3) := by decide +kernel
theorem eX10_spare_68 : decode (mB MX10_spare) 68 = .ok (.iconst 1, 1) := by decide +kernel
theorem eX10_spare_69 : decode (mB MX10_spare) 69 = .ok (.iload_n 2, 1) := by decide +kernel
theorem eX10_spare_70 : decode (mB MX10_spare) 70 = .ok (.ishl, 1) := by decide +kernel
theorem eX10_spare_71 : decode (mB MX10_spare) 71 = .ok (.goto 4, 3) := by decide +kernel
theorem eX10_spare_74 : decode (mB MX10_spare) 74 = .ok (.iconst 0, 1) := by decide +kernel
theorem eX10_spare_75 : decode (mB MX10_spare) 75 = .ok (.ior, 1) := by decide +kernel
theorem eX10_spare_76 : decode (mB MX10_spare) 76 = .ok (.istore_n 1, 1) := by decide +kernel
theorem eX10_spare_77 : decode (mB MX10_spare) 77 = .ok (.aload_n 0, 1) := by decide +kernel
theorem eX10_spare_78 : decode (mB MX10_spare) 78 = .ok (.getfield 13, 3) := by decide +kernel
theorem eX10_spare_81 : decode (mB MX10_spare) 81 = .ok (.bipush 49, 2) := by decide +kernel
theorem eX10_spare_83 : decode (mB MX10_spare) 83 = .ok (.iload_n 2, 1) := by decide +kernel
theorem eX10_spare_84 : decode (mB MX10_spare) 84 = .ok (.iadd, 1) := by decide +kernel
theorem eX10_spare_85 : decode (mB MX10_spare) 85 = .ok (.dup2, 1) := by decide +kernel
theorem eX10_spare_86 : decode (mB MX10_spare) 86 = .ok (.iaload, 1) := by decide +kernel
theorem eX10_spare_87 : decode (mB MX10_spare) 87 = .ok (.iconst 1, 1) := by decide +kernel
theorem eX10_spare_88 : decode (mB MX10_spare) 88 = .ok (.iadd, 1) := by decide +kernel
theorem eX10_spare_89 : decode (mB MX10_spare) 89 = .ok (.iastore, 1) := by decide +kernel
theorem eX10_spare_90 : decode (mB MX10_spare) 90 = .ok (.iinc 2 1, 3) := by decide +kernel
theorem eX10_spare_93 : decode (mB MX10_spare) 93 = .ok (.goto (-75), 3) := by decide +kernel
theorem eX10_spare_96 : decode (mB MX10_spare) 96 = .ok (.iload_n 1, 1) := by decide +kernel
theorem eX10_spare_97 : decode (mB MX10_spare) 97 = .ok (.ireturn, 1) := by decide +kernel
theorem eX10_runs_0 : decode (mB MX10_runs) 0 = .ok (.aload_n 0, 1) := by decide +kernel
theorem eX10_runs_1 : decode (mB MX10_runs) 1 = .ok (.iconst 0, 1) := by decide +kernel
theorem eX10_runs_2 : decode (mB MX10_runs) 2 = .ok (.putfield 1, 3) := by decide +kernel
theorem eX10_runs_5 : decode (mB MX10_runs) 5 = .ok (.aload_n 0, 1) := by decide +kernel
theorem eX10_runs_6 : decode (mB MX10_runs) 6 = .ok (.iload_n 1, 1) := by decide +kernel
theorem eX10_runs_7 : decode (mB MX10_runs) 7 = .ok (.i2l, 1) := by decide +kernel
theorem eX10_runs_8 : decode (mB MX10_runs) 8 = .ok (.invokevirtual 287, 3) := by decide +kernel
theorem eX10_runs_11 : decode (mB MX10_runs) 11 = .ok (.ifCond .eq 36, 3) := by decide +kernel
theorem eX10_runs_14 : decode (mB MX10_runs) 14 = .ok (.iload_n 2, 1) := by decide +kernel
theorem eX10_runs_15 : decode (mB MX10_runs) 15 = .ok (.i2l, 1) := by decide +kernel
theorem eX10_runs_16 : decode (mB MX10_runs) 16 = .ok (.lconst 0, 1) := by decide +kernel
theorem eX10_runs_17 : decode (mB MX10_runs) 17 = .ok (.aload_n 0, 1) := by decide +kernel
theorem eX10_runs_18 : decode (mB MX10_runs) 18 = .ok (.getfield 13, 3) := by decide +kernel
theorem eX10_runs_21 : decode (mB MX10_runs) 21 = .ok (.bipush 39, 2) := by decide +kernel
theorem eX10_runs_23 : decode (mB MX10_runs) 23 = .ok (.iload_n 1, 1) := by decide +kernel
theorem eX10_runs_24 : decode (mB MX10_runs) 24 = .ok (.iadd, 1) := by decide +kernel
theorem eX10_runs_25 : decode (mB MX10_runs) 25 = .ok (.iaload, 1) := by decide +kernel
theorem eX10_runs_26 : decode (mB MX10_runs) 26 = .ok (.iconst 1, 1) := by decide +kernel
theorem eX10_runs_27 : decode (mB MX10_runs) 27 = .ok (.isub, 1) := by decide +kernel
theorem eX10_runs_28 : decode (mB MX10_runs) 28 = .ok (.i2l, 1) := by decide +kernel
theorem eX10_runs_29 : decode (mB MX10_runs) 29 = .ok (.invokestatic 149, 3) := by decide +kernel
theorem eX10_runs_32 : decode (mB MX10_runs) 32 = .ok (.ifCond .eq 15, 3) := by decide +kernel
theorem eX10_runs_35 : decode (mB MX10_runs) 35 = .ok (.iload_n 3, 1) := by decide +kernel
theorem eX10_runs_36 : decode (mB MX10_runs) 36 = .ok (.i2l, 1) := by decide +kernel
theorem eX10_runs_37 : decode (mB MX10_runs) 37 = .ok (.lconst 0, 1) := by decide +kernel
theorem eX10_runs_38 : decode (mB MX10_runs) 38 = .ok (.ldc2_w 433, 3) := by decide +kernel
theorem eX10_runs_41 : decode (mB MX10_runs) 41 = .ok (.invokestatic 149, 3) := by decide +kernel
theorem eX10_runs_44 : decode (mB MX10_runs) 44 = .ok (.ifCond .ne 6, 3) := by decide +kernel
theorem eX10_runs_47 : decode (mB MX10_runs) 47 = .ok (.bipush (-2), 2) := by decide +kernel
theorem eX10_runs_49 : decode (mB MX10_runs) 49 = .ok (.ireturn, 1) := by decide +kernel
theorem eX10_runs_50 : decode (mB MX10_runs) 50 = .ok (.aload_n 0, 1) := by decide +kernel
theorem eX10_runs_51 : decode (mB MX10_runs) 51 = .ok (.iload_n 1, 1) := by decide +kernel
theorem eX10_runs_52 : decode (mB MX10_runs) 52 = .ok (.invokevirtual 274, 3) := by decide +kernel
theorem eX10_runs_55 : decode (mB MX10_runs) 55 = .ok (.ifCond .eq 16, 3) := by decide +kernel
theorem eX10_runs_58 : decode (mB MX10_runs) 58 = .ok (.aload_n 0, 1) := by decide +kernel
theorem eX10_runs_59 : decode (mB MX10_runs) 59 = .ok (.iconst 2, 1) := by decide +kernel
theorem eX10_runs_60 : decode (mB MX10_runs) 60 = .ok (.iload_n 1, 1) := by decide +kernel
theorem eX10_runs_61 : decode (mB MX10_runs) 61 = .ok (.imul, 1) := by decide +kernel
theorem eX10_runs_62 : decode (mB MX10_runs) 62 = .ok (.iload_n 2, 1) := by decide +kernel
theorem eX10_runs_63 : decode (mB MX10_runs) 63 = .ok (.iadd, 1) := by decide +kernel
theorem eX10_runs_64 : decode (mB MX10_runs) 64 = .ok (.iconst 0, 1) := by decide +kernel
theorem eX10_runs_65 : decode (mB MX10_runs) 65 = .ok (.invokevirtual 260, 3) := by decide +kernel
theorem eX10_runs_68 : decode (mB MX10_runs) 68 = .ok (.ifCond .ne 5, 3) := by decide +kernel
theorem eX10_runs_71 : decode (mB MX10_runs) 71 = .ok (.iconst (-1), 1) := by decide +kernel
theorem eX10_runs_72 : decode (mB MX10_runs) 72 = .ok (.ireturn, 1) := by decide +kernel
theorem eX10_runs_73 : decode (mB MX10_runs) 73 = .ok (.iload_n 3, 1) := by decide +kernel
theorem eX10_runs_74 : decode (mB MX10_runs) 74 = .ok (.ifCond .ne 18, 3) := by decide +kernel
theorem eX10_runs_77 : decode (mB MX10_runs) 77 = .ok (.aload_n 0, 1) := by decide +kernel
theorem eX10_runs_78 : decode (mB MX10_runs) 78 = .ok (.iconst 2, 1) := by decide +kernel
theorem eX10_runs_79 : decode (mB MX10_runs) 79 = .ok (.iload_n 1, 1) := by decide +kernel
theorem eX10_runs_80 : decode (mB MX10_runs) 80 = .ok (.imul, 1) := by decide +kernel
theorem eX10_runs_81 : decode (mB MX10_runs) 81 = .ok (.iload_n 2, 1) := by decide +kernel
theorem eX10_runs_82 : decode (mB MX10_runs) 82 = .ok (.iadd, 1) := by decide +kernel
theorem eX10_runs_83 : decode (mB MX10_runs) 83 = .ok (.iconst 0, 1) := by decide +kernel
theorem eX10_runs_84 : decode (mB MX10_runs) 84 = .ok (.invokevirtual 260, 3) := by decide +kernel
theorem eX10_runs_87 : decode (mB MX10_runs) 87 = .ok (.iconst 1, 1) := by decide +kernel
theorem eX10_runs_88 : decode (mB MX10_runs) 88 = .ok (.isub, 1) := by decide +kernel
theorem eX10_runs_89 : decode (mB MX10_runs) 89 = .ok (.goto 13, 3) := by decide +kernel
theorem eX10_runs_92 : decode (mB MX10_runs) 92 = .ok (.aload_n 0, 1) := by decide +kernel
theorem eX10_runs_93 : decode (mB MX10_runs) 93 = .ok (.iconst 2, 1) := by decide +kernel
theorem eX10_runs_94 : decode (mB MX10_runs) 94 = .ok (.iload_n 1, 1) := by decide +kernel
theorem eX10_runs_95 : decode (mB MX10_runs) 95 = .ok (.imul, 1) := by decide +kernel
theorem eX10_runs_96 : decode (mB MX10_runs) 96 = .ok (.iload_n 2, 1) := by decide +kernel
theorem eX10_runs_97 : decode (mB MX10_runs) 97 = .ok (.iadd, 1) := by decide +kernel
theorem eX10_runs_98 : decode (mB MX10_runs) 98 = .ok (.iload_n 3, 1) := by decide +kernel
theorem eX10_runs_99 : decode (mB MX10_runs) 99 = .ok (.invokevirtual 260, 3) := by decide +kernel
theorem eX10_runs_102 : decode (mB MX10_runs) 102 = .ok (.ireturn, 1) := by decide +kernel
theorem eX10_lost_0 : decode (mB MX10_lost) 0 = .ok (.aload_n 0, 1) := by decide +kernel
theorem eX10_lost_1 : decode (mB MX10_lost) 1 = .ok (.iconst 0, 1) := by decide +kernel
theorem eX10_lost_2 : decode (mB MX10_lost) 2 = .ok (.putfield 1, 3) := by decide +kernel
theorem eX10_lost_5 : decode (mB MX10_lost) 5 = .ok (.aload_n 0, 1) := by decide +kernel
theorem eX10_lost_6 : decode (mB MX10_lost) 6 = .ok (.invokevirtual 325, 3) := by decide +kernel
theorem eX10_lost_9 : decode (mB MX10_lost) 9 = .ok (.ireturn, 1) := by decide +kernel
theorem eX10_lostWith_0 : decode (mB MX10_lostWith) 0 = .ok (.aload_n 0, 1) := by decide +kernel
theorem eX10_lostWith_1 : decode (mB MX10_lostWith) 1 = .ok (.invokevirtual 304, 3) := by decide +kernel
theorem eX10_lostWith_4 : decode (mB MX10_lostWith) 4 = .ok (.aload_n 0, 1) := by decide +kernel
theorem eX10_lostWith_5 : decode (mB MX10_lostWith) 5 = .ok (.iload_n 1, 1) := by decide +kernel
theorem eX10_lostWith_6 : decode (mB MX10_lostWith) 6 = .ok (.invokevirtual 322, 3) := by decide +kernel
theorem eX10_lostWith_9 : decode (mB MX10_lostWith) 9 = .ok (.aload_n 0, 1) := by decide +kernel
theorem eX10_lostWith_10 : decode (mB MX10_lostWith) 10 = .ok (.invokevirtual 325, 3) := by decide +kernel
theorem eX10_lostWith_13 : decode (mB MX10_lostWith) 13 = .ok (.istore_n 2, 1) := by decide +kernel
theorem eX10_lostWith_14 : decode (mB MX10_lostWith) 14 = .ok (.aload_n 0, 1) := by decide +kernel
theorem eX10_lostWith_15 : decode (mB MX10_lostWith) 15 = .ok (.invokevirtual 341, 3) := by decide +kernel
theorem eX10_lostWith_18 : decode (mB MX10_lostWith) 18 = .ok (.iload_n 2, 1) := by decide +kernel
theorem eX10_lostWith_19 : decode (mB MX10_lostWith) 19 = .ok (.ireturn, 1) := by decide +kernel
theorem eX10_ifFails_0 : decode (mB MX10_ifFails) 0 = .ok (.aload_n 0, 1) := by decide +kernel
theorem eX10_ifFails_1 : decode (mB MX10_ifFails) 1 = .ok (.iconst 0, 1) := by decide +kernel
theorem eX10_ifFails_2 : decode (mB MX10_ifFails) 2 = .ok (.putfield 1, 3) := by decide +kernel
theorem eX10_ifFails_5 : decode (mB MX10_ifFails) 5 = .ok (.aload_n 0, 1) := by decide +kernel
theorem eX10_ifFails_6 : decode (mB MX10_ifFails) 6 = .ok (.iload_n 1, 1) := by decide +kernel
theorem eX10_ifFails_7 : decode (mB MX10_ifFails) 7 = .ok (.i2l, 1) := by decide +kernel
theorem eX10_ifFails_8 : decode (mB MX10_ifFails) 8 = .ok (.invokevirtual 287, 3) := by decide +kernel
theorem eX10_ifFails_11 : decode (mB MX10_ifFails) 11 = .ok (.ifCond .ne 6, 3) := by decide +kernel
theorem eX10_ifFails_14 : decode (mB MX10_ifFails) 14 = .ok (.bipush (-2), 2) := by decide +kernel
theorem eX10_ifFails_16 : decode (mB MX10_ifFails) 16 = .ok (.ireturn, 1) := by decide +kernel
theorem eX10_ifFails_17 : decode (mB MX10_ifFails) 17 = .ok (.aload_n 0, 1) := by decide +kernel
theorem eX10_ifFails_18 : decode (mB MX10_ifFails) 18 = .ok (.iload_n 1, 1) := by decide +kernel
theorem eX10_ifFails_19 : decode (mB MX10_ifFails) 19 = .ok (.invokevirtual 274, 3) := by decide +kernel
theorem eX10_ifFails_22 : decode (mB MX10_ifFails) 22 = .ok (.ifCond .eq 8, 3) := by decide +kernel
theorem eX10_ifFails_25 : decode (mB MX10_ifFails) 25 = .ok (.bipush (-5), 2) := by decide +kernel
theorem eX10_ifFails_27 : decode (mB MX10_ifFails) 27 = .ok (.goto 8, 3) := by decide +kernel
theorem eX10_ifFails_30 : decode (mB MX10_ifFails) 30 = .ok (.aload_n 0, 1) := by decide +kernel
theorem eX10_ifFails_31 : decode (mB MX10_ifFails) 31 = .ok (.iload_n 1, 1) := by decide +kernel
theorem eX10_ifFails_32 : decode (mB MX10_ifFails) 32 = .ok (.invokevirtual 435, 3) := by decide +kernel
theorem eX10_ifFails_35 : decode (mB MX10_ifFails) 35 = .ok (.ireturn, 1) := by decide +kernel
theorem eX10_worst_0 : decode (mB MX10_worst) 0 = .ok (.aload_n 0, 1) := by decide +kernel
theorem eX10_worst_1 : decode (mB MX10_worst) 1 = .ok (.iconst 0, 1) := by decide +kernel
theorem eX10_worst_2 : decode (mB MX10_worst) 2 = .ok (.putfield 1, 3) := by decide +kernel
theorem eX10_worst_5 : decode (mB MX10_worst) 5 = .ok (.iconst (-1), 1) := by decide +kernel
theorem eX10_worst_6 : decode (mB MX10_worst) 6 = .ok (.istore_n 1, 1) := by decide +kernel
theorem eX10_worst_7 : decode (mB MX10_worst) 7 = .ok (.iconst (-1), 1) := by decide +kernel
theorem eX10_worst_8 : decode (mB MX10_worst) 8 = .ok (.istore_n 2, 1) := by decide +kernel
theorem eX10_worst_9 : decode (mB MX10_worst) 9 = .ok (.iconst 0, 1) := by decide +kernel
theorem eX10_worst_10 : decode (mB MX10_worst) 10 = .ok (.istore_n 3, 1) := by decide +kernel
theorem eX10_worst_11 : decode (mB MX10_worst) 11 = .ok (.iload_n 3, 1) := by decide +kernel
theorem eX10_worst_12 : decode (mB MX10_worst) 12 = .ok (.aload_n 0, 1) := by decide +kernel
theorem eX10_worst_13 : decode (mB MX10_worst) 13 = .ok (.getfield 13, 3) := by decide +kernel
theorem eX10_worst_16 : decode (mB MX10_worst) 16 = .ok (.iconst 2, 1) := by decide +kernel
theorem eX10_worst_17 : decode (mB MX10_worst) 17 = .ok (.iaload, 1) := by decide +kernel
theorem eX10_worst_18 : decode (mB MX10_worst) 18 = .ok (.if_icmp .ge 41, 3) := by decide +kernel
theorem eX10_worst_21 : decode (mB MX10_worst) 21 = .ok (.aload_n 0, 1) := by decide +kernel
theorem eX10_worst_22 : decode (mB MX10_worst) 22 = .ok (.iload_n 3, 1) := by decide +kernel
theorem eX10_worst_23 : decode (mB MX10_worst) 23 = .ok (.invokevirtual 274, 3) := by decide +kernel
theorem eX10_worst_26 : decode (mB MX10_worst) 26 = .ok (.ifCond .eq 6, 3) := by decide +kernel
theorem eX10_worst_29 : decode (mB MX10_worst) 29 = .ok (.goto 24, 3) := by decide +kernel
theorem eX10_worst_32 : decode (mB MX10_worst) 32 = .ok (.aload_n 0, 1) := by decide +kernel
theorem eX10_worst_33 : decode (mB MX10_worst) 33 = .ok (.iload_n 3, 1) := by decide +kernel
theorem eX10_worst_34 : decode (mB MX10_worst) 34 = .ok (.invokevirtual 435, 3) := by decide +kernel
theorem eX10_worst_37 : decode (mB MX10_worst) 37 = .ok (.istore 4, 2) := by decide +kernel
theorem eX10_worst_39 : decode (mB MX10_worst) 39 = .ok (.iload 4, 2) := by decide +kernel
theorem eX10_worst_41 : decode (mB MX10_worst) 41 = .ok (.iload_n 2, 1) := by decide +kernel
theorem eX10_worst_42 : decode (mB MX10_worst) 42 = .ok (.if_icmp .gt 6, 3) := by decide +kernel
theorem eX10_worst_45 : decode (mB MX10_worst) 45 = .ok (.goto 8, 3) := by decide +kernel
theorem eX10_worst_48 : decode (mB MX10_worst) 48 = .ok (.iload_n 3, 1) := by decide +kernel
theorem eX10_worst_49 : decode (mB MX10_worst) 49 = .ok (.istore_n 1, 1) := by decide +kernel
theorem eX10_worst_50 : decode (mB MX10_worst) 50 = .ok (.iload 4, 2) := by decide +kernel
theorem eX10_worst_52 : decode (mB MX10_worst) 52 = .ok (.istore_n 2, 1) := by decide +kernel
theorem eX10_worst_53 : decode (mB MX10_worst) 53 = .ok (.iinc 3 1, 3) := by decide +kernel
theorem eX10_worst_56 : decode (mB MX10_worst) 56 = .ok (.goto (-45), 3) := by decide +kernel
theorem eX10_worst_59 : decode (mB MX10_worst) 59 = .ok (.iload_n 1, 1) := by decide +kernel
theorem eX10_worst_60 : decode (mB MX10_worst) 60 = .ok (.ireturn, 1) := by decide +kernel
theorem eX10_lostBy_0 : decode (mB MX10_lostBy) 0 = .ok (.aload_n 0, 1) := by decide +kernel
theorem eX10_lostBy_1 : decode (mB MX10_lostBy) 1 = .ok (.invokevirtual 304, 3) := by decide +kernel
theorem eX10_lostBy_4 : decode (mB MX10_lostBy) 4 = .ok (.aload_n 0, 1) := by decide +kernel
theorem eX10_lostBy_5 : decode (mB MX10_lostBy) 5 = .ok (.invokevirtual 284, 3) := by decide +kernel
theorem eX10_lostBy_8 : decode (mB MX10_lostBy) 8 = .ok (.aload_n 0, 1) := by decide +kernel
theorem eX10_lostBy_9 : decode (mB MX10_lostBy) 9 = .ok (.iload_n 1, 1) := by decide +kernel
theorem eX10_lostBy_10 : decode (mB MX10_lostBy) 10 = .ok (.invokevirtual 322, 3) := by decide +kernel
theorem eX10_lostBy_13 : decode (mB MX10_lostBy) 13 = .ok (.aload_n 0, 1) := by decide +kernel
theorem eX10_lostBy_14 : decode (mB MX10_lostBy) 14 = .ok (.iload_n 2, 1) := by decide +kernel
theorem eX10_lostBy_15 : decode (mB MX10_lostBy) 15 = .ok (.invokevirtual 322, 3) := by decide +kernel
theorem eX10_lostBy_18 : decode (mB MX10_lostBy) 18 = .ok (.aload_n 0, 1) := by decide +kernel
theorem eX10_lostBy_19 : decode (mB MX10_lostBy) 19 = .ok (.invokevirtual 325, 3) := by decide +kernel
theorem eX10_lostBy_22 : decode (mB MX10_lostBy) 22 = .ok (.istore_n 3, 1) := by decide +kernel
theorem eX10_lostBy_23 : decode (mB MX10_lostBy) 23 = .ok (.aload_n 0, 1) := by decide +kernel
theorem eX10_lostBy_24 : decode (mB MX10_lostBy) 24 = .ok (.invokevirtual 341, 3) := by decide +kernel
theorem eX10_lostBy_27 : decode (mB MX10_lostBy) 27 = .ok (.iload_n 3, 1) := by decide +kernel
theorem eX10_lostBy_28 : decode (mB MX10_lostBy) 28 = .ok (.ireturn, 1) := by decide +kernel
theorem eX10_two_0 : decode (mB MX10_two) 0 = .ok (.aload_n 0, 1) := by decide +kernel
theorem eX10_two_1 : decode (mB MX10_two) 1 = .ok (.iconst 0, 1) := by decide +kernel
theorem eX10_two_2 : decode (mB MX10_two) 2 = .ok (.putfield 1, 3) := by decide +kernel
theorem eX10_two_5 : decode (mB MX10_two) 5 = .ok (.aload_n 0, 1) := by decide +kernel
theorem eX10_two_6 : decode (mB MX10_two) 6 = .ok (.iload_n 1, 1) := by decide +kernel
theorem eX10_two_7 : decode (mB MX10_two) 7 = .ok (.i2l, 1) := by decide +kernel
theorem eX10_two_8 : decode (mB MX10_two) 8 = .ok (.invokevirtual 287, 3) := by decide +kernel
theorem eX10_two_11 : decode (mB MX10_two) 11 = .ok (.ifCond .eq 26, 3) := by decide +kernel
theorem eX10_two_14 : decode (mB MX10_two) 14 = .ok (.aload_n 0, 1) := by decide +kernel
theorem eX10_two_15 : decode (mB MX10_two) 15 = .ok (.iload_n 2, 1) := by decide +kernel
theorem eX10_two_16 : decode (mB MX10_two) 16 = .ok (.i2l, 1) := by decide +kernel
theorem eX10_two_17 : decode (mB MX10_two) 17 = .ok (.invokevirtual 287, 3) := by decide +kernel
theorem eX10_two_20 : decode (mB MX10_two) 20 = .ok (.ifCond .eq 17, 3) := by decide +kernel
theorem eX10_two_23 : decode (mB MX10_two) 23 = .ok (.iload_n 1, 1) := by decide +kernel
theorem eX10_two_24 : decode (mB MX10_two) 24 = .ok (.iload_n 2, 1) := by decide +kernel
theorem eX10_two_25 : decode (mB MX10_two) 25 = .ok (.if_icmp .eq 12, 3) := by decide +kernel
theorem eX10_two_28 : decode (mB MX10_two) 28 = .ok (.aload_n 0, 1) := by decide +kernel
theorem eX10_two_29 : decode (mB MX10_two) 29 = .ok (.iload_n 1, 1) := by decide +kernel
theorem eX10_two_30 : decode (mB MX10_two) 30 = .ok (.iload_n 2, 1) := by decide +kernel
theorem eX10_two_31 : decode (mB MX10_two) 31 = .ok (.invokevirtual 438, 3) := by decide +kernel
theorem eX10_two_34 : decode (mB MX10_two) 34 = .ok (.goto 5, 3) := by decide +kernel
theorem eX10_two_37 : decode (mB MX10_two) 37 = .ok (.bipush (-2), 2) := by decide +kernel
theorem eX10_two_39 : decode (mB MX10_two) 39 = .ok (.ireturn, 1) := by decide +kernel
theorem eX10_twos_0 : decode (mB MX10_twos) 0 = .ok (.aload_n 0, 1) := by decide +kernel
theorem eX10_twos_1 : decode (mB MX10_twos) 1 = .ok (.iconst 0, 1) := by decide +kernel
theorem eX10_twos_2 : decode (mB MX10_twos) 2 = .ok (.putfield 1, 3) := by decide +kernel
theorem eX10_twos_5 : decode (mB MX10_twos) 5 = .ok (.iload_n 1, 1) := by decide +kernel
theorem eX10_twos_6 : decode (mB MX10_twos) 6 = .ok (.i2l, 1) := by decide +kernel
theorem eX10_twos_7 : decode (mB MX10_twos) 7 = .ok (.lconst 0, 1) := by decide +kernel
theorem eX10_twos_8 : decode (mB MX10_twos) 8 = .ok (.ldc2_w 433, 3) := by decide +kernel
theorem eX10_twos_11 : decode (mB MX10_twos) 11 = .ok (.invokestatic 149, 3) := by decide +kernel
theorem eX10_twos_14 : decode (mB MX10_twos) 14 = .ok (.ifCond .ne 6, 3) := by decide +kernel
theorem eX10_twos_17 : decode (mB MX10_twos) 17 = .ok (.bipush (-2), 2) := by decide +kernel
theorem eX10_twos_19 : decode (mB MX10_twos) 19 = .ok (.ireturn, 1) := by decide +kernel
theorem eX10_twos_20 : decode (mB MX10_twos) 20 = .ok (.iconst 0, 1) := by decide +kernel
theorem eX10_twos_21 : decode (mB MX10_twos) 21 = .ok (.istore_n 2, 1) := by decide +kernel
theorem eX10_twos_22 : decode (mB MX10_twos) 22 = .ok (.iconst 0, 1) := by decide +kernel
theorem eX10_twos_23 : decode (mB MX10_twos) 23 = .ok (.istore_n 3, 1) := by decide +kernel
theorem eX10_twos_24 : decode (mB MX10_twos) 24 = .ok (.iconst (-1), 1) := by decide +kernel
theorem eX10_twos_25 : decode (mB MX10_twos) 25 = .ok (.istore 4, 2) := by decide +kernel
theorem eX10_twos_27 : decode (mB MX10_twos) 27 = .ok (.iconst (-1), 1) := by decide +kernel
theorem eX10_twos_28 : decode (mB MX10_twos) 28 = .ok (.istore 5, 2) := by decide +kernel
theorem eX10_twos_30 : decode (mB MX10_twos) 30 = .ok (.iconst 0, 1) := by decide +kernel
theorem eX10_twos_31 : decode (mB MX10_twos) 31 = .ok (.istore 6, 2) := by decide +kernel
theorem eX10_twos_33 : decode (mB MX10_twos) 33 = .ok (.iload 6, 2) := by decide +kernel
theorem eX10_twos_35 : decode (mB MX10_twos) 35 = .ok (.aload_n 0, 1) := by decide +kernel
theorem eX10_twos_36 : decode (mB MX10_twos) 36 = .ok (.getfield 13, 3) := by decide +kernel
theorem eX10_twos_39 : decode (mB MX10_twos) 39 = .ok (.iconst 2, 1) := by decide +kernel
theorem eX10_twos_40 : decode (mB MX10_twos) 40 = .ok (.iaload, 1) := by decide +kernel
theorem eX10_twos_41 : decode (mB MX10_twos) 41 = .ok (.if_icmp .ge 91, 3) := by decide +kernel
theorem eX10_twos_44 : decode (mB MX10_twos) 44 = .ok (.iconst 0, 1) := by decide +kernel
theorem eX10_twos_45 : decode (mB MX10_twos) 45 = .ok (.istore 7, 2) := by decide +kernel
theorem eX10_twos_47 : decode (mB MX10_twos) 47 = .ok (.iload 7, 2) := by decide +kernel
theorem eX10_twos_49 : decode (mB MX10_twos) 49 = .ok (.aload_n 0, 1) := by decide +kernel
theorem eX10_twos_50 : decode (mB MX10_twos) 50 = .ok (.getfield 13, 3) := by decide +kernel
theorem eX10_twos_53 : decode (mB MX10_twos) 53 = .ok (.iconst 2, 1) := by decide +kernel
theorem eX10_twos_54 : decode (mB MX10_twos) 54 = .ok (.iaload, 1) := by decide +kernel
theorem eX10_twos_55 : decode (mB MX10_twos) 55 = .ok (.if_icmp .ge 71, 3) := by decide +kernel
theorem eX10_twos_58 : decode (mB MX10_twos) 58 = .ok (.iload 6, 2) := by decide +kernel
theorem eX10_twos_60 : decode (mB MX10_twos) 60 = .ok (.iload 7, 2) := by decide +kernel
theorem eX10_twos_62 : decode (mB MX10_twos) 62 = .ok (.if_icmp .ne 6, 3) := by decide +kernel
theorem eX10_twos_65 : decode (mB MX10_twos) 65 = .ok (.goto 55, 3) := by decide +kernel
theorem eX10_twos_68 : decode (mB MX10_twos) 68 = .ok (.aload_n 0, 1) := by decide +kernel
theorem eX10_twos_69 : decode (mB MX10_twos) 69 = .ok (.iload 6, 2) := by decide +kernel
theorem eX10_twos_71 : decode (mB MX10_twos) 71 = .ok (.iload 7, 2) := by decide +kernel
theorem eX10_twos_73 : decode (mB MX10_twos) 73 = .ok (.invokevirtual 438, 3) := by decide +kernel
theorem eX10_twos_76 : decode (mB MX10_twos) 76 = .ok (.istore 8, 2) := by decide +kernel
theorem eX10_twos_78 : decode (mB MX10_twos) 78 = .ok (.iload_n 2, 1) := by decide +kernel
theorem eX10_twos_79 : decode (mB MX10_twos) 79 = .ok (.iload 8, 2) := by decide +kernel
theorem eX10_twos_81 : decode (mB MX10_twos) 81 = .ok (.iadd, 1) := by decide +kernel
theorem eX10_twos_82 : decode (mB MX10_twos) 82 = .ok (.istore_n 2, 1) := by decide +kernel
theorem eX10_twos_83 : decode (mB MX10_twos) 83 = .ok (.iload_n 3, 1) := by decide +kernel
theorem eX10_twos_84 : decode (mB MX10_twos) 84 = .ok (.iload 8, 2) := by decide +kernel
theorem eX10_twos_86 : decode (mB MX10_twos) 86 = .ok (.ifCond .le 7, 3) := by decide +kernel
theorem eX10_twos_89 : decode (mB MX10_twos) 89 = .ok (.iconst 1, 1) := by decide +kernel
theorem eX10_twos_90 : decode (mB MX10_twos) 90 = .ok (.goto 4, 3) := by decide +kernel
theorem eX10_twos_93 : decode (mB MX10_twos) 93 = .ok (.iconst 0, 1) := by decide +kernel
theorem eX10_twos_94 : decode (mB MX10_twos) 94 = .ok (.iadd, 1) := by decide +kernel
theorem eX10_twos_95 : decode (mB MX10_twos) 95 = .ok (.istore_n 3, 1) := by decide +kernel
theorem eX10_twos_96 : decode (mB MX10_twos) 96 = .ok (.iload 8, 2) := by decide +kernel
theorem eX10_twos_98 : decode (mB MX10_twos) 98 = .ok (.iload 5, 2) := by decide +kernel
theorem eX10_twos_100 : decode (mB MX10_twos) 100 = .ok (.if_icmp .gt 6, 3) := by decide +kernel
theorem eX10_twos_103 : decode (mB MX10_twos) 103 = .ok (.goto 17, 3) := by decide +kernel
theorem eX10_twos_106 : decode (mB MX10_twos) 106 = .ok (.bipush 10, 2) := by decide +kernel
theorem eX10_twos_108 : decode (mB MX10_twos) 108 = .ok (.iload 6, 2) := by decide +kernel
theorem eX10_twos_110 : decode (mB MX10_twos) 110 = .ok (.imul, 1) := by decide +kernel
theorem eX10_twos_111 : decode (mB MX10_twos) 111 = .ok (.iload 7, 2) := by decide +kernel
theorem eX10_twos_113 : decode (mB MX10_twos) 113 = .ok (.iadd, 1) := by decide +kernel
theorem eX10_twos_114 : decode (mB MX10_twos) 114 = .ok (.istore 4, 2) := by decide +kernel
theorem eX10_twos_116 : decode (mB MX10_twos) 116 = .ok (.iload 8, 2) := by decide +kernel
theorem eX10_twos_118 : decode (mB MX10_twos) 118 = .ok (.istore 5, 2) := by decide +kernel
theorem eX10_twos_120 : decode (mB MX10_twos) 120 = .ok (.iinc 7 1, 3) := by decide +kernel
theorem eX10_twos_123 : decode (mB MX10_twos) 123 = .ok (.goto (-76), 3) := by decide +kernel
theorem eX10_twos_126 : decode (mB MX10_twos) 126 = .ok (.iinc 6 1, 3) := by decide +kernel
theorem eX10_twos_129 : decode (mB MX10_twos) 129 = .ok (.goto (-96), 3) := by decide +kernel
theorem eX10_twos_132 : decode (mB MX10_twos) 132 = .ok (.iload_n 1, 1) := by decide +kernel
theorem eX10_twos_133 : decode (mB MX10_twos) 133 = .ok (.ifCond .ne 7, 3) := by decide +kernel
theorem eX10_twos_136 : decode (mB MX10_twos) 136 = .ok (.iload_n 2, 1) := by decide +kernel
theorem eX10_twos_137 : decode (mB MX10_twos) 137 = .ok (.goto 14, 3) := by decide +kernel
theorem eX10_twos_140 : decode (mB MX10_twos) 140 = .ok (.iload_n 1, 1) := by decide +kernel
theorem eX10_twos_141 : decode (mB MX10_twos) 141 = .ok (.iconst 1, 1) := by decide +kernel
theorem eX10_twos_142 : decode (mB MX10_twos) 142 = .ok (.if_icmp .ne 7, 3) := by decide +kernel
theorem eX10_twos_145 : decode (mB MX10_twos) 145 = .ok (.iload_n 3, 1) := by decide +kernel
theorem eX10_twos_146 : decode (mB MX10_twos) 146 = .ok (.goto 5, 3) := by decide +kernel
theorem eX10_twos_149 : decode (mB MX10_twos) 149 = .ok (.iload 4, 2) := by decide +kernel
theorem eX10_twos_151 : decode (mB MX10_twos) 151 = .ok (.ireturn, 1) := by decide +kernel
theorem eX10_stands_0 : decode (mB MX10_stands) 0 = .ok (.aload_n 0, 1) := by decide +kernel
theorem eX10_stands_1 : decode (mB MX10_stands) 1 = .ok (.iconst 0, 1) := by decide +kernel
theorem eX10_stands_2 : decode (mB MX10_stands) 2 = .ok (.putfield 1, 3) := by decide +kernel
theorem eX10_stands_5 : decode (mB MX10_stands) 5 = .ok (.aload_n 0, 1) := by decide +kernel
theorem eX10_stands_6 : decode (mB MX10_stands) 6 = .ok (.invokevirtual 304, 3) := by decide +kernel
theorem eX10_stands_9 : decode (mB MX10_stands) 9 = .ok (.aload_n 0, 1) := by decide +kernel
theorem eX10_stands_10 : decode (mB MX10_stands) 10 = .ok (.invokevirtual 284, 3) := by decide +kernel
theorem eX10_stands_13 : decode (mB MX10_stands) 13 = .ok (.iconst 0, 1) := by decide +kernel
theorem eX10_stands_14 : decode (mB MX10_stands) 14 = .ok (.istore_n 1, 1) := by decide +kernel
theorem eX10_stands_15 : decode (mB MX10_stands) 15 = .ok (.iload_n 1, 1) := by decide +kernel
theorem eX10_stands_16 : decode (mB MX10_stands) 16 = .ok (.aload_n 0, 1) := by decide +kernel
theorem eX10_stands_17 : decode (mB MX10_stands) 17 = .ok (.getfield 13, 3) := by decide +kernel
theorem eX10_stands_20 : decode (mB MX10_stands) 20 = .ok (.iconst 2, 1) := by decide +kernel
theorem eX10_stands_21 : decode (mB MX10_stands) 21 = .ok (.iaload, 1) := by decide +kernel
theorem eX10_stands_22 : decode (mB MX10_stands) 22 = .ok (.if_icmp .ge 21, 3) := by decide +kernel
theorem eX10_stands_25 : decode (mB MX10_stands) 25 = .ok (.aload_n 0, 1) := by decide +kernel
theorem eX10_stands_26 : decode (mB MX10_stands) 26 = .ok (.invokevirtual 325, 3) := by decide +kernel
theorem eX10_stands_29 : decode (mB MX10_stands) 29 = .ok (.ifCond .ne 14, 3) := by decide +kernel
theorem eX10_stands_32 : decode (mB MX10_stands) 32 = .ok (.aload_n 0, 1) := by decide +kernel
theorem eX10_stands_33 : decode (mB MX10_stands) 33 = .ok (.iload_n 1, 1) := by decide +kernel
theorem eX10_stands_34 : decode (mB MX10_stands) 34 = .ok (.invokevirtual 322, 3) := by decide +kernel
theorem eX10_stands_37 : decode (mB MX10_stands) 37 = .ok (.iinc 1 1, 3) := by decide +kernel
theorem eX10_stands_40 : decode (mB MX10_stands) 40 = .ok (.goto (-25), 3) := by decide +kernel
theorem eX10_stands_43 : decode (mB MX10_stands) 43 = .ok (.aload_n 0, 1) := by decide +kernel
theorem eX10_stands_44 : decode (mB MX10_stands) 44 = .ok (.invokevirtual 325, 3) := by decide +kernel
theorem eX10_stands_47 : decode (mB MX10_stands) 47 = .ok (.ifCond .le 7, 3) := by decide +kernel
theorem eX10_stands_50 : decode (mB MX10_stands) 50 = .ok (.iconst 1, 1) := by decide +kernel
theorem eX10_stands_51 : decode (mB MX10_stands) 51 = .ok (.goto 4, 3) := by decide +kernel
theorem eX10_stands_54 : decode (mB MX10_stands) 54 = .ok (.iconst 0, 1) := by decide +kernel
theorem eX10_stands_55 : decode (mB MX10_stands) 55 = .ok (.istore_n 2, 1) := by decide +kernel
theorem eX10_stands_56 : decode (mB MX10_stands) 56 = .ok (.aload_n 0, 1) := by decide +kernel
theorem eX10_stands_57 : decode (mB MX10_stands) 57 = .ok (.invokevirtual 341, 3) := by decide +kernel
theorem eX10_stands_60 : decode (mB MX10_stands) 60 = .ok (.iload_n 2, 1) := by decide +kernel
theorem eX10_stands_61 : decode (mB MX10_stands) 61 = .ok (.ifCond .eq 7, 3) := by decide +kernel
theorem eX10_stands_64 : decode (mB MX10_stands) 64 = .ok (.iload_n 1, 1) := by decide +kernel
theorem eX10_stands_65 : decode (mB MX10_stands) 65 = .ok (.goto 4, 3) := by decide +kernel
theorem eX10_stands_68 : decode (mB MX10_stands) 68 = .ok (.iconst (-1), 1) := by decide +kernel
theorem eX10_stands_69 : decode (mB MX10_stands) 69 = .ok (.ireturn, 1) := by decide +kernel
theorem eX10_rings_0 : decode (mB MX10_rings) 0 = .ok (.aload_n 0, 1) := by decide +kernel
theorem eX10_rings_1 : decode (mB MX10_rings) 1 = .ok (.iconst 0, 1) := by decide +kernel
theorem eX10_rings_2 : decode (mB MX10_rings) 2 = .ok (.putfield 1, 3) := by decide +kernel
theorem eX10_rings_5 : decode (mB MX10_rings) 5 = .ok (.aload_n 0, 1) := by decide +kernel
theorem eX10_rings_6 : decode (mB MX10_rings) 6 = .ok (.getfield 216, 3) := by decide +kernel
theorem eX10_rings_9 : decode (mB MX10_rings) 9 = .ok (.ireturn, 1) := by decide +kernel
theorem eX10_bare_0 : decode (mB MX10_bare) 0 = .ok (.aload_n 0, 1) := by decide +kernel
theorem eX10_bare_1 : decode (mB MX10_bare) 1 = .ok (.iconst 0, 1) := by decide +kernel
theorem eX10_bare_2 : decode (mB MX10_bare) 2 = .ok (.putfield 1, 3) := by decide +kernel
theorem eX10_bare_5 : decode (mB MX10_bare) 5 = .ok (.iconst 1, 1) := by decide +kernel
theorem eX10_bare_6 : decode (mB MX10_bare) 6 = .ok (.aload_n 0, 1) := by decide +kernel
theorem eX10_bare_7 : decode (mB MX10_bare) 7 = .ok (.getfield 13, 3) := by decide +kernel
theorem eX10_bare_10 : decode (mB MX10_bare) 10 = .ok (.iconst 2, 1) := by decide +kernel
theorem eX10_bare_11 : decode (mB MX10_bare) 11 = .ok (.iaload, 1) := by decide +kernel
theorem eX10_bare_12 : decode (mB MX10_bare) 12 = .ok (.ishl, 1) := by decide +kernel
theorem eX10_bare_13 : decode (mB MX10_bare) 13 = .ok (.iconst 1, 1) := by decide +kernel
theorem eX10_bare_14 : decode (mB MX10_bare) 14 = .ok (.isub, 1) := by decide +kernel
theorem eX10_bare_15 : decode (mB MX10_bare) 15 = .ok (.istore_n 1, 1) := by decide +kernel
theorem eX10_bare_16 : decode (mB MX10_bare) 16 = .ok (.iconst 0, 1) := by decide +kernel
theorem eX10_bare_17 : decode (mB MX10_bare) 17 = .ok (.istore_n 2, 1) := by decide +kernel
theorem eX10_bare_18 : decode (mB MX10_bare) 18 = .ok (.iload_n 2, 1) := by decide +kernel
theorem eX10_bare_19 : decode (mB MX10_bare) 19 = .ok (.aload_n 0, 1) := by decide +kernel
theorem eX10_bare_20 : decode (mB MX10_bare) 20 = .ok (.getfield 216, 3) := by decide +kernel
theorem eX10_bare_23 : decode (mB MX10_bare) 23 = .ok (.if_icmp .ge 27, 3) := by decide +kernel
theorem eX10_bare_26 : decode (mB MX10_bare) 26 = .ok (.iload_n 1, 1) := by decide +kernel
theorem eX10_bare_27 : decode (mB MX10_bare) 27 = .ok (.aload_n 0, 1) := by decide +kernel
theorem eX10_bare_28 : decode (mB MX10_bare) 28 = .ok (.getfield 36, 3) := by decide +kernel
theorem eX10_bare_31 : decode (mB MX10_bare) 31 = .ok (.iload_n 2, 1) := by decide +kernel
theorem eX10_bare_32 : decode (mB MX10_bare) 32 = .ok (.iaload, 1) := by decide +kernel
theorem eX10_bare_33 : decode (mB MX10_bare) 33 = .ok (.aload_n 0, 1) := by decide +kernel
theorem eX10_bare_34 : decode (mB MX10_bare) 34 = .ok (.getfield 39, 3) := by decide +kernel
theorem eX10_bare_37 : decode (mB MX10_bare) 37 = .ok (.iload_n 2, 1) := by decide +kernel
theorem eX10_bare_38 : decode (mB MX10_bare) 38 = .ok (.iaload, 1) := by decide +kernel
theorem eX10_bare_39 : decode (mB MX10_bare) 39 = .ok (.ior, 1) := by decide +kernel
theorem eX10_bare_40 : decode (mB MX10_bare) 40 = .ok (.iconst (-1), 1) := by decide +kernel
theorem eX10_bare_41 : decode (mB MX10_bare) 41 = .ok (.ixor, 1) := by decide +kernel
theorem eX10_bare_42 : decode (mB MX10_bare) 42 = .ok (.iand, 1) := by decide +kernel
theorem eX10_bare_43 : decode (mB MX10_bare) 43 = .ok (.istore_n 1, 1) := by decide +kernel
theorem eX10_bare_44 : decode (mB MX10_bare) 44 = .ok (.iinc 2 1, 3) := by decide +kernel
theorem eX10_bare_47 : decode (mB MX10_bare) 47 = .ok (.goto (-29), 3) := by decide +kernel
theorem eX10_bare_50 : decode (mB MX10_bare) 50 = .ok (.iload_n 1, 1) := by decide +kernel
theorem eX10_bare_51 : decode (mB MX10_bare) 51 = .ok (.ireturn, 1) := by decide +kernel
theorem eX10_comesTo_0 : decode (mB MX10_comesTo) 0 = .ok (.iconst 1, 1) := by decide +kernel
theorem eX10_comesTo_1 : decode (mB MX10_comesTo) 1 = .ok (.iload_n 1, 1) := by decide +kernel
theorem eX10_comesTo_2 : decode (mB MX10_comesTo) 2 = .ok (.ishl, 1) := by decide +kernel
theorem eX10_comesTo_3 : decode (mB MX10_comesTo) 3 = .ok (.istore_n 3, 1) := by decide +kernel
theorem eX10_comesTo_4 : decode (mB MX10_comesTo) 4 = .ok (.iconst 0, 1) := by decide +kernel
theorem eX10_comesTo_5 : decode (mB MX10_comesTo) 5 = .ok (.istore 4, 2) := by decide +kernel
theorem eX10_comesTo_7 : decode (mB MX10_comesTo) 7 = .ok (.iload 4, 2) := by decide +kernel
theorem eX10_comesTo_9 : decode (mB MX10_comesTo) 9 = .ok (.bipush 8, 2) := by decide +kernel
theorem eX10_comesTo_11 : decode (mB MX10_comesTo) 11 = .ok (.if_icmp .ge 59, 3) := by decide +kernel
theorem eX10_comesTo_14 : decode (mB MX10_comesTo) 14 = .ok (.iconst 0, 1) := by decide +kernel
theorem eX10_comesTo_15 : decode (mB MX10_comesTo) 15 = .ok (.istore 5, 2) := by decide +kernel
theorem eX10_comesTo_17 : decode (mB MX10_comesTo) 17 = .ok (.iload 5, 2) := by decide +kernel
theorem eX10_comesTo_19 : decode (mB MX10_comesTo) 19 = .ok (.aload_n 0, 1) := by decide +kernel
theorem eX10_comesTo_20 : decode (mB MX10_comesTo) 20 = .ok (.getfield 13, 3) := by decide +kernel
theorem eX10_comesTo_23 : decode (mB MX10_comesTo) 23 = .ok (.iconst 2, 1) := by decide +kernel
theorem eX10_comesTo_24 : decode (mB MX10_comesTo) 24 = .ok (.iaload, 1) := by decide +kernel
theorem eX10_comesTo_25 : decode (mB MX10_comesTo) 25 = .ok (.if_icmp .ge 39, 3) := by decide +kernel
theorem eX10_comesTo_28 : decode (mB MX10_comesTo) 28 = .ok (.iload_n 2, 1) := by decide +kernel
theorem eX10_comesTo_29 : decode (mB MX10_comesTo) 29 = .ok (.i2l, 1) := by decide +kernel
theorem eX10_comesTo_30 : decode (mB MX10_comesTo) 30 = .ok (.iload 5, 2) := by decide +kernel
theorem eX10_comesTo_32 : decode (mB MX10_comesTo) 32 = .ok (.invokestatic 232, 3) := by decide +kernel
theorem eX10_comesTo_35 : decode (mB MX10_comesTo) 35 = .ok (.ifCond .ne 23, 3) := by decide +kernel
theorem eX10_comesTo_38 : decode (mB MX10_comesTo) 38 = .ok (.iload_n 3, 1) := by decide +kernel
theorem eX10_comesTo_39 : decode (mB MX10_comesTo) 39 = .ok (.aload_n 0, 1) := by decide +kernel
theorem eX10_comesTo_40 : decode (mB MX10_comesTo) 40 = .ok (.iload 5, 2) := by decide +kernel
theorem eX10_comesTo_42 : decode (mB MX10_comesTo) 42 = .ok (.invokevirtual 236, 3) := by decide +kernel
theorem eX10_comesTo_45 : decode (mB MX10_comesTo) 45 = .ok (.iand, 1) := by decide +kernel
theorem eX10_comesTo_46 : decode (mB MX10_comesTo) 46 = .ok (.ifCond .eq 12, 3) := by decide +kernel
theorem eX10_comesTo_49 : decode (mB MX10_comesTo) 49 = .ok (.iload_n 3, 1) := by decide +kernel
theorem eX10_comesTo_50 : decode (mB MX10_comesTo) 50 = .ok (.aload_n 0, 1) := by decide +kernel
theorem eX10_comesTo_51 : decode (mB MX10_comesTo) 51 = .ok (.iload 5, 2) := by decide +kernel
theorem eX10_comesTo_53 : decode (mB MX10_comesTo) 53 = .ok (.invokevirtual 236, 3) := by decide +kernel
theorem eX10_comesTo_56 : decode (mB MX10_comesTo) 56 = .ok (.ior, 1) := by decide +kernel
theorem eX10_comesTo_57 : decode (mB MX10_comesTo) 57 = .ok (.istore_n 3, 1) := by decide +kernel
theorem eX10_comesTo_58 : decode (mB MX10_comesTo) 58 = .ok (.iinc 5 1, 3) := by decide +kernel
theorem eX10_comesTo_61 : decode (mB MX10_comesTo) 61 = .ok (.goto (-44), 3) := by decide +kernel
theorem eX10_comesTo_64 : decode (mB MX10_comesTo) 64 = .ok (.iinc 4 1, 3) := by decide +kernel
theorem eX10_comesTo_67 : decode (mB MX10_comesTo) 67 = .ok (.goto (-60), 3) := by decide +kernel
theorem eX10_comesTo_70 : decode (mB MX10_comesTo) 70 = .ok (.iload_n 3, 1) := by decide +kernel
theorem eX10_comesTo_71 : decode (mB MX10_comesTo) 71 = .ok (.ireturn, 1) := by decide +kernel
theorem eX10_bridges_0 : decode (mB MX10_bridges) 0 = .ok (.aload_n 0, 1) := by decide +kernel
theorem eX10_bridges_1 : decode (mB MX10_bridges) 1 = .ok (.iconst 0, 1) := by decide +kernel
theorem eX10_bridges_2 : decode (mB MX10_bridges) 2 = .ok (.putfield 1, 3) := by decide +kernel
theorem eX10_bridges_5 : decode (mB MX10_bridges) 5 = .ok (.iconst 0, 1) := by decide +kernel
theorem eX10_bridges_6 : decode (mB MX10_bridges) 6 = .ok (.istore_n 1, 1) := by decide +kernel
theorem eX10_bridges_7 : decode (mB MX10_bridges) 7 = .ok (.iconst 0, 1) := by decide +kernel
theorem eX10_bridges_8 : decode (mB MX10_bridges) 8 = .ok (.istore_n 2, 1) := by decide +kernel
theorem eX10_bridges_9 : decode (mB MX10_bridges) 9 = .ok (.iload_n 2, 1) := by decide +kernel
theorem eX10_bridges_10 : decode (mB MX10_bridges) 10 = .ok (.aload_n 0, 1) := by decide +kernel
theorem eX10_bridges_11 : decode (mB MX10_bridges) 11 = .ok (.getfield 13, 3) := by decide +kernel
theorem eX10_bridges_14 : decode (mB MX10_bridges) 14 = .ok (.iconst 2, 1) := by decide +kernel
theorem eX10_bridges_15 : decode (mB MX10_bridges) 15 = .ok (.iaload, 1) := by decide +kernel
theorem eX10_bridges_16 : decode (mB MX10_bridges) 16 = .ok (.if_icmp .ge 45, 3) := by decide +kernel
theorem eX10_bridges_19 : decode (mB MX10_bridges) 19 = .ok (.iload_n 1, 1) := by decide +kernel
theorem eX10_bridges_20 : decode (mB MX10_bridges) 20 = .ok (.aload_n 0, 1) := by decide +kernel
theorem eX10_bridges_21 : decode (mB MX10_bridges) 21 = .ok (.aload_n 0, 1) := by decide +kernel
theorem eX10_bridges_22 : decode (mB MX10_bridges) 22 = .ok (.iload_n 2, 1) := by decide +kernel
theorem eX10_bridges_23 : decode (mB MX10_bridges) 23 = .ok (.iconst 0, 1) := by decide +kernel
theorem eX10_bridges_24 : decode (mB MX10_bridges) 24 = .ok (.invokevirtual 219, 3) := by decide +kernel
theorem eX10_bridges_27 : decode (mB MX10_bridges) 27 = .ok (.iconst 1, 1) := by decide +kernel
theorem eX10_bridges_28 : decode (mB MX10_bridges) 28 = .ok (.iload_n 2, 1) := by decide +kernel
theorem eX10_bridges_29 : decode (mB MX10_bridges) 29 = .ok (.ishl, 1) := by decide +kernel
theorem eX10_bridges_30 : decode (mB MX10_bridges) 30 = .ok (.invokevirtual 441, 3) := by decide +kernel
theorem eX10_bridges_33 : decode (mB MX10_bridges) 33 = .ok (.i2l, 1) := by decide +kernel
theorem eX10_bridges_34 : decode (mB MX10_bridges) 34 = .ok (.aload_n 0, 1) := by decide +kernel
theorem eX10_bridges_35 : decode (mB MX10_bridges) 35 = .ok (.iload_n 2, 1) := by decide +kernel
theorem eX10_bridges_36 : decode (mB MX10_bridges) 36 = .ok (.iconst 1, 1) := by decide +kernel
theorem eX10_bridges_37 : decode (mB MX10_bridges) 37 = .ok (.invokevirtual 219, 3) := by decide +kernel
theorem eX10_bridges_40 : decode (mB MX10_bridges) 40 = .ok (.invokestatic 232, 3) := by decide +kernel
theorem eX10_bridges_43 : decode (mB MX10_bridges) 43 = .ok (.ifCond .eq 7, 3) := by decide +kernel
theorem eX10_bridges_46 : decode (mB MX10_bridges) 46 = .ok (.iconst 0, 1) := by decide +kernel
theorem eX10_bridges_47 : decode (mB MX10_bridges) 47 = .ok (.goto 6, 3) := by decide +kernel
theorem eX10_bridges_50 : decode (mB MX10_bridges) 50 = .ok (.iconst 1, 1) := by decide +kernel
theorem eX10_bridges_51 : decode (mB MX10_bridges) 51 = .ok (.iload_n 2, 1) := by decide +kernel
theorem eX10_bridges_52 : decode (mB MX10_bridges) 52 = .ok (.ishl, 1) := by decide +kernel
theorem eX10_bridges_53 : decode (mB MX10_bridges) 53 = .ok (.ior, 1) := by decide +kernel
theorem eX10_bridges_54 : decode (mB MX10_bridges) 54 = .ok (.istore_n 1, 1) := by decide +kernel
theorem eX10_bridges_55 : decode (mB MX10_bridges) 55 = .ok (.iinc 2 1, 3) := by decide +kernel
theorem eX10_bridges_58 : decode (mB MX10_bridges) 58 = .ok (.goto (-49), 3) := by decide +kernel
theorem eX10_bridges_61 : decode (mB MX10_bridges) 61 = .ok (.iload_n 1, 1) := by decide +kernel
theorem eX10_bridges_62 : decode (mB MX10_bridges) 62 = .ok (.ireturn, 1) := by decide +kernel
theorem eX10_cut_0 : decode (mB MX10_cut) 0 = .ok (.aload_n 0, 1) := by decide +kernel
theorem eX10_cut_1 : decode (mB MX10_cut) 1 = .ok (.iconst 0, 1) := by decide +kernel
theorem eX10_cut_2 : decode (mB MX10_cut) 2 = .ok (.putfield 1, 3) := by decide +kernel
theorem eX10_cut_5 : decode (mB MX10_cut) 5 = .ok (.iload_n 1, 1) := by decide +kernel
theorem eX10_cut_6 : decode (mB MX10_cut) 6 = .ok (.i2l, 1) := by decide +kernel
theorem eX10_cut_7 : decode (mB MX10_cut) 7 = .ok (.lconst 0, 1) := by decide +kernel
theorem eX10_cut_8 : decode (mB MX10_cut) 8 = .ok (.aload_n 0, 1) := by decide +kernel
theorem eX10_cut_9 : decode (mB MX10_cut) 9 = .ok (.getfield 13, 3) := by decide +kernel
theorem eX10_cut_12 : decode (mB MX10_cut) 12 = .ok (.iconst 1, 1) := by decide +kernel
theorem eX10_cut_13 : decode (mB MX10_cut) 13 = .ok (.iaload, 1) := by decide +kernel
theorem eX10_cut_14 : decode (mB MX10_cut) 14 = .ok (.iconst 1, 1) := by decide +kernel
theorem eX10_cut_15 : decode (mB MX10_cut) 15 = .ok (.isub, 1) := by decide +kernel
theorem eX10_cut_16 : decode (mB MX10_cut) 16 = .ok (.i2l, 1) := by decide +kernel
theorem eX10_cut_17 : decode (mB MX10_cut) 17 = .ok (.invokestatic 149, 3) := by decide +kernel
theorem eX10_cut_20 : decode (mB MX10_cut) 20 = .ok (.ifCond .eq 31, 3) := by decide +kernel
theorem eX10_cut_23 : decode (mB MX10_cut) 23 = .ok (.iload_n 2, 1) := by decide +kernel
theorem eX10_cut_24 : decode (mB MX10_cut) 24 = .ok (.i2l, 1) := by decide +kernel
theorem eX10_cut_25 : decode (mB MX10_cut) 25 = .ok (.lconst 0, 1) := by decide +kernel
theorem eX10_cut_26 : decode (mB MX10_cut) 26 = .ok (.aload_n 0, 1) := by decide +kernel
theorem eX10_cut_27 : decode (mB MX10_cut) 27 = .ok (.getfield 13, 3) := by decide +kernel
theorem eX10_cut_30 : decode (mB MX10_cut) 30 = .ok (.iconst 1, 1) := by decide +kernel
theorem eX10_cut_31 : decode (mB MX10_cut) 31 = .ok (.iaload, 1) := by decide +kernel
theorem eX10_cut_32 : decode (mB MX10_cut) 32 = .ok (.iconst 1, 1) := by decide +kernel
theorem eX10_cut_33 : decode (mB MX10_cut) 33 = .ok (.isub, 1) := by decide +kernel
theorem eX10_cut_34 : decode (mB MX10_cut) 34 = .ok (.i2l, 1) := by decide +kernel
theorem eX10_cut_35 : decode (mB MX10_cut) 35 = .ok (.invokestatic 149, 3) := by decide +kernel
theorem eX10_cut_38 : decode (mB MX10_cut) 38 = .ok (.ifCond .eq 13, 3) := by decide +kernel
theorem eX10_cut_41 : decode (mB MX10_cut) 41 = .ok (.iload_n 3, 1) := by decide +kernel
theorem eX10_cut_42 : decode (mB MX10_cut) 42 = .ok (.i2l, 1) := by decide +kernel
theorem eX10_cut_43 : decode (mB MX10_cut) 43 = .ok (.lconst 0, 1) := by decide +kernel
theorem eX10_cut_44 : decode (mB MX10_cut) 44 = .ok (.lconst 1, 1) := by decide +kernel
theorem eX10_cut_45 : decode (mB MX10_cut) 45 = .ok (.invokestatic 149, 3) := by decide +kernel
theorem eX10_cut_48 : decode (mB MX10_cut) 48 = .ok (.ifCond .ne 6, 3) := by decide +kernel
theorem eX10_cut_51 : decode (mB MX10_cut) 51 = .ok (.bipush (-2), 2) := by decide +kernel
theorem eX10_cut_53 : decode (mB MX10_cut) 53 = .ok (.ireturn, 1) := by decide +kernel
theorem eX10_cut_54 : decode (mB MX10_cut) 54 = .ok (.iload_n 1, 1) := by decide +kernel
theorem eX10_cut_55 : decode (mB MX10_cut) 55 = .ok (.iload_n 2, 1) := by decide +kernel
theorem eX10_cut_56 : decode (mB MX10_cut) 56 = .ok (.if_icmp .ne 5, 3) := by decide +kernel
theorem eX10_cut_59 : decode (mB MX10_cut) 59 = .ok (.iconst (-1), 1) := by decide +kernel
theorem eX10_cut_60 : decode (mB MX10_cut) 60 = .ok (.ireturn, 1) := by decide +kernel
theorem eX10_cut_61 : decode (mB MX10_cut) 61 = .ok (.iconst 1, 1) := by decide +kernel
theorem eX10_cut_62 : decode (mB MX10_cut) 62 = .ok (.aload_n 0, 1) := by decide +kernel
theorem eX10_cut_63 : decode (mB MX10_cut) 63 = .ok (.getfield 13, 3) := by decide +kernel
theorem eX10_cut_66 : decode (mB MX10_cut) 66 = .ok (.iconst 2, 1) := by decide +kernel
theorem eX10_cut_67 : decode (mB MX10_cut) 67 = .ok (.iaload, 1) := by decide +kernel
theorem eX10_cut_68 : decode (mB MX10_cut) 68 = .ok (.ishl, 1) := by decide +kernel
theorem eX10_cut_69 : decode (mB MX10_cut) 69 = .ok (.iconst 1, 1) := by decide +kernel
theorem eX10_cut_70 : decode (mB MX10_cut) 70 = .ok (.isub, 1) := by decide +kernel
theorem eX10_cut_71 : decode (mB MX10_cut) 71 = .ok (.istore 4, 2) := by decide +kernel
theorem eX10_cut_73 : decode (mB MX10_cut) 73 = .ok (.iload 4, 2) := by decide +kernel
theorem eX10_cut_75 : decode (mB MX10_cut) 75 = .ok (.istore 5, 2) := by decide +kernel
theorem eX10_cut_77 : decode (mB MX10_cut) 77 = .ok (.iload 5, 2) := by decide +kernel
theorem eX10_cut_79 : decode (mB MX10_cut) 79 = .ok (.ifCond .lt 41, 3) := by decide +kernel
theorem eX10_cut_82 : decode (mB MX10_cut) 82 = .ok (.iload 5, 2) := by decide +kernel
theorem eX10_cut_84 : decode (mB MX10_cut) 84 = .ok (.invokestatic 229, 3) := by decide +kernel
theorem eX10_cut_87 : decode (mB MX10_cut) 87 = .ok (.iload 4, 2) := by decide +kernel
theorem eX10_cut_89 : decode (mB MX10_cut) 89 = .ok (.invokestatic 229, 3) := by decide +kernel
theorem eX10_cut_92 : decode (mB MX10_cut) 92 = .ok (.if_icmp .gt 22, 3) := by decide +kernel
theorem eX10_cut_95 : decode (mB MX10_cut) 95 = .ok (.aload_n 0, 1) := by decide +kernel
theorem eX10_cut_96 : decode (mB MX10_cut) 96 = .ok (.iload_n 1, 1) := by decide +kernel
theorem eX10_cut_97 : decode (mB MX10_cut) 97 = .ok (.iload 5, 2) := by decide +kernel
theorem eX10_cut_99 : decode (mB MX10_cut) 99 = .ok (.invokevirtual 441, 3) := by decide +kernel
theorem eX10_cut_102 : decode (mB MX10_cut) 102 = .ok (.i2l, 1) := by decide +kernel
theorem eX10_cut_103 : decode (mB MX10_cut) 103 = .ok (.iload_n 2, 1) := by decide +kernel
theorem eX10_cut_104 : decode (mB MX10_cut) 104 = .ok (.invokestatic 232, 3) := by decide +kernel
theorem eX10_cut_107 : decode (mB MX10_cut) 107 = .ok (.ifCond .ne 7, 3) := by decide +kernel
theorem eX10_cut_110 : decode (mB MX10_cut) 110 = .ok (.iload 5, 2) := by decide +kernel
theorem eX10_cut_112 : decode (mB MX10_cut) 112 = .ok (.istore 4, 2) := by decide +kernel
theorem eX10_cut_114 : decode (mB MX10_cut) 114 = .ok (.iinc 5 (-1), 3) := by decide +kernel
theorem eX10_cut_117 : decode (mB MX10_cut) 117 = .ok (.goto (-40), 3) := by decide +kernel
theorem eX10_cut_120 : decode (mB MX10_cut) 120 = .ok (.iload_n 3, 1) := by decide +kernel
theorem eX10_cut_121 : decode (mB MX10_cut) 121 = .ok (.ifCond .ne 11, 3) := by decide +kernel
theorem eX10_cut_124 : decode (mB MX10_cut) 124 = .ok (.iload 4, 2) := by decide +kernel
theorem eX10_cut_126 : decode (mB MX10_cut) 126 = .ok (.invokestatic 229, 3) := by decide +kernel
theorem eX10_cut_129 : decode (mB MX10_cut) 129 = .ok (.goto 5, 3) := by decide +kernel
theorem eX10_cut_132 : decode (mB MX10_cut) 132 = .ok (.iload 4, 2) := by decide +kernel
theorem eX10_cut_134 : decode (mB MX10_cut) 134 = .ok (.ireturn, 1) := by decide +kernel
theorem eX10_noPriced_0 : decode (mB MX10_noPriced) 0 = .ok (.aload_n 0, 1) := by decide +kernel
theorem eX10_noPriced_1 : decode (mB MX10_noPriced) 1 = .ok (.iload_n 1, 1) := by decide +kernel
theorem eX10_noPriced_2 : decode (mB MX10_noPriced) 2 = .ok (.invokevirtual 373, 3) := by decide +kernel
theorem eX10_noPriced_5 : decode (mB MX10_noPriced) 5 = .ok (.istore_n 2, 1) := by decide +kernel
theorem eX10_noPriced_6 : decode (mB MX10_noPriced) 6 = .ok (.iload_n 2, 1) := by decide +kernel
theorem eX10_noPriced_7 : decode (mB MX10_noPriced) 7 = .ok (.ifCond .eq 5, 3) := by decide +kernel
theorem eX10_noPriced_10 : decode (mB MX10_noPriced) 10 = .ok (.iload_n 2, 1) := by decide +kernel
theorem eX10_noPriced_11 : decode (mB MX10_noPriced) 11 = .ok (.ireturn, 1) := by decide +kernel
theorem eX10_noPriced_12 : decode (mB MX10_noPriced) 12 = .ok (.aload_n 0, 1) := by decide +kernel
theorem eX10_noPriced_13 : decode (mB MX10_noPriced) 13 = .ok (.getfield 73, 3) := by decide +kernel
theorem eX10_noPriced_16 : decode (mB MX10_noPriced) 16 = .ok (.iload_n 1, 1) := by decide +kernel
theorem eX10_noPriced_17 : decode (mB MX10_noPriced) 17 = .ok (.iaload, 1) := by decide +kernel
theorem eX10_noPriced_18 : decode (mB MX10_noPriced) 18 = .ok (.i2l, 1) := by decide +kernel
theorem eX10_noPriced_19 : decode (mB MX10_noPriced) 19 = .ok (.lconst 1, 1) := by decide +kernel
theorem eX10_noPriced_20 : decode (mB MX10_noPriced) 20 = .ok (.ldc2_w 444, 3) := by decide +kernel
theorem eX10_noPriced_23 : decode (mB MX10_noPriced) 23 = .ok (.invokestatic 149, 3) := by decide +kernel
theorem eX10_noPriced_26 : decode (mB MX10_noPriced) 26 = .ok (.ifCond .ne 6, 3) := by decide +kernel
theorem eX10_noPriced_29 : decode (mB MX10_noPriced) 29 = .ok (.bipush (-4), 2) := by decide +kernel
theorem eX10_noPriced_31 : decode (mB MX10_noPriced) 31 = .ok (.ireturn, 1) := by decide +kernel
theorem eX10_noPriced_32 : decode (mB MX10_noPriced) 32 = .ok (.iconst 0, 1) := by decide +kernel
theorem eX10_noPriced_33 : decode (mB MX10_noPriced) 33 = .ok (.istore_n 3, 1) := by decide +kernel
theorem eX10_noPriced_34 : decode (mB MX10_noPriced) 34 = .ok (.iload_n 3, 1) := by decide +kernel
theorem eX10_noPriced_35 : decode (mB MX10_noPriced) 35 = .ok (.aload_n 0, 1) := by decide +kernel
theorem eX10_noPriced_36 : decode (mB MX10_noPriced) 36 = .ok (.getfield 73, 3) := by decide +kernel
theorem eX10_noPriced_39 : decode (mB MX10_noPriced) 39 = .ok (.iload_n 1, 1) := by decide +kernel
theorem eX10_noPriced_40 : decode (mB MX10_noPriced) 40 = .ok (.iaload, 1) := by decide +kernel
theorem eX10_noPriced_41 : decode (mB MX10_noPriced) 41 = .ok (.if_icmp .ge 41, 3) := by decide +kernel
theorem eX10_noPriced_44 : decode (mB MX10_noPriced) 44 = .ok (.aload_n 0, 1) := by decide +kernel
theorem eX10_noPriced_45 : decode (mB MX10_noPriced) 45 = .ok (.getfield 76, 3) := by decide +kernel
theorem eX10_noPriced_48 : decode (mB MX10_noPriced) 48 = .ok (.bipush 40, 2) := by decide +kernel
theorem eX10_noPriced_50 : decode (mB MX10_noPriced) 50 = .ok (.iload_n 1, 1) := by decide +kernel
theorem eX10_noPriced_51 : decode (mB MX10_noPriced) 51 = .ok (.imul, 1) := by decide +kernel
theorem eX10_noPriced_52 : decode (mB MX10_noPriced) 52 = .ok (.iload_n 3, 1) := by decide +kernel
theorem eX10_noPriced_53 : decode (mB MX10_noPriced) 53 = .ok (.iadd, 1) := by decide +kernel
theorem eX10_noPriced_54 : decode (mB MX10_noPriced) 54 = .ok (.laload, 1) := by decide +kernel
theorem eX10_noPriced_55 : decode (mB MX10_noPriced) 55 = .ok (.lconst 0, 1) := by decide +kernel
theorem eX10_noPriced_56 : decode (mB MX10_noPriced) 56 = .ok (.ldc2_w 446, 3) := by decide +kernel
theorem eX10_noPriced_59 : decode (mB MX10_noPriced) 59 = .ok (.aload_n 0, 1) := by decide +kernel
theorem eX10_noPriced_60 : decode (mB MX10_noPriced) 60 = .ok (.getfield 216, 3) := by decide +kernel
theorem eX10_noPriced_63 : decode (mB MX10_noPriced) 63 = .ok (.i2l, 1) := by decide +kernel
theorem eX10_noPriced_64 : decode (mB MX10_noPriced) 64 = .ok (.lmul, 1) := by decide +kernel
theorem eX10_noPriced_65 : decode (mB MX10_noPriced) 65 = .ok (.lconst 1, 1) := by decide +kernel
theorem eX10_noPriced_66 : decode (mB MX10_noPriced) 66 = .ok (.lsub, 1) := by decide +kernel
theorem eX10_noPriced_67 : decode (mB MX10_noPriced) 67 = .ok (.invokestatic 149, 3) := by decide +kernel
theorem eX10_noPriced_70 : decode (mB MX10_noPriced) 70 = .ok (.ifCond .ne 6, 3) := by decide +kernel
theorem eX10_noPriced_73 : decode (mB MX10_noPriced) 73 = .ok (.bipush (-3), 2) := by decide +kernel
theorem eX10_noPriced_75 : decode (mB MX10_noPriced) 75 = .ok (.ireturn, 1) := by decide +kernel
theorem eX10_noPriced_76 : decode (mB MX10_noPriced) 76 = .ok (.iinc 3 1, 3) := by decide +kernel
theorem eX10_noPriced_79 : decode (mB MX10_noPriced) 79 = .ok (.goto (-45), 3) := by decide +kernel
theorem eX10_noPriced_82 : decode (mB MX10_noPriced) 82 = .ok (.iconst 0, 1) := by decide +kernel
theorem eX10_noPriced_83 : decode (mB MX10_noPriced) 83 = .ok (.ireturn, 1) := by decide +kernel
theorem eX10_ratesOf_0 : decode (mB MX10_ratesOf) 0 = .ok (.iconst 0, 1) := by decide +kernel
theorem eX10_ratesOf_1 : decode (mB MX10_ratesOf) 1 = .ok (.istore_n 2, 1) := by decide +kernel
theorem eX10_ratesOf_2 : decode (mB MX10_ratesOf) 2 = .ok (.iconst 0, 1) := by decide +kernel
theorem eX10_ratesOf_3 : decode (mB MX10_ratesOf) 3 = .ok (.istore_n 3, 1) := by decide +kernel
theorem eX10_ratesOf_4 : decode (mB MX10_ratesOf) 4 = .ok (.iload_n 3, 1) := by decide +kernel
theorem eX10_ratesOf_5 : decode (mB MX10_ratesOf) 5 = .ok (.bipush 10, 2) := by decide +kernel
theorem eX10_ratesOf_7 : decode (mB MX10_ratesOf) 7 = .ok (.if_icmp .ge 97, 3) := by decide +kernel
theorem eX10_ratesOf_10 : decode (mB MX10_ratesOf) 10 = .ok (.iconst 1, 1) := by decide +kernel
theorem eX10_ratesOf_11 : decode (mB MX10_ratesOf) 11 = .ok (.istore 4, 2) := by decide +kernel
theorem eX10_ratesOf_13 : decode (mB MX10_ratesOf) 13 = .ok (.iconst 0, 1) := by decide +kernel
theorem eX10_ratesOf_14 : decode (mB MX10_ratesOf) 14 = .ok (.istore 5, 2) := by decide +kernel
theorem eX10_ratesOf_16 : decode (mB MX10_ratesOf) 16 = .ok (.iload 5, 2) := by decide +kernel
theorem eX10_ratesOf_18 : decode (mB MX10_ratesOf) 18 = .ok (.aload_n 0, 1) := by decide +kernel
theorem eX10_ratesOf_19 : decode (mB MX10_ratesOf) 19 = .ok (.getfield 73, 3) := by decide +kernel
theorem eX10_ratesOf_22 : decode (mB MX10_ratesOf) 22 = .ok (.iload_n 1, 1) := by decide +kernel
theorem eX10_ratesOf_23 : decode (mB MX10_ratesOf) 23 = .ok (.iaload, 1) := by decide +kernel
theorem eX10_ratesOf_24 : decode (mB MX10_ratesOf) 24 = .ok (.if_icmp .ge 59, 3) := by decide +kernel
theorem eX10_ratesOf_27 : decode (mB MX10_ratesOf) 27 = .ok (.aload_n 0, 1) := by decide +kernel
theorem eX10_ratesOf_28 : decode (mB MX10_ratesOf) 28 = .ok (.getfield 76, 3) := by decide +kernel
theorem eX10_ratesOf_31 : decode (mB MX10_ratesOf) 31 = .ok (.bipush 40, 2) := by decide +kernel
theorem eX10_ratesOf_33 : decode (mB MX10_ratesOf) 33 = .ok (.iload_n 1, 1) := by decide +kernel
theorem eX10_ratesOf_34 : decode (mB MX10_ratesOf) 34 = .ok (.imul, 1) := by decide +kernel
theorem eX10_ratesOf_35 : decode (mB MX10_ratesOf) 35 = .ok (.iload 5, 2) := by decide +kernel
theorem eX10_ratesOf_37 : decode (mB MX10_ratesOf) 37 = .ok (.iadd, 1) := by decide +kernel
theorem eX10_ratesOf_38 : decode (mB MX10_ratesOf) 38 = .ok (.laload, 1) := by decide +kernel
theorem eX10_ratesOf_39 : decode (mB MX10_ratesOf) 39 = .ok (.l2i, 1) := by decide +kernel
theorem eX10_ratesOf_40 : decode (mB MX10_ratesOf) 40 = .ok (.istore 6, 2) := by decide +kernel
theorem eX10_ratesOf_42 : decode (mB MX10_ratesOf) 42 = .ok (.iload 4, 2) := by decide +kernel
theorem eX10_ratesOf_44 : decode (mB MX10_ratesOf) 44 = .ok (.aload_n 0, 1) := by decide +kernel
theorem eX10_ratesOf_45 : decode (mB MX10_ratesOf) 45 = .ok (.aload_n 0, 1) := by decide +kernel
theorem eX10_ratesOf_46 : decode (mB MX10_ratesOf) 46 = .ok (.getfield 36, 3) := by decide +kernel
theorem eX10_ratesOf_49 : decode (mB MX10_ratesOf) 49 = .ok (.iload 6, 2) := by decide +kernel
theorem eX10_ratesOf_51 : decode (mB MX10_ratesOf) 51 = .ok (.sipush 1000, 3) := by decide +kernel
theorem eX10_ratesOf_54 : decode (mB MX10_ratesOf) 54 = .ok (.idiv, 1) := by decide +kernel
theorem eX10_ratesOf_55 : decode (mB MX10_ratesOf) 55 = .ok (.iaload, 1) := by decide +kernel
theorem eX10_ratesOf_56 : decode (mB MX10_ratesOf) 56 = .ok (.iload_n 3, 1) := by decide +kernel
theorem eX10_ratesOf_57 : decode (mB MX10_ratesOf) 57 = .ok (.invokevirtual 251, 3) := by decide +kernel
theorem eX10_ratesOf_60 : decode (mB MX10_ratesOf) 60 = .ok (.iload 6, 2) := by decide +kernel
theorem eX10_ratesOf_62 : decode (mB MX10_ratesOf) 62 = .ok (.sipush 1000, 3) := by decide +kernel
theorem eX10_ratesOf_65 : decode (mB MX10_ratesOf) 65 = .ok (.irem, 1) := by decide +kernel
theorem eX10_ratesOf_66 : decode (mB MX10_ratesOf) 66 = .ok (.if_icmp .ne 7, 3) := by decide +kernel
theorem eX10_ratesOf_69 : decode (mB MX10_ratesOf) 69 = .ok (.iconst 1, 1) := by decide +kernel
theorem eX10_ratesOf_70 : decode (mB MX10_ratesOf) 70 = .ok (.goto 4, 3) := by decide +kernel
theorem eX10_ratesOf_73 : decode (mB MX10_ratesOf) 73 = .ok (.iconst 0, 1) := by decide +kernel
theorem eX10_ratesOf_74 : decode (mB MX10_ratesOf) 74 = .ok (.iand, 1) := by decide +kernel
theorem eX10_ratesOf_75 : decode (mB MX10_ratesOf) 75 = .ok (.istore 4, 2) := by decide +kernel
theorem eX10_ratesOf_77 : decode (mB MX10_ratesOf) 77 = .ok (.iinc 5 1, 3) := by decide +kernel
theorem eX10_ratesOf_80 : decode (mB MX10_ratesOf) 80 = .ok (.goto (-64), 3) := by decide +kernel
theorem eX10_ratesOf_83 : decode (mB MX10_ratesOf) 83 = .ok (.iload_n 2, 1) := by decide +kernel
theorem eX10_ratesOf_84 : decode (mB MX10_ratesOf) 84 = .ok (.iload 4, 2) := by decide +kernel
theorem eX10_ratesOf_86 : decode (mB MX10_ratesOf) 86 = .ok (.ifCond .eq 9, 3) := by decide +kernel
theorem eX10_ratesOf_89 : decode (mB MX10_ratesOf) 89 = .ok (.iconst 1, 1) := by decide +kernel
theorem eX10_ratesOf_90 : decode (mB MX10_ratesOf) 90 = .ok (.iload_n 3, 1) := by decide +kernel
theorem eX10_ratesOf_91 : decode (mB MX10_ratesOf) 91 = .ok (.ishl, 1) := by decide +kernel
theorem eX10_ratesOf_92 : decode (mB MX10_ratesOf) 92 = .ok (.goto 4, 3) := by decide +kernel
theorem eX10_ratesOf_95 : decode (mB MX10_ratesOf) 95 = .ok (.iconst 0, 1) := by decide +kernel
theorem eX10_ratesOf_96 : decode (mB MX10_ratesOf) 96 = .ok (.ior, 1) := by decide +kernel
theorem eX10_ratesOf_97 : decode (mB MX10_ratesOf) 97 = .ok (.istore_n 2, 1) := by decide +kernel
theorem eX10_ratesOf_98 : decode (mB MX10_ratesOf) 98 = .ok (.iinc 3 1, 3) := by decide +kernel
theorem eX10_ratesOf_101 : decode (mB MX10_ratesOf) 101 = .ok (.goto (-97), 3) := by decide +kernel
theorem eX10_ratesOf_104 : decode (mB MX10_ratesOf) 104 = .ok (.iload_n 2, 1) := by decide +kernel
theorem eX10_ratesOf_105 : decode (mB MX10_ratesOf) 105 = .ok (.ireturn, 1) := by decide +kernel
theorem eX10_rates_0 : decode (mB MX10_rates) 0 = .ok (.aload_n 0, 1) := by decide +kernel
theorem eX10_rates_1 : decode (mB MX10_rates) 1 = .ok (.iconst 0, 1) := by decide +kernel
theorem eX10_rates_2 : decode (mB MX10_rates) 2 = .ok (.putfield 1, 3) := by decide +kernel
theorem eX10_rates_5 : decode (mB MX10_rates) 5 = .ok (.aload_n 0, 1) := by decide +kernel
theorem eX10_rates_6 : decode (mB MX10_rates) 6 = .ok (.iload_n 1, 1) := by decide +kernel
theorem eX10_rates_7 : decode (mB MX10_rates) 7 = .ok (.invokevirtual 448, 3) := by decide +kernel
theorem eX10_rates_10 : decode (mB MX10_rates) 10 = .ok (.istore_n 2, 1) := by decide +kernel
theorem eX10_rates_11 : decode (mB MX10_rates) 11 = .ok (.iload_n 2, 1) := by decide +kernel
theorem eX10_rates_12 : decode (mB MX10_rates) 12 = .ok (.ifCond .eq 7, 3) := by decide +kernel
theorem eX10_rates_15 : decode (mB MX10_rates) 15 = .ok (.iload_n 2, 1) := by decide +kernel
theorem eX10_rates_16 : decode (mB MX10_rates) 16 = .ok (.goto 8, 3) := by decide +kernel
theorem eX10_rates_19 : decode (mB MX10_rates) 19 = .ok (.aload_n 0, 1) := by decide +kernel
theorem eX10_rates_20 : decode (mB MX10_rates) 20 = .ok (.iload_n 1, 1) := by decide +kernel
theorem eX10_rates_21 : decode (mB MX10_rates) 21 = .ok (.invokevirtual 451, 3) := by decide +kernel
theorem eX10_rates_24 : decode (mB MX10_rates) 24 = .ok (.ireturn, 1) := by decide +kernel
theorem eX10_mostAlike_0 : decode (mB MX10_mostAlike) 0 = .ok (.iconst 0, 1) := by decide +kernel
theorem eX10_mostAlike_1 : decode (mB MX10_mostAlike) 1 = .ok (.istore_n 3, 1) := by decide +kernel
theorem eX10_mostAlike_2 : decode (mB MX10_mostAlike) 2 = .ok (.iload_n 3, 1) := by decide +kernel
theorem eX10_mostAlike_3 : decode (mB MX10_mostAlike) 3 = .ok (.bipush 10, 2) := by decide +kernel
theorem eX10_mostAlike_5 : decode (mB MX10_mostAlike) 5 = .ok (.if_icmp .ge 26, 3) := by decide +kernel
theorem eX10_mostAlike_8 : decode (mB MX10_mostAlike) 8 = .ok (.aload_n 0, 1) := by decide +kernel
theorem eX10_mostAlike_9 : decode (mB MX10_mostAlike) 9 = .ok (.getfield 64, 3) := by decide +kernel
theorem eX10_mostAlike_12 : decode (mB MX10_mostAlike) 12 = .ok (.iload_n 3, 1) := by decide +kernel
theorem eX10_mostAlike_13 : decode (mB MX10_mostAlike) 13 = .ok (.aload_n 0, 1) := by decide +kernel
theorem eX10_mostAlike_14 : decode (mB MX10_mostAlike) 14 = .ok (.aload_n 0, 1) := by decide +kernel
theorem eX10_mostAlike_15 : decode (mB MX10_mostAlike) 15 = .ok (.getfield 36, 3) := by decide +kernel
theorem eX10_mostAlike_18 : decode (mB MX10_mostAlike) 18 = .ok (.iload_n 2, 1) := by decide +kernel
theorem eX10_mostAlike_19 : decode (mB MX10_mostAlike) 19 = .ok (.iaload, 1) := by decide +kernel
theorem eX10_mostAlike_20 : decode (mB MX10_mostAlike) 20 = .ok (.iload_n 3, 1) := by decide +kernel
theorem eX10_mostAlike_21 : decode (mB MX10_mostAlike) 21 = .ok (.invokevirtual 251, 3) := by decide +kernel
theorem eX10_mostAlike_24 : decode (mB MX10_mostAlike) 24 = .ok (.iastore, 1) := by decide +kernel
theorem eX10_mostAlike_25 : decode (mB MX10_mostAlike) 25 = .ok (.iinc 3 1, 3) := by decide +kernel
theorem eX10_mostAlike_28 : decode (mB MX10_mostAlike) 28 = .ok (.goto (-26), 3) := by decide +kernel
theorem eX10_mostAlike_31 : decode (mB MX10_mostAlike) 31 = .ok (.iconst 0, 1) := by decide +kernel
theorem eX10_mostAlike_32 : decode (mB MX10_mostAlike) 32 = .ok (.istore_n 3, 1) := by decide +kernel
theorem eX10_mostAlike_33 : decode (mB MX10_mostAlike) 33 = .ok (.iconst 0, 1) := by decide +kernel
theorem eX10_mostAlike_34 : decode (mB MX10_mostAlike) 34 = .ok (.istore 4, 2) := by decide +kernel
theorem eX10_mostAlike_36 : decode (mB MX10_mostAlike) 36 = .ok (.iload 4, 2) := by decide +kernel
theorem eX10_mostAlike_38 : decode (mB MX10_mostAlike) 38 = .ok (.bipush 10, 2) := by decide +kernel
theorem eX10_mostAlike_40 : decode (mB MX10_mostAlike) 40 = .ok (.if_icmp .ge 88, 3) := by decide +kernel
theorem eX10_mostAlike_43 : decode (mB MX10_mostAlike) 43 = .ok (.iconst 0, 1) := by decide +kernel
theorem eX10_mostAlike_44 : decode (mB MX10_mostAlike) 44 = .ok (.istore 5, 2) := by decide +kernel
theorem eX10_mostAlike_46 : decode (mB MX10_mostAlike) 46 = .ok (.iconst 0, 1) := by decide +kernel
theorem eX10_mostAlike_47 : decode (mB MX10_mostAlike) 47 = .ok (.istore 6, 2) := by decide +kernel
theorem eX10_mostAlike_49 : decode (mB MX10_mostAlike) 49 = .ok (.iload 6, 2) := by decide +kernel
theorem eX10_mostAlike_51 : decode (mB MX10_mostAlike) 51 = .ok (.bipush 10, 2) := by decide +kernel
theorem eX10_mostAlike_53 : decode (mB MX10_mostAlike) 53 = .ok (.if_icmp .ge 56, 3) := by decide +kernel
theorem eX10_mostAlike_56 : decode (mB MX10_mostAlike) 56 = .ok (.iload 5, 2) := by decide +kernel
theorem eX10_mostAlike_58 : decode (mB MX10_mostAlike) 58 = .ok (.iload_n 1, 1) := by decide +kernel
theorem eX10_mostAlike_59 : decode (mB MX10_mostAlike) 59 = .ok (.i2l, 1) := by decide +kernel
theorem eX10_mostAlike_60 : decode (mB MX10_mostAlike) 60 = .ok (.iload 4, 2) := by decide +kernel
theorem eX10_mostAlike_62 : decode (mB MX10_mostAlike) 62 = .ok (.invokestatic 232, 3) := by decide +kernel
theorem eX10_mostAlike_65 : decode (mB MX10_mostAlike) 65 = .ok (.ifCond .eq 34, 3) := by decide +kernel
theorem eX10_mostAlike_68 : decode (mB MX10_mostAlike) 68 = .ok (.iload_n 1, 1) := by decide +kernel
theorem eX10_mostAlike_69 : decode (mB MX10_mostAlike) 69 = .ok (.i2l, 1) := by decide +kernel
theorem eX10_mostAlike_70 : decode (mB MX10_mostAlike) 70 = .ok (.iload 6, 2) := by decide +kernel
theorem eX10_mostAlike_72 : decode (mB MX10_mostAlike) 72 = .ok (.invokestatic 232, 3) := by decide +kernel
theorem eX10_mostAlike_75 : decode (mB MX10_mostAlike) 75 = .ok (.ifCond .eq 24, 3) := by decide +kernel
theorem eX10_mostAlike_78 : decode (mB MX10_mostAlike) 78 = .ok (.aload_n 0, 1) := by decide +kernel
theorem eX10_mostAlike_79 : decode (mB MX10_mostAlike) 79 = .ok (.getfield 64, 3) := by decide +kernel
theorem eX10_mostAlike_82 : decode (mB MX10_mostAlike) 82 = .ok (.iload 4, 2) := by decide +kernel
theorem eX10_mostAlike_84 : decode (mB MX10_mostAlike) 84 = .ok (.iaload, 1) := by decide +kernel
theorem eX10_mostAlike_85 : decode (mB MX10_mostAlike) 85 = .ok (.aload_n 0, 1) := by decide +kernel
theorem eX10_mostAlike_86 : decode (mB MX10_mostAlike) 86 = .ok (.getfield 64, 3) := by decide +kernel
theorem eX10_mostAlike_89 : decode (mB MX10_mostAlike) 89 = .ok (.iload 6, 2) := by decide +kernel
theorem eX10_mostAlike_91 : decode (mB MX10_mostAlike) 91 = .ok (.iaload, 1) := by decide +kernel
theorem eX10_mostAlike_92 : decode (mB MX10_mostAlike) 92 = .ok (.if_icmp .ne 7, 3) := by decide +kernel
theorem eX10_mostAlike_95 : decode (mB MX10_mostAlike) 95 = .ok (.iconst 1, 1) := by decide +kernel
theorem eX10_mostAlike_96 : decode (mB MX10_mostAlike) 96 = .ok (.goto 4, 3) := by decide +kernel
theorem eX10_mostAlike_99 : decode (mB MX10_mostAlike) 99 = .ok (.iconst 0, 1) := by decide +kernel
theorem eX10_mostAlike_100 : decode (mB MX10_mostAlike) 100 = .ok (.iadd, 1) := by decide +kernel
theorem eX10_mostAlike_101 : decode (mB MX10_mostAlike) 101 = .ok (.istore 5, 2) := by decide +kernel
theorem eX10_mostAlike_103 : decode (mB MX10_mostAlike) 103 = .ok (.iinc 6 1, 3) := by decide +kernel
theorem eX10_mostAlike_106 : decode (mB MX10_mostAlike) 106 = .ok (.goto (-57), 3) := by decide +kernel
theorem eX10_mostAlike_109 : decode (mB MX10_mostAlike) 109 = .ok (.iload 5, 2) := by decide +kernel
theorem eX10_mostAlike_111 : decode (mB MX10_mostAlike) 111 = .ok (.iload_n 3, 1) := by decide +kernel
theorem eX10_mostAlike_112 : decode (mB MX10_mostAlike) 112 = .ok (.if_icmp .le 8, 3) := by decide +kernel
theorem eX10_mostAlike_115 : decode (mB MX10_mostAlike) 115 = .ok (.iload 5, 2) := by decide +kernel
theorem eX10_mostAlike_117 : decode (mB MX10_mostAlike) 117 = .ok (.goto 4, 3) := by decide +kernel
theorem eX10_mostAlike_120 : decode (mB MX10_mostAlike) 120 = .ok (.iload_n 3, 1) := by decide +kernel
theorem eX10_mostAlike_121 : decode (mB MX10_mostAlike) 121 = .ok (.istore_n 3, 1) := by decide +kernel
theorem eX10_mostAlike_122 : decode (mB MX10_mostAlike) 122 = .ok (.iinc 4 1, 3) := by decide +kernel
theorem eX10_mostAlike_125 : decode (mB MX10_mostAlike) 125 = .ok (.goto (-89), 3) := by decide +kernel
theorem eX10_mostAlike_128 : decode (mB MX10_mostAlike) 128 = .ok (.iload_n 3, 1) := by decide +kernel
theorem eX10_mostAlike_129 : decode (mB MX10_mostAlike) 129 = .ok (.ireturn, 1) := by decide +kernel
theorem eX10_ask_0 : decode (mB MX10_ask) 0 = .ok (.aload_n 0, 1) := by decide +kernel
theorem eX10_ask_1 : decode (mB MX10_ask) 1 = .ok (.iconst 0, 1) := by decide +kernel
theorem eX10_ask_2 : decode (mB MX10_ask) 2 = .ok (.putfield 1, 3) := by decide +kernel
theorem eX10_ask_5 : decode (mB MX10_ask) 5 = .ok (.aload_n 0, 1) := by decide +kernel
theorem eX10_ask_6 : decode (mB MX10_ask) 6 = .ok (.iload_n 1, 1) := by decide +kernel
theorem eX10_ask_7 : decode (mB MX10_ask) 7 = .ok (.invokevirtual 448, 3) := by decide +kernel
theorem eX10_ask_10 : decode (mB MX10_ask) 10 = .ok (.istore_n 2, 1) := by decide +kernel
theorem eX10_ask_11 : decode (mB MX10_ask) 11 = .ok (.iload_n 2, 1) := by decide +kernel
theorem eX10_ask_12 : decode (mB MX10_ask) 12 = .ok (.ifCond .eq 5, 3) := by decide +kernel
theorem eX10_ask_15 : decode (mB MX10_ask) 15 = .ok (.iload_n 2, 1) := by decide +kernel
theorem eX10_ask_16 : decode (mB MX10_ask) 16 = .ok (.ireturn, 1) := by decide +kernel
theorem eX10_ask_17 : decode (mB MX10_ask) 17 = .ok (.aload_n 0, 1) := by decide +kernel
theorem eX10_ask_18 : decode (mB MX10_ask) 18 = .ok (.iload_n 1, 1) := by decide +kernel
theorem eX10_ask_19 : decode (mB MX10_ask) 19 = .ok (.invokevirtual 451, 3) := by decide +kernel
theorem eX10_ask_22 : decode (mB MX10_ask) 22 = .ok (.istore_n 3, 1) := by decide +kernel
theorem eX10_ask_23 : decode (mB MX10_ask) 23 = .ok (.iconst (-1), 1) := by decide +kernel
theorem eX10_ask_24 : decode (mB MX10_ask) 24 = .ok (.istore 4, 2) := by decide +kernel
theorem eX10_ask_26 : decode (mB MX10_ask) 26 = .ok (.ldc_w 394, 3) := by decide +kernel
theorem eX10_ask_29 : decode (mB MX10_ask) 29 = .ok (.istore 5, 2) := by decide +kernel
theorem eX10_ask_31 : decode (mB MX10_ask) 31 = .ok (.iconst 0, 1) := by decide +kernel
theorem eX10_ask_32 : decode (mB MX10_ask) 32 = .ok (.istore 6, 2) := by decide +kernel
theorem eX10_ask_34 : decode (mB MX10_ask) 34 = .ok (.iload 6, 2) := by decide +kernel
theorem eX10_ask_36 : decode (mB MX10_ask) 36 = .ok (.aload_n 0, 1) := by decide +kernel
theorem eX10_ask_37 : decode (mB MX10_ask) 37 = .ok (.getfield 216, 3) := by decide +kernel
theorem eX10_ask_40 : decode (mB MX10_ask) 40 = .ok (.if_icmp .ge 40, 3) := by decide +kernel
theorem eX10_ask_43 : decode (mB MX10_ask) 43 = .ok (.iload_n 3, 1) := by decide +kernel
theorem eX10_ask_44 : decode (mB MX10_ask) 44 = .ok (.ifCond .eq 36, 3) := by decide +kernel
theorem eX10_ask_47 : decode (mB MX10_ask) 47 = .ok (.aload_n 0, 1) := by decide +kernel
theorem eX10_ask_48 : decode (mB MX10_ask) 48 = .ok (.iload_n 3, 1) := by decide +kernel
theorem eX10_ask_49 : decode (mB MX10_ask) 49 = .ok (.iload 6, 2) := by decide +kernel
theorem eX10_ask_51 : decode (mB MX10_ask) 51 = .ok (.invokevirtual 454, 3) := by decide +kernel
theorem eX10_ask_54 : decode (mB MX10_ask) 54 = .ok (.istore 7, 2) := by decide +kernel
theorem eX10_ask_56 : decode (mB MX10_ask) 56 = .ok (.iload 7, 2) := by decide +kernel
theorem eX10_ask_58 : decode (mB MX10_ask) 58 = .ok (.iload 5, 2) := by decide +kernel
theorem eX10_ask_60 : decode (mB MX10_ask) 60 = .ok (.if_icmp .lt 6, 3) := by decide +kernel
theorem eX10_ask_63 : decode (mB MX10_ask) 63 = .ok (.goto 11, 3) := by decide +kernel
theorem eX10_ask_66 : decode (mB MX10_ask) 66 = .ok (.iload 6, 2) := by decide +kernel
theorem eX10_ask_68 : decode (mB MX10_ask) 68 = .ok (.istore 4, 2) := by decide +kernel
theorem eX10_ask_70 : decode (mB MX10_ask) 70 = .ok (.iload 7, 2) := by decide +kernel
theorem eX10_ask_72 : decode (mB MX10_ask) 72 = .ok (.istore 5, 2) := by decide +kernel
theorem eX10_ask_74 : decode (mB MX10_ask) 74 = .ok (.iinc 6 1, 3) := by decide +kernel
theorem eX10_ask_77 : decode (mB MX10_ask) 77 = .ok (.goto (-43), 3) := by decide +kernel
theorem eX10_ask_80 : decode (mB MX10_ask) 80 = .ok (.iload 4, 2) := by decide +kernel
theorem eX10_ask_82 : decode (mB MX10_ask) 82 = .ok (.ireturn, 1) := by decide +kernel
theorem eX10_goesLots_0 : decode (mB MX10_goesLots) 0 = .ok (.iload_n 1, 1) := by decide +kernel
theorem eX10_goesLots_1 : decode (mB MX10_goesLots) 1 = .ok (.ifCond .ne 38, 3) := by decide +kernel
theorem eX10_goesLots_4 : decode (mB MX10_goesLots) 4 = .ok (.aload_n 0, 1) := by decide +kernel
theorem eX10_goesLots_5 : decode (mB MX10_goesLots) 5 = .ok (.invokevirtual 325, 3) := by decide +kernel
theorem eX10_goesLots_8 : decode (mB MX10_goesLots) 8 = .ok (.istore_n 2, 1) := by decide +kernel
theorem eX10_goesLots_9 : decode (mB MX10_goesLots) 9 = .ok (.aload_n 0, 1) := by decide +kernel
theorem eX10_goesLots_10 : decode (mB MX10_goesLots) 10 = .ok (.dup, 1) := by decide +kernel
theorem eX10_goesLots_11 : decode (mB MX10_goesLots) 11 = .ok (.getfield 457, 3) := by decide +kernel
theorem eX10_goesLots_14 : decode (mB MX10_goesLots) 14 = .ok (.iload_n 2, 1) := by decide +kernel
theorem eX10_goesLots_15 : decode (mB MX10_goesLots) 15 = .ok (.ifCond .ne 7, 3) := by decide +kernel
theorem eX10_goesLots_18 : decode (mB MX10_goesLots) 18 = .ok (.lconst 1, 1) := by decide +kernel
theorem eX10_goesLots_19 : decode (mB MX10_goesLots) 19 = .ok (.goto 4, 3) := by decide +kernel
theorem eX10_goesLots_22 : decode (mB MX10_goesLots) 22 = .ok (.lconst 0, 1) := by decide +kernel
theorem eX10_goesLots_23 : decode (mB MX10_goesLots) 23 = .ok (.ladd, 1) := by decide +kernel
theorem eX10_goesLots_24 : decode (mB MX10_goesLots) 24 = .ok (.putfield 457, 3) := by decide +kernel
theorem eX10_goesLots_27 : decode (mB MX10_goesLots) 27 = .ok (.aload_n 0, 1) := by decide +kernel
theorem eX10_goesLots_28 : decode (mB MX10_goesLots) 28 = .ok (.dup, 1) := by decide +kernel
theorem eX10_goesLots_29 : decode (mB MX10_goesLots) 29 = .ok (.getfield 461, 3) := by decide +kernel
theorem eX10_goesLots_32 : decode (mB MX10_goesLots) 32 = .ok (.iload_n 2, 1) := by decide +kernel
theorem eX10_goesLots_33 : decode (mB MX10_goesLots) 33 = .ok (.i2l, 1) := by decide +kernel
theorem eX10_goesLots_34 : decode (mB MX10_goesLots) 34 = .ok (.ladd, 1) := by decide +kernel
theorem eX10_goesLots_35 : decode (mB MX10_goesLots) 35 = .ok (.putfield 461, 3) := by decide +kernel
theorem eX10_goesLots_38 : decode (mB MX10_goesLots) 38 = .ok (.return_, 1) := by decide +kernel
theorem eX10_goesLots_39 : decode (mB MX10_goesLots) 39 = .ok (.bipush 126, 2) := by decide +kernel
theorem eX10_goesLots_41 : decode (mB MX10_goesLots) 41 = .ok (.iload_n 1, 1) := by decide +kernel
theorem eX10_goesLots_42 : decode (mB MX10_goesLots) 42 = .ok (.iconst 1, 1) := by decide +kernel
theorem eX10_goesLots_43 : decode (mB MX10_goesLots) 43 = .ok (.isub, 1) := by decide +kernel
theorem eX10_goesLots_44 : decode (mB MX10_goesLots) 44 = .ok (.imul, 1) := by decide +kernel
theorem eX10_goesLots_45 : decode (mB MX10_goesLots) 45 = .ok (.istore_n 2, 1) := by decide +kernel
theorem eX10_goesLots_46 : decode (mB MX10_goesLots) 46 = .ok (.iconst 0, 1) := by decide +kernel
theorem eX10_goesLots_47 : decode (mB MX10_goesLots) 47 = .ok (.istore_n 3, 1) := by decide +kernel
theorem eX10_goesLots_48 : decode (mB MX10_goesLots) 48 = .ok (.iload_n 3, 1) := by decide +kernel
theorem eX10_goesLots_49 : decode (mB MX10_goesLots) 49 = .ok (.bipush 126, 2) := by decide +kernel
theorem eX10_goesLots_51 : decode (mB MX10_goesLots) 51 = .ok (.if_icmp .ge 26, 3) := by decide +kernel
