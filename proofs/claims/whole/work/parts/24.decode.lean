theorem eX9_refusedPrices_18 : decode (mB MX9_refusedPrices) 18 = .ok (.invokevirtual 223, 3) := by decide +kernel
theorem eX9_refusedPrices_21 : decode (mB MX9_refusedPrices) 21 = .ok (.ifCond .eq 6, 3) := by decide +kernel
theorem eX9_refusedPrices_24 : decode (mB MX9_refusedPrices) 24 = .ok (.bipush (-6), 2) := by decide +kernel
theorem eX9_refusedPrices_26 : decode (mB MX9_refusedPrices) 26 = .ok (.ireturn, 1) := by decide +kernel
theorem eX9_refusedPrices_27 : decode (mB MX9_refusedPrices) 27 = .ok (.aload_n 2, 1) := by decide +kernel
theorem eX9_refusedPrices_28 : decode (mB MX9_refusedPrices) 28 = .ok (.getfield 231, 3) := by decide +kernel
theorem eX9_refusedPrices_31 : decode (mB MX9_refusedPrices) 31 = .ok (.iconst 1, 1) := by decide +kernel
theorem eX9_refusedPrices_32 : decode (mB MX9_refusedPrices) 32 = .ok (.if_icmp .lt 12, 3) := by decide +kernel
theorem eX9_refusedPrices_35 : decode (mB MX9_refusedPrices) 35 = .ok (.aload_n 2, 1) := by decide +kernel
theorem eX9_refusedPrices_36 : decode (mB MX9_refusedPrices) 36 = .ok (.getfield 231, 3) := by decide +kernel
theorem eX9_refusedPrices_39 : decode (mB MX9_refusedPrices) 39 = .ok (.bipush 8, 2) := by decide +kernel
theorem eX9_refusedPrices_41 : decode (mB MX9_refusedPrices) 41 = .ok (.if_icmp .le 6, 3) := by decide +kernel
theorem eX9_refusedPrices_44 : decode (mB MX9_refusedPrices) 44 = .ok (.bipush (-4), 2) := by decide +kernel
theorem eX9_refusedPrices_46 : decode (mB MX9_refusedPrices) 46 = .ok (.ireturn, 1) := by decide +kernel
theorem eX9_refusedPrices_47 : decode (mB MX9_refusedPrices) 47 = .ok (.aload_n 0, 1) := by decide +kernel
theorem eX9_refusedPrices_48 : decode (mB MX9_refusedPrices) 48 = .ok (.getfield 19, 3) := by decide +kernel
theorem eX9_refusedPrices_51 : decode (mB MX9_refusedPrices) 51 = .ok (.aload_n 0, 1) := by decide +kernel
theorem eX9_refusedPrices_52 : decode (mB MX9_refusedPrices) 52 = .ok (.getfield 26, 3) := by decide +kernel
theorem eX9_refusedPrices_55 : decode (mB MX9_refusedPrices) 55 = .ok (.getfield 145, 3) := by decide +kernel
theorem eX9_refusedPrices_58 : decode (mB MX9_refusedPrices) 58 = .ok (.invokevirtual 171, 3) := by decide +kernel
theorem eX9_refusedPrices_61 : decode (mB MX9_refusedPrices) 61 = .ok (.i2l, 1) := by decide +kernel
theorem eX9_refusedPrices_62 : decode (mB MX9_refusedPrices) 62 = .ok (.ldc2_w 346, 3) := by decide +kernel
theorem eX9_refusedPrices_65 : decode (mB MX9_refusedPrices) 65 = .ok (.lmul, 1) := by decide +kernel
theorem eX9_refusedPrices_66 : decode (mB MX9_refusedPrices) 66 = .ok (.lstore_n 3, 1) := by decide +kernel
theorem eX9_refusedPrices_67 : decode (mB MX9_refusedPrices) 67 = .ok (.iconst 0, 1) := by decide +kernel
theorem eX9_refusedPrices_68 : decode (mB MX9_refusedPrices) 68 = .ok (.istore 5, 2) := by decide +kernel
theorem eX9_refusedPrices_70 : decode (mB MX9_refusedPrices) 70 = .ok (.iload 5, 2) := by decide +kernel
theorem eX9_refusedPrices_72 : decode (mB MX9_refusedPrices) 72 = .ok (.aload_n 2, 1) := by decide +kernel
theorem eX9_refusedPrices_73 : decode (mB MX9_refusedPrices) 73 = .ok (.getfield 231, 3) := by decide +kernel
theorem eX9_refusedPrices_76 : decode (mB MX9_refusedPrices) 76 = .ok (.if_icmp .ge 36, 3) := by decide +kernel
theorem eX9_refusedPrices_79 : decode (mB MX9_refusedPrices) 79 = .ok (.aload_n 2, 1) := by decide +kernel
theorem eX9_refusedPrices_80 : decode (mB MX9_refusedPrices) 80 = .ok (.getfield 232, 3) := by decide +kernel
theorem eX9_refusedPrices_83 : decode (mB MX9_refusedPrices) 83 = .ok (.iload 5, 2) := by decide +kernel
theorem eX9_refusedPrices_85 : decode (mB MX9_refusedPrices) 85 = .ok (.laload, 1) := by decide +kernel
theorem eX9_refusedPrices_86 : decode (mB MX9_refusedPrices) 86 = .ok (.lconst 0, 1) := by decide +kernel
theorem eX9_refusedPrices_87 : decode (mB MX9_refusedPrices) 87 = .ok (.lcmp, 1) := by decide +kernel
theorem eX9_refusedPrices_88 : decode (mB MX9_refusedPrices) 88 = .ok (.ifCond .lt 15, 3) := by decide +kernel
theorem eX9_refusedPrices_91 : decode (mB MX9_refusedPrices) 91 = .ok (.aload_n 2, 1) := by decide +kernel
theorem eX9_refusedPrices_92 : decode (mB MX9_refusedPrices) 92 = .ok (.getfield 232, 3) := by decide +kernel
theorem eX9_refusedPrices_95 : decode (mB MX9_refusedPrices) 95 = .ok (.iload 5, 2) := by decide +kernel
theorem eX9_refusedPrices_97 : decode (mB MX9_refusedPrices) 97 = .ok (.laload, 1) := by decide +kernel
theorem eX9_refusedPrices_98 : decode (mB MX9_refusedPrices) 98 = .ok (.lload_n 3, 1) := by decide +kernel
theorem eX9_refusedPrices_99 : decode (mB MX9_refusedPrices) 99 = .ok (.lcmp, 1) := by decide +kernel
theorem eX9_refusedPrices_100 : decode (mB MX9_refusedPrices) 100 = .ok (.ifCond .lt 6, 3) := by decide +kernel
theorem eX9_refusedPrices_103 : decode (mB MX9_refusedPrices) 103 = .ok (.bipush (-3), 2) := by decide +kernel
theorem eX9_refusedPrices_105 : decode (mB MX9_refusedPrices) 105 = .ok (.ireturn, 1) := by decide +kernel
theorem eX9_refusedPrices_106 : decode (mB MX9_refusedPrices) 106 = .ok (.iinc 5 1, 3) := by decide +kernel
theorem eX9_refusedPrices_109 : decode (mB MX9_refusedPrices) 109 = .ok (.goto (-39), 3) := by decide +kernel
theorem eX9_refusedPrices_112 : decode (mB MX9_refusedPrices) 112 = .ok (.iconst 0, 1) := by decide +kernel
theorem eX9_refusedPrices_113 : decode (mB MX9_refusedPrices) 113 = .ok (.ireturn, 1) := by decide +kernel
theorem eX9_pricedRates_0 : decode (mB MX9_pricedRates) 0 = .ok (.iconst 0, 1) := by decide +kernel
theorem eX9_pricedRates_1 : decode (mB MX9_pricedRates) 1 = .ok (.istore_n 2, 1) := by decide +kernel
theorem eX9_pricedRates_2 : decode (mB MX9_pricedRates) 2 = .ok (.iconst 0, 1) := by decide +kernel
theorem eX9_pricedRates_3 : decode (mB MX9_pricedRates) 3 = .ok (.istore_n 3, 1) := by decide +kernel
theorem eX9_pricedRates_4 : decode (mB MX9_pricedRates) 4 = .ok (.iload_n 3, 1) := by decide +kernel
theorem eX9_pricedRates_5 : decode (mB MX9_pricedRates) 5 = .ok (.bipush 10, 2) := by decide +kernel
theorem eX9_pricedRates_7 : decode (mB MX9_pricedRates) 7 = .ok (.if_icmp .ge 28, 3) := by decide +kernel
theorem eX9_pricedRates_10 : decode (mB MX9_pricedRates) 10 = .ok (.iload_n 2, 1) := by decide +kernel
theorem eX9_pricedRates_11 : decode (mB MX9_pricedRates) 11 = .ok (.aload_n 0, 1) := by decide +kernel
theorem eX9_pricedRates_12 : decode (mB MX9_pricedRates) 12 = .ok (.aload_n 1, 1) := by decide +kernel
theorem eX9_pricedRates_13 : decode (mB MX9_pricedRates) 13 = .ok (.iload_n 3, 1) := by decide +kernel
theorem eX9_pricedRates_14 : decode (mB MX9_pricedRates) 14 = .ok (.invokevirtual 348, 3) := by decide +kernel
theorem eX9_pricedRates_17 : decode (mB MX9_pricedRates) 17 = .ok (.ifCond .eq 9, 3) := by decide +kernel
theorem eX9_pricedRates_20 : decode (mB MX9_pricedRates) 20 = .ok (.iconst 1, 1) := by decide +kernel
theorem eX9_pricedRates_21 : decode (mB MX9_pricedRates) 21 = .ok (.iload_n 3, 1) := by decide +kernel
theorem eX9_pricedRates_22 : decode (mB MX9_pricedRates) 22 = .ok (.ishl, 1) := by decide +kernel
theorem eX9_pricedRates_23 : decode (mB MX9_pricedRates) 23 = .ok (.goto 4, 3) := by decide +kernel
theorem eX9_pricedRates_26 : decode (mB MX9_pricedRates) 26 = .ok (.iconst 0, 1) := by decide +kernel
theorem eX9_pricedRates_27 : decode (mB MX9_pricedRates) 27 = .ok (.ior, 1) := by decide +kernel
theorem eX9_pricedRates_28 : decode (mB MX9_pricedRates) 28 = .ok (.istore_n 2, 1) := by decide +kernel
theorem eX9_pricedRates_29 : decode (mB MX9_pricedRates) 29 = .ok (.iinc 3 1, 3) := by decide +kernel
theorem eX9_pricedRates_32 : decode (mB MX9_pricedRates) 32 = .ok (.goto (-28), 3) := by decide +kernel
theorem eX9_pricedRates_35 : decode (mB MX9_pricedRates) 35 = .ok (.iload_n 2, 1) := by decide +kernel
theorem eX9_pricedRates_36 : decode (mB MX9_pricedRates) 36 = .ok (.ireturn, 1) := by decide +kernel
theorem eX9_isPricedBy_0 : decode (mB MX9_isPricedBy) 0 = .ok (.iconst 0, 1) := by decide +kernel
theorem eX9_isPricedBy_1 : decode (mB MX9_isPricedBy) 1 = .ok (.istore_n 3, 1) := by decide +kernel
theorem eX9_isPricedBy_2 : decode (mB MX9_isPricedBy) 2 = .ok (.iload_n 3, 1) := by decide +kernel
theorem eX9_isPricedBy_3 : decode (mB MX9_isPricedBy) 3 = .ok (.aload_n 1, 1) := by decide +kernel
theorem eX9_isPricedBy_4 : decode (mB MX9_isPricedBy) 4 = .ok (.getfield 231, 3) := by decide +kernel
theorem eX9_isPricedBy_7 : decode (mB MX9_isPricedBy) 7 = .ok (.if_icmp .ge 66, 3) := by decide +kernel
theorem eX9_isPricedBy_10 : decode (mB MX9_isPricedBy) 10 = .ok (.aload_n 1, 1) := by decide +kernel
theorem eX9_isPricedBy_11 : decode (mB MX9_isPricedBy) 11 = .ok (.getfield 232, 3) := by decide +kernel
theorem eX9_isPricedBy_14 : decode (mB MX9_isPricedBy) 14 = .ok (.iload_n 3, 1) := by decide +kernel
theorem eX9_isPricedBy_15 : decode (mB MX9_isPricedBy) 15 = .ok (.laload, 1) := by decide +kernel
theorem eX9_isPricedBy_16 : decode (mB MX9_isPricedBy) 16 = .ok (.l2i, 1) := by decide +kernel
theorem eX9_isPricedBy_17 : decode (mB MX9_isPricedBy) 17 = .ok (.istore 4, 2) := by decide +kernel
theorem eX9_isPricedBy_19 : decode (mB MX9_isPricedBy) 19 = .ok (.aload_n 0, 1) := by decide +kernel
theorem eX9_isPricedBy_20 : decode (mB MX9_isPricedBy) 20 = .ok (.getfield 19, 3) := by decide +kernel
theorem eX9_isPricedBy_23 : decode (mB MX9_isPricedBy) 23 = .ok (.aload_n 0, 1) := by decide +kernel
theorem eX9_isPricedBy_24 : decode (mB MX9_isPricedBy) 24 = .ok (.getfield 26, 3) := by decide +kernel
theorem eX9_isPricedBy_27 : decode (mB MX9_isPricedBy) 27 = .ok (.getfield 145, 3) := by decide +kernel
theorem eX9_isPricedBy_30 : decode (mB MX9_isPricedBy) 30 = .ok (.iload 4, 2) := by decide +kernel
theorem eX9_isPricedBy_32 : decode (mB MX9_isPricedBy) 32 = .ok (.sipush 1000, 3) := by decide +kernel
theorem eX9_isPricedBy_35 : decode (mB MX9_isPricedBy) 35 = .ok (.idiv, 1) := by decide +kernel
theorem eX9_isPricedBy_36 : decode (mB MX9_isPricedBy) 36 = .ok (.invokevirtual 148, 3) := by decide +kernel
theorem eX9_isPricedBy_39 : decode (mB MX9_isPricedBy) 39 = .ok (.istore 5, 2) := by decide +kernel
theorem eX9_isPricedBy_41 : decode (mB MX9_isPricedBy) 41 = .ok (.iload 5, 2) := by decide +kernel
theorem eX9_isPricedBy_43 : decode (mB MX9_isPricedBy) 43 = .ok (.ifCond .lt 22, 3) := by decide +kernel
theorem eX9_isPricedBy_46 : decode (mB MX9_isPricedBy) 46 = .ok (.aload_n 0, 1) := by decide +kernel
theorem eX9_isPricedBy_47 : decode (mB MX9_isPricedBy) 47 = .ok (.getfield 19, 3) := by decide +kernel
theorem eX9_isPricedBy_50 : decode (mB MX9_isPricedBy) 50 = .ok (.iload 5, 2) := by decide +kernel
theorem eX9_isPricedBy_52 : decode (mB MX9_isPricedBy) 52 = .ok (.iload_n 2, 1) := by decide +kernel
theorem eX9_isPricedBy_53 : decode (mB MX9_isPricedBy) 53 = .ok (.invokevirtual 161, 3) := by decide +kernel
theorem eX9_isPricedBy_56 : decode (mB MX9_isPricedBy) 56 = .ok (.iload 4, 2) := by decide +kernel
theorem eX9_isPricedBy_58 : decode (mB MX9_isPricedBy) 58 = .ok (.sipush 1000, 3) := by decide +kernel
theorem eX9_isPricedBy_61 : decode (mB MX9_isPricedBy) 61 = .ok (.irem, 1) := by decide +kernel
theorem eX9_isPricedBy_62 : decode (mB MX9_isPricedBy) 62 = .ok (.if_icmp .eq 5, 3) := by decide +kernel
theorem eX9_isPricedBy_65 : decode (mB MX9_isPricedBy) 65 = .ok (.iconst 0, 1) := by decide +kernel
theorem eX9_isPricedBy_66 : decode (mB MX9_isPricedBy) 66 = .ok (.ireturn, 1) := by decide +kernel
theorem eX9_isPricedBy_67 : decode (mB MX9_isPricedBy) 67 = .ok (.iinc 3 1, 3) := by decide +kernel
theorem eX9_isPricedBy_70 : decode (mB MX9_isPricedBy) 70 = .ok (.goto (-68), 3) := by decide +kernel
theorem eX9_isPricedBy_73 : decode (mB MX9_isPricedBy) 73 = .ok (.iconst 1, 1) := by decide +kernel
theorem eX9_isPricedBy_74 : decode (mB MX9_isPricedBy) 74 = .ok (.ireturn, 1) := by decide +kernel
theorem eX9_chance_0 : decode (mB MX9_chance) 0 = .ok (.aload_n 0, 1) := by decide +kernel
theorem eX9_chance_1 : decode (mB MX9_chance) 1 = .ok (.iload_n 1, 1) := by decide +kernel
theorem eX9_chance_2 : decode (mB MX9_chance) 2 = .ok (.iload_n 2, 1) := by decide +kernel
theorem eX9_chance_3 : decode (mB MX9_chance) 3 = .ok (.iconst 0, 1) := by decide +kernel
theorem eX9_chance_4 : decode (mB MX9_chance) 4 = .ok (.invokevirtual 352, 3) := by decide +kernel
theorem eX9_chance_7 : decode (mB MX9_chance) 7 = .ok (.ireturn, 1) := by decide +kernel
theorem eX9_mean_0 : decode (mB MX9_mean) 0 = .ok (.aload_n 0, 1) := by decide +kernel
theorem eX9_mean_1 : decode (mB MX9_mean) 1 = .ok (.iload_n 1, 1) := by decide +kernel
theorem eX9_mean_2 : decode (mB MX9_mean) 2 = .ok (.iload_n 2, 1) := by decide +kernel
theorem eX9_mean_3 : decode (mB MX9_mean) 3 = .ok (.iconst 1, 1) := by decide +kernel
theorem eX9_mean_4 : decode (mB MX9_mean) 4 = .ok (.invokevirtual 352, 3) := by decide +kernel
theorem eX9_mean_7 : decode (mB MX9_mean) 7 = .ok (.ireturn, 1) := by decide +kernel
theorem eX9_lotsFraction_0 : decode (mB MX9_lotsFraction) 0 = .ok (.iload_n 2, 1) := by decide +kernel
theorem eX9_lotsFraction_1 : decode (mB MX9_lotsFraction) 1 = .ok (.ifCond .lt 8, 3) := by decide +kernel
theorem eX9_lotsFraction_4 : decode (mB MX9_lotsFraction) 4 = .ok (.iload_n 2, 1) := by decide +kernel
theorem eX9_lotsFraction_5 : decode (mB MX9_lotsFraction) 5 = .ok (.iconst 1, 1) := by decide +kernel
theorem eX9_lotsFraction_6 : decode (mB MX9_lotsFraction) 6 = .ok (.if_icmp .le 6, 3) := by decide +kernel
theorem eX9_lotsFraction_9 : decode (mB MX9_lotsFraction) 9 = .ok (.bipush (-2), 2) := by decide +kernel
theorem eX9_lotsFraction_11 : decode (mB MX9_lotsFraction) 11 = .ok (.ireturn, 1) := by decide +kernel
theorem eX9_lotsFraction_12 : decode (mB MX9_lotsFraction) 12 = .ok (.iload_n 1, 1) := by decide +kernel
theorem eX9_lotsFraction_13 : decode (mB MX9_lotsFraction) 13 = .ok (.ifCond .lt 8, 3) := by decide +kernel
theorem eX9_lotsFraction_16 : decode (mB MX9_lotsFraction) 16 = .ok (.iload_n 1, 1) := by decide +kernel
theorem eX9_lotsFraction_17 : decode (mB MX9_lotsFraction) 17 = .ok (.iconst 3, 1) := by decide +kernel
theorem eX9_lotsFraction_18 : decode (mB MX9_lotsFraction) 18 = .ok (.if_icmp .le 6, 3) := by decide +kernel
theorem eX9_lotsFraction_21 : decode (mB MX9_lotsFraction) 21 = .ok (.bipush (-3), 2) := by decide +kernel
theorem eX9_lotsFraction_23 : decode (mB MX9_lotsFraction) 23 = .ok (.ireturn, 1) := by decide +kernel
theorem eX9_lotsFraction_24 : decode (mB MX9_lotsFraction) 24 = .ok (.iconst 1, 1) := by decide +kernel
theorem eX9_lotsFraction_25 : decode (mB MX9_lotsFraction) 25 = .ok (.istore 4, 2) := by decide +kernel
theorem eX9_lotsFraction_27 : decode (mB MX9_lotsFraction) 27 = .ok (.iconst 0, 1) := by decide +kernel
theorem eX9_lotsFraction_28 : decode (mB MX9_lotsFraction) 28 = .ok (.istore 5, 2) := by decide +kernel
theorem eX9_lotsFraction_30 : decode (mB MX9_lotsFraction) 30 = .ok (.iload 5, 2) := by decide +kernel
theorem eX9_lotsFraction_32 : decode (mB MX9_lotsFraction) 32 = .ok (.iload_n 1, 1) := by decide +kernel
theorem eX9_lotsFraction_33 : decode (mB MX9_lotsFraction) 33 = .ok (.if_icmp .ge 16, 3) := by decide +kernel
theorem eX9_lotsFraction_36 : decode (mB MX9_lotsFraction) 36 = .ok (.iload 4, 2) := by decide +kernel
theorem eX9_lotsFraction_38 : decode (mB MX9_lotsFraction) 38 = .ok (.bipush 10, 2) := by decide +kernel
theorem eX9_lotsFraction_40 : decode (mB MX9_lotsFraction) 40 = .ok (.imul, 1) := by decide +kernel
theorem eX9_lotsFraction_41 : decode (mB MX9_lotsFraction) 41 = .ok (.istore 4, 2) := by decide +kernel
theorem eX9_lotsFraction_43 : decode (mB MX9_lotsFraction) 43 = .ok (.iinc 5 1, 3) := by decide +kernel
theorem eX9_lotsFraction_46 : decode (mB MX9_lotsFraction) 46 = .ok (.goto (-16), 3) := by decide +kernel
theorem eX9_lotsFraction_49 : decode (mB MX9_lotsFraction) 49 = .ok (.aload_n 0, 1) := by decide +kernel
theorem eX9_lotsFraction_50 : decode (mB MX9_lotsFraction) 50 = .ok (.getfield 65, 3) := by decide +kernel
theorem eX9_lotsFraction_53 : decode (mB MX9_lotsFraction) 53 = .ok (.aload_n 0, 1) := by decide +kernel
theorem eX9_lotsFraction_54 : decode (mB MX9_lotsFraction) 54 = .ok (.aload_n 0, 1) := by decide +kernel
theorem eX9_lotsFraction_55 : decode (mB MX9_lotsFraction) 55 = .ok (.getfield 26, 3) := by decide +kernel
theorem eX9_lotsFraction_58 : decode (mB MX9_lotsFraction) 58 = .ok (.iload_n 1, 1) := by decide +kernel
theorem eX9_lotsFraction_59 : decode (mB MX9_lotsFraction) 59 = .ok (.iload_n 3, 1) := by decide +kernel
theorem eX9_lotsFraction_60 : decode (mB MX9_lotsFraction) 60 = .ok (.invokevirtual 356, 3) := by decide +kernel
theorem eX9_lotsFraction_63 : decode (mB MX9_lotsFraction) 63 = .ok (.i2l, 1) := by decide +kernel
theorem eX9_lotsFraction_64 : decode (mB MX9_lotsFraction) 64 = .ok (.iload 4, 2) := by decide +kernel
theorem eX9_lotsFraction_66 : decode (mB MX9_lotsFraction) 66 = .ok (.i2l, 1) := by decide +kernel
theorem eX9_lotsFraction_67 : decode (mB MX9_lotsFraction) 67 = .ok (.invokevirtual 360, 3) := by decide +kernel
theorem eX9_lotsFraction_70 : decode (mB MX9_lotsFraction) 70 = .ok (.aload_n 0, 1) := by decide +kernel
theorem eX9_lotsFraction_71 : decode (mB MX9_lotsFraction) 71 = .ok (.getfield 65, 3) := by decide +kernel
theorem eX9_lotsFraction_74 : decode (mB MX9_lotsFraction) 74 = .ok (.iload_n 2, 1) := by decide +kernel
theorem eX9_lotsFraction_75 : decode (mB MX9_lotsFraction) 75 = .ok (.invokevirtual 280, 3) := by decide +kernel
theorem eX9_lotsFraction_78 : decode (mB MX9_lotsFraction) 78 = .ok (.l2i, 1) := by decide +kernel
theorem eX9_lotsFraction_79 : decode (mB MX9_lotsFraction) 79 = .ok (.ireturn, 1) := by decide +kernel
theorem eX9_sumOverLots_0 : decode (mB MX9_sumOverLots) 0 = .ok (.iload_n 2, 1) := by decide +kernel
theorem eX9_sumOverLots_1 : decode (mB MX9_sumOverLots) 1 = .ok (.ifCond .le 12, 3) := by decide +kernel
theorem eX9_sumOverLots_4 : decode (mB MX9_sumOverLots) 4 = .ok (.iload_n 2, 1) := by decide +kernel
theorem eX9_sumOverLots_5 : decode (mB MX9_sumOverLots) 5 = .ok (.aload_n 0, 1) := by decide +kernel
theorem eX9_sumOverLots_6 : decode (mB MX9_sumOverLots) 6 = .ok (.getfield 37, 3) := by decide +kernel
theorem eX9_sumOverLots_9 : decode (mB MX9_sumOverLots) 9 = .ok (.arraylength, 1) := by decide +kernel
theorem eX9_sumOverLots_10 : decode (mB MX9_sumOverLots) 10 = .ok (.if_icmp .lt 37, 3) := by decide +kernel
theorem eX9_sumOverLots_13 : decode (mB MX9_sumOverLots) 13 = .ok (.aload_n 0, 1) := by decide +kernel
theorem eX9_sumOverLots_14 : decode (mB MX9_sumOverLots) 14 = .ok (.getfield 51, 3) := by decide +kernel
theorem eX9_sumOverLots_17 : decode (mB MX9_sumOverLots) 17 = .ok (.aload_n 0, 1) := by decide +kernel
theorem eX9_sumOverLots_18 : decode (mB MX9_sumOverLots) 18 = .ok (.getfield 19, 3) := by decide +kernel
theorem eX9_sumOverLots_21 : decode (mB MX9_sumOverLots) 21 = .ok (.aload_n 1, 1) := by decide +kernel
theorem eX9_sumOverLots_22 : decode (mB MX9_sumOverLots) 22 = .ok (.invokevirtual 200, 3) := by decide +kernel
theorem eX9_sumOverLots_25 : decode (mB MX9_sumOverLots) 25 = .ok (.istore 4, 2) := by decide +kernel
theorem eX9_sumOverLots_27 : decode (mB MX9_sumOverLots) 27 = .ok (.iload_n 3, 1) := by decide +kernel
theorem eX9_sumOverLots_28 : decode (mB MX9_sumOverLots) 28 = .ok (.ifCond .eq 8, 3) := by decide +kernel
theorem eX9_sumOverLots_31 : decode (mB MX9_sumOverLots) 31 = .ok (.iload 4, 2) := by decide +kernel
theorem eX9_sumOverLots_33 : decode (mB MX9_sumOverLots) 33 = .ok (.goto 13, 3) := by decide +kernel
theorem eX9_sumOverLots_36 : decode (mB MX9_sumOverLots) 36 = .ok (.iload 4, 2) := by decide +kernel
theorem eX9_sumOverLots_38 : decode (mB MX9_sumOverLots) 38 = .ok (.ifCond .ne 7, 3) := by decide +kernel
theorem eX9_sumOverLots_41 : decode (mB MX9_sumOverLots) 41 = .ok (.iconst 1, 1) := by decide +kernel
theorem eX9_sumOverLots_42 : decode (mB MX9_sumOverLots) 42 = .ok (.goto 4, 3) := by decide +kernel
theorem eX9_sumOverLots_45 : decode (mB MX9_sumOverLots) 45 = .ok (.iconst 0, 1) := by decide +kernel
theorem eX9_sumOverLots_46 : decode (mB MX9_sumOverLots) 46 = .ok (.ireturn, 1) := by decide +kernel
theorem eX9_sumOverLots_47 : decode (mB MX9_sumOverLots) 47 = .ok (.bipush 10, 2) := by decide +kernel
theorem eX9_sumOverLots_49 : decode (mB MX9_sumOverLots) 49 = .ok (.istore 4, 2) := by decide +kernel
theorem eX9_sumOverLots_51 : decode (mB MX9_sumOverLots) 51 = .ok (.iconst 0, 1) := by decide +kernel
theorem eX9_sumOverLots_52 : decode (mB MX9_sumOverLots) 52 = .ok (.istore 5, 2) := by decide +kernel
theorem eX9_sumOverLots_54 : decode (mB MX9_sumOverLots) 54 = .ok (.iconst 0, 1) := by decide +kernel
theorem eX9_sumOverLots_55 : decode (mB MX9_sumOverLots) 55 = .ok (.istore 6, 2) := by decide +kernel
theorem eX9_sumOverLots_57 : decode (mB MX9_sumOverLots) 57 = .ok (.iload 6, 2) := by decide +kernel
theorem eX9_sumOverLots_59 : decode (mB MX9_sumOverLots) 59 = .ok (.aload_n 0, 1) := by decide +kernel
theorem eX9_sumOverLots_60 : decode (mB MX9_sumOverLots) 60 = .ok (.getfield 19, 3) := by decide +kernel
theorem eX9_sumOverLots_63 : decode (mB MX9_sumOverLots) 63 = .ok (.getfield 309, 3) := by decide +kernel
theorem eX9_sumOverLots_66 : decode (mB MX9_sumOverLots) 66 = .ok (.if_icmp .ge 70, 3) := by decide +kernel
theorem eX9_sumOverLots_69 : decode (mB MX9_sumOverLots) 69 = .ok (.aload_n 1, 1) := by decide +kernel
theorem eX9_sumOverLots_70 : decode (mB MX9_sumOverLots) 70 = .ok (.iload 6, 2) := by decide +kernel
theorem eX9_sumOverLots_72 : decode (mB MX9_sumOverLots) 72 = .ok (.invokevirtual 134, 3) := by decide +kernel
theorem eX9_sumOverLots_75 : decode (mB MX9_sumOverLots) 75 = .ok (.ifCond .ne 55, 3) := by decide +kernel
theorem eX9_sumOverLots_78 : decode (mB MX9_sumOverLots) 78 = .ok (.aload_n 0, 1) := by decide +kernel
theorem eX9_sumOverLots_79 : decode (mB MX9_sumOverLots) 79 = .ok (.getfield 37, 3) := by decide +kernel
theorem eX9_sumOverLots_82 : decode (mB MX9_sumOverLots) 82 = .ok (.iload_n 2, 1) := by decide +kernel
theorem eX9_sumOverLots_83 : decode (mB MX9_sumOverLots) 83 = .ok (.aaload, 1) := by decide +kernel
theorem eX9_sumOverLots_84 : decode (mB MX9_sumOverLots) 84 = .ok (.aload_n 1, 1) := by decide +kernel
theorem eX9_sumOverLots_85 : decode (mB MX9_sumOverLots) 85 = .ok (.invokevirtual 181, 3) := by decide +kernel
theorem eX9_sumOverLots_88 : decode (mB MX9_sumOverLots) 88 = .ok (.aload_n 0, 1) := by decide +kernel
theorem eX9_sumOverLots_89 : decode (mB MX9_sumOverLots) 89 = .ok (.getfield 51, 3) := by decide +kernel
theorem eX9_sumOverLots_92 : decode (mB MX9_sumOverLots) 92 = .ok (.aload_n 0, 1) := by decide +kernel
theorem eX9_sumOverLots_93 : decode (mB MX9_sumOverLots) 93 = .ok (.getfield 19, 3) := by decide +kernel
theorem eX9_sumOverLots_96 : decode (mB MX9_sumOverLots) 96 = .ok (.aload_n 0, 1) := by decide +kernel
theorem eX9_sumOverLots_97 : decode (mB MX9_sumOverLots) 97 = .ok (.getfield 37, 3) := by decide +kernel
theorem eX9_sumOverLots_100 : decode (mB MX9_sumOverLots) 100 = .ok (.iload_n 2, 1) := by decide +kernel
theorem eX9_sumOverLots_101 : decode (mB MX9_sumOverLots) 101 = .ok (.aaload, 1) := by decide +kernel
theorem eX9_sumOverLots_102 : decode (mB MX9_sumOverLots) 102 = .ok (.iload 6, 2) := by decide +kernel
theorem eX9_sumOverLots_104 : decode (mB MX9_sumOverLots) 104 = .ok (.invokevirtual 197, 3) := by decide +kernel
theorem eX9_sumOverLots_107 : decode (mB MX9_sumOverLots) 107 = .ok (.pop, 1) := by decide +kernel
theorem eX9_sumOverLots_108 : decode (mB MX9_sumOverLots) 108 = .ok (.iload 5, 2) := by decide +kernel
theorem eX9_sumOverLots_110 : decode (mB MX9_sumOverLots) 110 = .ok (.aload_n 0, 1) := by decide +kernel
theorem eX9_sumOverLots_111 : decode (mB MX9_sumOverLots) 111 = .ok (.aload_n 0, 1) := by decide +kernel
theorem eX9_sumOverLots_112 : decode (mB MX9_sumOverLots) 112 = .ok (.getfield 37, 3) := by decide +kernel
theorem eX9_sumOverLots_115 : decode (mB MX9_sumOverLots) 115 = .ok (.iload_n 2, 1) := by decide +kernel
theorem eX9_sumOverLots_116 : decode (mB MX9_sumOverLots) 116 = .ok (.aaload, 1) := by decide +kernel
theorem eX9_sumOverLots_117 : decode (mB MX9_sumOverLots) 117 = .ok (.iload_n 2, 1) := by decide +kernel
theorem eX9_sumOverLots_118 : decode (mB MX9_sumOverLots) 118 = .ok (.iconst 1, 1) := by decide +kernel
theorem eX9_sumOverLots_119 : decode (mB MX9_sumOverLots) 119 = .ok (.isub, 1) := by decide +kernel
theorem eX9_sumOverLots_120 : decode (mB MX9_sumOverLots) 120 = .ok (.iload_n 3, 1) := by decide +kernel
theorem eX9_sumOverLots_121 : decode (mB MX9_sumOverLots) 121 = .ok (.invokevirtual 356, 3) := by decide +kernel
theorem eX9_sumOverLots_124 : decode (mB MX9_sumOverLots) 124 = .ok (.iadd, 1) := by decide +kernel
theorem eX9_sumOverLots_125 : decode (mB MX9_sumOverLots) 125 = .ok (.istore 5, 2) := by decide +kernel
theorem eX9_sumOverLots_127 : decode (mB MX9_sumOverLots) 127 = .ok (.iinc 4 (-1), 3) := by decide +kernel
theorem eX9_sumOverLots_130 : decode (mB MX9_sumOverLots) 130 = .ok (.iinc 6 1, 3) := by decide +kernel
theorem eX9_sumOverLots_133 : decode (mB MX9_sumOverLots) 133 = .ok (.goto (-76), 3) := by decide +kernel
theorem eX9_sumOverLots_136 : decode (mB MX9_sumOverLots) 136 = .ok (.iload 4, 2) := by decide +kernel
theorem eX9_sumOverLots_138 : decode (mB MX9_sumOverLots) 138 = .ok (.ifCond .ne 8, 3) := by decide +kernel
theorem eX9_sumOverLots_141 : decode (mB MX9_sumOverLots) 141 = .ok (.iload 5, 2) := by decide +kernel
theorem eX9_sumOverLots_143 : decode (mB MX9_sumOverLots) 143 = .ok (.goto 18, 3) := by decide +kernel
theorem eX9_sumOverLots_146 : decode (mB MX9_sumOverLots) 146 = .ok (.iload 5, 2) := by decide +kernel
theorem eX9_sumOverLots_148 : decode (mB MX9_sumOverLots) 148 = .ok (.iload 4, 2) := by decide +kernel
theorem eX9_sumOverLots_150 : decode (mB MX9_sumOverLots) 150 = .ok (.aload_n 0, 1) := by decide +kernel
theorem eX9_sumOverLots_151 : decode (mB MX9_sumOverLots) 151 = .ok (.aload_n 1, 1) := by decide +kernel
theorem eX9_sumOverLots_152 : decode (mB MX9_sumOverLots) 152 = .ok (.iload_n 2, 1) := by decide +kernel
theorem eX9_sumOverLots_153 : decode (mB MX9_sumOverLots) 153 = .ok (.iconst 1, 1) := by decide +kernel
theorem eX9_sumOverLots_154 : decode (mB MX9_sumOverLots) 154 = .ok (.isub, 1) := by decide +kernel
theorem eX9_sumOverLots_155 : decode (mB MX9_sumOverLots) 155 = .ok (.iload_n 3, 1) := by decide +kernel
theorem eX9_sumOverLots_156 : decode (mB MX9_sumOverLots) 156 = .ok (.invokevirtual 356, 3) := by decide +kernel
theorem eX9_sumOverLots_159 : decode (mB MX9_sumOverLots) 159 = .ok (.imul, 1) := by decide +kernel
theorem eX9_sumOverLots_160 : decode (mB MX9_sumOverLots) 160 = .ok (.iadd, 1) := by decide +kernel
theorem eX9_sumOverLots_161 : decode (mB MX9_sumOverLots) 161 = .ok (.ireturn, 1) := by decide +kernel
theorem eX9_numbers_0 : decode (mB MX9_numbers) 0 = .ok (.iload_n 1, 1) := by decide +kernel
theorem eX9_numbers_1 : decode (mB MX9_numbers) 1 = .ok (.invokestatic 220, 3) := by decide +kernel
theorem eX9_numbers_4 : decode (mB MX9_numbers) 4 = .ok (.ifCond .eq 12, 3) := by decide +kernel
theorem eX9_numbers_7 : decode (mB MX9_numbers) 7 = .ok (.iload_n 2, 1) := by decide +kernel
theorem eX9_numbers_8 : decode (mB MX9_numbers) 8 = .ok (.ifCond .lt 8, 3) := by decide +kernel
theorem eX9_numbers_11 : decode (mB MX9_numbers) 11 = .ok (.iload_n 2, 1) := by decide +kernel
theorem eX9_numbers_12 : decode (mB MX9_numbers) 12 = .ok (.iconst 4, 1) := by decide +kernel
theorem eX9_numbers_13 : decode (mB MX9_numbers) 13 = .ok (.if_icmp .lt 6, 3) := by decide +kernel
theorem eX9_numbers_16 : decode (mB MX9_numbers) 16 = .ok (.bipush (-2), 2) := by decide +kernel
theorem eX9_numbers_18 : decode (mB MX9_numbers) 18 = .ok (.ireturn, 1) := by decide +kernel
theorem eX9_numbers_19 : decode (mB MX9_numbers) 19 = .ok (.iload_n 3, 1) := by decide +kernel
theorem eX9_numbers_20 : decode (mB MX9_numbers) 20 = .ok (.ifCond .lt 9, 3) := by decide +kernel
theorem eX9_numbers_23 : decode (mB MX9_numbers) 23 = .ok (.iload_n 3, 1) := by decide +kernel
theorem eX9_numbers_24 : decode (mB MX9_numbers) 24 = .ok (.bipush 40, 2) := by decide +kernel
theorem eX9_numbers_26 : decode (mB MX9_numbers) 26 = .ok (.if_icmp .le 6, 3) := by decide +kernel
theorem eX9_numbers_29 : decode (mB MX9_numbers) 29 = .ok (.bipush (-3), 2) := by decide +kernel
theorem eX9_numbers_31 : decode (mB MX9_numbers) 31 = .ok (.ireturn, 1) := by decide +kernel
theorem eX9_numbers_32 : decode (mB MX9_numbers) 32 = .ok (.aload_n 0, 1) := by decide +kernel
theorem eX9_numbers_33 : decode (mB MX9_numbers) 33 = .ok (.getfield 73, 3) := by decide +kernel
theorem eX9_numbers_36 : decode (mB MX9_numbers) 36 = .ok (.iload_n 1, 1) := by decide +kernel
theorem eX9_numbers_37 : decode (mB MX9_numbers) 37 = .ok (.aaload, 1) := by decide +kernel
theorem eX9_numbers_38 : decode (mB MX9_numbers) 38 = .ok (.iload_n 2, 1) := by decide +kernel
theorem eX9_numbers_39 : decode (mB MX9_numbers) 39 = .ok (.iload_n 3, 1) := by decide +kernel
theorem eX9_numbers_40 : decode (mB MX9_numbers) 40 = .ok (.invokevirtual 363, 3) := by decide +kernel
theorem eX9_numbers_43 : decode (mB MX9_numbers) 43 = .ok (.iconst 0, 1) := by decide +kernel
theorem eX9_numbers_44 : decode (mB MX9_numbers) 44 = .ok (.ireturn, 1) := by decide +kernel
theorem eX9_write_0 : decode (mB MX9_write) 0 = .ok (.iload_n 1, 1) := by decide +kernel
theorem eX9_write_1 : decode (mB MX9_write) 1 = .ok (.invokestatic 220, 3) := by decide +kernel
theorem eX9_write_4 : decode (mB MX9_write) 4 = .ok (.ifCond .ne 7, 3) := by decide +kernel
theorem eX9_write_7 : decode (mB MX9_write) 7 = .ok (.ldc2_w 272, 3) := by decide +kernel
theorem eX9_write_10 : decode (mB MX9_write) 10 = .ok (.lreturn, 1) := by decide +kernel
theorem eX9_write_11 : decode (mB MX9_write) 11 = .ok (.aload_n 0, 1) := by decide +kernel
theorem eX9_write_12 : decode (mB MX9_write) 12 = .ok (.getfield 73, 3) := by decide +kernel
theorem eX9_write_15 : decode (mB MX9_write) 15 = .ok (.iload_n 1, 1) := by decide +kernel
theorem eX9_write_16 : decode (mB MX9_write) 16 = .ok (.aaload, 1) := by decide +kernel
theorem eX9_write_17 : decode (mB MX9_write) 17 = .ok (.astore 5, 2) := by decide +kernel
theorem eX9_write_19 : decode (mB MX9_write) 19 = .ok (.aload 5, 2) := by decide +kernel
theorem eX9_write_21 : decode (mB MX9_write) 21 = .ok (.invokevirtual 223, 3) := by decide +kernel
theorem eX9_write_24 : decode (mB MX9_write) 24 = .ok (.ifCond .eq 7, 3) := by decide +kernel
theorem eX9_write_27 : decode (mB MX9_write) 27 = .ok (.ldc2_w 366, 3) := by decide +kernel
theorem eX9_write_30 : decode (mB MX9_write) 30 = .ok (.lreturn, 1) := by decide +kernel
theorem eX9_write_31 : decode (mB MX9_write) 31 = .ok (.iload_n 2, 1) := by decide +kernel
theorem eX9_write_32 : decode (mB MX9_write) 32 = .ok (.ifCond .lt 12, 3) := by decide +kernel
theorem eX9_write_35 : decode (mB MX9_write) 35 = .ok (.iload_n 2, 1) := by decide +kernel
theorem eX9_write_36 : decode (mB MX9_write) 36 = .ok (.aload 5, 2) := by decide +kernel
theorem eX9_write_38 : decode (mB MX9_write) 38 = .ok (.getfield 231, 3) := by decide +kernel
theorem eX9_write_41 : decode (mB MX9_write) 41 = .ok (.if_icmp .lt 7, 3) := by decide +kernel
theorem eX9_write_44 : decode (mB MX9_write) 44 = .ok (.ldc2_w 368, 3) := by decide +kernel
theorem eX9_write_47 : decode (mB MX9_write) 47 = .ok (.lreturn, 1) := by decide +kernel
theorem eX9_write_48 : decode (mB MX9_write) 48 = .ok (.aload 5, 2) := by decide +kernel
theorem eX9_write_50 : decode (mB MX9_write) 50 = .ok (.iload_n 2, 1) := by decide +kernel
theorem eX9_write_51 : decode (mB MX9_write) 51 = .ok (.lload_n 3, 1) := by decide +kernel
theorem eX9_write_52 : decode (mB MX9_write) 52 = .ok (.invokevirtual 370, 3) := by decide +kernel
theorem eX9_write_55 : decode (mB MX9_write) 55 = .ok (.aload 5, 2) := by decide +kernel
theorem eX9_write_57 : decode (mB MX9_write) 57 = .ok (.getfield 232, 3) := by decide +kernel
theorem eX9_write_60 : decode (mB MX9_write) 60 = .ok (.iload_n 2, 1) := by decide +kernel
theorem eX9_write_61 : decode (mB MX9_write) 61 = .ok (.laload, 1) := by decide +kernel
theorem eX9_write_62 : decode (mB MX9_write) 62 = .ok (.lreturn, 1) := by decide +kernel
theorem eX9_lists_0 : decode (mB MX9_lists) 0 = .ok (.iload_n 1, 1) := by decide +kernel
theorem eX9_lists_1 : decode (mB MX9_lists) 1 = .ok (.invokestatic 220, 3) := by decide +kernel
theorem eX9_lists_4 : decode (mB MX9_lists) 4 = .ok (.ifCond .eq 10, 3) := by decide +kernel
theorem eX9_lists_7 : decode (mB MX9_lists) 7 = .ok (.iload_n 2, 1) := by decide +kernel
theorem eX9_lists_8 : decode (mB MX9_lists) 8 = .ok (.invokestatic 256, 3) := by decide +kernel
theorem eX9_lists_11 : decode (mB MX9_lists) 11 = .ok (.ifCond .ne 6, 3) := by decide +kernel
theorem eX9_lists_14 : decode (mB MX9_lists) 14 = .ok (.bipush (-2), 2) := by decide +kernel
theorem eX9_lists_16 : decode (mB MX9_lists) 16 = .ok (.ireturn, 1) := by decide +kernel
theorem eX9_lists_17 : decode (mB MX9_lists) 17 = .ok (.aload_n 0, 1) := by decide +kernel
theorem eX9_lists_18 : decode (mB MX9_lists) 18 = .ok (.getfield 73, 3) := by decide +kernel
theorem eX9_lists_21 : decode (mB MX9_lists) 21 = .ok (.iload_n 1, 1) := by decide +kernel
theorem eX9_lists_22 : decode (mB MX9_lists) 22 = .ok (.aaload, 1) := by decide +kernel
theorem eX9_lists_23 : decode (mB MX9_lists) 23 = .ok (.astore_n 3, 1) := by decide +kernel
theorem eX9_lists_24 : decode (mB MX9_lists) 24 = .ok (.aload_n 3, 1) := by decide +kernel
theorem eX9_lists_25 : decode (mB MX9_lists) 25 = .ok (.invokevirtual 223, 3) := by decide +kernel
theorem eX9_lists_28 : decode (mB MX9_lists) 28 = .ok (.ifCond .eq 6, 3) := by decide +kernel
theorem eX9_lists_31 : decode (mB MX9_lists) 31 = .ok (.bipush (-6), 2) := by decide +kernel
theorem eX9_lists_33 : decode (mB MX9_lists) 33 = .ok (.ireturn, 1) := by decide +kernel
theorem eX9_lists_34 : decode (mB MX9_lists) 34 = .ok (.aload_n 0, 1) := by decide +kernel
theorem eX9_lists_35 : decode (mB MX9_lists) 35 = .ok (.getfield 58, 3) := by decide +kernel
theorem eX9_lists_38 : decode (mB MX9_lists) 38 = .ok (.aload_n 0, 1) := by decide +kernel
theorem eX9_lists_39 : decode (mB MX9_lists) 39 = .ok (.getfield 19, 3) := by decide +kernel
theorem eX9_lists_42 : decode (mB MX9_lists) 42 = .ok (.aload_n 0, 1) := by decide +kernel
theorem eX9_lists_43 : decode (mB MX9_lists) 43 = .ok (.getfield 26, 3) := by decide +kernel
theorem eX9_lists_46 : decode (mB MX9_lists) 46 = .ok (.iload_n 2, 1) := by decide +kernel
theorem eX9_lists_47 : decode (mB MX9_lists) 47 = .ok (.invokevirtual 259, 3) := by decide +kernel
theorem eX9_lists_50 : decode (mB MX9_lists) 50 = .ok (.ifCond .ne 6, 3) := by decide +kernel
theorem eX9_lists_53 : decode (mB MX9_lists) 53 = .ok (.bipush (-5), 2) := by decide +kernel
theorem eX9_lists_55 : decode (mB MX9_lists) 55 = .ok (.ireturn, 1) := by decide +kernel
theorem eX9_lists_56 : decode (mB MX9_lists) 56 = .ok (.iconst 0, 1) := by decide +kernel
theorem eX9_lists_57 : decode (mB MX9_lists) 57 = .ok (.istore 4, 2) := by decide +kernel
theorem eX9_lists_59 : decode (mB MX9_lists) 59 = .ok (.iconst 0, 1) := by decide +kernel
theorem eX9_lists_60 : decode (mB MX9_lists) 60 = .ok (.istore 5, 2) := by decide +kernel
theorem eX9_lists_62 : decode (mB MX9_lists) 62 = .ok (.iload 5, 2) := by decide +kernel
theorem eX9_lists_64 : decode (mB MX9_lists) 64 = .ok (.aload_n 0, 1) := by decide +kernel
theorem eX9_lists_65 : decode (mB MX9_lists) 65 = .ok (.getfield 58, 3) := by decide +kernel
theorem eX9_lists_68 : decode (mB MX9_lists) 68 = .ok (.getfield 374, 3) := by decide +kernel
theorem eX9_lists_71 : decode (mB MX9_lists) 71 = .ok (.if_icmp .ge 54, 3) := by decide +kernel
theorem eX9_lists_74 : decode (mB MX9_lists) 74 = .ok (.iconst 0, 1) := by decide +kernel
theorem eX9_lists_75 : decode (mB MX9_lists) 75 = .ok (.istore 6, 2) := by decide +kernel
theorem eX9_lists_77 : decode (mB MX9_lists) 77 = .ok (.iload 6, 2) := by decide +kernel
theorem eX9_lists_79 : decode (mB MX9_lists) 79 = .ok (.aload_n 0, 1) := by decide +kernel
theorem eX9_lists_80 : decode (mB MX9_lists) 80 = .ok (.getfield 58, 3) := by decide +kernel
theorem eX9_lists_83 : decode (mB MX9_lists) 83 = .ok (.getfield 269, 3) := by decide +kernel
theorem eX9_lists_86 : decode (mB MX9_lists) 86 = .ok (.iload 5, 2) := by decide +kernel
theorem eX9_lists_88 : decode (mB MX9_lists) 88 = .ok (.iaload, 1) := by decide +kernel
theorem eX9_lists_89 : decode (mB MX9_lists) 89 = .ok (.if_icmp .ge 30, 3) := by decide +kernel
theorem eX9_lists_92 : decode (mB MX9_lists) 92 = .ok (.iload 4, 2) := by decide +kernel
theorem eX9_lists_94 : decode (mB MX9_lists) 94 = .ok (.aload_n 3, 1) := by decide +kernel
theorem eX9_lists_95 : decode (mB MX9_lists) 95 = .ok (.getfield 231, 3) := by decide +kernel
theorem eX9_lists_98 : decode (mB MX9_lists) 98 = .ok (.if_icmp .ge 21, 3) := by decide +kernel
theorem eX9_lists_101 : decode (mB MX9_lists) 101 = .ok (.aload_n 3, 1) := by decide +kernel
theorem eX9_lists_102 : decode (mB MX9_lists) 102 = .ok (.iload 4, 2) := by decide +kernel
theorem eX9_lists_104 : decode (mB MX9_lists) 104 = .ok (.iload 5, 2) := by decide +kernel
theorem eX9_lists_106 : decode (mB MX9_lists) 106 = .ok (.i2l, 1) := by decide +kernel
theorem eX9_lists_107 : decode (mB MX9_lists) 107 = .ok (.invokevirtual 370, 3) := by decide +kernel
theorem eX9_lists_110 : decode (mB MX9_lists) 110 = .ok (.iinc 4 1, 3) := by decide +kernel
theorem eX9_lists_113 : decode (mB MX9_lists) 113 = .ok (.iinc 6 1, 3) := by decide +kernel
theorem eX9_lists_116 : decode (mB MX9_lists) 116 = .ok (.goto (-39), 3) := by decide +kernel
theorem eX9_lists_119 : decode (mB MX9_lists) 119 = .ok (.iinc 5 1, 3) := by decide +kernel
theorem eX9_lists_122 : decode (mB MX9_lists) 122 = .ok (.goto (-60), 3) := by decide +kernel
theorem eX9_lists_125 : decode (mB MX9_lists) 125 = .ok (.iload 4, 2) := by decide +kernel
theorem eX9_lists_127 : decode (mB MX9_lists) 127 = .ok (.ireturn, 1) := by decide +kernel
theorem eX9_image_0 : decode (mB MX9_image) 0 = .ok (.iload_n 1, 1) := by decide +kernel
theorem eX9_image_1 : decode (mB MX9_image) 1 = .ok (.invokestatic 377, 3) := by decide +kernel
theorem eX9_image_4 : decode (mB MX9_image) 4 = .ok (.ifCond .ne 6, 3) := by decide +kernel
theorem eX9_image_7 : decode (mB MX9_image) 7 = .ok (.bipush (-2), 2) := by decide +kernel
theorem eX9_image_9 : decode (mB MX9_image) 9 = .ok (.ireturn, 1) := by decide +kernel
theorem eX9_image_10 : decode (mB MX9_image) 10 = .ok (.aload_n 0, 1) := by decide +kernel
theorem eX9_image_11 : decode (mB MX9_image) 11 = .ok (.getfield 77, 3) := by decide +kernel
theorem eX9_image_14 : decode (mB MX9_image) 14 = .ok (.iload_n 1, 1) := by decide +kernel
theorem eX9_image_15 : decode (mB MX9_image) 15 = .ok (.aload_n 0, 1) := by decide +kernel
theorem eX9_image_16 : decode (mB MX9_image) 16 = .ok (.getfield 19, 3) := by decide +kernel
theorem eX9_image_19 : decode (mB MX9_image) 19 = .ok (.aastore, 1) := by decide +kernel
theorem eX9_image_20 : decode (mB MX9_image) 20 = .ok (.aload_n 0, 1) := by decide +kernel
theorem eX9_image_21 : decode (mB MX9_image) 21 = .ok (.getfield 81, 3) := by decide +kernel
theorem eX9_image_24 : decode (mB MX9_image) 24 = .ok (.iload_n 1, 1) := by decide +kernel
theorem eX9_image_25 : decode (mB MX9_image) 25 = .ok (.aaload, 1) := by decide +kernel
theorem eX9_image_26 : decode (mB MX9_image) 26 = .ok (.aload_n 0, 1) := by decide +kernel
theorem eX9_image_27 : decode (mB MX9_image) 27 = .ok (.getfield 26, 3) := by decide +kernel
theorem eX9_image_30 : decode (mB MX9_image) 30 = .ok (.invokevirtual 181, 3) := by decide +kernel
theorem eX9_image_33 : decode (mB MX9_image) 33 = .ok (.iconst 0, 1) := by decide +kernel
theorem eX9_image_34 : decode (mB MX9_image) 34 = .ok (.ireturn, 1) := by decide +kernel
theorem eX9_restore_0 : decode (mB MX9_restore) 0 = .ok (.iload_n 1, 1) := by decide +kernel
theorem eX9_restore_1 : decode (mB MX9_restore) 1 = .ok (.invokestatic 377, 3) := by decide +kernel
theorem eX9_restore_4 : decode (mB MX9_restore) 4 = .ok (.ifCond .ne 6, 3) := by decide +kernel
theorem eX9_restore_7 : decode (mB MX9_restore) 7 = .ok (.bipush (-2), 2) := by decide +kernel
theorem eX9_restore_9 : decode (mB MX9_restore) 9 = .ok (.ireturn, 1) := by decide +kernel
theorem eX9_restore_10 : decode (mB MX9_restore) 10 = .ok (.aload_n 0, 1) := by decide +kernel
theorem eX9_restore_11 : decode (mB MX9_restore) 11 = .ok (.getfield 77, 3) := by decide +kernel
theorem eX9_restore_14 : decode (mB MX9_restore) 14 = .ok (.iload_n 1, 1) := by decide +kernel
theorem eX9_restore_15 : decode (mB MX9_restore) 15 = .ok (.aaload, 1) := by decide +kernel
theorem eX9_restore_16 : decode (mB MX9_restore) 16 = .ok (.astore_n 2, 1) := by decide +kernel
theorem eX9_restore_17 : decode (mB MX9_restore) 17 = .ok (.aload_n 2, 1) := by decide +kernel
theorem eX9_restore_18 : decode (mB MX9_restore) 18 = .ok (.ifnonnull 6, 3) := by decide +kernel
theorem eX9_restore_21 : decode (mB MX9_restore) 21 = .ok (.bipush (-5), 2) := by decide +kernel
theorem eX9_restore_23 : decode (mB MX9_restore) 23 = .ok (.ireturn, 1) := by decide +kernel
theorem eX9_restore_24 : decode (mB MX9_restore) 24 = .ok (.aload_n 0, 1) := by decide +kernel
theorem eX9_restore_25 : decode (mB MX9_restore) 25 = .ok (.aload_n 2, 1) := by decide +kernel
theorem eX9_restore_26 : decode (mB MX9_restore) 26 = .ok (.putfield 19, 3) := by decide +kernel
theorem eX9_restore_29 : decode (mB MX9_restore) 29 = .ok (.aload_n 0, 1) := by decide +kernel
theorem eX9_restore_30 : decode (mB MX9_restore) 30 = .ok (.getfield 26, 3) := by decide +kernel
theorem eX9_restore_33 : decode (mB MX9_restore) 33 = .ok (.aload_n 0, 1) := by decide +kernel
theorem eX9_restore_34 : decode (mB MX9_restore) 34 = .ok (.getfield 81, 3) := by decide +kernel
theorem eX9_restore_37 : decode (mB MX9_restore) 37 = .ok (.iload_n 1, 1) := by decide +kernel
theorem eX9_restore_38 : decode (mB MX9_restore) 38 = .ok (.aaload, 1) := by decide +kernel
theorem eX9_restore_39 : decode (mB MX9_restore) 39 = .ok (.invokevirtual 181, 3) := by decide +kernel
theorem eX9_restore_42 : decode (mB MX9_restore) 42 = .ok (.aload_n 0, 1) := by decide +kernel
theorem eX9_restore_43 : decode (mB MX9_restore) 43 = .ok (.getfield 44, 3) := by decide +kernel
theorem eX9_restore_46 : decode (mB MX9_restore) 46 = .ok (.invokevirtual 108, 3) := by decide +kernel
theorem eX9_restore_49 : decode (mB MX9_restore) 49 = .ok (.iconst 0, 1) := by decide +kernel
theorem eX9_restore_50 : decode (mB MX9_restore) 50 = .ok (.ireturn, 1) := by decide +kernel
theorem eX9_count_0 : decode (mB MX9_count) 0 = .ok (.iload_n 1, 1) := by decide +kernel
theorem eX9_count_1 : decode (mB MX9_count) 1 = .ok (.tableswitch 123 0 8 #[51, 59, 67, 75, 83, 91, 99, 107, 115], 51) := by decide +kernel
theorem eX9_count_52 : decode (mB MX9_count) 52 = .ok (.aload_n 0, 1) := by decide +kernel
theorem eX9_count_53 : decode (mB MX9_count) 53 = .ok (.getfield 19, 3) := by decide +kernel
theorem eX9_count_56 : decode (mB MX9_count) 56 = .ok (.getfield 380, 3) := by decide +kernel
theorem eX9_count_59 : decode (mB MX9_count) 59 = .ok (.ireturn, 1) := by decide +kernel
theorem eX9_count_60 : decode (mB MX9_count) 60 = .ok (.aload_n 0, 1) := by decide +kernel
theorem eX9_count_61 : decode (mB MX9_count) 61 = .ok (.getfield 19, 3) := by decide +kernel
theorem eX9_count_64 : decode (mB MX9_count) 64 = .ok (.getfield 309, 3) := by decide +kernel
theorem eX9_count_67 : decode (mB MX9_count) 67 = .ok (.ireturn, 1) := by decide +kernel
theorem eX9_count_68 : decode (mB MX9_count) 68 = .ok (.aload_n 0, 1) := by decide +kernel
theorem eX9_count_69 : decode (mB MX9_count) 69 = .ok (.getfield 26, 3) := by decide +kernel
theorem eX9_count_72 : decode (mB MX9_count) 72 = .ok (.getfield 145, 3) := by decide +kernel
theorem eX9_count_75 : decode (mB MX9_count) 75 = .ok (.ireturn, 1) := by decide +kernel
theorem eX9_count_76 : decode (mB MX9_count) 76 = .ok (.aload_n 0, 1) := by decide +kernel
theorem eX9_count_77 : decode (mB MX9_count) 77 = .ok (.getfield 26, 3) := by decide +kernel
theorem eX9_count_80 : decode (mB MX9_count) 80 = .ok (.invokevirtual 383, 3) := by decide +kernel
theorem eX9_count_83 : decode (mB MX9_count) 83 = .ok (.ireturn, 1) := by decide +kernel
theorem eX9_count_84 : decode (mB MX9_count) 84 = .ok (.aload_n 0, 1) := by decide +kernel
theorem eX9_count_85 : decode (mB MX9_count) 85 = .ok (.getfield 26, 3) := by decide +kernel
theorem eX9_count_88 : decode (mB MX9_count) 88 = .ok (.getfield 240, 3) := by decide +kernel
theorem eX9_count_91 : decode (mB MX9_count) 91 = .ok (.ireturn, 1) := by decide +kernel
theorem eX9_count_92 : decode (mB MX9_count) 92 = .ok (.aload_n 0, 1) := by decide +kernel
theorem eX9_count_93 : decode (mB MX9_count) 93 = .ok (.getfield 19, 3) := by decide +kernel
theorem eX9_count_96 : decode (mB MX9_count) 96 = .ok (.invokevirtual 387, 3) := by decide +kernel
theorem eX9_count_99 : decode (mB MX9_count) 99 = .ok (.ireturn, 1) := by decide +kernel
theorem eX9_count_100 : decode (mB MX9_count) 100 = .ok (.aload_n 0, 1) := by decide +kernel
theorem eX9_count_101 : decode (mB MX9_count) 101 = .ok (.getfield 44, 3) := by decide +kernel
theorem eX9_count_104 : decode (mB MX9_count) 104 = .ok (.getfield 213, 3) := by decide +kernel
theorem eX9_count_107 : decode (mB MX9_count) 107 = .ok (.ireturn, 1) := by decide +kernel
theorem eX9_count_108 : decode (mB MX9_count) 108 = .ok (.aload_n 0, 1) := by decide +kernel
theorem eX9_count_109 : decode (mB MX9_count) 109 = .ok (.getfield 12, 3) := by decide +kernel
theorem eX9_count_112 : decode (mB MX9_count) 112 = .ok (.getfield 87, 3) := by decide +kernel
theorem eX9_count_115 : decode (mB MX9_count) 115 = .ok (.ireturn, 1) := by decide +kernel
theorem eX9_count_116 : decode (mB MX9_count) 116 = .ok (.aload_n 0, 1) := by decide +kernel
theorem eX9_count_117 : decode (mB MX9_count) 117 = .ok (.getfield 19, 3) := by decide +kernel
theorem eX9_count_120 : decode (mB MX9_count) 120 = .ok (.getfield 111, 3) := by decide +kernel
theorem eX9_count_123 : decode (mB MX9_count) 123 = .ok (.ireturn, 1) := by decide +kernel
theorem eX9_count_124 : decode (mB MX9_count) 124 = .ok (.iconst (-1), 1) := by decide +kernel
theorem eX9_count_125 : decode (mB MX9_count) 125 = .ok (.ireturn, 1) := by decide +kernel
theorem eX9_isTray_0 : decode (mB MX9_isTray) 0 = .ok (.iload_n 0, 1) := by decide +kernel
theorem eX9_isTray_1 : decode (mB MX9_isTray) 1 = .ok (.ifCond .lt 12, 3) := by decide +kernel
theorem eX9_isTray_4 : decode (mB MX9_isTray) 4 = .ok (.iload_n 0, 1) := by decide +kernel
theorem eX9_isTray_5 : decode (mB MX9_isTray) 5 = .ok (.iconst 4, 1) := by decide +kernel
theorem eX9_isTray_6 : decode (mB MX9_isTray) 6 = .ok (.if_icmp .ge 7, 3) := by decide +kernel
theorem eX9_isTray_9 : decode (mB MX9_isTray) 9 = .ok (.iconst 1, 1) := by decide +kernel
theorem eX9_isTray_10 : decode (mB MX9_isTray) 10 = .ok (.goto 4, 3) := by decide +kernel
theorem eX9_isTray_13 : decode (mB MX9_isTray) 13 = .ok (.iconst 0, 1) := by decide +kernel
theorem eX9_isTray_14 : decode (mB MX9_isTray) 14 = .ok (.ireturn, 1) := by decide +kernel
theorem eX9_isImage_0 : decode (mB MX9_isImage) 0 = .ok (.iload_n 0, 1) := by decide +kernel
theorem eX9_isImage_1 : decode (mB MX9_isImage) 1 = .ok (.ifCond .lt 12, 3) := by decide +kernel
theorem eX9_isImage_4 : decode (mB MX9_isImage) 4 = .ok (.iload_n 0, 1) := by decide +kernel
theorem eX9_isImage_5 : decode (mB MX9_isImage) 5 = .ok (.iconst 2, 1) := by decide +kernel
theorem eX9_isImage_6 : decode (mB MX9_isImage) 6 = .ok (.if_icmp .ge 7, 3) := by decide +kernel
theorem eX9_isImage_9 : decode (mB MX9_isImage) 9 = .ok (.iconst 1, 1) := by decide +kernel
theorem eX9_isImage_10 : decode (mB MX9_isImage) 10 = .ok (.goto 4, 3) := by decide +kernel
theorem eX9_isImage_13 : decode (mB MX9_isImage) 13 = .ok (.iconst 0, 1) := by decide +kernel
theorem eX9_isImage_14 : decode (mB MX9_isImage) 14 = .ok (.ireturn, 1) := by decide +kernel
theorem eX10_within_0 : decode (mB MX10_within) 0 = .ok (.lload_n 0, 1) := by decide +kernel
theorem eX10_within_1 : decode (mB MX10_within) 1 = .ok (.lload_n 2, 1) := by decide +kernel
theorem eX10_within_2 : decode (mB MX10_within) 2 = .ok (.lcmp, 1) := by decide +kernel
theorem eX10_within_3 : decode (mB MX10_within) 3 = .ok (.ifCond .lt 14, 3) := by decide +kernel
theorem eX10_within_6 : decode (mB MX10_within) 6 = .ok (.lload_n 0, 1) := by decide +kernel
theorem eX10_within_7 : decode (mB MX10_within) 7 = .ok (.lload 4, 2) := by decide +kernel
theorem eX10_within_9 : decode (mB MX10_within) 9 = .ok (.lcmp, 1) := by decide +kernel
theorem eX10_within_10 : decode (mB MX10_within) 10 = .ok (.ifCond .gt 7, 3) := by decide +kernel
theorem eX10_within_13 : decode (mB MX10_within) 13 = .ok (.iconst 1, 1) := by decide +kernel
theorem eX10_within_14 : decode (mB MX10_within) 14 = .ok (.goto 4, 3) := by decide +kernel
theorem eX10_within_17 : decode (mB MX10_within) 17 = .ok (.iconst 0, 1) := by decide +kernel
theorem eX10_within_18 : decode (mB MX10_within) 18 = .ok (.ireturn, 1) := by decide +kernel
theorem eX10_init_0 : decode (mB MX10_init) 0 = .ok (.aload_n 0, 1) := by decide +kernel
theorem eX10_init_1 : decode (mB MX10_init) 1 = .ok (.invokespecial 7, 3) := by decide +kernel
theorem eX10_init_4 : decode (mB MX10_init) 4 = .ok (.aload_n 0, 1) := by decide +kernel
theorem eX10_init_5 : decode (mB MX10_init) 5 = .ok (.sipush 7011, 3) := by decide +kernel
theorem eX10_init_8 : decode (mB MX10_init) 8 = .ok (.newarray .int, 2) := by decide +kernel
theorem eX10_init_10 : decode (mB MX10_init) 10 = .ok (.putfield 13, 3) := by decide +kernel
theorem eX10_init_13 : decode (mB MX10_init) 13 = .ok (.aload_n 0, 1) := by decide +kernel
theorem eX10_init_14 : decode (mB MX10_init) 14 = .ok (.iconst 2, 1) := by decide +kernel
theorem eX10_init_15 : decode (mB MX10_init) 15 = .ok (.newarray .boolean, 2) := by decide +kernel
theorem eX10_init_17 : decode (mB MX10_init) 17 = .ok (.putfield 17, 3) := by decide +kernel
theorem eX10_init_20 : decode (mB MX10_init) 20 = .ok (.aload_n 0, 1) := by decide +kernel
theorem eX10_init_21 : decode (mB MX10_init) 21 = .ok (.sipush 900, 3) := by decide +kernel
theorem eX10_init_24 : decode (mB MX10_init) 24 = .ok (.newarray .int, 2) := by decide +kernel
theorem eX10_init_26 : decode (mB MX10_init) 26 = .ok (.putfield 21, 3) := by decide +kernel
theorem eX10_init_29 : decode (mB MX10_init) 29 = .ok (.aload_n 0, 1) := by decide +kernel
theorem eX10_init_30 : decode (mB MX10_init) 30 = .ok (.sipush 2337, 3) := by decide +kernel
theorem eX10_init_33 : decode (mB MX10_init) 33 = .ok (.newarray .int, 2) := by decide +kernel
theorem eX10_init_35 : decode (mB MX10_init) 35 = .ok (.putfield 24, 3) := by decide +kernel
theorem eX10_init_38 : decode (mB MX10_init) 38 = .ok (.aload_n 0, 1) := by decide +kernel
theorem eX10_init_39 : decode (mB MX10_init) 39 = .ok (.iconst (-1), 1) := by decide +kernel
theorem eX10_init_40 : decode (mB MX10_init) 40 = .ok (.putfield 27, 3) := by decide +kernel
theorem eX10_init_43 : decode (mB MX10_init) 43 = .ok (.aload_n 0, 1) := by decide +kernel
theorem eX10_init_44 : decode (mB MX10_init) 44 = .ok (.sipush 900, 3) := by decide +kernel
theorem eX10_init_47 : decode (mB MX10_init) 47 = .ok (.newarray .int, 2) := by decide +kernel
theorem eX10_init_49 : decode (mB MX10_init) 49 = .ok (.putfield 30, 3) := by decide +kernel
theorem eX10_init_52 : decode (mB MX10_init) 52 = .ok (.aload_n 0, 1) := by decide +kernel
theorem eX10_init_53 : decode (mB MX10_init) 53 = .ok (.bipush 7, 2) := by decide +kernel
theorem eX10_init_55 : decode (mB MX10_init) 55 = .ok (.newarray .int, 2) := by decide +kernel
theorem eX10_init_57 : decode (mB MX10_init) 57 = .ok (.putfield 33, 3) := by decide +kernel
theorem eX10_init_60 : decode (mB MX10_init) 60 = .ok (.aload_n 0, 1) := by decide +kernel
theorem eX10_init_61 : decode (mB MX10_init) 61 = .ok (.bipush 64, 2) := by decide +kernel
theorem eX10_init_63 : decode (mB MX10_init) 63 = .ok (.newarray .int, 2) := by decide +kernel
theorem eX10_init_65 : decode (mB MX10_init) 65 = .ok (.putfield 36, 3) := by decide +kernel
theorem eX10_init_68 : decode (mB MX10_init) 68 = .ok (.aload_n 0, 1) := by decide +kernel
theorem eX10_init_69 : decode (mB MX10_init) 69 = .ok (.bipush 64, 2) := by decide +kernel
theorem eX10_init_71 : decode (mB MX10_init) 71 = .ok (.newarray .int, 2) := by decide +kernel
theorem eX10_init_73 : decode (mB MX10_init) 73 = .ok (.putfield 39, 3) := by decide +kernel
theorem eX10_init_76 : decode (mB MX10_init) 76 = .ok (.aload_n 0, 1) := by decide +kernel
theorem eX10_init_77 : decode (mB MX10_init) 77 = .ok (.bipush 64, 2) := by decide +kernel
theorem eX10_init_79 : decode (mB MX10_init) 79 = .ok (.newarray .int, 2) := by decide +kernel
theorem eX10_init_81 : decode (mB MX10_init) 81 = .ok (.putfield 42, 3) := by decide +kernel
theorem eX10_init_84 : decode (mB MX10_init) 84 = .ok (.aload_n 0, 1) := by decide +kernel
theorem eX10_init_85 : decode (mB MX10_init) 85 = .ok (.bipush 64, 2) := by decide +kernel
theorem eX10_init_87 : decode (mB MX10_init) 87 = .ok (.newarray .int, 2) := by decide +kernel
theorem eX10_init_89 : decode (mB MX10_init) 89 = .ok (.putfield 45, 3) := by decide +kernel
theorem eX10_init_92 : decode (mB MX10_init) 92 = .ok (.aload_n 0, 1) := by decide +kernel
theorem eX10_init_93 : decode (mB MX10_init) 93 = .ok (.bipush 64, 2) := by decide +kernel
theorem eX10_init_95 : decode (mB MX10_init) 95 = .ok (.newarray .int, 2) := by decide +kernel
theorem eX10_init_97 : decode (mB MX10_init) 97 = .ok (.putfield 48, 3) := by decide +kernel
theorem eX10_init_100 : decode (mB MX10_init) 100 = .ok (.aload_n 0, 1) := by decide +kernel
theorem eX10_init_101 : decode (mB MX10_init) 101 = .ok (.bipush 126, 2) := by decide +kernel
theorem eX10_init_103 : decode (mB MX10_init) 103 = .ok (.newarray .int, 2) := by decide +kernel
theorem eX10_init_105 : decode (mB MX10_init) 105 = .ok (.putfield 51, 3) := by decide +kernel
theorem eX10_init_108 : decode (mB MX10_init) 108 = .ok (.aload_n 0, 1) := by decide +kernel
theorem eX10_init_109 : decode (mB MX10_init) 109 = .ok (.ldc 54, 2) := by decide +kernel
theorem eX10_init_111 : decode (mB MX10_init) 111 = .ok (.newarray .int, 2) := by decide +kernel
theorem eX10_init_113 : decode (mB MX10_init) 113 = .ok (.putfield 55, 3) := by decide +kernel
theorem eX10_init_116 : decode (mB MX10_init) 116 = .ok (.aload_n 0, 1) := by decide +kernel
theorem eX10_init_117 : decode (mB MX10_init) 117 = .ok (.bipush 64, 2) := by decide +kernel
theorem eX10_init_119 : decode (mB MX10_init) 119 = .ok (.newarray .int, 2) := by decide +kernel
theorem eX10_init_121 : decode (mB MX10_init) 121 = .ok (.putfield 58, 3) := by decide +kernel
theorem eX10_init_124 : decode (mB MX10_init) 124 = .ok (.aload_n 0, 1) := by decide +kernel
theorem eX10_init_125 : decode (mB MX10_init) 125 = .ok (.bipush 10, 2) := by decide +kernel
theorem eX10_init_127 : decode (mB MX10_init) 127 = .ok (.newarray .int, 2) := by decide +kernel
theorem eX10_init_129 : decode (mB MX10_init) 129 = .ok (.putfield 61, 3) := by decide +kernel
theorem eX10_init_132 : decode (mB MX10_init) 132 = .ok (.aload_n 0, 1) := by decide +kernel
theorem eX10_init_133 : decode (mB MX10_init) 133 = .ok (.bipush 10, 2) := by decide +kernel
theorem eX10_init_135 : decode (mB MX10_init) 135 = .ok (.newarray .int, 2) := by decide +kernel
theorem eX10_init_137 : decode (mB MX10_init) 137 = .ok (.putfield 64, 3) := by decide +kernel
theorem eX10_init_140 : decode (mB MX10_init) 140 = .ok (.aload_n 0, 1) := by decide +kernel
theorem eX10_init_141 : decode (mB MX10_init) 141 = .ok (.sipush 378, 3) := by decide +kernel
theorem eX10_init_144 : decode (mB MX10_init) 144 = .ok (.newarray .int, 2) := by decide +kernel
theorem eX10_init_146 : decode (mB MX10_init) 146 = .ok (.putfield 67, 3) := by decide +kernel
theorem eX10_init_149 : decode (mB MX10_init) 149 = .ok (.aload_n 0, 1) := by decide +kernel
theorem eX10_init_150 : decode (mB MX10_init) 150 = .ok (.iconst 4, 1) := by decide +kernel
theorem eX10_init_151 : decode (mB MX10_init) 151 = .ok (.newarray .int, 2) := by decide +kernel
theorem eX10_init_153 : decode (mB MX10_init) 153 = .ok (.dup, 1) := by decide +kernel
theorem eX10_init_154 : decode (mB MX10_init) 154 = .ok (.iconst 0, 1) := by decide +kernel
theorem eX10_init_155 : decode (mB MX10_init) 155 = .ok (.iconst (-1), 1) := by decide +kernel
theorem eX10_init_156 : decode (mB MX10_init) 156 = .ok (.iastore, 1) := by decide +kernel
theorem eX10_init_157 : decode (mB MX10_init) 157 = .ok (.dup, 1) := by decide +kernel
theorem eX10_init_158 : decode (mB MX10_init) 158 = .ok (.iconst 1, 1) := by decide +kernel
theorem eX10_init_159 : decode (mB MX10_init) 159 = .ok (.iconst (-1), 1) := by decide +kernel
theorem eX10_init_160 : decode (mB MX10_init) 160 = .ok (.iastore, 1) := by decide +kernel
theorem eX10_init_161 : decode (mB MX10_init) 161 = .ok (.dup, 1) := by decide +kernel
theorem eX10_init_162 : decode (mB MX10_init) 162 = .ok (.iconst 2, 1) := by decide +kernel
theorem eX10_init_163 : decode (mB MX10_init) 163 = .ok (.iconst (-1), 1) := by decide +kernel
theorem eX10_init_164 : decode (mB MX10_init) 164 = .ok (.iastore, 1) := by decide +kernel
theorem eX10_init_165 : decode (mB MX10_init) 165 = .ok (.dup, 1) := by decide +kernel
theorem eX10_init_166 : decode (mB MX10_init) 166 = .ok (.iconst 3, 1) := by decide +kernel
theorem eX10_init_167 : decode (mB MX10_init) 167 = .ok (.iconst (-1), 1) := by decide +kernel
theorem eX10_init_168 : decode (mB MX10_init) 168 = .ok (.iastore, 1) := by decide +kernel
theorem eX10_init_169 : decode (mB MX10_init) 169 = .ok (.putfield 70, 3) := by decide +kernel
theorem eX10_init_172 : decode (mB MX10_init) 172 = .ok (.aload_n 0, 1) := by decide +kernel
theorem eX10_init_173 : decode (mB MX10_init) 173 = .ok (.iconst 4, 1) := by decide +kernel
theorem eX10_init_174 : decode (mB MX10_init) 174 = .ok (.newarray .int, 2) := by decide +kernel
theorem eX10_init_176 : decode (mB MX10_init) 176 = .ok (.putfield 73, 3) := by decide +kernel
theorem eX10_init_179 : decode (mB MX10_init) 179 = .ok (.aload_n 0, 1) := by decide +kernel
theorem eX10_init_180 : decode (mB MX10_init) 180 = .ok (.sipush 160, 3) := by decide +kernel
theorem eX10_init_183 : decode (mB MX10_init) 183 = .ok (.newarray .long, 2) := by decide +kernel
theorem eX10_init_185 : decode (mB MX10_init) 185 = .ok (.putfield 76, 3) := by decide +kernel
theorem eX10_init_188 : decode (mB MX10_init) 188 = .ok (.aload_n 0, 1) := by decide +kernel
theorem eX10_init_189 : decode (mB MX10_init) 189 = .ok (.getfield 13, 3) := by decide +kernel
theorem eX10_init_192 : decode (mB MX10_init) 192 = .ok (.invokestatic 80, 3) := by decide +kernel
theorem eX10_init_195 : decode (mB MX10_init) 195 = .ok (.aload_n 0, 1) := by decide +kernel
theorem eX10_init_196 : decode (mB MX10_init) 196 = .ok (.getfield 13, 3) := by decide +kernel
theorem eX10_init_199 : decode (mB MX10_init) 199 = .ok (.iconst 1, 1) := by decide +kernel
theorem eX10_init_200 : decode (mB MX10_init) 200 = .ok (.iconst 1, 1) := by decide +kernel
theorem eX10_init_201 : decode (mB MX10_init) 201 = .ok (.iastore, 1) := by decide +kernel
theorem eX10_init_202 : decode (mB MX10_init) 202 = .ok (.aload_n 0, 1) := by decide +kernel
theorem eX10_init_203 : decode (mB MX10_init) 203 = .ok (.invokevirtual 84, 3) := by decide +kernel
theorem eX10_init_206 : decode (mB MX10_init) 206 = .ok (.return_, 1) := by decide +kernel
theorem eX10_plain_0 : decode (mB MX10_plain) 0 = .ok (.iconst 0, 1) := by decide +kernel
theorem eX10_plain_1 : decode (mB MX10_plain) 1 = .ok (.istore_n 1, 1) := by decide +kernel
theorem eX10_plain_2 : decode (mB MX10_plain) 2 = .ok (.iload_n 1, 1) := by decide +kernel
theorem eX10_plain_3 : decode (mB MX10_plain) 3 = .ok (.sipush 2337, 3) := by decide +kernel
theorem eX10_plain_6 : decode (mB MX10_plain) 6 = .ok (.if_icmp .ge 13, 3) := by decide +kernel
theorem eX10_plain_9 : decode (mB MX10_plain) 9 = .ok (.aload_n 0, 1) := by decide +kernel
theorem eX10_plain_10 : decode (mB MX10_plain) 10 = .ok (.iload_n 1, 1) := by decide +kernel
theorem eX10_plain_11 : decode (mB MX10_plain) 11 = .ok (.iconst 0, 1) := by decide +kernel
theorem eX10_plain_12 : decode (mB MX10_plain) 12 = .ok (.iastore, 1) := by decide +kernel
theorem eX10_plain_13 : decode (mB MX10_plain) 13 = .ok (.iinc 1 1, 3) := by decide +kernel
theorem eX10_plain_16 : decode (mB MX10_plain) 16 = .ok (.goto (-14), 3) := by decide +kernel
theorem eX10_plain_19 : decode (mB MX10_plain) 19 = .ok (.return_, 1) := by decide +kernel
theorem eX10_feed_0 : decode (mB MX10_feed) 0 = .ok (.aload_n 0, 1) := by decide +kernel
theorem eX10_feed_1 : decode (mB MX10_feed) 1 = .ok (.iconst 0, 1) := by decide +kernel
theorem eX10_feed_2 : decode (mB MX10_feed) 2 = .ok (.putfield 1, 3) := by decide +kernel
theorem eX10_feed_5 : decode (mB MX10_feed) 5 = .ok (.aload_n 0, 1) := by decide +kernel
theorem eX10_feed_6 : decode (mB MX10_feed) 6 = .ok (.getfield 87, 3) := by decide +kernel
theorem eX10_feed_9 : decode (mB MX10_feed) 9 = .ok (.bipush 20, 2) := by decide +kernel
theorem eX10_feed_11 : decode (mB MX10_feed) 11 = .ok (.iadd, 1) := by decide +kernel
theorem eX10_feed_12 : decode (mB MX10_feed) 12 = .ok (.sipush 900, 3) := by decide +kernel
theorem eX10_feed_15 : decode (mB MX10_feed) 15 = .ok (.if_icmp .le 6, 3) := by decide +kernel
theorem eX10_feed_18 : decode (mB MX10_feed) 18 = .ok (.bipush (-5), 2) := by decide +kernel
theorem eX10_feed_20 : decode (mB MX10_feed) 20 = .ok (.ireturn, 1) := by decide +kernel
theorem eX10_feed_21 : decode (mB MX10_feed) 21 = .ok (.iconst 0, 1) := by decide +kernel
theorem eX10_feed_22 : decode (mB MX10_feed) 22 = .ok (.istore 6, 2) := by decide +kernel
theorem eX10_feed_24 : decode (mB MX10_feed) 24 = .ok (.iload 6, 2) := by decide +kernel
theorem eX10_feed_26 : decode (mB MX10_feed) 26 = .ok (.bipush 20, 2) := by decide +kernel
theorem eX10_feed_28 : decode (mB MX10_feed) 28 = .ok (.if_icmp .ge 93, 3) := by decide +kernel
theorem eX10_feed_31 : decode (mB MX10_feed) 31 = .ok (.iload 6, 2) := by decide +kernel
theorem eX10_feed_33 : decode (mB MX10_feed) 33 = .ok (.iconst 4, 1) := by decide +kernel
theorem eX10_feed_34 : decode (mB MX10_feed) 34 = .ok (.if_icmp .ge 7, 3) := by decide +kernel
theorem eX10_feed_37 : decode (mB MX10_feed) 37 = .ok (.iload_n 1, 1) := by decide +kernel
theorem eX10_feed_38 : decode (mB MX10_feed) 38 = .ok (.goto 39, 3) := by decide +kernel
theorem eX10_feed_41 : decode (mB MX10_feed) 41 = .ok (.iload 6, 2) := by decide +kernel
theorem eX10_feed_43 : decode (mB MX10_feed) 43 = .ok (.bipush 8, 2) := by decide +kernel
theorem eX10_feed_45 : decode (mB MX10_feed) 45 = .ok (.if_icmp .ge 7, 3) := by decide +kernel
theorem eX10_feed_48 : decode (mB MX10_feed) 48 = .ok (.iload_n 2, 1) := by decide +kernel
theorem eX10_feed_49 : decode (mB MX10_feed) 49 = .ok (.goto 28, 3) := by decide +kernel
theorem eX10_feed_52 : decode (mB MX10_feed) 52 = .ok (.iload 6, 2) := by decide +kernel
theorem eX10_feed_54 : decode (mB MX10_feed) 54 = .ok (.bipush 12, 2) := by decide +kernel
theorem eX10_feed_56 : decode (mB MX10_feed) 56 = .ok (.if_icmp .ge 7, 3) := by decide +kernel
theorem eX10_feed_59 : decode (mB MX10_feed) 59 = .ok (.iload_n 3, 1) := by decide +kernel
theorem eX10_feed_60 : decode (mB MX10_feed) 60 = .ok (.goto 17, 3) := by decide +kernel
theorem eX10_feed_63 : decode (mB MX10_feed) 63 = .ok (.iload 6, 2) := by decide +kernel
theorem eX10_feed_65 : decode (mB MX10_feed) 65 = .ok (.bipush 16, 2) := by decide +kernel
theorem eX10_feed_67 : decode (mB MX10_feed) 67 = .ok (.if_icmp .ge 8, 3) := by decide +kernel
theorem eX10_feed_70 : decode (mB MX10_feed) 70 = .ok (.iload 4, 2) := by decide +kernel
theorem eX10_feed_72 : decode (mB MX10_feed) 72 = .ok (.goto 5, 3) := by decide +kernel
theorem eX10_feed_75 : decode (mB MX10_feed) 75 = .ok (.iload 5, 2) := by decide +kernel
theorem eX10_feed_77 : decode (mB MX10_feed) 77 = .ok (.istore 7, 2) := by decide +kernel
theorem eX10_feed_79 : decode (mB MX10_feed) 79 = .ok (.aload_n 0, 1) := by decide +kernel
theorem eX10_feed_80 : decode (mB MX10_feed) 80 = .ok (.getfield 21, 3) := by decide +kernel
theorem eX10_feed_83 : decode (mB MX10_feed) 83 = .ok (.aload_n 0, 1) := by decide +kernel
theorem eX10_feed_84 : decode (mB MX10_feed) 84 = .ok (.getfield 87, 3) := by decide +kernel
theorem eX10_feed_87 : decode (mB MX10_feed) 87 = .ok (.iload 7, 2) := by decide +kernel
theorem eX10_feed_89 : decode (mB MX10_feed) 89 = .ok (.bipush 24, 2) := by decide +kernel
theorem eX10_feed_91 : decode (mB MX10_feed) 91 = .ok (.bipush 8, 2) := by decide +kernel
theorem eX10_feed_93 : decode (mB MX10_feed) 93 = .ok (.iload 6, 2) := by decide +kernel
theorem eX10_feed_95 : decode (mB MX10_feed) 95 = .ok (.iconst 4, 1) := by decide +kernel
theorem eX10_feed_96 : decode (mB MX10_feed) 96 = .ok (.irem, 1) := by decide +kernel
theorem eX10_feed_97 : decode (mB MX10_feed) 97 = .ok (.imul, 1) := by decide +kernel
theorem eX10_feed_98 : decode (mB MX10_feed) 98 = .ok (.isub, 1) := by decide +kernel
theorem eX10_feed_99 : decode (mB MX10_feed) 99 = .ok (.ishr, 1) := by decide +kernel
theorem eX10_feed_100 : decode (mB MX10_feed) 100 = .ok (.sipush 255, 3) := by decide +kernel
theorem eX10_feed_103 : decode (mB MX10_feed) 103 = .ok (.iand, 1) := by decide +kernel
theorem eX10_feed_104 : decode (mB MX10_feed) 104 = .ok (.iastore, 1) := by decide +kernel
theorem eX10_feed_105 : decode (mB MX10_feed) 105 = .ok (.aload_n 0, 1) := by decide +kernel
theorem eX10_feed_106 : decode (mB MX10_feed) 106 = .ok (.dup, 1) := by decide +kernel
theorem eX10_feed_107 : decode (mB MX10_feed) 107 = .ok (.getfield 87, 3) := by decide +kernel
theorem eX10_feed_110 : decode (mB MX10_feed) 110 = .ok (.iconst 1, 1) := by decide +kernel
theorem eX10_feed_111 : decode (mB MX10_feed) 111 = .ok (.iadd, 1) := by decide +kernel
theorem eX10_feed_112 : decode (mB MX10_feed) 112 = .ok (.putfield 87, 3) := by decide +kernel
theorem eX10_feed_115 : decode (mB MX10_feed) 115 = .ok (.iinc 6 1, 3) := by decide +kernel
theorem eX10_feed_118 : decode (mB MX10_feed) 118 = .ok (.goto (-94), 3) := by decide +kernel
theorem eX10_feed_121 : decode (mB MX10_feed) 121 = .ok (.aload_n 0, 1) := by decide +kernel
theorem eX10_feed_122 : decode (mB MX10_feed) 122 = .ok (.getfield 87, 3) := by decide +kernel
theorem eX10_feed_125 : decode (mB MX10_feed) 125 = .ok (.ireturn, 1) := by decide +kernel
theorem eX10_see_0 : decode (mB MX10_see) 0 = .ok (.iload_n 1, 1) := by decide +kernel
theorem eX10_see_1 : decode (mB MX10_see) 1 = .ok (.aload_n 0, 1) := by decide +kernel
theorem eX10_see_2 : decode (mB MX10_see) 2 = .ok (.getfield 90, 3) := by decide +kernel
theorem eX10_see_5 : decode (mB MX10_see) 5 = .ok (.if_icmp .ge 12, 3) := by decide +kernel
theorem eX10_see_8 : decode (mB MX10_see) 8 = .ok (.aload_n 0, 1) := by decide +kernel
theorem eX10_see_9 : decode (mB MX10_see) 9 = .ok (.getfield 21, 3) := by decide +kernel
theorem eX10_see_12 : decode (mB MX10_see) 12 = .ok (.iload_n 1, 1) := by decide +kernel
theorem eX10_see_13 : decode (mB MX10_see) 13 = .ok (.iaload, 1) := by decide +kernel
theorem eX10_see_14 : decode (mB MX10_see) 14 = .ok (.goto 4, 3) := by decide +kernel
theorem eX10_see_17 : decode (mB MX10_see) 17 = .ok (.iconst (-1), 1) := by decide +kernel
theorem eX10_see_18 : decode (mB MX10_see) 18 = .ok (.ireturn, 1) := by decide +kernel
theorem eX10_isSmall_0 : decode (mB MX10_isSmall) 0 = .ok (.iload_n 0, 1) := by decide +kernel
theorem eX10_isSmall_1 : decode (mB MX10_isSmall) 1 = .ok (.bipush 97, 2) := by decide +kernel
theorem eX10_isSmall_3 : decode (mB MX10_isSmall) 3 = .ok (.if_icmp .lt 13, 3) := by decide +kernel
theorem eX10_isSmall_6 : decode (mB MX10_isSmall) 6 = .ok (.iload_n 0, 1) := by decide +kernel
theorem eX10_isSmall_7 : decode (mB MX10_isSmall) 7 = .ok (.bipush 122, 2) := by decide +kernel
theorem eX10_isSmall_9 : decode (mB MX10_isSmall) 9 = .ok (.if_icmp .gt 7, 3) := by decide +kernel
theorem eX10_isSmall_12 : decode (mB MX10_isSmall) 12 = .ok (.iconst 1, 1) := by decide +kernel
theorem eX10_isSmall_13 : decode (mB MX10_isSmall) 13 = .ok (.goto 4, 3) := by decide +kernel
theorem eX10_isSmall_16 : decode (mB MX10_isSmall) 16 = .ok (.iconst 0, 1) := by decide +kernel
theorem eX10_isSmall_17 : decode (mB MX10_isSmall) 17 = .ok (.ireturn, 1) := by decide +kernel
theorem eX10_isDigit_0 : decode (mB MX10_isDigit) 0 = .ok (.iload_n 0, 1) := by decide +kernel
theorem eX10_isDigit_1 : decode (mB MX10_isDigit) 1 = .ok (.bipush 48, 2) := by decide +kernel
theorem eX10_isDigit_3 : decode (mB MX10_isDigit) 3 = .ok (.if_icmp .lt 13, 3) := by decide +kernel
theorem eX10_isDigit_6 : decode (mB MX10_isDigit) 6 = .ok (.iload_n 0, 1) := by decide +kernel
theorem eX10_isDigit_7 : decode (mB MX10_isDigit) 7 = .ok (.bipush 57, 2) := by decide +kernel
theorem eX10_isDigit_9 : decode (mB MX10_isDigit) 9 = .ok (.if_icmp .gt 7, 3) := by decide +kernel
theorem eX10_isDigit_12 : decode (mB MX10_isDigit) 12 = .ok (.iconst 1, 1) := by decide +kernel
theorem eX10_isDigit_13 : decode (mB MX10_isDigit) 13 = .ok (.goto 4, 3) := by decide +kernel
theorem eX10_isDigit_16 : decode (mB MX10_isDigit) 16 = .ok (.iconst 0, 1) := by decide +kernel
theorem eX10_isDigit_17 : decode (mB MX10_isDigit) 17 = .ok (.ireturn, 1) := by decide +kernel
theorem eX10_keyAt_0 : decode (mB MX10_keyAt) 0 = .ok (.iconst 0, 1) := by decide +kernel
theorem eX10_keyAt_1 : decode (mB MX10_keyAt) 1 = .ok (.istore_n 1, 1) := by decide +kernel
theorem eX10_keyAt_2 : decode (mB MX10_keyAt) 2 = .ok (.iconst 1, 1) := by decide +kernel
theorem eX10_keyAt_3 : decode (mB MX10_keyAt) 3 = .ok (.istore_n 2, 1) := by decide +kernel
theorem eX10_keyAt_4 : decode (mB MX10_keyAt) 4 = .ok (.iload_n 2, 1) := by decide +kernel
theorem eX10_keyAt_5 : decode (mB MX10_keyAt) 5 = .ok (.ldc 93, 2) := by decide +kernel
theorem eX10_keyAt_7 : decode (mB MX10_keyAt) 7 = .ok (.invokevirtual 95, 3) := by decide +kernel
theorem eX10_keyAt_10 : decode (mB MX10_keyAt) 10 = .ok (.if_icmp .ge 113, 3) := by decide +kernel
theorem eX10_keyAt_13 : decode (mB MX10_keyAt) 13 = .ok (.iconst 0, 1) := by decide +kernel
theorem eX10_keyAt_14 : decode (mB MX10_keyAt) 14 = .ok (.istore_n 3, 1) := by decide +kernel
theorem eX10_keyAt_15 : decode (mB MX10_keyAt) 15 = .ok (.ldc 93, 2) := by decide +kernel
theorem eX10_keyAt_17 : decode (mB MX10_keyAt) 17 = .ok (.iload_n 2, 1) := by decide +kernel
theorem eX10_keyAt_18 : decode (mB MX10_keyAt) 18 = .ok (.iload_n 3, 1) := by decide +kernel
theorem eX10_keyAt_19 : decode (mB MX10_keyAt) 19 = .ok (.iadd, 1) := by decide +kernel
theorem eX10_keyAt_20 : decode (mB MX10_keyAt) 20 = .ok (.invokevirtual 101, 3) := by decide +kernel
theorem eX10_keyAt_23 : decode (mB MX10_keyAt) 23 = .ok (.bipush 32, 2) := by decide +kernel
theorem eX10_keyAt_25 : decode (mB MX10_keyAt) 25 = .ok (.if_icmp .eq 44, 3) := by decide +kernel
theorem eX10_keyAt_28 : decode (mB MX10_keyAt) 28 = .ok (.aload_n 0, 1) := by decide +kernel
theorem eX10_keyAt_29 : decode (mB MX10_keyAt) 29 = .ok (.getfield 105, 3) := by decide +kernel
theorem eX10_keyAt_32 : decode (mB MX10_keyAt) 32 = .ok (.iload_n 3, 1) := by decide +kernel
theorem eX10_keyAt_33 : decode (mB MX10_keyAt) 33 = .ok (.iadd, 1) := by decide +kernel
theorem eX10_keyAt_34 : decode (mB MX10_keyAt) 34 = .ok (.aload_n 0, 1) := by decide +kernel
theorem eX10_keyAt_35 : decode (mB MX10_keyAt) 35 = .ok (.getfield 108, 3) := by decide +kernel
theorem eX10_keyAt_38 : decode (mB MX10_keyAt) 38 = .ok (.if_icmp .ge 31, 3) := by decide +kernel
theorem eX10_keyAt_41 : decode (mB MX10_keyAt) 41 = .ok (.aload_n 0, 1) := by decide +kernel
theorem eX10_keyAt_42 : decode (mB MX10_keyAt) 42 = .ok (.getfield 21, 3) := by decide +kernel
theorem eX10_keyAt_45 : decode (mB MX10_keyAt) 45 = .ok (.aload_n 0, 1) := by decide +kernel
theorem eX10_keyAt_46 : decode (mB MX10_keyAt) 46 = .ok (.getfield 105, 3) := by decide +kernel
theorem eX10_keyAt_49 : decode (mB MX10_keyAt) 49 = .ok (.iload_n 3, 1) := by decide +kernel
theorem eX10_keyAt_50 : decode (mB MX10_keyAt) 50 = .ok (.iadd, 1) := by decide +kernel
theorem eX10_keyAt_51 : decode (mB MX10_keyAt) 51 = .ok (.iaload, 1) := by decide +kernel
theorem eX10_keyAt_52 : decode (mB MX10_keyAt) 52 = .ok (.ldc 93, 2) := by decide +kernel
theorem eX10_keyAt_54 : decode (mB MX10_keyAt) 54 = .ok (.iload_n 2, 1) := by decide +kernel
theorem eX10_keyAt_55 : decode (mB MX10_keyAt) 55 = .ok (.iload_n 3, 1) := by decide +kernel
theorem eX10_keyAt_56 : decode (mB MX10_keyAt) 56 = .ok (.iadd, 1) := by decide +kernel
theorem eX10_keyAt_57 : decode (mB MX10_keyAt) 57 = .ok (.invokevirtual 101, 3) := by decide +kernel
theorem eX10_keyAt_60 : decode (mB MX10_keyAt) 60 = .ok (.if_icmp .ne 9, 3) := by decide +kernel
theorem eX10_keyAt_63 : decode (mB MX10_keyAt) 63 = .ok (.iinc 3 1, 3) := by decide +kernel
theorem eX10_keyAt_66 : decode (mB MX10_keyAt) 66 = .ok (.goto (-51), 3) := by decide +kernel
theorem eX10_keyAt_69 : decode (mB MX10_keyAt) 69 = .ok (.ldc 93, 2) := by decide +kernel
theorem eX10_keyAt_71 : decode (mB MX10_keyAt) 71 = .ok (.iload_n 2, 1) := by decide +kernel
theorem eX10_keyAt_72 : decode (mB MX10_keyAt) 72 = .ok (.iload_n 3, 1) := by decide +kernel
theorem eX10_keyAt_73 : decode (mB MX10_keyAt) 73 = .ok (.iadd, 1) := by decide +kernel
theorem eX10_keyAt_74 : decode (mB MX10_keyAt) 74 = .ok (.invokevirtual 101, 3) := by decide +kernel
theorem eX10_keyAt_77 : decode (mB MX10_keyAt) 77 = .ok (.bipush 32, 2) := by decide +kernel
theorem eX10_keyAt_79 : decode (mB MX10_keyAt) 79 = .ok (.if_icmp .ne 18, 3) := by decide +kernel
theorem eX10_keyAt_82 : decode (mB MX10_keyAt) 82 = .ok (.aload_n 0, 1) := by decide +kernel
theorem eX10_keyAt_83 : decode (mB MX10_keyAt) 83 = .ok (.getfield 105, 3) := by decide +kernel
theorem eX10_keyAt_86 : decode (mB MX10_keyAt) 86 = .ok (.iload_n 3, 1) := by decide +kernel
theorem eX10_keyAt_87 : decode (mB MX10_keyAt) 87 = .ok (.iadd, 1) := by decide +kernel
theorem eX10_keyAt_88 : decode (mB MX10_keyAt) 88 = .ok (.aload_n 0, 1) := by decide +kernel
theorem eX10_keyAt_89 : decode (mB MX10_keyAt) 89 = .ok (.getfield 108, 3) := by decide +kernel
theorem eX10_keyAt_92 : decode (mB MX10_keyAt) 92 = .ok (.if_icmp .ne 5, 3) := by decide +kernel
theorem eX10_keyAt_95 : decode (mB MX10_keyAt) 95 = .ok (.iload_n 1, 1) := by decide +kernel
theorem eX10_keyAt_96 : decode (mB MX10_keyAt) 96 = .ok (.ireturn, 1) := by decide +kernel
theorem eX10_keyAt_97 : decode (mB MX10_keyAt) 97 = .ok (.ldc 93, 2) := by decide +kernel
theorem eX10_keyAt_99 : decode (mB MX10_keyAt) 99 = .ok (.iload_n 2, 1) := by decide +kernel
theorem eX10_keyAt_100 : decode (mB MX10_keyAt) 100 = .ok (.invokevirtual 101, 3) := by decide +kernel
theorem eX10_keyAt_103 : decode (mB MX10_keyAt) 103 = .ok (.bipush 32, 2) := by decide +kernel
theorem eX10_keyAt_105 : decode (mB MX10_keyAt) 105 = .ok (.if_icmp .eq 9, 3) := by decide +kernel
theorem eX10_keyAt_108 : decode (mB MX10_keyAt) 108 = .ok (.iinc 2 1, 3) := by decide +kernel
theorem eX10_keyAt_111 : decode (mB MX10_keyAt) 111 = .ok (.goto (-14), 3) := by decide +kernel
theorem eX10_keyAt_114 : decode (mB MX10_keyAt) 114 = .ok (.iinc 2 1, 3) := by decide +kernel
theorem eX10_keyAt_117 : decode (mB MX10_keyAt) 117 = .ok (.iinc 1 1, 3) := by decide +kernel
theorem eX10_keyAt_120 : decode (mB MX10_keyAt) 120 = .ok (.goto (-116), 3) := by decide +kernel
theorem eX10_keyAt_123 : decode (mB MX10_keyAt) 123 = .ok (.bipush 22, 2) := by decide +kernel
theorem eX10_keyAt_125 : decode (mB MX10_keyAt) 125 = .ok (.ireturn, 1) := by decide +kernel
theorem eX10_next_0 : decode (mB MX10_next) 0 = .ok (.aload_n 0, 1) := by decide +kernel
theorem eX10_next_1 : decode (mB MX10_next) 1 = .ok (.aload_n 0, 1) := by decide +kernel
theorem eX10_next_2 : decode (mB MX10_next) 2 = .ok (.getfield 108, 3) := by decide +kernel
theorem eX10_next_5 : decode (mB MX10_next) 5 = .ok (.putfield 105, 3) := by decide +kernel
theorem eX10_next_8 : decode (mB MX10_next) 8 = .ok (.aload_n 0, 1) := by decide +kernel
theorem eX10_next_9 : decode (mB MX10_next) 9 = .ok (.aload_n 0, 1) := by decide +kernel
theorem eX10_next_10 : decode (mB MX10_next) 10 = .ok (.getfield 105, 3) := by decide +kernel
theorem eX10_next_13 : decode (mB MX10_next) 13 = .ok (.invokevirtual 111, 3) := by decide +kernel
theorem eX10_next_16 : decode (mB MX10_next) 16 = .ok (.bipush 10, 2) := by decide +kernel
theorem eX10_next_18 : decode (mB MX10_next) 18 = .ok (.if_icmp .eq 16, 3) := by decide +kernel
theorem eX10_next_21 : decode (mB MX10_next) 21 = .ok (.aload_n 0, 1) := by decide +kernel
theorem eX10_next_22 : decode (mB MX10_next) 22 = .ok (.aload_n 0, 1) := by decide +kernel
theorem eX10_next_23 : decode (mB MX10_next) 23 = .ok (.getfield 105, 3) := by decide +kernel
theorem eX10_next_26 : decode (mB MX10_next) 26 = .ok (.invokevirtual 111, 3) := by decide +kernel
theorem eX10_next_29 : decode (mB MX10_next) 29 = .ok (.bipush 32, 2) := by decide +kernel
theorem eX10_next_31 : decode (mB MX10_next) 31 = .ok (.if_icmp .ne 16, 3) := by decide +kernel
theorem eX10_next_34 : decode (mB MX10_next) 34 = .ok (.aload_n 0, 1) := by decide +kernel
theorem eX10_next_35 : decode (mB MX10_next) 35 = .ok (.dup, 1) := by decide +kernel
theorem eX10_next_36 : decode (mB MX10_next) 36 = .ok (.getfield 105, 3) := by decide +kernel
theorem eX10_next_39 : decode (mB MX10_next) 39 = .ok (.iconst 1, 1) := by decide +kernel
theorem eX10_next_40 : decode (mB MX10_next) 40 = .ok (.iadd, 1) := by decide +kernel
theorem eX10_next_41 : decode (mB MX10_next) 41 = .ok (.putfield 105, 3) := by decide +kernel
theorem eX10_next_44 : decode (mB MX10_next) 44 = .ok (.goto (-36), 3) := by decide +kernel
theorem eX10_next_47 : decode (mB MX10_next) 47 = .ok (.aload_n 0, 1) := by decide +kernel
theorem eX10_next_48 : decode (mB MX10_next) 48 = .ok (.aload_n 0, 1) := by decide +kernel
theorem eX10_next_49 : decode (mB MX10_next) 49 = .ok (.getfield 105, 3) := by decide +kernel
theorem eX10_next_52 : decode (mB MX10_next) 52 = .ok (.putfield 108, 3) := by decide +kernel
theorem eX10_next_55 : decode (mB MX10_next) 55 = .ok (.aload_n 0, 1) := by decide +kernel
theorem eX10_next_56 : decode (mB MX10_next) 56 = .ok (.getfield 105, 3) := by decide +kernel
theorem eX10_next_59 : decode (mB MX10_next) 59 = .ok (.aload_n 0, 1) := by decide +kernel
theorem eX10_next_60 : decode (mB MX10_next) 60 = .ok (.getfield 90, 3) := by decide +kernel
theorem eX10_next_63 : decode (mB MX10_next) 63 = .ok (.if_icmp .lt 12, 3) := by decide +kernel
theorem eX10_next_66 : decode (mB MX10_next) 66 = .ok (.aload_n 0, 1) := by decide +kernel
theorem eX10_next_67 : decode (mB MX10_next) 67 = .ok (.bipush 24, 2) := by decide +kernel
theorem eX10_next_69 : decode (mB MX10_next) 69 = .ok (.putfield 115, 3) := by decide +kernel
theorem eX10_next_72 : decode (mB MX10_next) 72 = .ok (.goto 222, 3) := by decide +kernel
theorem eX10_next_75 : decode (mB MX10_next) 75 = .ok (.aload_n 0, 1) := by decide +kernel
theorem eX10_next_76 : decode (mB MX10_next) 76 = .ok (.aload_n 0, 1) := by decide +kernel
theorem eX10_next_77 : decode (mB MX10_next) 77 = .ok (.getfield 105, 3) := by decide +kernel
theorem eX10_next_80 : decode (mB MX10_next) 80 = .ok (.invokevirtual 111, 3) := by decide +kernel
theorem eX10_next_83 : decode (mB MX10_next) 83 = .ok (.invokestatic 118, 3) := by decide +kernel
theorem eX10_next_86 : decode (mB MX10_next) 86 = .ok (.ifCond .eq 41, 3) := by decide +kernel
theorem eX10_next_89 : decode (mB MX10_next) 89 = .ok (.aload_n 0, 1) := by decide +kernel
theorem eX10_next_90 : decode (mB MX10_next) 90 = .ok (.aload_n 0, 1) := by decide +kernel
theorem eX10_next_91 : decode (mB MX10_next) 91 = .ok (.getfield 108, 3) := by decide +kernel
theorem eX10_next_94 : decode (mB MX10_next) 94 = .ok (.invokevirtual 111, 3) := by decide +kernel
theorem eX10_next_97 : decode (mB MX10_next) 97 = .ok (.invokestatic 118, 3) := by decide +kernel
theorem eX10_next_100 : decode (mB MX10_next) 100 = .ok (.ifCond .eq 16, 3) := by decide +kernel
theorem eX10_next_103 : decode (mB MX10_next) 103 = .ok (.aload_n 0, 1) := by decide +kernel
theorem eX10_next_104 : decode (mB MX10_next) 104 = .ok (.dup, 1) := by decide +kernel
theorem eX10_next_105 : decode (mB MX10_next) 105 = .ok (.getfield 108, 3) := by decide +kernel
theorem eX10_next_108 : decode (mB MX10_next) 108 = .ok (.iconst 1, 1) := by decide +kernel
theorem eX10_next_109 : decode (mB MX10_next) 109 = .ok (.iadd, 1) := by decide +kernel
theorem eX10_next_110 : decode (mB MX10_next) 110 = .ok (.putfield 108, 3) := by decide +kernel
theorem eX10_next_113 : decode (mB MX10_next) 113 = .ok (.goto (-24), 3) := by decide +kernel
theorem eX10_next_116 : decode (mB MX10_next) 116 = .ok (.aload_n 0, 1) := by decide +kernel
theorem eX10_next_117 : decode (mB MX10_next) 117 = .ok (.aload_n 0, 1) := by decide +kernel
theorem eX10_next_118 : decode (mB MX10_next) 118 = .ok (.invokevirtual 122, 3) := by decide +kernel
theorem eX10_next_121 : decode (mB MX10_next) 121 = .ok (.putfield 115, 3) := by decide +kernel
theorem eX10_next_124 : decode (mB MX10_next) 124 = .ok (.goto 170, 3) := by decide +kernel
theorem eX10_next_127 : decode (mB MX10_next) 127 = .ok (.aload_n 0, 1) := by decide +kernel
theorem eX10_next_128 : decode (mB MX10_next) 128 = .ok (.aload_n 0, 1) := by decide +kernel
theorem eX10_next_129 : decode (mB MX10_next) 129 = .ok (.getfield 105, 3) := by decide +kernel
theorem eX10_next_132 : decode (mB MX10_next) 132 = .ok (.invokevirtual 111, 3) := by decide +kernel
theorem eX10_next_135 : decode (mB MX10_next) 135 = .ok (.invokestatic 125, 3) := by decide +kernel
theorem eX10_next_138 : decode (mB MX10_next) 138 = .ok (.ifCond .eq 98, 3) := by decide +kernel
theorem eX10_next_141 : decode (mB MX10_next) 141 = .ok (.aload_n 0, 1) := by decide +kernel
theorem eX10_next_142 : decode (mB MX10_next) 142 = .ok (.iconst 0, 1) := by decide +kernel
theorem eX10_next_143 : decode (mB MX10_next) 143 = .ok (.putfield 128, 3) := by decide +kernel
theorem eX10_next_146 : decode (mB MX10_next) 146 = .ok (.aload_n 0, 1) := by decide +kernel
theorem eX10_next_147 : decode (mB MX10_next) 147 = .ok (.aload_n 0, 1) := by decide +kernel
theorem eX10_next_148 : decode (mB MX10_next) 148 = .ok (.getfield 108, 3) := by decide +kernel
theorem eX10_next_151 : decode (mB MX10_next) 151 = .ok (.invokevirtual 111, 3) := by decide +kernel
theorem eX10_next_154 : decode (mB MX10_next) 154 = .ok (.invokestatic 125, 3) := by decide +kernel
theorem eX10_next_157 : decode (mB MX10_next) 157 = .ok (.ifCond .eq 52, 3) := by decide +kernel
theorem eX10_next_160 : decode (mB MX10_next) 160 = .ok (.aload_n 0, 1) := by decide +kernel
theorem eX10_next_161 : decode (mB MX10_next) 161 = .ok (.getfield 108, 3) := by decide +kernel
theorem eX10_next_164 : decode (mB MX10_next) 164 = .ok (.aload_n 0, 1) := by decide +kernel
theorem eX10_next_165 : decode (mB MX10_next) 165 = .ok (.getfield 105, 3) := by decide +kernel
theorem eX10_next_168 : decode (mB MX10_next) 168 = .ok (.isub, 1) := by decide +kernel
theorem eX10_next_169 : decode (mB MX10_next) 169 = .ok (.iconst 3, 1) := by decide +kernel
theorem eX10_next_170 : decode (mB MX10_next) 170 = .ok (.if_icmp .ge 26, 3) := by decide +kernel
theorem eX10_next_173 : decode (mB MX10_next) 173 = .ok (.aload_n 0, 1) := by decide +kernel
theorem eX10_next_174 : decode (mB MX10_next) 174 = .ok (.bipush 10, 2) := by decide +kernel
theorem eX10_next_176 : decode (mB MX10_next) 176 = .ok (.aload_n 0, 1) := by decide +kernel
theorem eX10_next_177 : decode (mB MX10_next) 177 = .ok (.getfield 128, 3) := by decide +kernel
theorem eX10_next_180 : decode (mB MX10_next) 180 = .ok (.imul, 1) := by decide +kernel
theorem eX10_next_181 : decode (mB MX10_next) 181 = .ok (.aload_n 0, 1) := by decide +kernel
theorem eX10_next_182 : decode (mB MX10_next) 182 = .ok (.aload_n 0, 1) := by decide +kernel
theorem eX10_next_183 : decode (mB MX10_next) 183 = .ok (.getfield 108, 3) := by decide +kernel
theorem eX10_next_186 : decode (mB MX10_next) 186 = .ok (.invokevirtual 111, 3) := by decide +kernel
theorem eX10_next_189 : decode (mB MX10_next) 189 = .ok (.iadd, 1) := by decide +kernel
theorem eX10_next_190 : decode (mB MX10_next) 190 = .ok (.bipush 48, 2) := by decide +kernel
theorem eX10_next_192 : decode (mB MX10_next) 192 = .ok (.isub, 1) := by decide +kernel
theorem eX10_next_193 : decode (mB MX10_next) 193 = .ok (.putfield 128, 3) := by decide +kernel
theorem eX10_next_196 : decode (mB MX10_next) 196 = .ok (.aload_n 0, 1) := by decide +kernel
theorem eX10_next_197 : decode (mB MX10_next) 197 = .ok (.dup, 1) := by decide +kernel
theorem eX10_next_198 : decode (mB MX10_next) 198 = .ok (.getfield 108, 3) := by decide +kernel
theorem eX10_next_201 : decode (mB MX10_next) 201 = .ok (.iconst 1, 1) := by decide +kernel
theorem eX10_next_202 : decode (mB MX10_next) 202 = .ok (.iadd, 1) := by decide +kernel
theorem eX10_next_203 : decode (mB MX10_next) 203 = .ok (.putfield 108, 3) := by decide +kernel
theorem eX10_next_206 : decode (mB MX10_next) 206 = .ok (.goto (-60), 3) := by decide +kernel
theorem eX10_next_209 : decode (mB MX10_next) 209 = .ok (.aload_n 0, 1) := by decide +kernel
theorem eX10_next_210 : decode (mB MX10_next) 210 = .ok (.aload_n 0, 1) := by decide +kernel
theorem eX10_next_211 : decode (mB MX10_next) 211 = .ok (.getfield 108, 3) := by decide +kernel
theorem eX10_next_214 : decode (mB MX10_next) 214 = .ok (.aload_n 0, 1) := by decide +kernel
theorem eX10_next_215 : decode (mB MX10_next) 215 = .ok (.getfield 105, 3) := by decide +kernel
theorem eX10_next_218 : decode (mB MX10_next) 218 = .ok (.isub, 1) := by decide +kernel
theorem eX10_next_219 : decode (mB MX10_next) 219 = .ok (.iconst 3, 1) := by decide +kernel
theorem eX10_next_220 : decode (mB MX10_next) 220 = .ok (.if_icmp .le 8, 3) := by decide +kernel
theorem eX10_next_223 : decode (mB MX10_next) 223 = .ok (.bipush 25, 2) := by decide +kernel
theorem eX10_next_225 : decode (mB MX10_next) 225 = .ok (.goto 5, 3) := by decide +kernel
theorem eX10_next_228 : decode (mB MX10_next) 228 = .ok (.bipush 23, 2) := by decide +kernel
theorem eX10_next_230 : decode (mB MX10_next) 230 = .ok (.putfield 115, 3) := by decide +kernel
theorem eX10_next_233 : decode (mB MX10_next) 233 = .ok (.goto 61, 3) := by decide +kernel
theorem eX10_next_236 : decode (mB MX10_next) 236 = .ok (.aload_n 0, 1) := by decide +kernel
theorem eX10_next_237 : decode (mB MX10_next) 237 = .ok (.dup, 1) := by decide +kernel
theorem eX10_next_238 : decode (mB MX10_next) 238 = .ok (.getfield 108, 3) := by decide +kernel
theorem eX10_next_241 : decode (mB MX10_next) 241 = .ok (.iconst 1, 1) := by decide +kernel
theorem eX10_next_242 : decode (mB MX10_next) 242 = .ok (.iadd, 1) := by decide +kernel
theorem eX10_next_243 : decode (mB MX10_next) 243 = .ok (.putfield 108, 3) := by decide +kernel
theorem eX10_next_246 : decode (mB MX10_next) 246 = .ok (.aload_n 0, 1) := by decide +kernel
theorem eX10_next_247 : decode (mB MX10_next) 247 = .ok (.bipush 25, 2) := by decide +kernel
theorem eX10_next_249 : decode (mB MX10_next) 249 = .ok (.putfield 115, 3) := by decide +kernel
theorem eX10_next_252 : decode (mB MX10_next) 252 = .ok (.iconst 0, 1) := by decide +kernel
theorem eX10_next_253 : decode (mB MX10_next) 253 = .ok (.istore_n 1, 1) := by decide +kernel
theorem eX10_next_254 : decode (mB MX10_next) 254 = .ok (.iload_n 1, 1) := by decide +kernel
theorem eX10_next_255 : decode (mB MX10_next) 255 = .ok (.ldc 131, 2) := by decide +kernel
theorem eX10_next_257 : decode (mB MX10_next) 257 = .ok (.invokevirtual 95, 3) := by decide +kernel
theorem eX10_next_260 : decode (mB MX10_next) 260 = .ok (.if_icmp .ge 34, 3) := by decide +kernel
theorem eX10_next_263 : decode (mB MX10_next) 263 = .ok (.aload_n 0, 1) := by decide +kernel
theorem eX10_next_264 : decode (mB MX10_next) 264 = .ok (.aload_n 0, 1) := by decide +kernel
theorem eX10_next_265 : decode (mB MX10_next) 265 = .ok (.getfield 105, 3) := by decide +kernel
theorem eX10_next_268 : decode (mB MX10_next) 268 = .ok (.invokevirtual 111, 3) := by decide +kernel
theorem eX10_next_271 : decode (mB MX10_next) 271 = .ok (.ldc 131, 2) := by decide +kernel
theorem eX10_next_273 : decode (mB MX10_next) 273 = .ok (.iload_n 1, 1) := by decide +kernel
theorem eX10_next_274 : decode (mB MX10_next) 274 = .ok (.invokevirtual 101, 3) := by decide +kernel
theorem eX10_next_277 : decode (mB MX10_next) 277 = .ok (.if_icmp .ne 11, 3) := by decide +kernel
theorem eX10_next_280 : decode (mB MX10_next) 280 = .ok (.aload_n 0, 1) := by decide +kernel
theorem eX10_next_281 : decode (mB MX10_next) 281 = .ok (.bipush 30, 2) := by decide +kernel
theorem eX10_next_283 : decode (mB MX10_next) 283 = .ok (.iload_n 1, 1) := by decide +kernel
theorem eX10_next_284 : decode (mB MX10_next) 284 = .ok (.iadd, 1) := by decide +kernel
theorem eX10_next_285 : decode (mB MX10_next) 285 = .ok (.putfield 115, 3) := by decide +kernel
theorem eX10_next_288 : decode (mB MX10_next) 288 = .ok (.iinc 1 1, 3) := by decide +kernel
theorem eX10_next_291 : decode (mB MX10_next) 291 = .ok (.goto (-37), 3) := by decide +kernel
theorem eX10_next_294 : decode (mB MX10_next) 294 = .ok (.return_, 1) := by decide +kernel
theorem eX10_fails_0 : decode (mB MX10_fails) 0 = .ok (.aload_n 0, 1) := by decide +kernel
theorem eX10_fails_1 : decode (mB MX10_fails) 1 = .ok (.getfield 133, 3) := by decide +kernel
theorem eX10_fails_4 : decode (mB MX10_fails) 4 = .ok (.ifCond .eq 4, 3) := by decide +kernel
theorem eX10_fails_7 : decode (mB MX10_fails) 7 = .ok (.return_, 1) := by decide +kernel
theorem eX10_fails_8 : decode (mB MX10_fails) 8 = .ok (.aload_n 0, 1) := by decide +kernel
theorem eX10_fails_9 : decode (mB MX10_fails) 9 = .ok (.aload_n 0, 1) := by decide +kernel
theorem eX10_fails_10 : decode (mB MX10_fails) 10 = .ok (.getfield 115, 3) := by decide +kernel
theorem eX10_fails_13 : decode (mB MX10_fails) 13 = .ok (.bipush 25, 2) := by decide +kernel
theorem eX10_fails_15 : decode (mB MX10_fails) 15 = .ok (.if_icmp .ne 7, 3) := by decide +kernel
theorem eX10_fails_18 : decode (mB MX10_fails) 18 = .ok (.iconst 1, 1) := by decide +kernel
theorem eX10_fails_19 : decode (mB MX10_fails) 19 = .ok (.goto 4, 3) := by decide +kernel
theorem eX10_fails_22 : decode (mB MX10_fails) 22 = .ok (.iload_n 1, 1) := by decide +kernel
theorem eX10_fails_23 : decode (mB MX10_fails) 23 = .ok (.putfield 133, 3) := by decide +kernel
theorem eX10_fails_26 : decode (mB MX10_fails) 26 = .ok (.aload_n 0, 1) := by decide +kernel
theorem eX10_fails_27 : decode (mB MX10_fails) 27 = .ok (.aload_n 0, 1) := by decide +kernel
theorem eX10_fails_28 : decode (mB MX10_fails) 28 = .ok (.getfield 105, 3) := by decide +kernel
theorem eX10_fails_31 : decode (mB MX10_fails) 31 = .ok (.putfield 136, 3) := by decide +kernel
theorem eX10_fails_34 : decode (mB MX10_fails) 34 = .ok (.return_, 1) := by decide +kernel
theorem eX10_is_0 : decode (mB MX10_is) 0 = .ok (.aload_n 0, 1) := by decide +kernel
theorem eX10_is_1 : decode (mB MX10_is) 1 = .ok (.getfield 133, 3) := by decide +kernel
theorem eX10_is_4 : decode (mB MX10_is) 4 = .ok (.ifCond .ne 15, 3) := by decide +kernel
theorem eX10_is_7 : decode (mB MX10_is) 7 = .ok (.aload_n 0, 1) := by decide +kernel
theorem eX10_is_8 : decode (mB MX10_is) 8 = .ok (.getfield 115, 3) := by decide +kernel
theorem eX10_is_11 : decode (mB MX10_is) 11 = .ok (.iload_n 1, 1) := by decide +kernel
theorem eX10_is_12 : decode (mB MX10_is) 12 = .ok (.if_icmp .ne 7, 3) := by decide +kernel
theorem eX10_is_15 : decode (mB MX10_is) 15 = .ok (.iconst 1, 1) := by decide +kernel
theorem eX10_is_16 : decode (mB MX10_is) 16 = .ok (.goto 4, 3) := by decide +kernel
theorem eX10_is_19 : decode (mB MX10_is) 19 = .ok (.iconst 0, 1) := by decide +kernel
theorem eX10_is_20 : decode (mB MX10_is) 20 = .ok (.ireturn, 1) := by decide +kernel
theorem eX10_eats_0 : decode (mB MX10_eats) 0 = .ok (.aload_n 0, 1) := by decide +kernel
theorem eX10_eats_1 : decode (mB MX10_eats) 1 = .ok (.iload_n 1, 1) := by decide +kernel
theorem eX10_eats_2 : decode (mB MX10_eats) 2 = .ok (.invokevirtual 139, 3) := by decide +kernel
theorem eX10_eats_5 : decode (mB MX10_eats) 5 = .ok (.ifCond .ne 5, 3) := by decide +kernel
theorem eX10_eats_8 : decode (mB MX10_eats) 8 = .ok (.iconst 0, 1) := by decide +kernel
theorem eX10_eats_9 : decode (mB MX10_eats) 9 = .ok (.ireturn, 1) := by decide +kernel
theorem eX10_eats_10 : decode (mB MX10_eats) 10 = .ok (.aload_n 0, 1) := by decide +kernel
theorem eX10_eats_11 : decode (mB MX10_eats) 11 = .ok (.invokevirtual 142, 3) := by decide +kernel
theorem eX10_eats_14 : decode (mB MX10_eats) 14 = .ok (.iconst 1, 1) := by decide +kernel
theorem eX10_eats_15 : decode (mB MX10_eats) 15 = .ok (.ireturn, 1) := by decide +kernel
theorem eX10_takes_0 : decode (mB MX10_takes) 0 = .ok (.aload_n 0, 1) := by decide +kernel
theorem eX10_takes_1 : decode (mB MX10_takes) 1 = .ok (.bipush 23, 2) := by decide +kernel
theorem eX10_takes_3 : decode (mB MX10_takes) 3 = .ok (.invokevirtual 139, 3) := by decide +kernel
theorem eX10_takes_6 : decode (mB MX10_takes) 6 = .ok (.ifCond .ne 11, 3) := by decide +kernel
theorem eX10_takes_9 : decode (mB MX10_takes) 9 = .ok (.aload_n 0, 1) := by decide +kernel
theorem eX10_takes_10 : decode (mB MX10_takes) 10 = .ok (.iconst 2, 1) := by decide +kernel
theorem eX10_takes_11 : decode (mB MX10_takes) 11 = .ok (.invokevirtual 145, 3) := by decide +kernel
theorem eX10_takes_14 : decode (mB MX10_takes) 14 = .ok (.goto 23, 3) := by decide +kernel
theorem eX10_takes_17 : decode (mB MX10_takes) 17 = .ok (.aload_n 0, 1) := by decide +kernel
theorem eX10_takes_18 : decode (mB MX10_takes) 18 = .ok (.getfield 128, 3) := by decide +kernel
theorem eX10_takes_21 : decode (mB MX10_takes) 21 = .ok (.i2l, 1) := by decide +kernel
theorem eX10_takes_22 : decode (mB MX10_takes) 22 = .ok (.iload_n 1, 1) := by decide +kernel
theorem eX10_takes_23 : decode (mB MX10_takes) 23 = .ok (.i2l, 1) := by decide +kernel
theorem eX10_takes_24 : decode (mB MX10_takes) 24 = .ok (.iload_n 2, 1) := by decide +kernel
theorem eX10_takes_25 : decode (mB MX10_takes) 25 = .ok (.i2l, 1) := by decide +kernel
theorem eX10_takes_26 : decode (mB MX10_takes) 26 = .ok (.invokestatic 149, 3) := by decide +kernel
theorem eX10_takes_29 : decode (mB MX10_takes) 29 = .ok (.ifCond .ne 8, 3) := by decide +kernel
theorem eX10_takes_32 : decode (mB MX10_takes) 32 = .ok (.aload_n 0, 1) := by decide +kernel
theorem eX10_takes_33 : decode (mB MX10_takes) 33 = .ok (.iconst 3, 1) := by decide +kernel
theorem eX10_takes_34 : decode (mB MX10_takes) 34 = .ok (.invokevirtual 145, 3) := by decide +kernel
theorem eX10_takes_37 : decode (mB MX10_takes) 37 = .ok (.aload_n 0, 1) := by decide +kernel
theorem eX10_takes_38 : decode (mB MX10_takes) 38 = .ok (.getfield 128, 3) := by decide +kernel
theorem eX10_takes_41 : decode (mB MX10_takes) 41 = .ok (.istore_n 3, 1) := by decide +kernel
theorem eX10_takes_42 : decode (mB MX10_takes) 42 = .ok (.aload_n 0, 1) := by decide +kernel
theorem eX10_takes_43 : decode (mB MX10_takes) 43 = .ok (.getfield 133, 3) := by decide +kernel
theorem eX10_takes_46 : decode (mB MX10_takes) 46 = .ok (.ifCond .ne 7, 3) := by decide +kernel
theorem eX10_takes_49 : decode (mB MX10_takes) 49 = .ok (.aload_n 0, 1) := by decide +kernel
theorem eX10_takes_50 : decode (mB MX10_takes) 50 = .ok (.invokevirtual 142, 3) := by decide +kernel
theorem eX10_takes_53 : decode (mB MX10_takes) 53 = .ok (.iload_n 3, 1) := by decide +kernel
theorem eX10_takes_54 : decode (mB MX10_takes) 54 = .ok (.ireturn, 1) := by decide +kernel
theorem eX10_isIn_0 : decode (mB MX10_isIn) 0 = .ok (.lload_n 0, 1) := by decide +kernel
theorem eX10_isIn_1 : decode (mB MX10_isIn) 1 = .ok (.iload_n 2, 1) := by decide +kernel
theorem eX10_isIn_2 : decode (mB MX10_isIn) 2 = .ok (.lshr, 1) := by decide +kernel
theorem eX10_isIn_3 : decode (mB MX10_isIn) 3 = .ok (.lconst 1, 1) := by decide +kernel
theorem eX10_isIn_4 : decode (mB MX10_isIn) 4 = .ok (.land, 1) := by decide +kernel
theorem eX10_isIn_5 : decode (mB MX10_isIn) 5 = .ok (.lconst 1, 1) := by decide +kernel
theorem eX10_isIn_6 : decode (mB MX10_isIn) 6 = .ok (.lcmp, 1) := by decide +kernel
theorem eX10_isIn_7 : decode (mB MX10_isIn) 7 = .ok (.ifCond .ne 7, 3) := by decide +kernel
theorem eX10_isIn_10 : decode (mB MX10_isIn) 10 = .ok (.iconst 1, 1) := by decide +kernel
theorem eX10_isIn_11 : decode (mB MX10_isIn) 11 = .ok (.goto 4, 3) := by decide +kernel
theorem eX10_isIn_14 : decode (mB MX10_isIn) 14 = .ok (.iconst 0, 1) := by decide +kernel
theorem eX10_isIn_15 : decode (mB MX10_isIn) 15 = .ok (.ireturn, 1) := by decide +kernel
theorem eX10_wordOf_0 : decode (mB MX10_wordOf) 0 = .ok (.iload_n 1, 1) := by decide +kernel
theorem eX10_wordOf_1 : decode (mB MX10_wordOf) 1 = .ok (.tableswitch 132 2 15 #[71, 132, 73, 75, 132, 132, 132, 132, 132, 132, 77, 90, 103, 117], 71) := by decide +kernel
theorem eX10_wordOf_72 : decode (mB MX10_wordOf) 72 = .ok (.iconst 0, 1) := by decide +kernel
theorem eX10_wordOf_73 : decode (mB MX10_wordOf) 73 = .ok (.ireturn, 1) := by decide +kernel
theorem eX10_wordOf_74 : decode (mB MX10_wordOf) 74 = .ok (.iconst 1, 1) := by decide +kernel
theorem eX10_wordOf_75 : decode (mB MX10_wordOf) 75 = .ok (.ireturn, 1) := by decide +kernel
theorem eX10_wordOf_76 : decode (mB MX10_wordOf) 76 = .ok (.iconst 2, 1) := by decide +kernel
theorem eX10_wordOf_77 : decode (mB MX10_wordOf) 77 = .ok (.ireturn, 1) := by decide +kernel
theorem eX10_wordOf_78 : decode (mB MX10_wordOf) 78 = .ok (.aload_n 0, 1) := by decide +kernel
theorem eX10_wordOf_79 : decode (mB MX10_wordOf) 79 = .ok (.getfield 153, 3) := by decide +kernel
theorem eX10_wordOf_82 : decode (mB MX10_wordOf) 82 = .ok (.ifCond .ne 7, 3) := by decide +kernel
theorem eX10_wordOf_85 : decode (mB MX10_wordOf) 85 = .ok (.iconst 3, 1) := by decide +kernel
theorem eX10_wordOf_86 : decode (mB MX10_wordOf) 86 = .ok (.goto 4, 3) := by decide +kernel
theorem eX10_wordOf_89 : decode (mB MX10_wordOf) 89 = .ok (.iconst (-1), 1) := by decide +kernel
theorem eX10_wordOf_90 : decode (mB MX10_wordOf) 90 = .ok (.ireturn, 1) := by decide +kernel
theorem eX10_wordOf_91 : decode (mB MX10_wordOf) 91 = .ok (.aload_n 0, 1) := by decide +kernel
theorem eX10_wordOf_92 : decode (mB MX10_wordOf) 92 = .ok (.getfield 153, 3) := by decide +kernel
theorem eX10_wordOf_95 : decode (mB MX10_wordOf) 95 = .ok (.ifCond .ne 7, 3) := by decide +kernel
theorem eX10_wordOf_98 : decode (mB MX10_wordOf) 98 = .ok (.iconst 4, 1) := by decide +kernel
theorem eX10_wordOf_99 : decode (mB MX10_wordOf) 99 = .ok (.goto 4, 3) := by decide +kernel
theorem eX10_wordOf_102 : decode (mB MX10_wordOf) 102 = .ok (.iconst (-1), 1) := by decide +kernel
theorem eX10_wordOf_103 : decode (mB MX10_wordOf) 103 = .ok (.ireturn, 1) := by decide +kernel
theorem eX10_wordOf_104 : decode (mB MX10_wordOf) 104 = .ok (.aload_n 0, 1) := by decide +kernel
theorem eX10_wordOf_105 : decode (mB MX10_wordOf) 105 = .ok (.getfield 153, 3) := by decide +kernel
theorem eX10_wordOf_108 : decode (mB MX10_wordOf) 108 = .ok (.iconst 1, 1) := by decide +kernel
theorem eX10_wordOf_109 : decode (mB MX10_wordOf) 109 = .ok (.if_icmp .ne 7, 3) := by decide +kernel
theorem eX10_wordOf_112 : decode (mB MX10_wordOf) 112 = .ok (.iconst 5, 1) := by decide +kernel
theorem eX10_wordOf_113 : decode (mB MX10_wordOf) 113 = .ok (.goto 4, 3) := by decide +kernel
theorem eX10_wordOf_116 : decode (mB MX10_wordOf) 116 = .ok (.iconst (-1), 1) := by decide +kernel
theorem eX10_wordOf_117 : decode (mB MX10_wordOf) 117 = .ok (.ireturn, 1) := by decide +kernel
theorem eX10_wordOf_118 : decode (mB MX10_wordOf) 118 = .ok (.aload_n 0, 1) := by decide +kernel
theorem eX10_wordOf_119 : decode (mB MX10_wordOf) 119 = .ok (.getfield 153, 3) := by decide +kernel
theorem eX10_wordOf_122 : decode (mB MX10_wordOf) 122 = .ok (.iconst 1, 1) := by decide +kernel
theorem eX10_wordOf_123 : decode (mB MX10_wordOf) 123 = .ok (.if_icmp .ne 8, 3) := by decide +kernel
theorem eX10_wordOf_126 : decode (mB MX10_wordOf) 126 = .ok (.bipush 6, 2) := by decide +kernel
theorem eX10_wordOf_128 : decode (mB MX10_wordOf) 128 = .ok (.goto 4, 3) := by decide +kernel
theorem eX10_wordOf_131 : decode (mB MX10_wordOf) 131 = .ok (.iconst (-1), 1) := by decide +kernel
theorem eX10_wordOf_132 : decode (mB MX10_wordOf) 132 = .ok (.ireturn, 1) := by decide +kernel
theorem eX10_wordOf_133 : decode (mB MX10_wordOf) 133 = .ok (.iconst (-1), 1) := by decide +kernel
theorem eX10_wordOf_134 : decode (mB MX10_wordOf) 134 = .ok (.ireturn, 1) := by decide +kernel
theorem eX10_codes_0 : decode (mB MX10_codes) 0 = .ok (.aload_n 0, 1) := by decide +kernel
theorem eX10_codes_1 : decode (mB MX10_codes) 1 = .ok (.getfield 133, 3) := by decide +kernel
theorem eX10_codes_4 : decode (mB MX10_codes) 4 = .ok (.ifCond .eq 4, 3) := by decide +kernel
theorem eX10_codes_7 : decode (mB MX10_codes) 7 = .ok (.return_, 1) := by decide +kernel
theorem eX10_codes_8 : decode (mB MX10_codes) 8 = .ok (.aload_n 0, 1) := by decide +kernel
theorem eX10_codes_9 : decode (mB MX10_codes) 9 = .ok (.getfield 24, 3) := by decide +kernel
theorem eX10_codes_12 : decode (mB MX10_codes) 12 = .ok (.sipush 1437, 3) := by decide +kernel
theorem eX10_codes_15 : decode (mB MX10_codes) 15 = .ok (.aload_n 0, 1) := by decide +kernel
theorem eX10_codes_16 : decode (mB MX10_codes) 16 = .ok (.getfield 24, 3) := by decide +kernel
theorem eX10_codes_19 : decode (mB MX10_codes) 19 = .ok (.sipush 1436, 3) := by decide +kernel
theorem eX10_codes_22 : decode (mB MX10_codes) 22 = .ok (.iaload, 1) := by decide +kernel
theorem eX10_codes_23 : decode (mB MX10_codes) 23 = .ok (.iadd, 1) := by decide +kernel
theorem eX10_codes_24 : decode (mB MX10_codes) 24 = .ok (.iload_n 1, 1) := by decide +kernel
theorem eX10_codes_25 : decode (mB MX10_codes) 25 = .ok (.iastore, 1) := by decide +kernel
theorem eX10_codes_26 : decode (mB MX10_codes) 26 = .ok (.aload_n 0, 1) := by decide +kernel
theorem eX10_codes_27 : decode (mB MX10_codes) 27 = .ok (.getfield 24, 3) := by decide +kernel
theorem eX10_codes_30 : decode (mB MX10_codes) 30 = .ok (.sipush 1436, 3) := by decide +kernel
theorem eX10_codes_33 : decode (mB MX10_codes) 33 = .ok (.dup2, 1) := by decide +kernel
theorem eX10_codes_34 : decode (mB MX10_codes) 34 = .ok (.iaload, 1) := by decide +kernel
theorem eX10_codes_35 : decode (mB MX10_codes) 35 = .ok (.iconst 1, 1) := by decide +kernel
theorem eX10_codes_36 : decode (mB MX10_codes) 36 = .ok (.iadd, 1) := by decide +kernel
theorem eX10_codes_37 : decode (mB MX10_codes) 37 = .ok (.iastore, 1) := by decide +kernel
theorem eX10_codes_38 : decode (mB MX10_codes) 38 = .ok (.return_, 1) := by decide +kernel
theorem eX10_goesIn_0 : decode (mB MX10_goesIn) 0 = .ok (.iload_n 1, 1) := by decide +kernel
theorem eX10_goesIn_1 : decode (mB MX10_goesIn) 1 = .ok (.bipush 6, 2) := by decide +kernel
theorem eX10_goesIn_3 : decode (mB MX10_goesIn) 3 = .ok (.if_icmp .ne 8, 3) := by decide +kernel
theorem eX10_goesIn_6 : decode (mB MX10_goesIn) 6 = .ok (.aload_n 0, 1) := by decide +kernel
theorem eX10_goesIn_7 : decode (mB MX10_goesIn) 7 = .ok (.iconst 4, 1) := by decide +kernel
theorem eX10_goesIn_8 : decode (mB MX10_goesIn) 8 = .ok (.invokevirtual 145, 3) := by decide +kernel
theorem eX10_goesIn_11 : decode (mB MX10_goesIn) 11 = .ok (.aload_n 0, 1) := by decide +kernel
theorem eX10_goesIn_12 : decode (mB MX10_goesIn) 12 = .ok (.getfield 133, 3) := by decide +kernel
theorem eX10_goesIn_15 : decode (mB MX10_goesIn) 15 = .ok (.ifCond .ne 7, 3) := by decide +kernel
theorem eX10_goesIn_18 : decode (mB MX10_goesIn) 18 = .ok (.aload_n 0, 1) := by decide +kernel
theorem eX10_goesIn_19 : decode (mB MX10_goesIn) 19 = .ok (.invokevirtual 142, 3) := by decide +kernel
theorem eX10_goesIn_22 : decode (mB MX10_goesIn) 22 = .ok (.aload_n 0, 1) := by decide +kernel
theorem eX10_goesIn_23 : decode (mB MX10_goesIn) 23 = .ok (.getfield 133, 3) := by decide +kernel
theorem eX10_goesIn_26 : decode (mB MX10_goesIn) 26 = .ok (.ifCond .ne 7, 3) := by decide +kernel
theorem eX10_goesIn_29 : decode (mB MX10_goesIn) 29 = .ok (.iconst 1, 1) := by decide +kernel
theorem eX10_goesIn_30 : decode (mB MX10_goesIn) 30 = .ok (.goto 4, 3) := by decide +kernel
theorem eX10_goesIn_33 : decode (mB MX10_goesIn) 33 = .ok (.iconst 0, 1) := by decide +kernel
theorem eX10_goesIn_34 : decode (mB MX10_goesIn) 34 = .ok (.ireturn, 1) := by decide +kernel
theorem eX10_readAtom_0 : decode (mB MX10_readAtom) 0 = .ok (.aload_n 0, 1) := by decide +kernel
theorem eX10_readAtom_1 : decode (mB MX10_readAtom) 1 = .ok (.bipush 23, 2) := by decide +kernel
theorem eX10_readAtom_3 : decode (mB MX10_readAtom) 3 = .ok (.invokevirtual 139, 3) := by decide +kernel
theorem eX10_readAtom_6 : decode (mB MX10_readAtom) 6 = .ok (.ifCond .eq 18, 3) := by decide +kernel
theorem eX10_readAtom_9 : decode (mB MX10_readAtom) 9 = .ok (.aload_n 0, 1) := by decide +kernel
theorem eX10_readAtom_10 : decode (mB MX10_readAtom) 10 = .ok (.aload_n 0, 1) := by decide +kernel
theorem eX10_readAtom_11 : decode (mB MX10_readAtom) 11 = .ok (.getfield 128, 3) := by decide +kernel
theorem eX10_readAtom_14 : decode (mB MX10_readAtom) 14 = .ok (.invokevirtual 156, 3) := by decide +kernel
theorem eX10_readAtom_17 : decode (mB MX10_readAtom) 17 = .ok (.aload_n 0, 1) := by decide +kernel
theorem eX10_readAtom_18 : decode (mB MX10_readAtom) 18 = .ok (.invokevirtual 142, 3) := by decide +kernel
theorem eX10_readAtom_21 : decode (mB MX10_readAtom) 21 = .ok (.goto 109, 3) := by decide +kernel
theorem eX10_readAtom_24 : decode (mB MX10_readAtom) 24 = .ok (.aload_n 0, 1) := by decide +kernel
theorem eX10_readAtom_25 : decode (mB MX10_readAtom) 25 = .ok (.getfield 133, 3) := by decide +kernel
theorem eX10_readAtom_28 : decode (mB MX10_readAtom) 28 = .ok (.ifCond .ne 38, 3) := by decide +kernel
theorem eX10_readAtom_31 : decode (mB MX10_readAtom) 31 = .ok (.aload_n 0, 1) := by decide +kernel
theorem eX10_readAtom_32 : decode (mB MX10_readAtom) 32 = .ok (.aload_n 0, 1) := by decide +kernel
theorem eX10_readAtom_33 : decode (mB MX10_readAtom) 33 = .ok (.getfield 115, 3) := by decide +kernel
theorem eX10_readAtom_36 : decode (mB MX10_readAtom) 36 = .ok (.invokevirtual 159, 3) := by decide +kernel
theorem eX10_readAtom_39 : decode (mB MX10_readAtom) 39 = .ok (.iconst (-1), 1) := by decide +kernel
theorem eX10_readAtom_40 : decode (mB MX10_readAtom) 40 = .ok (.if_icmp .eq 26, 3) := by decide +kernel
theorem eX10_readAtom_43 : decode (mB MX10_readAtom) 43 = .ok (.aload_n 0, 1) := by decide +kernel
theorem eX10_readAtom_44 : decode (mB MX10_readAtom) 44 = .ok (.sipush 1000, 3) := by decide +kernel
theorem eX10_readAtom_47 : decode (mB MX10_readAtom) 47 = .ok (.aload_n 0, 1) := by decide +kernel
theorem eX10_readAtom_48 : decode (mB MX10_readAtom) 48 = .ok (.aload_n 0, 1) := by decide +kernel
theorem eX10_readAtom_49 : decode (mB MX10_readAtom) 49 = .ok (.getfield 115, 3) := by decide +kernel
theorem eX10_readAtom_52 : decode (mB MX10_readAtom) 52 = .ok (.invokevirtual 159, 3) := by decide +kernel
theorem eX10_readAtom_55 : decode (mB MX10_readAtom) 55 = .ok (.iadd, 1) := by decide +kernel
theorem eX10_readAtom_56 : decode (mB MX10_readAtom) 56 = .ok (.invokevirtual 156, 3) := by decide +kernel
theorem eX10_readAtom_59 : decode (mB MX10_readAtom) 59 = .ok (.aload_n 0, 1) := by decide +kernel
theorem eX10_readAtom_60 : decode (mB MX10_readAtom) 60 = .ok (.invokevirtual 142, 3) := by decide +kernel
theorem eX10_readAtom_63 : decode (mB MX10_readAtom) 63 = .ok (.goto 67, 3) := by decide +kernel
theorem eX10_readAtom_66 : decode (mB MX10_readAtom) 66 = .ok (.aload_n 0, 1) := by decide +kernel
theorem eX10_readAtom_67 : decode (mB MX10_readAtom) 67 = .ok (.bipush 35, 2) := by decide +kernel
theorem eX10_readAtom_69 : decode (mB MX10_readAtom) 69 = .ok (.invokevirtual 139, 3) := by decide +kernel
theorem eX10_readAtom_72 : decode (mB MX10_readAtom) 72 = .ok (.ifCond .eq 36, 3) := by decide +kernel
theorem eX10_readAtom_75 : decode (mB MX10_readAtom) 75 = .ok (.aload_n 0, 1) := by decide +kernel
theorem eX10_readAtom_76 : decode (mB MX10_readAtom) 76 = .ok (.iload_n 1, 1) := by decide +kernel
theorem eX10_readAtom_77 : decode (mB MX10_readAtom) 77 = .ok (.invokevirtual 162, 3) := by decide +kernel
theorem eX10_readAtom_80 : decode (mB MX10_readAtom) 80 = .ok (.ifCond .ne 4, 3) := by decide +kernel
theorem eX10_readAtom_83 : decode (mB MX10_readAtom) 83 = .ok (.return_, 1) := by decide +kernel
theorem eX10_readAtom_84 : decode (mB MX10_readAtom) 84 = .ok (.aload_n 0, 1) := by decide +kernel
theorem eX10_readAtom_85 : decode (mB MX10_readAtom) 85 = .ok (.iload_n 1, 1) := by decide +kernel
theorem eX10_readAtom_86 : decode (mB MX10_readAtom) 86 = .ok (.iconst 1, 1) := by decide +kernel
theorem eX10_readAtom_87 : decode (mB MX10_readAtom) 87 = .ok (.iadd, 1) := by decide +kernel
theorem eX10_readAtom_88 : decode (mB MX10_readAtom) 88 = .ok (.invokevirtual 165, 3) := by decide +kernel
theorem eX10_readAtom_91 : decode (mB MX10_readAtom) 91 = .ok (.aload_n 0, 1) := by decide +kernel
theorem eX10_readAtom_92 : decode (mB MX10_readAtom) 92 = .ok (.bipush 36, 2) := by decide +kernel
theorem eX10_readAtom_94 : decode (mB MX10_readAtom) 94 = .ok (.invokevirtual 168, 3) := by decide +kernel
theorem eX10_readAtom_97 : decode (mB MX10_readAtom) 97 = .ok (.ifCond .ne 33, 3) := by decide +kernel
theorem eX10_readAtom_100 : decode (mB MX10_readAtom) 100 = .ok (.aload_n 0, 1) := by decide +kernel
theorem eX10_readAtom_101 : decode (mB MX10_readAtom) 101 = .ok (.iconst 2, 1) := by decide +kernel
theorem eX10_readAtom_102 : decode (mB MX10_readAtom) 102 = .ok (.invokevirtual 145, 3) := by decide +kernel
theorem eX10_readAtom_105 : decode (mB MX10_readAtom) 105 = .ok (.goto 25, 3) := by decide +kernel
theorem eX10_readAtom_108 : decode (mB MX10_readAtom) 108 = .ok (.aload_n 0, 1) := by decide +kernel
theorem eX10_readAtom_109 : decode (mB MX10_readAtom) 109 = .ok (.bipush 8, 2) := by decide +kernel
theorem eX10_readAtom_111 : decode (mB MX10_readAtom) 111 = .ok (.invokevirtual 139, 3) := by decide +kernel
theorem eX10_readAtom_114 : decode (mB MX10_readAtom) 114 = .ok (.ifCond .eq 11, 3) := by decide +kernel
theorem eX10_readAtom_117 : decode (mB MX10_readAtom) 117 = .ok (.aload_n 0, 1) := by decide +kernel
theorem eX10_readAtom_118 : decode (mB MX10_readAtom) 118 = .ok (.iload_n 1, 1) := by decide +kernel
theorem eX10_readAtom_119 : decode (mB MX10_readAtom) 119 = .ok (.invokevirtual 171, 3) := by decide +kernel
theorem eX10_readAtom_122 : decode (mB MX10_readAtom) 122 = .ok (.goto 8, 3) := by decide +kernel
theorem eX10_readAtom_125 : decode (mB MX10_readAtom) 125 = .ok (.aload_n 0, 1) := by decide +kernel
theorem eX10_readAtom_126 : decode (mB MX10_readAtom) 126 = .ok (.iconst 2, 1) := by decide +kernel
theorem eX10_readAtom_127 : decode (mB MX10_readAtom) 127 = .ok (.invokevirtual 145, 3) := by decide +kernel
theorem eX10_readAtom_130 : decode (mB MX10_readAtom) 130 = .ok (.return_, 1) := by decide +kernel
theorem eX10_readIf_0 : decode (mB MX10_readIf) 0 = .ok (.aload_n 0, 1) := by decide +kernel
theorem eX10_readIf_1 : decode (mB MX10_readIf) 1 = .ok (.iload_n 1, 1) := by decide +kernel
theorem eX10_readIf_2 : decode (mB MX10_readIf) 2 = .ok (.invokevirtual 162, 3) := by decide +kernel
theorem eX10_readIf_5 : decode (mB MX10_readIf) 5 = .ok (.ifCond .ne 4, 3) := by decide +kernel
theorem eX10_readIf_8 : decode (mB MX10_readIf) 8 = .ok (.return_, 1) := by decide +kernel
theorem eX10_readIf_9 : decode (mB MX10_readIf) 9 = .ok (.aload_n 0, 1) := by decide +kernel
theorem eX10_readIf_10 : decode (mB MX10_readIf) 10 = .ok (.iload_n 1, 1) := by decide +kernel
theorem eX10_readIf_11 : decode (mB MX10_readIf) 11 = .ok (.iconst 1, 1) := by decide +kernel
theorem eX10_readIf_12 : decode (mB MX10_readIf) 12 = .ok (.iadd, 1) := by decide +kernel
theorem eX10_readIf_13 : decode (mB MX10_readIf) 13 = .ok (.invokevirtual 174, 3) := by decide +kernel
theorem eX10_readIf_16 : decode (mB MX10_readIf) 16 = .ok (.aload_n 0, 1) := by decide +kernel
theorem eX10_readIf_17 : decode (mB MX10_readIf) 17 = .ok (.bipush 9, 2) := by decide +kernel
theorem eX10_readIf_19 : decode (mB MX10_readIf) 19 = .ok (.invokevirtual 168, 3) := by decide +kernel
theorem eX10_readIf_22 : decode (mB MX10_readIf) 22 = .ok (.ifCond .ne 8, 3) := by decide +kernel
theorem eX10_readIf_25 : decode (mB MX10_readIf) 25 = .ok (.aload_n 0, 1) := by decide +kernel
theorem eX10_readIf_26 : decode (mB MX10_readIf) 26 = .ok (.iconst 2, 1) := by decide +kernel
theorem eX10_readIf_27 : decode (mB MX10_readIf) 27 = .ok (.invokevirtual 145, 3) := by decide +kernel
theorem eX10_readIf_30 : decode (mB MX10_readIf) 30 = .ok (.aload_n 0, 1) := by decide +kernel
theorem eX10_readIf_31 : decode (mB MX10_readIf) 31 = .ok (.iload_n 1, 1) := by decide +kernel
theorem eX10_readIf_32 : decode (mB MX10_readIf) 32 = .ok (.iconst 1, 1) := by decide +kernel
theorem eX10_readIf_33 : decode (mB MX10_readIf) 33 = .ok (.iadd, 1) := by decide +kernel
theorem eX10_readIf_34 : decode (mB MX10_readIf) 34 = .ok (.invokevirtual 165, 3) := by decide +kernel
theorem eX10_readIf_37 : decode (mB MX10_readIf) 37 = .ok (.aload_n 0, 1) := by decide +kernel
theorem eX10_readIf_38 : decode (mB MX10_readIf) 38 = .ok (.bipush 10, 2) := by decide +kernel
theorem eX10_readIf_40 : decode (mB MX10_readIf) 40 = .ok (.invokevirtual 168, 3) := by decide +kernel
theorem eX10_readIf_43 : decode (mB MX10_readIf) 43 = .ok (.ifCond .ne 8, 3) := by decide +kernel
theorem eX10_readIf_46 : decode (mB MX10_readIf) 46 = .ok (.aload_n 0, 1) := by decide +kernel
theorem eX10_readIf_47 : decode (mB MX10_readIf) 47 = .ok (.iconst 2, 1) := by decide +kernel
theorem eX10_readIf_48 : decode (mB MX10_readIf) 48 = .ok (.invokevirtual 145, 3) := by decide +kernel
theorem eX10_readIf_51 : decode (mB MX10_readIf) 51 = .ok (.aload_n 0, 1) := by decide +kernel
theorem eX10_readIf_52 : decode (mB MX10_readIf) 52 = .ok (.iload_n 1, 1) := by decide +kernel
theorem eX10_readIf_53 : decode (mB MX10_readIf) 53 = .ok (.iconst 1, 1) := by decide +kernel
theorem eX10_readIf_54 : decode (mB MX10_readIf) 54 = .ok (.iadd, 1) := by decide +kernel
theorem eX10_readIf_55 : decode (mB MX10_readIf) 55 = .ok (.invokevirtual 165, 3) := by decide +kernel
theorem eX10_readIf_58 : decode (mB MX10_readIf) 58 = .ok (.aload_n 0, 1) := by decide +kernel
theorem eX10_readIf_59 : decode (mB MX10_readIf) 59 = .ok (.bipush 11, 2) := by decide +kernel
theorem eX10_readIf_61 : decode (mB MX10_readIf) 61 = .ok (.invokevirtual 168, 3) := by decide +kernel
theorem eX10_readIf_64 : decode (mB MX10_readIf) 64 = .ok (.ifCond .ne 8, 3) := by decide +kernel
theorem eX10_readIf_67 : decode (mB MX10_readIf) 67 = .ok (.aload_n 0, 1) := by decide +kernel
theorem eX10_readIf_68 : decode (mB MX10_readIf) 68 = .ok (.iconst 2, 1) := by decide +kernel
theorem eX10_readIf_69 : decode (mB MX10_readIf) 69 = .ok (.invokevirtual 145, 3) := by decide +kernel
theorem eX10_readIf_72 : decode (mB MX10_readIf) 72 = .ok (.aload_n 0, 1) := by decide +kernel
theorem eX10_readIf_73 : decode (mB MX10_readIf) 73 = .ok (.sipush 3009, 3) := by decide +kernel
theorem eX10_readIf_76 : decode (mB MX10_readIf) 76 = .ok (.invokevirtual 156, 3) := by decide +kernel
theorem eX10_readIf_79 : decode (mB MX10_readIf) 79 = .ok (.return_, 1) := by decide +kernel
theorem eX10_readTerm_0 : decode (mB MX10_readTerm) 0 = .ok (.aload_n 0, 1) := by decide +kernel
theorem eX10_readTerm_1 : decode (mB MX10_readTerm) 1 = .ok (.iload_n 1, 1) := by decide +kernel
theorem eX10_readTerm_2 : decode (mB MX10_readTerm) 2 = .ok (.invokevirtual 177, 3) := by decide +kernel
theorem eX10_readTerm_5 : decode (mB MX10_readTerm) 5 = .ok (.aload_n 0, 1) := by decide +kernel
theorem eX10_readTerm_6 : decode (mB MX10_readTerm) 6 = .ok (.bipush 34, 2) := by decide +kernel
theorem eX10_readTerm_8 : decode (mB MX10_readTerm) 8 = .ok (.invokevirtual 168, 3) := by decide +kernel
theorem eX10_readTerm_11 : decode (mB MX10_readTerm) 11 = .ok (.ifCond .eq 18, 3) := by decide +kernel
theorem eX10_readTerm_14 : decode (mB MX10_readTerm) 14 = .ok (.aload_n 0, 1) := by decide +kernel
theorem eX10_readTerm_15 : decode (mB MX10_readTerm) 15 = .ok (.iload_n 1, 1) := by decide +kernel
theorem eX10_readTerm_16 : decode (mB MX10_readTerm) 16 = .ok (.invokevirtual 177, 3) := by decide +kernel
theorem eX10_readTerm_19 : decode (mB MX10_readTerm) 19 = .ok (.aload_n 0, 1) := by decide +kernel
theorem eX10_readTerm_20 : decode (mB MX10_readTerm) 20 = .ok (.sipush 3002, 3) := by decide +kernel
theorem eX10_readTerm_23 : decode (mB MX10_readTerm) 23 = .ok (.invokevirtual 156, 3) := by decide +kernel
theorem eX10_readTerm_26 : decode (mB MX10_readTerm) 26 = .ok (.goto (-21), 3) := by decide +kernel
theorem eX10_readTerm_29 : decode (mB MX10_readTerm) 29 = .ok (.return_, 1) := by decide +kernel
theorem eX10_readSum_0 : decode (mB MX10_readSum) 0 = .ok (.aload_n 0, 1) := by decide +kernel
theorem eX10_readSum_1 : decode (mB MX10_readSum) 1 = .ok (.iload_n 1, 1) := by decide +kernel
theorem eX10_readSum_2 : decode (mB MX10_readSum) 2 = .ok (.invokevirtual 180, 3) := by decide +kernel
theorem eX10_readSum_5 : decode (mB MX10_readSum) 5 = .ok (.aload_n 0, 1) := by decide +kernel
theorem eX10_readSum_6 : decode (mB MX10_readSum) 6 = .ok (.bipush 32, 2) := by decide +kernel
theorem eX10_readSum_8 : decode (mB MX10_readSum) 8 = .ok (.invokevirtual 139, 3) := by decide +kernel
theorem eX10_readSum_11 : decode (mB MX10_readSum) 11 = .ok (.ifCond .ne 12, 3) := by decide +kernel
theorem eX10_readSum_14 : decode (mB MX10_readSum) 14 = .ok (.aload_n 0, 1) := by decide +kernel
theorem eX10_readSum_15 : decode (mB MX10_readSum) 15 = .ok (.bipush 33, 2) := by decide +kernel
theorem eX10_readSum_17 : decode (mB MX10_readSum) 17 = .ok (.invokevirtual 139, 3) := by decide +kernel
theorem eX10_readSum_20 : decode (mB MX10_readSum) 20 = .ok (.ifCond .eq 39, 3) := by decide +kernel
theorem eX10_readSum_23 : decode (mB MX10_readSum) 23 = .ok (.aload_n 0, 1) := by decide +kernel
theorem eX10_readSum_24 : decode (mB MX10_readSum) 24 = .ok (.getfield 115, 3) := by decide +kernel
theorem eX10_readSum_27 : decode (mB MX10_readSum) 27 = .ok (.bipush 32, 2) := by decide +kernel
theorem eX10_readSum_29 : decode (mB MX10_readSum) 29 = .ok (.if_icmp .ne 9, 3) := by decide +kernel
theorem eX10_readSum_32 : decode (mB MX10_readSum) 32 = .ok (.sipush 3000, 3) := by decide +kernel
theorem eX10_readSum_35 : decode (mB MX10_readSum) 35 = .ok (.goto 6, 3) := by decide +kernel
theorem eX10_readSum_38 : decode (mB MX10_readSum) 38 = .ok (.sipush 3001, 3) := by decide +kernel
theorem eX10_readSum_41 : decode (mB MX10_readSum) 41 = .ok (.istore_n 2, 1) := by decide +kernel
theorem eX10_readSum_42 : decode (mB MX10_readSum) 42 = .ok (.aload_n 0, 1) := by decide +kernel
theorem eX10_readSum_43 : decode (mB MX10_readSum) 43 = .ok (.invokevirtual 142, 3) := by decide +kernel
theorem eX10_readSum_46 : decode (mB MX10_readSum) 46 = .ok (.aload_n 0, 1) := by decide +kernel
theorem eX10_readSum_47 : decode (mB MX10_readSum) 47 = .ok (.iload_n 1, 1) := by decide +kernel
theorem eX10_readSum_48 : decode (mB MX10_readSum) 48 = .ok (.invokevirtual 180, 3) := by decide +kernel
theorem eX10_readSum_51 : decode (mB MX10_readSum) 51 = .ok (.aload_n 0, 1) := by decide +kernel
theorem eX10_readSum_52 : decode (mB MX10_readSum) 52 = .ok (.iload_n 2, 1) := by decide +kernel
theorem eX10_readSum_53 : decode (mB MX10_readSum) 53 = .ok (.invokevirtual 156, 3) := by decide +kernel
theorem eX10_readSum_56 : decode (mB MX10_readSum) 56 = .ok (.goto (-51), 3) := by decide +kernel
theorem eX10_readSum_59 : decode (mB MX10_readSum) 59 = .ok (.return_, 1) := by decide +kernel
theorem eX10_readUnit_0 : decode (mB MX10_readUnit) 0 = .ok (.aload_n 0, 1) := by decide +kernel
theorem eX10_readUnit_1 : decode (mB MX10_readUnit) 1 = .ok (.bipush 18, 2) := by decide +kernel
theorem eX10_readUnit_3 : decode (mB MX10_readUnit) 3 = .ok (.invokevirtual 139, 3) := by decide +kernel
theorem eX10_readUnit_6 : decode (mB MX10_readUnit) 6 = .ok (.ifCond .eq 27, 3) := by decide +kernel
theorem eX10_readUnit_9 : decode (mB MX10_readUnit) 9 = .ok (.aload_n 0, 1) := by decide +kernel
theorem eX10_readUnit_10 : decode (mB MX10_readUnit) 10 = .ok (.iload_n 1, 1) := by decide +kernel
theorem eX10_readUnit_11 : decode (mB MX10_readUnit) 11 = .ok (.invokevirtual 162, 3) := by decide +kernel
theorem eX10_readUnit_14 : decode (mB MX10_readUnit) 14 = .ok (.ifCond .ne 4, 3) := by decide +kernel
theorem eX10_readUnit_17 : decode (mB MX10_readUnit) 17 = .ok (.return_, 1) := by decide +kernel
theorem eX10_readUnit_18 : decode (mB MX10_readUnit) 18 = .ok (.aload_n 0, 1) := by decide +kernel
theorem eX10_readUnit_19 : decode (mB MX10_readUnit) 19 = .ok (.iload_n 1, 1) := by decide +kernel
theorem eX10_readUnit_20 : decode (mB MX10_readUnit) 20 = .ok (.iconst 1, 1) := by decide +kernel
theorem eX10_readUnit_21 : decode (mB MX10_readUnit) 21 = .ok (.iadd, 1) := by decide +kernel
theorem eX10_readUnit_22 : decode (mB MX10_readUnit) 22 = .ok (.invokevirtual 183, 3) := by decide +kernel
theorem eX10_readUnit_25 : decode (mB MX10_readUnit) 25 = .ok (.aload_n 0, 1) := by decide +kernel
theorem eX10_readUnit_26 : decode (mB MX10_readUnit) 26 = .ok (.sipush 3006, 3) := by decide +kernel
theorem eX10_readUnit_29 : decode (mB MX10_readUnit) 29 = .ok (.invokevirtual 156, 3) := by decide +kernel
theorem eX10_readUnit_32 : decode (mB MX10_readUnit) 32 = .ok (.return_, 1) := by decide +kernel
theorem eX10_readUnit_33 : decode (mB MX10_readUnit) 33 = .ok (.aload_n 0, 1) := by decide +kernel
theorem eX10_readUnit_34 : decode (mB MX10_readUnit) 34 = .ok (.bipush 37, 2) := by decide +kernel
theorem eX10_readUnit_36 : decode (mB MX10_readUnit) 36 = .ok (.invokevirtual 139, 3) := by decide +kernel
theorem eX10_readUnit_39 : decode (mB MX10_readUnit) 39 = .ok (.ifCond .eq 34, 3) := by decide +kernel
theorem eX10_readUnit_42 : decode (mB MX10_readUnit) 42 = .ok (.aload_n 0, 1) := by decide +kernel
theorem eX10_readUnit_43 : decode (mB MX10_readUnit) 43 = .ok (.iload_n 1, 1) := by decide +kernel
theorem eX10_readUnit_44 : decode (mB MX10_readUnit) 44 = .ok (.invokevirtual 162, 3) := by decide +kernel
theorem eX10_readUnit_47 : decode (mB MX10_readUnit) 47 = .ok (.ifCond .ne 4, 3) := by decide +kernel
theorem eX10_readUnit_50 : decode (mB MX10_readUnit) 50 = .ok (.return_, 1) := by decide +kernel
theorem eX10_readUnit_51 : decode (mB MX10_readUnit) 51 = .ok (.aload_n 0, 1) := by decide +kernel
theorem eX10_readUnit_52 : decode (mB MX10_readUnit) 52 = .ok (.iload_n 1, 1) := by decide +kernel
theorem eX10_readUnit_53 : decode (mB MX10_readUnit) 53 = .ok (.iconst 1, 1) := by decide +kernel
theorem eX10_readUnit_54 : decode (mB MX10_readUnit) 54 = .ok (.iadd, 1) := by decide +kernel
theorem eX10_readUnit_55 : decode (mB MX10_readUnit) 55 = .ok (.invokevirtual 174, 3) := by decide +kernel
theorem eX10_readUnit_58 : decode (mB MX10_readUnit) 58 = .ok (.aload_n 0, 1) := by decide +kernel
theorem eX10_readUnit_59 : decode (mB MX10_readUnit) 59 = .ok (.bipush 38, 2) := by decide +kernel
theorem eX10_readUnit_61 : decode (mB MX10_readUnit) 61 = .ok (.invokevirtual 168, 3) := by decide +kernel
theorem eX10_readUnit_64 : decode (mB MX10_readUnit) 64 = .ok (.ifCond .ne 8, 3) := by decide +kernel
theorem eX10_readUnit_67 : decode (mB MX10_readUnit) 67 = .ok (.aload_n 0, 1) := by decide +kernel
theorem eX10_readUnit_68 : decode (mB MX10_readUnit) 68 = .ok (.iconst 2, 1) := by decide +kernel
theorem eX10_readUnit_69 : decode (mB MX10_readUnit) 69 = .ok (.invokevirtual 145, 3) := by decide +kernel
theorem eX10_readUnit_72 : decode (mB MX10_readUnit) 72 = .ok (.return_, 1) := by decide +kernel
theorem eX10_readUnit_73 : decode (mB MX10_readUnit) 73 = .ok (.aload_n 0, 1) := by decide +kernel
theorem eX10_readUnit_74 : decode (mB MX10_readUnit) 74 = .ok (.iload_n 1, 1) := by decide +kernel
theorem eX10_readUnit_75 : decode (mB MX10_readUnit) 75 = .ok (.invokevirtual 165, 3) := by decide +kernel
theorem eX10_readUnit_78 : decode (mB MX10_readUnit) 78 = .ok (.aload_n 0, 1) := by decide +kernel
theorem eX10_readUnit_79 : decode (mB MX10_readUnit) 79 = .ok (.bipush 39, 2) := by decide +kernel
theorem eX10_readUnit_81 : decode (mB MX10_readUnit) 81 = .ok (.invokevirtual 139, 3) := by decide +kernel
theorem eX10_readUnit_84 : decode (mB MX10_readUnit) 84 = .ok (.ifCond .eq 9, 3) := by decide +kernel
theorem eX10_readUnit_87 : decode (mB MX10_readUnit) 87 = .ok (.sipush 3003, 3) := by decide +kernel
theorem eX10_readUnit_90 : decode (mB MX10_readUnit) 90 = .ok (.goto 21, 3) := by decide +kernel
theorem eX10_readUnit_93 : decode (mB MX10_readUnit) 93 = .ok (.aload_n 0, 1) := by decide +kernel
theorem eX10_readUnit_94 : decode (mB MX10_readUnit) 94 = .ok (.bipush 40, 2) := by decide +kernel
theorem eX10_readUnit_96 : decode (mB MX10_readUnit) 96 = .ok (.invokevirtual 139, 3) := by decide +kernel
theorem eX10_readUnit_99 : decode (mB MX10_readUnit) 99 = .ok (.ifCond .eq 9, 3) := by decide +kernel
theorem eX10_readUnit_102 : decode (mB MX10_readUnit) 102 = .ok (.sipush 3004, 3) := by decide +kernel
theorem eX10_readUnit_105 : decode (mB MX10_readUnit) 105 = .ok (.goto 6, 3) := by decide +kernel
theorem eX10_readUnit_108 : decode (mB MX10_readUnit) 108 = .ok (.sipush 3005, 3) := by decide +kernel
theorem eX10_readUnit_111 : decode (mB MX10_readUnit) 111 = .ok (.istore_n 2, 1) := by decide +kernel
theorem eX10_readUnit_112 : decode (mB MX10_readUnit) 112 = .ok (.aload_n 0, 1) := by decide +kernel
theorem eX10_readUnit_113 : decode (mB MX10_readUnit) 113 = .ok (.bipush 39, 2) := by decide +kernel
theorem eX10_readUnit_115 : decode (mB MX10_readUnit) 115 = .ok (.invokevirtual 139, 3) := by decide +kernel
theorem eX10_readUnit_118 : decode (mB MX10_readUnit) 118 = .ok (.ifCond .ne 21, 3) := by decide +kernel
theorem eX10_readUnit_121 : decode (mB MX10_readUnit) 121 = .ok (.aload_n 0, 1) := by decide +kernel
theorem eX10_readUnit_122 : decode (mB MX10_readUnit) 122 = .ok (.bipush 40, 2) := by decide +kernel
theorem eX10_readUnit_124 : decode (mB MX10_readUnit) 124 = .ok (.invokevirtual 139, 3) := by decide +kernel
theorem eX10_readUnit_127 : decode (mB MX10_readUnit) 127 = .ok (.ifCond .ne 12, 3) := by decide +kernel
theorem eX10_readUnit_130 : decode (mB MX10_readUnit) 130 = .ok (.aload_n 0, 1) := by decide +kernel
theorem eX10_readUnit_131 : decode (mB MX10_readUnit) 131 = .ok (.bipush 41, 2) := by decide +kernel
theorem eX10_readUnit_133 : decode (mB MX10_readUnit) 133 = .ok (.invokevirtual 139, 3) := by decide +kernel
theorem eX10_readUnit_136 : decode (mB MX10_readUnit) 136 = .ok (.ifCond .eq 10, 3) := by decide +kernel
theorem eX10_readUnit_139 : decode (mB MX10_readUnit) 139 = .ok (.aload_n 0, 1) := by decide +kernel
theorem eX10_readUnit_140 : decode (mB MX10_readUnit) 140 = .ok (.invokevirtual 142, 3) := by decide +kernel
theorem eX10_readUnit_143 : decode (mB MX10_readUnit) 143 = .ok (.goto 8, 3) := by decide +kernel
theorem eX10_readUnit_146 : decode (mB MX10_readUnit) 146 = .ok (.aload_n 0, 1) := by decide +kernel
theorem eX10_readUnit_147 : decode (mB MX10_readUnit) 147 = .ok (.iconst 2, 1) := by decide +kernel
theorem eX10_readUnit_148 : decode (mB MX10_readUnit) 148 = .ok (.invokevirtual 145, 3) := by decide +kernel
theorem eX10_readUnit_151 : decode (mB MX10_readUnit) 151 = .ok (.aload_n 0, 1) := by decide +kernel
theorem eX10_readUnit_152 : decode (mB MX10_readUnit) 152 = .ok (.iload_n 1, 1) := by decide +kernel
theorem eX10_readUnit_153 : decode (mB MX10_readUnit) 153 = .ok (.invokevirtual 165, 3) := by decide +kernel
theorem eX10_readUnit_156 : decode (mB MX10_readUnit) 156 = .ok (.aload_n 0, 1) := by decide +kernel
theorem eX10_readUnit_157 : decode (mB MX10_readUnit) 157 = .ok (.iload_n 2, 1) := by decide +kernel
theorem eX10_readUnit_158 : decode (mB MX10_readUnit) 158 = .ok (.invokevirtual 156, 3) := by decide +kernel
theorem eX10_readUnit_161 : decode (mB MX10_readUnit) 161 = .ok (.return_, 1) := by decide +kernel
theorem eX10_readBoth_0 : decode (mB MX10_readBoth) 0 = .ok (.aload_n 0, 1) := by decide +kernel
theorem eX10_readBoth_1 : decode (mB MX10_readBoth) 1 = .ok (.iload_n 1, 1) := by decide +kernel
theorem eX10_readBoth_2 : decode (mB MX10_readBoth) 2 = .ok (.invokevirtual 183, 3) := by decide +kernel
theorem eX10_readBoth_5 : decode (mB MX10_readBoth) 5 = .ok (.aload_n 0, 1) := by decide +kernel
theorem eX10_readBoth_6 : decode (mB MX10_readBoth) 6 = .ok (.bipush 16, 2) := by decide +kernel
theorem eX10_readBoth_8 : decode (mB MX10_readBoth) 8 = .ok (.invokevirtual 168, 3) := by decide +kernel
theorem eX10_readBoth_11 : decode (mB MX10_readBoth) 11 = .ok (.ifCond .eq 18, 3) := by decide +kernel
theorem eX10_readBoth_14 : decode (mB MX10_readBoth) 14 = .ok (.aload_n 0, 1) := by decide +kernel
theorem eX10_readBoth_15 : decode (mB MX10_readBoth) 15 = .ok (.iload_n 1, 1) := by decide +kernel
theorem eX10_readBoth_16 : decode (mB MX10_readBoth) 16 = .ok (.invokevirtual 183, 3) := by decide +kernel
theorem eX10_readBoth_19 : decode (mB MX10_readBoth) 19 = .ok (.aload_n 0, 1) := by decide +kernel
theorem eX10_readBoth_20 : decode (mB MX10_readBoth) 20 = .ok (.sipush 3007, 3) := by decide +kernel
theorem eX10_readBoth_23 : decode (mB MX10_readBoth) 23 = .ok (.invokevirtual 156, 3) := by decide +kernel
theorem eX10_readBoth_26 : decode (mB MX10_readBoth) 26 = .ok (.goto (-21), 3) := by decide +kernel
theorem eX10_readBoth_29 : decode (mB MX10_readBoth) 29 = .ok (.return_, 1) := by decide +kernel
theorem eX10_readTruth_0 : decode (mB MX10_readTruth) 0 = .ok (.aload_n 0, 1) := by decide +kernel
theorem eX10_readTruth_1 : decode (mB MX10_readTruth) 1 = .ok (.iload_n 1, 1) := by decide +kernel
theorem eX10_readTruth_2 : decode (mB MX10_readTruth) 2 = .ok (.invokevirtual 186, 3) := by decide +kernel
theorem eX10_readTruth_5 : decode (mB MX10_readTruth) 5 = .ok (.aload_n 0, 1) := by decide +kernel
theorem eX10_readTruth_6 : decode (mB MX10_readTruth) 6 = .ok (.bipush 17, 2) := by decide +kernel
theorem eX10_readTruth_8 : decode (mB MX10_readTruth) 8 = .ok (.invokevirtual 168, 3) := by decide +kernel
theorem eX10_readTruth_11 : decode (mB MX10_readTruth) 11 = .ok (.ifCond .eq 18, 3) := by decide +kernel
theorem eX10_readTruth_14 : decode (mB MX10_readTruth) 14 = .ok (.aload_n 0, 1) := by decide +kernel
theorem eX10_readTruth_15 : decode (mB MX10_readTruth) 15 = .ok (.iload_n 1, 1) := by decide +kernel
theorem eX10_readTruth_16 : decode (mB MX10_readTruth) 16 = .ok (.invokevirtual 186, 3) := by decide +kernel
theorem eX10_readTruth_19 : decode (mB MX10_readTruth) 19 = .ok (.aload_n 0, 1) := by decide +kernel
theorem eX10_readTruth_20 : decode (mB MX10_readTruth) 20 = .ok (.sipush 3008, 3) := by decide +kernel
theorem eX10_readTruth_23 : decode (mB MX10_readTruth) 23 = .ok (.invokevirtual 156, 3) := by decide +kernel
theorem eX10_readTruth_26 : decode (mB MX10_readTruth) 26 = .ok (.goto (-21), 3) := by decide +kernel
theorem eX10_readTruth_29 : decode (mB MX10_readTruth) 29 = .ok (.return_, 1) := by decide +kernel
theorem eX10_named_0 : decode (mB MX10_named) 0 = .ok (.aload_n 0, 1) := by decide +kernel
theorem eX10_named_1 : decode (mB MX10_named) 1 = .ok (.iload_n 1, 1) := by decide +kernel
theorem eX10_named_2 : decode (mB MX10_named) 2 = .ok (.invokevirtual 168, 3) := by decide +kernel
theorem eX10_named_5 : decode (mB MX10_named) 5 = .ok (.ifCond .ne 8, 3) := by decide +kernel
theorem eX10_named_8 : decode (mB MX10_named) 8 = .ok (.aload_n 0, 1) := by decide +kernel
theorem eX10_named_9 : decode (mB MX10_named) 9 = .ok (.iconst 2, 1) := by decide +kernel
theorem eX10_named_10 : decode (mB MX10_named) 10 = .ok (.invokevirtual 145, 3) := by decide +kernel
theorem eX10_named_13 : decode (mB MX10_named) 13 = .ok (.aload_n 0, 1) := by decide +kernel
theorem eX10_named_14 : decode (mB MX10_named) 14 = .ok (.iload_n 2, 1) := by decide +kernel
theorem eX10_named_15 : decode (mB MX10_named) 15 = .ok (.iload_n 3, 1) := by decide +kernel
theorem eX10_named_16 : decode (mB MX10_named) 16 = .ok (.invokevirtual 189, 3) := by decide +kernel
theorem eX10_named_19 : decode (mB MX10_named) 19 = .ok (.ireturn, 1) := by decide +kernel
theorem eX10_areJoined_0 : decode (mB MX10_areJoined) 0 = .ok (.iconst 0, 1) := by decide +kernel
theorem eX10_areJoined_1 : decode (mB MX10_areJoined) 1 = .ok (.istore_n 3, 1) := by decide +kernel
theorem eX10_areJoined_2 : decode (mB MX10_areJoined) 2 = .ok (.iload_n 3, 1) := by decide +kernel
theorem eX10_areJoined_3 : decode (mB MX10_areJoined) 3 = .ok (.aload_n 0, 1) := by decide +kernel
theorem eX10_areJoined_4 : decode (mB MX10_areJoined) 4 = .ok (.getfield 24, 3) := by decide +kernel
theorem eX10_areJoined_7 : decode (mB MX10_areJoined) 7 = .ok (.iconst 2, 1) := by decide +kernel
theorem eX10_areJoined_8 : decode (mB MX10_areJoined) 8 = .ok (.iaload, 1) := by decide +kernel
theorem eX10_areJoined_9 : decode (mB MX10_areJoined) 9 = .ok (.if_icmp .ge 63, 3) := by decide +kernel
theorem eX10_areJoined_12 : decode (mB MX10_areJoined) 12 = .ok (.aload_n 0, 1) := by decide +kernel
theorem eX10_areJoined_13 : decode (mB MX10_areJoined) 13 = .ok (.getfield 24, 3) := by decide +kernel
theorem eX10_areJoined_16 : decode (mB MX10_areJoined) 16 = .ok (.bipush 9, 2) := by decide +kernel
theorem eX10_areJoined_18 : decode (mB MX10_areJoined) 18 = .ok (.iconst 2, 1) := by decide +kernel
theorem eX10_areJoined_19 : decode (mB MX10_areJoined) 19 = .ok (.iload_n 3, 1) := by decide +kernel
theorem eX10_areJoined_20 : decode (mB MX10_areJoined) 20 = .ok (.imul, 1) := by decide +kernel
theorem eX10_areJoined_21 : decode (mB MX10_areJoined) 21 = .ok (.iadd, 1) := by decide +kernel
theorem eX10_areJoined_22 : decode (mB MX10_areJoined) 22 = .ok (.iaload, 1) := by decide +kernel
theorem eX10_areJoined_23 : decode (mB MX10_areJoined) 23 = .ok (.istore 4, 2) := by decide +kernel
theorem eX10_areJoined_25 : decode (mB MX10_areJoined) 25 = .ok (.aload_n 0, 1) := by decide +kernel
theorem eX10_areJoined_26 : decode (mB MX10_areJoined) 26 = .ok (.getfield 24, 3) := by decide +kernel
theorem eX10_areJoined_29 : decode (mB MX10_areJoined) 29 = .ok (.bipush 9, 2) := by decide +kernel
theorem eX10_areJoined_31 : decode (mB MX10_areJoined) 31 = .ok (.iconst 2, 1) := by decide +kernel
theorem eX10_areJoined_32 : decode (mB MX10_areJoined) 32 = .ok (.iload_n 3, 1) := by decide +kernel
theorem eX10_areJoined_33 : decode (mB MX10_areJoined) 33 = .ok (.imul, 1) := by decide +kernel
theorem eX10_areJoined_34 : decode (mB MX10_areJoined) 34 = .ok (.iadd, 1) := by decide +kernel
theorem eX10_areJoined_35 : decode (mB MX10_areJoined) 35 = .ok (.iconst 1, 1) := by decide +kernel
theorem eX10_areJoined_36 : decode (mB MX10_areJoined) 36 = .ok (.iadd, 1) := by decide +kernel
theorem eX10_areJoined_37 : decode (mB MX10_areJoined) 37 = .ok (.iaload, 1) := by decide +kernel
theorem eX10_areJoined_38 : decode (mB MX10_areJoined) 38 = .ok (.istore 5, 2) := by decide +kernel
theorem eX10_areJoined_40 : decode (mB MX10_areJoined) 40 = .ok (.iload 4, 2) := by decide +kernel
theorem eX10_areJoined_42 : decode (mB MX10_areJoined) 42 = .ok (.iload_n 1, 1) := by decide +kernel
theorem eX10_areJoined_43 : decode (mB MX10_areJoined) 43 = .ok (.if_icmp .ne 9, 3) := by decide +kernel
theorem eX10_areJoined_46 : decode (mB MX10_areJoined) 46 = .ok (.iload 5, 2) := by decide +kernel
theorem eX10_areJoined_48 : decode (mB MX10_areJoined) 48 = .ok (.iload_n 2, 1) := by decide +kernel
theorem eX10_areJoined_49 : decode (mB MX10_areJoined) 49 = .ok (.if_icmp .eq 15, 3) := by decide +kernel
theorem eX10_areJoined_52 : decode (mB MX10_areJoined) 52 = .ok (.iload 4, 2) := by decide +kernel
theorem eX10_areJoined_54 : decode (mB MX10_areJoined) 54 = .ok (.iload_n 2, 1) := by decide +kernel
theorem eX10_areJoined_55 : decode (mB MX10_areJoined) 55 = .ok (.if_icmp .ne 11, 3) := by decide +kernel
theorem eX10_areJoined_58 : decode (mB MX10_areJoined) 58 = .ok (.iload 5, 2) := by decide +kernel
theorem eX10_areJoined_60 : decode (mB MX10_areJoined) 60 = .ok (.iload_n 1, 1) := by decide +kernel
theorem eX10_areJoined_61 : decode (mB MX10_areJoined) 61 = .ok (.if_icmp .ne 5, 3) := by decide +kernel
theorem eX10_areJoined_64 : decode (mB MX10_areJoined) 64 = .ok (.iconst 1, 1) := by decide +kernel
theorem eX10_areJoined_65 : decode (mB MX10_areJoined) 65 = .ok (.ireturn, 1) := by decide +kernel
theorem eX10_areJoined_66 : decode (mB MX10_areJoined) 66 = .ok (.iinc 3 1, 3) := by decide +kernel
theorem eX10_areJoined_69 : decode (mB MX10_areJoined) 69 = .ok (.goto (-67), 3) := by decide +kernel
theorem eX10_areJoined_72 : decode (mB MX10_areJoined) 72 = .ok (.iconst 0, 1) := by decide +kernel
theorem eX10_areJoined_73 : decode (mB MX10_areJoined) 73 = .ok (.ireturn, 1) := by decide +kernel
theorem eX10_readLink_0 : decode (mB MX10_readLink) 0 = .ok (.aload_n 0, 1) := by decide +kernel
theorem eX10_readLink_1 : decode (mB MX10_readLink) 1 = .ok (.getfield 24, 3) := by decide +kernel
theorem eX10_readLink_4 : decode (mB MX10_readLink) 4 = .ok (.iconst 2, 1) := by decide +kernel
theorem eX10_readLink_5 : decode (mB MX10_readLink) 5 = .ok (.iaload, 1) := by decide +kernel
theorem eX10_readLink_6 : decode (mB MX10_readLink) 6 = .ok (.istore_n 1, 1) := by decide +kernel
theorem eX10_readLink_7 : decode (mB MX10_readLink) 7 = .ok (.iload_n 1, 1) := by decide +kernel
theorem eX10_readLink_8 : decode (mB MX10_readLink) 8 = .ok (.bipush 10, 2) := by decide +kernel
theorem eX10_readLink_10 : decode (mB MX10_readLink) 10 = .ok (.if_icmp .ne 8, 3) := by decide +kernel
theorem eX10_readLink_13 : decode (mB MX10_readLink) 13 = .ok (.aload_n 0, 1) := by decide +kernel
theorem eX10_readLink_14 : decode (mB MX10_readLink) 14 = .ok (.iconst 4, 1) := by decide +kernel
theorem eX10_readLink_15 : decode (mB MX10_readLink) 15 = .ok (.invokevirtual 145, 3) := by decide +kernel
theorem eX10_readLink_18 : decode (mB MX10_readLink) 18 = .ok (.aload_n 0, 1) := by decide +kernel
theorem eX10_readLink_19 : decode (mB MX10_readLink) 19 = .ok (.getfield 133, 3) := by decide +kernel
theorem eX10_readLink_22 : decode (mB MX10_readLink) 22 = .ok (.ifCond .eq 4, 3) := by decide +kernel
theorem eX10_readLink_25 : decode (mB MX10_readLink) 25 = .ok (.return_, 1) := by decide +kernel
theorem eX10_readLink_26 : decode (mB MX10_readLink) 26 = .ok (.aload_n 0, 1) := by decide +kernel
theorem eX10_readLink_27 : decode (mB MX10_readLink) 27 = .ok (.invokevirtual 142, 3) := by decide +kernel
theorem eX10_readLink_30 : decode (mB MX10_readLink) 30 = .ok (.aload_n 0, 1) := by decide +kernel
theorem eX10_readLink_31 : decode (mB MX10_readLink) 31 = .ok (.iconst 0, 1) := by decide +kernel
theorem eX10_readLink_32 : decode (mB MX10_readLink) 32 = .ok (.aload_n 0, 1) := by decide +kernel
theorem eX10_readLink_33 : decode (mB MX10_readLink) 33 = .ok (.getfield 24, 3) := by decide +kernel
theorem eX10_readLink_36 : decode (mB MX10_readLink) 36 = .ok (.iconst 1, 1) := by decide +kernel
theorem eX10_readLink_37 : decode (mB MX10_readLink) 37 = .ok (.iaload, 1) := by decide +kernel
theorem eX10_readLink_38 : decode (mB MX10_readLink) 38 = .ok (.iconst 1, 1) := by decide +kernel
theorem eX10_readLink_39 : decode (mB MX10_readLink) 39 = .ok (.isub, 1) := by decide +kernel
theorem eX10_readLink_40 : decode (mB MX10_readLink) 40 = .ok (.invokevirtual 189, 3) := by decide +kernel
theorem eX10_readLink_43 : decode (mB MX10_readLink) 43 = .ok (.istore_n 2, 1) := by decide +kernel
theorem eX10_readLink_44 : decode (mB MX10_readLink) 44 = .ok (.aload_n 0, 1) := by decide +kernel
theorem eX10_readLink_45 : decode (mB MX10_readLink) 45 = .ok (.bipush 23, 2) := by decide +kernel
theorem eX10_readLink_47 : decode (mB MX10_readLink) 47 = .ok (.invokevirtual 139, 3) := by decide +kernel
theorem eX10_readLink_50 : decode (mB MX10_readLink) 50 = .ok (.ifCond .eq 28, 3) := by decide +kernel
theorem eX10_readLink_53 : decode (mB MX10_readLink) 53 = .ok (.aload_n 0, 1) := by decide +kernel
theorem eX10_readLink_54 : decode (mB MX10_readLink) 54 = .ok (.getfield 128, 3) := by decide +kernel
theorem eX10_readLink_57 : decode (mB MX10_readLink) 57 = .ok (.iload_n 2, 1) := by decide +kernel
theorem eX10_readLink_58 : decode (mB MX10_readLink) 58 = .ok (.if_icmp .eq 15, 3) := by decide +kernel
theorem eX10_readLink_61 : decode (mB MX10_readLink) 61 = .ok (.aload_n 0, 1) := by decide +kernel
theorem eX10_readLink_62 : decode (mB MX10_readLink) 62 = .ok (.iload_n 2, 1) := by decide +kernel
theorem eX10_readLink_63 : decode (mB MX10_readLink) 63 = .ok (.aload_n 0, 1) := by decide +kernel
theorem eX10_readLink_64 : decode (mB MX10_readLink) 64 = .ok (.getfield 128, 3) := by decide +kernel
theorem eX10_readLink_67 : decode (mB MX10_readLink) 67 = .ok (.invokevirtual 193, 3) := by decide +kernel
theorem eX10_readLink_70 : decode (mB MX10_readLink) 70 = .ok (.ifCond .eq 8, 3) := by decide +kernel
theorem eX10_readLink_73 : decode (mB MX10_readLink) 73 = .ok (.aload_n 0, 1) := by decide +kernel
theorem eX10_readLink_74 : decode (mB MX10_readLink) 74 = .ok (.iconst 3, 1) := by decide +kernel
theorem eX10_readLink_75 : decode (mB MX10_readLink) 75 = .ok (.invokevirtual 145, 3) := by decide +kernel
theorem eX10_readLink_78 : decode (mB MX10_readLink) 78 = .ok (.aload_n 0, 1) := by decide +kernel
theorem eX10_readLink_79 : decode (mB MX10_readLink) 79 = .ok (.iconst 0, 1) := by decide +kernel
theorem eX10_readLink_80 : decode (mB MX10_readLink) 80 = .ok (.aload_n 0, 1) := by decide +kernel
theorem eX10_readLink_81 : decode (mB MX10_readLink) 81 = .ok (.getfield 24, 3) := by decide +kernel
theorem eX10_readLink_84 : decode (mB MX10_readLink) 84 = .ok (.iconst 1, 1) := by decide +kernel
theorem eX10_readLink_85 : decode (mB MX10_readLink) 85 = .ok (.iaload, 1) := by decide +kernel
theorem eX10_readLink_86 : decode (mB MX10_readLink) 86 = .ok (.iconst 1, 1) := by decide +kernel
theorem eX10_readLink_87 : decode (mB MX10_readLink) 87 = .ok (.isub, 1) := by decide +kernel
theorem eX10_readLink_88 : decode (mB MX10_readLink) 88 = .ok (.invokevirtual 189, 3) := by decide +kernel
theorem eX10_readLink_91 : decode (mB MX10_readLink) 91 = .ok (.istore_n 3, 1) := by decide +kernel
theorem eX10_readLink_92 : decode (mB MX10_readLink) 92 = .ok (.aload_n 0, 1) := by decide +kernel
theorem eX10_readLink_93 : decode (mB MX10_readLink) 93 = .ok (.iconst 4, 1) := by decide +kernel
theorem eX10_readLink_94 : decode (mB MX10_readLink) 94 = .ok (.iconst 1, 1) := by decide +kernel
theorem eX10_readLink_95 : decode (mB MX10_readLink) 95 = .ok (.bipush 9, 2) := by decide +kernel
theorem eX10_readLink_97 : decode (mB MX10_readLink) 97 = .ok (.invokevirtual 197, 3) := by decide +kernel
theorem eX10_readLink_100 : decode (mB MX10_readLink) 100 = .ok (.istore 4, 2) := by decide +kernel
theorem eX10_readLink_102 : decode (mB MX10_readLink) 102 = .ok (.aload_n 0, 1) := by decide +kernel
theorem eX10_readLink_103 : decode (mB MX10_readLink) 103 = .ok (.iconst 5, 1) := by decide +kernel
theorem eX10_readLink_104 : decode (mB MX10_readLink) 104 = .ok (.iconst 0, 1) := by decide +kernel
theorem eX10_readLink_105 : decode (mB MX10_readLink) 105 = .ok (.iconst 2, 1) := by decide +kernel
theorem eX10_readLink_106 : decode (mB MX10_readLink) 106 = .ok (.invokevirtual 197, 3) := by decide +kernel
theorem eX10_readLink_109 : decode (mB MX10_readLink) 109 = .ok (.istore 5, 2) := by decide +kernel
theorem eX10_readLink_111 : decode (mB MX10_readLink) 111 = .ok (.aload_n 0, 1) := by decide +kernel
theorem eX10_readLink_112 : decode (mB MX10_readLink) 112 = .ok (.getfield 133, 3) := by decide +kernel
theorem eX10_readLink_115 : decode (mB MX10_readLink) 115 = .ok (.ifCond .eq 4, 3) := by decide +kernel
theorem eX10_readLink_118 : decode (mB MX10_readLink) 118 = .ok (.return_, 1) := by decide +kernel
theorem eX10_readLink_119 : decode (mB MX10_readLink) 119 = .ok (.aload_n 0, 1) := by decide +kernel
theorem eX10_readLink_120 : decode (mB MX10_readLink) 120 = .ok (.getfield 24, 3) := by decide +kernel
theorem eX10_readLink_123 : decode (mB MX10_readLink) 123 = .ok (.bipush 9, 2) := by decide +kernel
theorem eX10_readLink_125 : decode (mB MX10_readLink) 125 = .ok (.iconst 2, 1) := by decide +kernel
theorem eX10_readLink_126 : decode (mB MX10_readLink) 126 = .ok (.iload_n 1, 1) := by decide +kernel
theorem eX10_readLink_127 : decode (mB MX10_readLink) 127 = .ok (.imul, 1) := by decide +kernel
theorem eX10_readLink_128 : decode (mB MX10_readLink) 128 = .ok (.iadd, 1) := by decide +kernel
theorem eX10_readLink_129 : decode (mB MX10_readLink) 129 = .ok (.iload_n 2, 1) := by decide +kernel
theorem eX10_readLink_130 : decode (mB MX10_readLink) 130 = .ok (.iastore, 1) := by decide +kernel
theorem eX10_readLink_131 : decode (mB MX10_readLink) 131 = .ok (.aload_n 0, 1) := by decide +kernel
theorem eX10_readLink_132 : decode (mB MX10_readLink) 132 = .ok (.getfield 24, 3) := by decide +kernel
theorem eX10_readLink_135 : decode (mB MX10_readLink) 135 = .ok (.bipush 9, 2) := by decide +kernel
theorem eX10_readLink_137 : decode (mB MX10_readLink) 137 = .ok (.iconst 2, 1) := by decide +kernel
theorem eX10_readLink_138 : decode (mB MX10_readLink) 138 = .ok (.iload_n 1, 1) := by decide +kernel
theorem eX10_readLink_139 : decode (mB MX10_readLink) 139 = .ok (.imul, 1) := by decide +kernel
theorem eX10_readLink_140 : decode (mB MX10_readLink) 140 = .ok (.iadd, 1) := by decide +kernel
theorem eX10_readLink_141 : decode (mB MX10_readLink) 141 = .ok (.iconst 1, 1) := by decide +kernel
theorem eX10_readLink_142 : decode (mB MX10_readLink) 142 = .ok (.iadd, 1) := by decide +kernel
theorem eX10_readLink_143 : decode (mB MX10_readLink) 143 = .ok (.iload_n 3, 1) := by decide +kernel
theorem eX10_readLink_144 : decode (mB MX10_readLink) 144 = .ok (.iastore, 1) := by decide +kernel
theorem eX10_readLink_145 : decode (mB MX10_readLink) 145 = .ok (.aload_n 0, 1) := by decide +kernel
theorem eX10_readLink_146 : decode (mB MX10_readLink) 146 = .ok (.getfield 24, 3) := by decide +kernel
theorem eX10_readLink_149 : decode (mB MX10_readLink) 149 = .ok (.bipush 29, 2) := by decide +kernel
theorem eX10_readLink_151 : decode (mB MX10_readLink) 151 = .ok (.iload_n 1, 1) := by decide +kernel
theorem eX10_readLink_152 : decode (mB MX10_readLink) 152 = .ok (.iadd, 1) := by decide +kernel
theorem eX10_readLink_153 : decode (mB MX10_readLink) 153 = .ok (.iload 4, 2) := by decide +kernel
theorem eX10_readLink_155 : decode (mB MX10_readLink) 155 = .ok (.iastore, 1) := by decide +kernel
theorem eX10_readLink_156 : decode (mB MX10_readLink) 156 = .ok (.aload_n 0, 1) := by decide +kernel
theorem eX10_readLink_157 : decode (mB MX10_readLink) 157 = .ok (.getfield 24, 3) := by decide +kernel
theorem eX10_readLink_160 : decode (mB MX10_readLink) 160 = .ok (.bipush 39, 2) := by decide +kernel
theorem eX10_readLink_162 : decode (mB MX10_readLink) 162 = .ok (.iload_n 1, 1) := by decide +kernel
theorem eX10_readLink_163 : decode (mB MX10_readLink) 163 = .ok (.iadd, 1) := by decide +kernel
theorem eX10_readLink_164 : decode (mB MX10_readLink) 164 = .ok (.iload 5, 2) := by decide +kernel
theorem eX10_readLink_166 : decode (mB MX10_readLink) 166 = .ok (.iastore, 1) := by decide +kernel
theorem eX10_readLink_167 : decode (mB MX10_readLink) 167 = .ok (.aload_n 0, 1) := by decide +kernel
theorem eX10_readLink_168 : decode (mB MX10_readLink) 168 = .ok (.getfield 24, 3) := by decide +kernel
theorem eX10_readLink_171 : decode (mB MX10_readLink) 171 = .ok (.iconst 2, 1) := by decide +kernel
theorem eX10_readLink_172 : decode (mB MX10_readLink) 172 = .ok (.dup2, 1) := by decide +kernel
theorem eX10_readLink_173 : decode (mB MX10_readLink) 173 = .ok (.iaload, 1) := by decide +kernel
theorem eX10_readLink_174 : decode (mB MX10_readLink) 174 = .ok (.iconst 1, 1) := by decide +kernel
theorem eX10_readLink_175 : decode (mB MX10_readLink) 175 = .ok (.iadd, 1) := by decide +kernel
theorem eX10_readLink_176 : decode (mB MX10_readLink) 176 = .ok (.iastore, 1) := by decide +kernel
theorem eX10_readLink_177 : decode (mB MX10_readLink) 177 = .ok (.return_, 1) := by decide +kernel
theorem eX10_readLaw_0 : decode (mB MX10_readLaw) 0 = .ok (.aload_n 0, 1) := by decide +kernel
theorem eX10_readLaw_1 : decode (mB MX10_readLaw) 1 = .ok (.invokevirtual 142, 3) := by decide +kernel
theorem eX10_readLaw_4 : decode (mB MX10_readLaw) 4 = .ok (.aload_n 0, 1) := by decide +kernel
theorem eX10_readLaw_5 : decode (mB MX10_readLaw) 5 = .ok (.bipush 31, 2) := by decide +kernel
theorem eX10_readLaw_7 : decode (mB MX10_readLaw) 7 = .ok (.invokevirtual 168, 3) := by decide +kernel
theorem eX10_readLaw_10 : decode (mB MX10_readLaw) 10 = .ok (.ifCond .ne 8, 3) := by decide +kernel
theorem eX10_readLaw_13 : decode (mB MX10_readLaw) 13 = .ok (.aload_n 0, 1) := by decide +kernel
theorem eX10_readLaw_14 : decode (mB MX10_readLaw) 14 = .ok (.iconst 2, 1) := by decide +kernel
theorem eX10_readLaw_15 : decode (mB MX10_readLaw) 15 = .ok (.invokevirtual 145, 3) := by decide +kernel
theorem eX10_readLaw_18 : decode (mB MX10_readLaw) 18 = .ok (.aload_n 0, 1) := by decide +kernel
theorem eX10_readLaw_19 : decode (mB MX10_readLaw) 19 = .ok (.getfield 24, 3) := by decide +kernel
theorem eX10_readLaw_22 : decode (mB MX10_readLaw) 22 = .ok (.sipush 1436, 3) := by decide +kernel
theorem eX10_readLaw_25 : decode (mB MX10_readLaw) 25 = .ok (.iaload, 1) := by decide +kernel
theorem eX10_readLaw_26 : decode (mB MX10_readLaw) 26 = .ok (.istore_n 2, 1) := by decide +kernel
theorem eX10_readLaw_27 : decode (mB MX10_readLaw) 27 = .ok (.aload_n 0, 1) := by decide +kernel
theorem eX10_readLaw_28 : decode (mB MX10_readLaw) 28 = .ok (.iload_n 1, 1) := by decide +kernel
theorem eX10_readLaw_29 : decode (mB MX10_readLaw) 29 = .ok (.putfield 153, 3) := by decide +kernel
theorem eX10_readLaw_32 : decode (mB MX10_readLaw) 32 = .ok (.iload_n 1, 1) := by decide +kernel
theorem eX10_readLaw_33 : decode (mB MX10_readLaw) 33 = .ok (.ifCond .ne 11, 3) := by decide +kernel
theorem eX10_readLaw_36 : decode (mB MX10_readLaw) 36 = .ok (.aload_n 0, 1) := by decide +kernel
theorem eX10_readLaw_37 : decode (mB MX10_readLaw) 37 = .ok (.iconst 0, 1) := by decide +kernel
theorem eX10_readLaw_38 : decode (mB MX10_readLaw) 38 = .ok (.invokevirtual 165, 3) := by decide +kernel
theorem eX10_readLaw_41 : decode (mB MX10_readLaw) 41 = .ok (.goto 8, 3) := by decide +kernel
theorem eX10_readLaw_44 : decode (mB MX10_readLaw) 44 = .ok (.aload_n 0, 1) := by decide +kernel
theorem eX10_readLaw_45 : decode (mB MX10_readLaw) 45 = .ok (.iconst 0, 1) := by decide +kernel
theorem eX10_readLaw_46 : decode (mB MX10_readLaw) 46 = .ok (.invokevirtual 174, 3) := by decide +kernel
theorem eX10_readLaw_49 : decode (mB MX10_readLaw) 49 = .ok (.aload_n 0, 1) := by decide +kernel
theorem eX10_readLaw_50 : decode (mB MX10_readLaw) 50 = .ok (.getfield 133, 3) := by decide +kernel
theorem eX10_readLaw_53 : decode (mB MX10_readLaw) 53 = .ok (.ifCond .eq 4, 3) := by decide +kernel
theorem eX10_readLaw_56 : decode (mB MX10_readLaw) 56 = .ok (.return_, 1) := by decide +kernel
theorem eX10_readLaw_57 : decode (mB MX10_readLaw) 57 = .ok (.aload_n 0, 1) := by decide +kernel
theorem eX10_readLaw_58 : decode (mB MX10_readLaw) 58 = .ok (.getfield 24, 3) := by decide +kernel
theorem eX10_readLaw_61 : decode (mB MX10_readLaw) 61 = .ok (.iconst 3, 1) := by decide +kernel
theorem eX10_readLaw_62 : decode (mB MX10_readLaw) 62 = .ok (.iload_n 1, 1) := by decide +kernel
theorem eX10_readLaw_63 : decode (mB MX10_readLaw) 63 = .ok (.iadd, 1) := by decide +kernel
theorem eX10_readLaw_64 : decode (mB MX10_readLaw) 64 = .ok (.iconst 1, 1) := by decide +kernel
theorem eX10_readLaw_65 : decode (mB MX10_readLaw) 65 = .ok (.iastore, 1) := by decide +kernel
theorem eX10_readLaw_66 : decode (mB MX10_readLaw) 66 = .ok (.aload_n 0, 1) := by decide +kernel
theorem eX10_readLaw_67 : decode (mB MX10_readLaw) 67 = .ok (.getfield 24, 3) := by decide +kernel
theorem eX10_readLaw_70 : decode (mB MX10_readLaw) 70 = .ok (.iconst 5, 1) := by decide +kernel
theorem eX10_readLaw_71 : decode (mB MX10_readLaw) 71 = .ok (.iload_n 1, 1) := by decide +kernel
theorem eX10_readLaw_72 : decode (mB MX10_readLaw) 72 = .ok (.iadd, 1) := by decide +kernel
theorem eX10_readLaw_73 : decode (mB MX10_readLaw) 73 = .ok (.iload_n 2, 1) := by decide +kernel
theorem eX10_readLaw_74 : decode (mB MX10_readLaw) 74 = .ok (.iastore, 1) := by decide +kernel
theorem eX10_readLaw_75 : decode (mB MX10_readLaw) 75 = .ok (.aload_n 0, 1) := by decide +kernel
theorem eX10_readLaw_76 : decode (mB MX10_readLaw) 76 = .ok (.getfield 24, 3) := by decide +kernel
theorem eX10_readLaw_79 : decode (mB MX10_readLaw) 79 = .ok (.bipush 7, 2) := by decide +kernel
theorem eX10_readLaw_81 : decode (mB MX10_readLaw) 81 = .ok (.iload_n 1, 1) := by decide +kernel
theorem eX10_readLaw_82 : decode (mB MX10_readLaw) 82 = .ok (.iadd, 1) := by decide +kernel
theorem eX10_readLaw_83 : decode (mB MX10_readLaw) 83 = .ok (.aload_n 0, 1) := by decide +kernel
theorem eX10_readLaw_84 : decode (mB MX10_readLaw) 84 = .ok (.getfield 24, 3) := by decide +kernel
theorem eX10_readLaw_87 : decode (mB MX10_readLaw) 87 = .ok (.sipush 1436, 3) := by decide +kernel
theorem eX10_readLaw_90 : decode (mB MX10_readLaw) 90 = .ok (.iaload, 1) := by decide +kernel
theorem eX10_readLaw_91 : decode (mB MX10_readLaw) 91 = .ok (.iload_n 2, 1) := by decide +kernel
theorem eX10_readLaw_92 : decode (mB MX10_readLaw) 92 = .ok (.isub, 1) := by decide +kernel
theorem eX10_readLaw_93 : decode (mB MX10_readLaw) 93 = .ok (.iastore, 1) := by decide +kernel
theorem eX10_readLaw_94 : decode (mB MX10_readLaw) 94 = .ok (.return_, 1) := by decide +kernel
theorem eX10_readLine_0 : decode (mB MX10_readLine) 0 = .ok (.aload_n 0, 1) := by decide +kernel
theorem eX10_readLine_1 : decode (mB MX10_readLine) 1 = .ok (.getfield 133, 3) := by decide +kernel
theorem eX10_readLine_4 : decode (mB MX10_readLine) 4 = .ok (.ifCond .eq 4, 3) := by decide +kernel
theorem eX10_readLine_7 : decode (mB MX10_readLine) 7 = .ok (.return_, 1) := by decide +kernel
theorem eX10_readLine_8 : decode (mB MX10_readLine) 8 = .ok (.aload_n 0, 1) := by decide +kernel
theorem eX10_readLine_9 : decode (mB MX10_readLine) 9 = .ok (.iconst 3, 1) := by decide +kernel
theorem eX10_readLine_10 : decode (mB MX10_readLine) 10 = .ok (.invokevirtual 139, 3) := by decide +kernel
theorem eX10_readLine_13 : decode (mB MX10_readLine) 13 = .ok (.ifCond .eq 10, 3) := by decide +kernel
theorem eX10_readLine_16 : decode (mB MX10_readLine) 16 = .ok (.aload_n 0, 1) := by decide +kernel
theorem eX10_readLine_17 : decode (mB MX10_readLine) 17 = .ok (.invokevirtual 201, 3) := by decide +kernel
theorem eX10_readLine_20 : decode (mB MX10_readLine) 20 = .ok (.goto 40, 3) := by decide +kernel
theorem eX10_readLine_23 : decode (mB MX10_readLine) 23 = .ok (.aload_n 0, 1) := by decide +kernel
theorem eX10_readLine_24 : decode (mB MX10_readLine) 24 = .ok (.bipush 6, 2) := by decide +kernel
theorem eX10_readLine_26 : decode (mB MX10_readLine) 26 = .ok (.invokevirtual 139, 3) := by decide +kernel
theorem eX10_readLine_29 : decode (mB MX10_readLine) 29 = .ok (.ifCond .ne 12, 3) := by decide +kernel
theorem eX10_readLine_32 : decode (mB MX10_readLine) 32 = .ok (.aload_n 0, 1) := by decide +kernel
theorem eX10_readLine_33 : decode (mB MX10_readLine) 33 = .ok (.bipush 7, 2) := by decide +kernel
theorem eX10_readLine_35 : decode (mB MX10_readLine) 35 = .ok (.invokevirtual 139, 3) := by decide +kernel
theorem eX10_readLine_38 : decode (mB MX10_readLine) 38 = .ok (.ifCond .eq 17, 3) := by decide +kernel
theorem eX10_readLine_41 : decode (mB MX10_readLine) 41 = .ok (.aload_n 0, 1) := by decide +kernel
theorem eX10_readLine_42 : decode (mB MX10_readLine) 42 = .ok (.aload_n 0, 1) := by decide +kernel
theorem eX10_readLine_43 : decode (mB MX10_readLine) 43 = .ok (.getfield 115, 3) := by decide +kernel
theorem eX10_readLine_46 : decode (mB MX10_readLine) 46 = .ok (.bipush 6, 2) := by decide +kernel
theorem eX10_readLine_48 : decode (mB MX10_readLine) 48 = .ok (.isub, 1) := by decide +kernel
theorem eX10_readLine_49 : decode (mB MX10_readLine) 49 = .ok (.invokevirtual 204, 3) := by decide +kernel
theorem eX10_readLine_52 : decode (mB MX10_readLine) 52 = .ok (.goto 8, 3) := by decide +kernel
theorem eX10_readLine_55 : decode (mB MX10_readLine) 55 = .ok (.aload_n 0, 1) := by decide +kernel
theorem eX10_readLine_56 : decode (mB MX10_readLine) 56 = .ok (.iconst 2, 1) := by decide +kernel
theorem eX10_readLine_57 : decode (mB MX10_readLine) 57 = .ok (.invokevirtual 145, 3) := by decide +kernel
theorem eX10_readLine_60 : decode (mB MX10_readLine) 60 = .ok (.return_, 1) := by decide +kernel
theorem eX10_closes_0 : decode (mB MX10_closes) 0 = .ok (.aload_n 0, 1) := by decide +kernel
theorem eX10_closes_1 : decode (mB MX10_closes) 1 = .ok (.bipush 30, 2) := by decide +kernel
theorem eX10_closes_3 : decode (mB MX10_closes) 3 = .ok (.invokevirtual 168, 3) := by decide +kernel
theorem eX10_closes_6 : decode (mB MX10_closes) 6 = .ok (.ifCond .ne 8, 3) := by decide +kernel
theorem eX10_closes_9 : decode (mB MX10_closes) 9 = .ok (.aload_n 0, 1) := by decide +kernel
theorem eX10_closes_10 : decode (mB MX10_closes) 10 = .ok (.iconst 2, 1) := by decide +kernel
theorem eX10_closes_11 : decode (mB MX10_closes) 11 = .ok (.invokevirtual 145, 3) := by decide +kernel
theorem eX10_closes_14 : decode (mB MX10_closes) 14 = .ok (.aload_n 0, 1) := by decide +kernel
theorem eX10_closes_15 : decode (mB MX10_closes) 15 = .ok (.getfield 24, 3) := by decide +kernel
theorem eX10_closes_18 : decode (mB MX10_closes) 18 = .ok (.iconst 0, 1) := by decide +kernel
theorem eX10_closes_19 : decode (mB MX10_closes) 19 = .ok (.dup2, 1) := by decide +kernel
theorem eX10_closes_20 : decode (mB MX10_closes) 20 = .ok (.iaload, 1) := by decide +kernel
theorem eX10_closes_21 : decode (mB MX10_closes) 21 = .ok (.iconst 1, 1) := by decide +kernel
theorem eX10_closes_22 : decode (mB MX10_closes) 22 = .ok (.iadd, 1) := by decide +kernel
theorem eX10_closes_23 : decode (mB MX10_closes) 23 = .ok (.iastore, 1) := by decide +kernel
theorem eX10_closes_24 : decode (mB MX10_closes) 24 = .ok (.return_, 1) := by decide +kernel
theorem eX10_net_0 : decode (mB MX10_net) 0 = .ok (.aload_n 0, 1) := by decide +kernel
theorem eX10_net_1 : decode (mB MX10_net) 1 = .ok (.iconst 0, 1) := by decide +kernel
theorem eX10_net_2 : decode (mB MX10_net) 2 = .ok (.putfield 1, 3) := by decide +kernel
theorem eX10_net_5 : decode (mB MX10_net) 5 = .ok (.iload_n 1, 1) := by decide +kernel
theorem eX10_net_6 : decode (mB MX10_net) 6 = .ok (.i2l, 1) := by decide +kernel
theorem eX10_net_7 : decode (mB MX10_net) 7 = .ok (.lconst 0, 1) := by decide +kernel
theorem eX10_net_8 : decode (mB MX10_net) 8 = .ok (.aload_n 0, 1) := by decide +kernel
theorem eX10_net_9 : decode (mB MX10_net) 9 = .ok (.getfield 87, 3) := by decide +kernel
theorem eX10_net_12 : decode (mB MX10_net) 12 = .ok (.i2l, 1) := by decide +kernel
theorem eX10_net_13 : decode (mB MX10_net) 13 = .ok (.invokestatic 149, 3) := by decide +kernel
theorem eX10_net_16 : decode (mB MX10_net) 16 = .ok (.ifCond .ne 6, 3) := by decide +kernel
theorem eX10_net_19 : decode (mB MX10_net) 19 = .ok (.bipush (-3), 2) := by decide +kernel
theorem eX10_net_21 : decode (mB MX10_net) 21 = .ok (.ireturn, 1) := by decide +kernel
theorem eX10_net_22 : decode (mB MX10_net) 22 = .ok (.aload_n 0, 1) := by decide +kernel
theorem eX10_net_23 : decode (mB MX10_net) 23 = .ok (.iload_n 1, 1) := by decide +kernel
theorem eX10_net_24 : decode (mB MX10_net) 24 = .ok (.putfield 90, 3) := by decide +kernel
theorem eX10_net_27 : decode (mB MX10_net) 27 = .ok (.aload_n 0, 1) := by decide +kernel
theorem eX10_net_28 : decode (mB MX10_net) 28 = .ok (.iconst 0, 1) := by decide +kernel
theorem eX10_net_29 : decode (mB MX10_net) 29 = .ok (.putfield 87, 3) := by decide +kernel
theorem eX10_net_32 : decode (mB MX10_net) 32 = .ok (.aload_n 0, 1) := by decide +kernel
theorem eX10_net_33 : decode (mB MX10_net) 33 = .ok (.iconst 0, 1) := by decide +kernel
theorem eX10_net_34 : decode (mB MX10_net) 34 = .ok (.putfield 108, 3) := by decide +kernel
theorem eX10_net_37 : decode (mB MX10_net) 37 = .ok (.aload_n 0, 1) := by decide +kernel
theorem eX10_net_38 : decode (mB MX10_net) 38 = .ok (.iconst 0, 1) := by decide +kernel
theorem eX10_net_39 : decode (mB MX10_net) 39 = .ok (.putfield 133, 3) := by decide +kernel
theorem eX10_net_42 : decode (mB MX10_net) 42 = .ok (.aload_n 0, 1) := by decide +kernel
theorem eX10_net_43 : decode (mB MX10_net) 43 = .ok (.getfield 24, 3) := by decide +kernel
theorem eX10_net_46 : decode (mB MX10_net) 46 = .ok (.invokestatic 80, 3) := by decide +kernel
theorem eX10_net_49 : decode (mB MX10_net) 49 = .ok (.aload_n 0, 1) := by decide +kernel
theorem eX10_net_50 : decode (mB MX10_net) 50 = .ok (.invokevirtual 142, 3) := by decide +kernel
theorem eX10_net_53 : decode (mB MX10_net) 53 = .ok (.aload_n 0, 1) := by decide +kernel
theorem eX10_net_54 : decode (mB MX10_net) 54 = .ok (.iconst 0, 1) := by decide +kernel
theorem eX10_net_55 : decode (mB MX10_net) 55 = .ok (.invokevirtual 168, 3) := by decide +kernel
theorem eX10_net_58 : decode (mB MX10_net) 58 = .ok (.ifCond .ne 8, 3) := by decide +kernel
theorem eX10_net_61 : decode (mB MX10_net) 61 = .ok (.aload_n 0, 1) := by decide +kernel
theorem eX10_net_62 : decode (mB MX10_net) 62 = .ok (.iconst 2, 1) := by decide +kernel
theorem eX10_net_63 : decode (mB MX10_net) 63 = .ok (.invokevirtual 145, 3) := by decide +kernel
theorem eX10_net_66 : decode (mB MX10_net) 66 = .ok (.aload_n 0, 1) := by decide +kernel
theorem eX10_net_67 : decode (mB MX10_net) 67 = .ok (.getfield 24, 3) := by decide +kernel
theorem eX10_net_70 : decode (mB MX10_net) 70 = .ok (.iconst 1, 1) := by decide +kernel
theorem eX10_net_71 : decode (mB MX10_net) 71 = .ok (.aload_n 0, 1) := by decide +kernel
theorem eX10_net_72 : decode (mB MX10_net) 72 = .ok (.iconst 1, 1) := by decide +kernel
theorem eX10_net_73 : decode (mB MX10_net) 73 = .ok (.iconst 1, 1) := by decide +kernel
theorem eX10_net_74 : decode (mB MX10_net) 74 = .ok (.bipush 8, 2) := by decide +kernel
theorem eX10_net_76 : decode (mB MX10_net) 76 = .ok (.invokevirtual 197, 3) := by decide +kernel
theorem eX10_net_79 : decode (mB MX10_net) 79 = .ok (.iastore, 1) := by decide +kernel
theorem eX10_net_80 : decode (mB MX10_net) 80 = .ok (.aload_n 0, 1) := by decide +kernel
theorem eX10_net_81 : decode (mB MX10_net) 81 = .ok (.getfield 24, 3) := by decide +kernel
theorem eX10_net_84 : decode (mB MX10_net) 84 = .ok (.bipush 114, 2) := by decide +kernel
theorem eX10_net_86 : decode (mB MX10_net) 86 = .ok (.aload_n 0, 1) := by decide +kernel
theorem eX10_net_87 : decode (mB MX10_net) 87 = .ok (.iconst 2, 1) := by decide +kernel
theorem eX10_net_88 : decode (mB MX10_net) 88 = .ok (.iconst 0, 1) := by decide +kernel
theorem eX10_net_89 : decode (mB MX10_net) 89 = .ok (.bipush 9, 2) := by decide +kernel
theorem eX10_net_91 : decode (mB MX10_net) 91 = .ok (.invokevirtual 197, 3) := by decide +kernel
theorem eX10_net_94 : decode (mB MX10_net) 94 = .ok (.iastore, 1) := by decide +kernel
theorem eX10_net_95 : decode (mB MX10_net) 95 = .ok (.aload_n 0, 1) := by decide +kernel
theorem eX10_net_96 : decode (mB MX10_net) 96 = .ok (.invokevirtual 207, 3) := by decide +kernel
theorem eX10_net_99 : decode (mB MX10_net) 99 = .ok (.aload_n 0, 1) := by decide +kernel
theorem eX10_net_100 : decode (mB MX10_net) 100 = .ok (.getfield 133, 3) := by decide +kernel
theorem eX10_net_103 : decode (mB MX10_net) 103 = .ok (.ifCond .ne 23, 3) := by decide +kernel
theorem eX10_net_106 : decode (mB MX10_net) 106 = .ok (.aload_n 0, 1) := by decide +kernel
theorem eX10_net_107 : decode (mB MX10_net) 107 = .ok (.getfield 115, 3) := by decide +kernel
theorem eX10_net_110 : decode (mB MX10_net) 110 = .ok (.bipush 24, 2) := by decide +kernel
theorem eX10_net_112 : decode (mB MX10_net) 112 = .ok (.if_icmp .eq 14, 3) := by decide +kernel
theorem eX10_net_115 : decode (mB MX10_net) 115 = .ok (.aload_n 0, 1) := by decide +kernel
theorem eX10_net_116 : decode (mB MX10_net) 116 = .ok (.invokevirtual 210, 3) := by decide +kernel
theorem eX10_net_119 : decode (mB MX10_net) 119 = .ok (.aload_n 0, 1) := by decide +kernel
theorem eX10_net_120 : decode (mB MX10_net) 120 = .ok (.invokevirtual 207, 3) := by decide +kernel
theorem eX10_net_123 : decode (mB MX10_net) 123 = .ok (.goto (-24), 3) := by decide +kernel
theorem eX10_net_126 : decode (mB MX10_net) 126 = .ok (.aload_n 0, 1) := by decide +kernel
theorem eX10_net_127 : decode (mB MX10_net) 127 = .ok (.aload_n 0, 1) := by decide +kernel
theorem eX10_net_128 : decode (mB MX10_net) 128 = .ok (.getfield 133, 3) := by decide +kernel
theorem eX10_net_131 : decode (mB MX10_net) 131 = .ok (.putfield 213, 3) := by decide +kernel
theorem eX10_net_134 : decode (mB MX10_net) 134 = .ok (.aload_n 0, 1) := by decide +kernel
theorem eX10_net_135 : decode (mB MX10_net) 135 = .ok (.aload_n 0, 1) := by decide +kernel
theorem eX10_net_136 : decode (mB MX10_net) 136 = .ok (.getfield 133, 3) := by decide +kernel
theorem eX10_net_139 : decode (mB MX10_net) 139 = .ok (.ifCond .ne 7, 3) := by decide +kernel
theorem eX10_net_142 : decode (mB MX10_net) 142 = .ok (.iconst (-1), 1) := by decide +kernel
theorem eX10_net_143 : decode (mB MX10_net) 143 = .ok (.goto 7, 3) := by decide +kernel
theorem eX10_net_146 : decode (mB MX10_net) 146 = .ok (.aload_n 0, 1) := by decide +kernel
theorem eX10_net_147 : decode (mB MX10_net) 147 = .ok (.getfield 136, 3) := by decide +kernel
theorem eX10_net_150 : decode (mB MX10_net) 150 = .ok (.putfield 27, 3) := by decide +kernel
theorem eX10_net_153 : decode (mB MX10_net) 153 = .ok (.aload_n 0, 1) := by decide +kernel
theorem eX10_net_154 : decode (mB MX10_net) 154 = .ok (.getfield 133, 3) := by decide +kernel
theorem eX10_net_157 : decode (mB MX10_net) 157 = .ok (.ifCond .eq 11, 3) := by decide +kernel
theorem eX10_net_160 : decode (mB MX10_net) 160 = .ok (.bipush (-30), 2) := by decide +kernel
theorem eX10_net_162 : decode (mB MX10_net) 162 = .ok (.aload_n 0, 1) := by decide +kernel
theorem eX10_net_163 : decode (mB MX10_net) 163 = .ok (.getfield 133, 3) := by decide +kernel
theorem eX10_net_166 : decode (mB MX10_net) 166 = .ok (.isub, 1) := by decide +kernel
theorem eX10_net_167 : decode (mB MX10_net) 167 = .ok (.ireturn, 1) := by decide +kernel
theorem eX10_net_168 : decode (mB MX10_net) 168 = .ok (.iconst 0, 1) := by decide +kernel
theorem eX10_net_169 : decode (mB MX10_net) 169 = .ok (.istore_n 2, 1) := by decide +kernel
theorem eX10_net_170 : decode (mB MX10_net) 170 = .ok (.iload_n 2, 1) := by decide +kernel
theorem eX10_net_171 : decode (mB MX10_net) 171 = .ok (.sipush 2337, 3) := by decide +kernel
theorem eX10_net_174 : decode (mB MX10_net) 174 = .ok (.if_icmp .ge 21, 3) := by decide +kernel
theorem eX10_net_177 : decode (mB MX10_net) 177 = .ok (.aload_n 0, 1) := by decide +kernel
theorem eX10_net_178 : decode (mB MX10_net) 178 = .ok (.getfield 13, 3) := by decide +kernel
theorem eX10_net_181 : decode (mB MX10_net) 181 = .ok (.iload_n 2, 1) := by decide +kernel
theorem eX10_net_182 : decode (mB MX10_net) 182 = .ok (.aload_n 0, 1) := by decide +kernel
theorem eX10_net_183 : decode (mB MX10_net) 183 = .ok (.getfield 24, 3) := by decide +kernel
theorem eX10_net_186 : decode (mB MX10_net) 186 = .ok (.iload_n 2, 1) := by decide +kernel
theorem eX10_net_187 : decode (mB MX10_net) 187 = .ok (.iaload, 1) := by decide +kernel
theorem eX10_net_188 : decode (mB MX10_net) 188 = .ok (.iastore, 1) := by decide +kernel
theorem eX10_net_189 : decode (mB MX10_net) 189 = .ok (.iinc 2 1, 3) := by decide +kernel
theorem eX10_net_192 : decode (mB MX10_net) 192 = .ok (.goto (-22), 3) := by decide +kernel
theorem eX10_net_195 : decode (mB MX10_net) 195 = .ok (.aload_n 0, 1) := by decide +kernel
theorem eX10_net_196 : decode (mB MX10_net) 196 = .ok (.invokevirtual 84, 3) := by decide +kernel
theorem eX10_net_199 : decode (mB MX10_net) 199 = .ok (.aload_n 0, 1) := by decide +kernel
theorem eX10_net_200 : decode (mB MX10_net) 200 = .ok (.getfield 13, 3) := by decide +kernel
theorem eX10_net_203 : decode (mB MX10_net) 203 = .ok (.iconst 0, 1) := by decide +kernel
theorem eX10_net_204 : decode (mB MX10_net) 204 = .ok (.iaload, 1) := by decide +kernel
theorem eX10_net_205 : decode (mB MX10_net) 205 = .ok (.ireturn, 1) := by decide +kernel
theorem eX10_fault_0 : decode (mB MX10_fault) 0 = .ok (.aload_n 0, 1) := by decide +kernel
theorem eX10_fault_1 : decode (mB MX10_fault) 1 = .ok (.iconst 0, 1) := by decide +kernel
theorem eX10_fault_2 : decode (mB MX10_fault) 2 = .ok (.putfield 1, 3) := by decide +kernel
theorem eX10_fault_5 : decode (mB MX10_fault) 5 = .ok (.iload_n 1, 1) := by decide +kernel
theorem eX10_fault_6 : decode (mB MX10_fault) 6 = .ok (.ifCond .ne 10, 3) := by decide +kernel
theorem eX10_fault_9 : decode (mB MX10_fault) 9 = .ok (.aload_n 0, 1) := by decide +kernel
theorem eX10_fault_10 : decode (mB MX10_fault) 10 = .ok (.getfield 213, 3) := by decide +kernel
theorem eX10_fault_13 : decode (mB MX10_fault) 13 = .ok (.goto 16, 3) := by decide +kernel
theorem eX10_fault_16 : decode (mB MX10_fault) 16 = .ok (.iload_n 1, 1) := by decide +kernel
theorem eX10_fault_17 : decode (mB MX10_fault) 17 = .ok (.iconst 1, 1) := by decide +kernel
theorem eX10_fault_18 : decode (mB MX10_fault) 18 = .ok (.if_icmp .ne 10, 3) := by decide +kernel
theorem eX10_fault_21 : decode (mB MX10_fault) 21 = .ok (.aload_n 0, 1) := by decide +kernel
theorem eX10_fault_22 : decode (mB MX10_fault) 22 = .ok (.getfield 27, 3) := by decide +kernel
theorem eX10_fault_25 : decode (mB MX10_fault) 25 = .ok (.goto 4, 3) := by decide +kernel
theorem eX10_fault_28 : decode (mB MX10_fault) 28 = .ok (.iconst (-1), 1) := by decide +kernel
theorem eX10_fault_29 : decode (mB MX10_fault) 29 = .ok (.ireturn, 1) := by decide +kernel
theorem eX10_isLink_0 : decode (mB MX10_isLink) 0 = .ok (.lload_n 1, 1) := by decide +kernel
theorem eX10_isLink_1 : decode (mB MX10_isLink) 1 = .ok (.lconst 0, 1) := by decide +kernel
theorem eX10_isLink_2 : decode (mB MX10_isLink) 2 = .ok (.aload_n 0, 1) := by decide +kernel
theorem eX10_isLink_3 : decode (mB MX10_isLink) 3 = .ok (.getfield 13, 3) := by decide +kernel
theorem eX10_isLink_6 : decode (mB MX10_isLink) 6 = .ok (.iconst 2, 1) := by decide +kernel
theorem eX10_isLink_7 : decode (mB MX10_isLink) 7 = .ok (.iaload, 1) := by decide +kernel
theorem eX10_isLink_8 : decode (mB MX10_isLink) 8 = .ok (.iconst 1, 1) := by decide +kernel
theorem eX10_isLink_9 : decode (mB MX10_isLink) 9 = .ok (.isub, 1) := by decide +kernel
theorem eX10_isLink_10 : decode (mB MX10_isLink) 10 = .ok (.i2l, 1) := by decide +kernel
theorem eX10_isLink_11 : decode (mB MX10_isLink) 11 = .ok (.invokestatic 149, 3) := by decide +kernel
theorem eX10_isLink_14 : decode (mB MX10_isLink) 14 = .ok (.ireturn, 1) := by decide +kernel
theorem eX10_isRing_0 : decode (mB MX10_isRing) 0 = .ok (.lload_n 1, 1) := by decide +kernel
theorem eX10_isRing_1 : decode (mB MX10_isRing) 1 = .ok (.lconst 0, 1) := by decide +kernel
theorem eX10_isRing_2 : decode (mB MX10_isRing) 2 = .ok (.aload_n 0, 1) := by decide +kernel
theorem eX10_isRing_3 : decode (mB MX10_isRing) 3 = .ok (.getfield 216, 3) := by decide +kernel
theorem eX10_isRing_6 : decode (mB MX10_isRing) 6 = .ok (.iconst 1, 1) := by decide +kernel
theorem eX10_isRing_7 : decode (mB MX10_isRing) 7 = .ok (.isub, 1) := by decide +kernel
theorem eX10_isRing_8 : decode (mB MX10_isRing) 8 = .ok (.i2l, 1) := by decide +kernel
theorem eX10_isRing_9 : decode (mB MX10_isRing) 9 = .ok (.invokestatic 149, 3) := by decide +kernel
theorem eX10_isRing_12 : decode (mB MX10_isRing) 12 = .ok (.ireturn, 1) := by decide +kernel
theorem eX10_endOf_0 : decode (mB MX10_endOf) 0 = .ok (.aload_n 0, 1) := by decide +kernel
theorem eX10_endOf_1 : decode (mB MX10_endOf) 1 = .ok (.getfield 13, 3) := by decide +kernel
theorem eX10_endOf_4 : decode (mB MX10_endOf) 4 = .ok (.bipush 9, 2) := by decide +kernel
theorem eX10_endOf_6 : decode (mB MX10_endOf) 6 = .ok (.iconst 2, 1) := by decide +kernel
theorem eX10_endOf_7 : decode (mB MX10_endOf) 7 = .ok (.iload_n 1, 1) := by decide +kernel
theorem eX10_endOf_8 : decode (mB MX10_endOf) 8 = .ok (.imul, 1) := by decide +kernel
theorem eX10_endOf_9 : decode (mB MX10_endOf) 9 = .ok (.iadd, 1) := by decide +kernel
theorem eX10_endOf_10 : decode (mB MX10_endOf) 10 = .ok (.iload_n 2, 1) := by decide +kernel
theorem eX10_endOf_11 : decode (mB MX10_endOf) 11 = .ok (.iadd, 1) := by decide +kernel
theorem eX10_endOf_12 : decode (mB MX10_endOf) 12 = .ok (.iaload, 1) := by decide +kernel
theorem eX10_endOf_13 : decode (mB MX10_endOf) 13 = .ok (.ireturn, 1) := by decide +kernel
theorem eX10_endsOf_0 : decode (mB MX10_endsOf) 0 = .ok (.iconst 1, 1) := by decide +kernel
theorem eX10_endsOf_1 : decode (mB MX10_endsOf) 1 = .ok (.aload_n 0, 1) := by decide +kernel
theorem eX10_endsOf_2 : decode (mB MX10_endsOf) 2 = .ok (.iload_n 1, 1) := by decide +kernel
theorem eX10_endsOf_3 : decode (mB MX10_endsOf) 3 = .ok (.iconst 0, 1) := by decide +kernel
theorem eX10_endsOf_4 : decode (mB MX10_endsOf) 4 = .ok (.invokevirtual 219, 3) := by decide +kernel
theorem eX10_endsOf_7 : decode (mB MX10_endsOf) 7 = .ok (.ishl, 1) := by decide +kernel
theorem eX10_endsOf_8 : decode (mB MX10_endsOf) 8 = .ok (.iconst 1, 1) := by decide +kernel
theorem eX10_endsOf_9 : decode (mB MX10_endsOf) 9 = .ok (.aload_n 0, 1) := by decide +kernel
