theorem eX4_cycleOf_30 : decode (mB MX4_cycleOf) 30 = .ok (.iload_n 3, 1) := by decide +kernel
theorem eX4_cycleOf_31 : decode (mB MX4_cycleOf) 31 = .ok (.iload_n 2, 1) := by decide +kernel
theorem eX4_cycleOf_32 : decode (mB MX4_cycleOf) 32 = .ok (.if_icmp .ne 6, 3) := by decide +kernel
theorem eX4_cycleOf_35 : decode (mB MX4_cycleOf) 35 = .ok (.iload 4, 2) := by decide +kernel
theorem eX4_cycleOf_37 : decode (mB MX4_cycleOf) 37 = .ok (.ireturn, 1) := by decide +kernel
theorem eX4_cycleOf_38 : decode (mB MX4_cycleOf) 38 = .ok (.iinc 3 1, 3) := by decide +kernel
theorem eX4_cycleOf_41 : decode (mB MX4_cycleOf) 41 = .ok (.iinc 4 1, 3) := by decide +kernel
theorem eX4_cycleOf_44 : decode (mB MX4_cycleOf) 44 = .ok (.goto (-39), 3) := by decide +kernel
theorem eX4_cycleOf_47 : decode (mB MX4_cycleOf) 47 = .ok (.iconst (-1), 1) := by decide +kernel
theorem eX4_cycleOf_48 : decode (mB MX4_cycleOf) 48 = .ok (.ireturn, 1) := by decide +kernel
theorem eX4_ringNumber_0 : decode (mB MX4_ringNumber) 0 = .ok (.aload_n 0, 1) := by decide +kernel
theorem eX4_ringNumber_1 : decode (mB MX4_ringNumber) 1 = .ok (.getfield 40, 3) := by decide +kernel
theorem eX4_ringNumber_4 : decode (mB MX4_ringNumber) 4 = .ok (.iload_n 1, 1) := by decide +kernel
theorem eX4_ringNumber_5 : decode (mB MX4_ringNumber) 5 = .ok (.laload, 1) := by decide +kernel
theorem eX4_ringNumber_6 : decode (mB MX4_ringNumber) 6 = .ok (.lconst 1, 1) := by decide +kernel
theorem eX4_ringNumber_7 : decode (mB MX4_ringNumber) 7 = .ok (.iload_n 2, 1) := by decide +kernel
theorem eX4_ringNumber_8 : decode (mB MX4_ringNumber) 8 = .ok (.lshl, 1) := by decide +kernel
theorem eX4_ringNumber_9 : decode (mB MX4_ringNumber) 9 = .ok (.lconst 1, 1) := by decide +kernel
theorem eX4_ringNumber_10 : decode (mB MX4_ringNumber) 10 = .ok (.lsub, 1) := by decide +kernel
theorem eX4_ringNumber_11 : decode (mB MX4_ringNumber) 11 = .ok (.land, 1) := by decide +kernel
theorem eX4_ringNumber_12 : decode (mB MX4_ringNumber) 12 = .ok (.invokestatic 113, 3) := by decide +kernel
theorem eX4_ringNumber_15 : decode (mB MX4_ringNumber) 15 = .ok (.ireturn, 1) := by decide +kernel
theorem eX4_useOf_0 : decode (mB MX4_useOf) 0 = .ok (.aload_n 0, 1) := by decide +kernel
theorem eX4_useOf_1 : decode (mB MX4_useOf) 1 = .ok (.getfield 47, 3) := by decide +kernel
theorem eX4_useOf_4 : decode (mB MX4_useOf) 4 = .ok (.iload_n 1, 1) := by decide +kernel
theorem eX4_useOf_5 : decode (mB MX4_useOf) 5 = .ok (.iaload, 1) := by decide +kernel
theorem eX4_useOf_6 : decode (mB MX4_useOf) 6 = .ok (.iload_n 2, 1) := by decide +kernel
theorem eX4_useOf_7 : decode (mB MX4_useOf) 7 = .ok (.ishr, 1) := by decide +kernel
theorem eX4_useOf_8 : decode (mB MX4_useOf) 8 = .ok (.iconst 1, 1) := by decide +kernel
theorem eX4_useOf_9 : decode (mB MX4_useOf) 9 = .ok (.iand, 1) := by decide +kernel
theorem eX4_useOf_10 : decode (mB MX4_useOf) 10 = .ok (.iconst 2, 1) := by decide +kernel
theorem eX4_useOf_11 : decode (mB MX4_useOf) 11 = .ok (.aload_n 0, 1) := by decide +kernel
theorem eX4_useOf_12 : decode (mB MX4_useOf) 12 = .ok (.getfield 53, 3) := by decide +kernel
theorem eX4_useOf_15 : decode (mB MX4_useOf) 15 = .ok (.iload_n 1, 1) := by decide +kernel
theorem eX4_useOf_16 : decode (mB MX4_useOf) 16 = .ok (.iaload, 1) := by decide +kernel
theorem eX4_useOf_17 : decode (mB MX4_useOf) 17 = .ok (.iload_n 2, 1) := by decide +kernel
theorem eX4_useOf_18 : decode (mB MX4_useOf) 18 = .ok (.ishr, 1) := by decide +kernel
theorem eX4_useOf_19 : decode (mB MX4_useOf) 19 = .ok (.iconst 1, 1) := by decide +kernel
theorem eX4_useOf_20 : decode (mB MX4_useOf) 20 = .ok (.iand, 1) := by decide +kernel
theorem eX4_useOf_21 : decode (mB MX4_useOf) 21 = .ok (.imul, 1) := by decide +kernel
theorem eX4_useOf_22 : decode (mB MX4_useOf) 22 = .ok (.iadd, 1) := by decide +kernel
theorem eX4_useOf_23 : decode (mB MX4_useOf) 23 = .ok (.ireturn, 1) := by decide +kernel
theorem eX4_allUses_0 : decode (mB MX4_allUses) 0 = .ok (.aload_n 0, 1) := by decide +kernel
theorem eX4_allUses_1 : decode (mB MX4_allUses) 1 = .ok (.getfield 47, 3) := by decide +kernel
theorem eX4_allUses_4 : decode (mB MX4_allUses) 4 = .ok (.iload_n 1, 1) := by decide +kernel
theorem eX4_allUses_5 : decode (mB MX4_allUses) 5 = .ok (.iaload, 1) := by decide +kernel
theorem eX4_allUses_6 : decode (mB MX4_allUses) 6 = .ok (.invokestatic 72, 3) := by decide +kernel
theorem eX4_allUses_9 : decode (mB MX4_allUses) 9 = .ok (.iconst 2, 1) := by decide +kernel
theorem eX4_allUses_10 : decode (mB MX4_allUses) 10 = .ok (.aload_n 0, 1) := by decide +kernel
theorem eX4_allUses_11 : decode (mB MX4_allUses) 11 = .ok (.getfield 53, 3) := by decide +kernel
theorem eX4_allUses_14 : decode (mB MX4_allUses) 14 = .ok (.iload_n 1, 1) := by decide +kernel
theorem eX4_allUses_15 : decode (mB MX4_allUses) 15 = .ok (.iaload, 1) := by decide +kernel
theorem eX4_allUses_16 : decode (mB MX4_allUses) 16 = .ok (.invokestatic 72, 3) := by decide +kernel
theorem eX4_allUses_19 : decode (mB MX4_allUses) 19 = .ok (.imul, 1) := by decide +kernel
theorem eX4_allUses_20 : decode (mB MX4_allUses) 20 = .ok (.iadd, 1) := by decide +kernel
theorem eX4_allUses_21 : decode (mB MX4_allUses) 21 = .ok (.ireturn, 1) := by decide +kernel
theorem eX4_pathOf_0 : decode (mB MX4_pathOf) 0 = .ok (.aload_n 0, 1) := by decide +kernel
theorem eX4_pathOf_1 : decode (mB MX4_pathOf) 1 = .ok (.getfield 56, 3) := by decide +kernel
theorem eX4_pathOf_4 : decode (mB MX4_pathOf) 4 = .ok (.iload_n 1, 1) := by decide +kernel
theorem eX4_pathOf_5 : decode (mB MX4_pathOf) 5 = .ok (.bipush 10, 2) := by decide +kernel
theorem eX4_pathOf_7 : decode (mB MX4_pathOf) 7 = .ok (.imul, 1) := by decide +kernel
theorem eX4_pathOf_8 : decode (mB MX4_pathOf) 8 = .ok (.iload_n 2, 1) := by decide +kernel
theorem eX4_pathOf_9 : decode (mB MX4_pathOf) 9 = .ok (.iadd, 1) := by decide +kernel
theorem eX4_pathOf_10 : decode (mB MX4_pathOf) 10 = .ok (.iconst 2, 1) := by decide +kernel
theorem eX4_pathOf_11 : decode (mB MX4_pathOf) 11 = .ok (.imul, 1) := by decide +kernel
theorem eX4_pathOf_12 : decode (mB MX4_pathOf) 12 = .ok (.iload_n 3, 1) := by decide +kernel
theorem eX4_pathOf_13 : decode (mB MX4_pathOf) 13 = .ok (.iadd, 1) := by decide +kernel
theorem eX4_pathOf_14 : decode (mB MX4_pathOf) 14 = .ok (.iaload, 1) := by decide +kernel
theorem eX4_pathOf_15 : decode (mB MX4_pathOf) 15 = .ok (.ireturn, 1) := by decide +kernel
theorem eX4_priceOf_0 : decode (mB MX4_priceOf) 0 = .ok (.iconst 0, 1) := by decide +kernel
theorem eX4_priceOf_1 : decode (mB MX4_priceOf) 1 = .ok (.istore_n 3, 1) := by decide +kernel
theorem eX4_priceOf_2 : decode (mB MX4_priceOf) 2 = .ok (.iconst 0, 1) := by decide +kernel
theorem eX4_priceOf_3 : decode (mB MX4_priceOf) 3 = .ok (.istore 4, 2) := by decide +kernel
theorem eX4_priceOf_5 : decode (mB MX4_priceOf) 5 = .ok (.iload 4, 2) := by decide +kernel
theorem eX4_priceOf_7 : decode (mB MX4_priceOf) 7 = .ok (.aload_n 0, 1) := by decide +kernel
theorem eX4_priceOf_8 : decode (mB MX4_priceOf) 8 = .ok (.getfield 21, 3) := by decide +kernel
theorem eX4_priceOf_11 : decode (mB MX4_priceOf) 11 = .ok (.if_icmp .ge 36, 3) := by decide +kernel
theorem eX4_priceOf_14 : decode (mB MX4_priceOf) 14 = .ok (.iload_n 3, 1) := by decide +kernel
theorem eX4_priceOf_15 : decode (mB MX4_priceOf) 15 = .ok (.aload_n 0, 1) := by decide +kernel
theorem eX4_priceOf_16 : decode (mB MX4_priceOf) 16 = .ok (.getfield 47, 3) := by decide +kernel
theorem eX4_priceOf_19 : decode (mB MX4_priceOf) 19 = .ok (.iload_n 1, 1) := by decide +kernel
theorem eX4_priceOf_20 : decode (mB MX4_priceOf) 20 = .ok (.iaload, 1) := by decide +kernel
theorem eX4_priceOf_21 : decode (mB MX4_priceOf) 21 = .ok (.iload 4, 2) := by decide +kernel
theorem eX4_priceOf_23 : decode (mB MX4_priceOf) 23 = .ok (.ishr, 1) := by decide +kernel
theorem eX4_priceOf_24 : decode (mB MX4_priceOf) 24 = .ok (.iconst 1, 1) := by decide +kernel
theorem eX4_priceOf_25 : decode (mB MX4_priceOf) 25 = .ok (.iand, 1) := by decide +kernel
theorem eX4_priceOf_26 : decode (mB MX4_priceOf) 26 = .ok (.aload_n 0, 1) := by decide +kernel
theorem eX4_priceOf_27 : decode (mB MX4_priceOf) 27 = .ok (.getfield 37, 3) := by decide +kernel
theorem eX4_priceOf_30 : decode (mB MX4_priceOf) 30 = .ok (.iload_n 2, 1) := by decide +kernel
theorem eX4_priceOf_31 : decode (mB MX4_priceOf) 31 = .ok (.bipush 10, 2) := by decide +kernel
theorem eX4_priceOf_33 : decode (mB MX4_priceOf) 33 = .ok (.imul, 1) := by decide +kernel
theorem eX4_priceOf_34 : decode (mB MX4_priceOf) 34 = .ok (.iload 4, 2) := by decide +kernel
theorem eX4_priceOf_36 : decode (mB MX4_priceOf) 36 = .ok (.iadd, 1) := by decide +kernel
theorem eX4_priceOf_37 : decode (mB MX4_priceOf) 37 = .ok (.iaload, 1) := by decide +kernel
theorem eX4_priceOf_38 : decode (mB MX4_priceOf) 38 = .ok (.imul, 1) := by decide +kernel
theorem eX4_priceOf_39 : decode (mB MX4_priceOf) 39 = .ok (.iadd, 1) := by decide +kernel
theorem eX4_priceOf_40 : decode (mB MX4_priceOf) 40 = .ok (.istore_n 3, 1) := by decide +kernel
theorem eX4_priceOf_41 : decode (mB MX4_priceOf) 41 = .ok (.iinc 4 1, 3) := by decide +kernel
theorem eX4_priceOf_44 : decode (mB MX4_priceOf) 44 = .ok (.goto (-39), 3) := by decide +kernel
theorem eX4_priceOf_47 : decode (mB MX4_priceOf) 47 = .ok (.iload_n 3, 1) := by decide +kernel
theorem eX4_priceOf_48 : decode (mB MX4_priceOf) 48 = .ok (.ireturn, 1) := by decide +kernel
theorem eX4_mostAlike_0 : decode (mB MX4_mostAlike) 0 = .ok (.iconst 0, 1) := by decide +kernel
theorem eX4_mostAlike_1 : decode (mB MX4_mostAlike) 1 = .ok (.istore_n 3, 1) := by decide +kernel
theorem eX4_mostAlike_2 : decode (mB MX4_mostAlike) 2 = .ok (.iconst 0, 1) := by decide +kernel
theorem eX4_mostAlike_3 : decode (mB MX4_mostAlike) 3 = .ok (.istore 4, 2) := by decide +kernel
theorem eX4_mostAlike_5 : decode (mB MX4_mostAlike) 5 = .ok (.iload_n 1, 1) := by decide +kernel
theorem eX4_mostAlike_6 : decode (mB MX4_mostAlike) 6 = .ok (.ifCond .lt 80, 3) := by decide +kernel
theorem eX4_mostAlike_9 : decode (mB MX4_mostAlike) 9 = .ok (.iload 4, 2) := by decide +kernel
theorem eX4_mostAlike_11 : decode (mB MX4_mostAlike) 11 = .ok (.bipush 10, 2) := by decide +kernel
theorem eX4_mostAlike_13 : decode (mB MX4_mostAlike) 13 = .ok (.if_icmp .ge 73, 3) := by decide +kernel
theorem eX4_mostAlike_16 : decode (mB MX4_mostAlike) 16 = .ok (.iconst 0, 1) := by decide +kernel
theorem eX4_mostAlike_17 : decode (mB MX4_mostAlike) 17 = .ok (.istore 5, 2) := by decide +kernel
theorem eX4_mostAlike_19 : decode (mB MX4_mostAlike) 19 = .ok (.iconst 0, 1) := by decide +kernel
theorem eX4_mostAlike_20 : decode (mB MX4_mostAlike) 20 = .ok (.istore 6, 2) := by decide +kernel
theorem eX4_mostAlike_22 : decode (mB MX4_mostAlike) 22 = .ok (.iload_n 2, 1) := by decide +kernel
theorem eX4_mostAlike_23 : decode (mB MX4_mostAlike) 23 = .ok (.iload 4, 2) := by decide +kernel
theorem eX4_mostAlike_25 : decode (mB MX4_mostAlike) 25 = .ok (.ishr, 1) := by decide +kernel
theorem eX4_mostAlike_26 : decode (mB MX4_mostAlike) 26 = .ok (.iconst 1, 1) := by decide +kernel
theorem eX4_mostAlike_27 : decode (mB MX4_mostAlike) 27 = .ok (.iand, 1) := by decide +kernel
theorem eX4_mostAlike_28 : decode (mB MX4_mostAlike) 28 = .ok (.ifCond .eq 45, 3) := by decide +kernel
theorem eX4_mostAlike_31 : decode (mB MX4_mostAlike) 31 = .ok (.iload 6, 2) := by decide +kernel
theorem eX4_mostAlike_33 : decode (mB MX4_mostAlike) 33 = .ok (.bipush 10, 2) := by decide +kernel
theorem eX4_mostAlike_35 : decode (mB MX4_mostAlike) 35 = .ok (.if_icmp .ge 38, 3) := by decide +kernel
theorem eX4_mostAlike_38 : decode (mB MX4_mostAlike) 38 = .ok (.iload_n 2, 1) := by decide +kernel
theorem eX4_mostAlike_39 : decode (mB MX4_mostAlike) 39 = .ok (.iload 6, 2) := by decide +kernel
theorem eX4_mostAlike_41 : decode (mB MX4_mostAlike) 41 = .ok (.ishr, 1) := by decide +kernel
theorem eX4_mostAlike_42 : decode (mB MX4_mostAlike) 42 = .ok (.iconst 1, 1) := by decide +kernel
theorem eX4_mostAlike_43 : decode (mB MX4_mostAlike) 43 = .ok (.iand, 1) := by decide +kernel
theorem eX4_mostAlike_44 : decode (mB MX4_mostAlike) 44 = .ok (.ifCond .eq 23, 3) := by decide +kernel
theorem eX4_mostAlike_47 : decode (mB MX4_mostAlike) 47 = .ok (.aload_n 0, 1) := by decide +kernel
theorem eX4_mostAlike_48 : decode (mB MX4_mostAlike) 48 = .ok (.iload_n 1, 1) := by decide +kernel
theorem eX4_mostAlike_49 : decode (mB MX4_mostAlike) 49 = .ok (.iload 4, 2) := by decide +kernel
theorem eX4_mostAlike_51 : decode (mB MX4_mostAlike) 51 = .ok (.invokevirtual 118, 3) := by decide +kernel
theorem eX4_mostAlike_54 : decode (mB MX4_mostAlike) 54 = .ok (.aload_n 0, 1) := by decide +kernel
theorem eX4_mostAlike_55 : decode (mB MX4_mostAlike) 55 = .ok (.iload_n 1, 1) := by decide +kernel
theorem eX4_mostAlike_56 : decode (mB MX4_mostAlike) 56 = .ok (.iload 6, 2) := by decide +kernel
theorem eX4_mostAlike_58 : decode (mB MX4_mostAlike) 58 = .ok (.invokevirtual 118, 3) := by decide +kernel
theorem eX4_mostAlike_61 : decode (mB MX4_mostAlike) 61 = .ok (.if_icmp .ne 6, 3) := by decide +kernel
theorem eX4_mostAlike_64 : decode (mB MX4_mostAlike) 64 = .ok (.iinc 5 1, 3) := by decide +kernel
theorem eX4_mostAlike_67 : decode (mB MX4_mostAlike) 67 = .ok (.iinc 6 1, 3) := by decide +kernel
theorem eX4_mostAlike_70 : decode (mB MX4_mostAlike) 70 = .ok (.goto (-48), 3) := by decide +kernel
theorem eX4_mostAlike_73 : decode (mB MX4_mostAlike) 73 = .ok (.iload_n 3, 1) := by decide +kernel
theorem eX4_mostAlike_74 : decode (mB MX4_mostAlike) 74 = .ok (.iload 5, 2) := by decide +kernel
theorem eX4_mostAlike_76 : decode (mB MX4_mostAlike) 76 = .ok (.invokestatic 110, 3) := by decide +kernel
theorem eX4_mostAlike_79 : decode (mB MX4_mostAlike) 79 = .ok (.istore_n 3, 1) := by decide +kernel
theorem eX4_mostAlike_80 : decode (mB MX4_mostAlike) 80 = .ok (.iinc 4 1, 3) := by decide +kernel
theorem eX4_mostAlike_83 : decode (mB MX4_mostAlike) 83 = .ok (.goto (-78), 3) := by decide +kernel
theorem eX4_mostAlike_86 : decode (mB MX4_mostAlike) 86 = .ok (.iload_n 3, 1) := by decide +kernel
theorem eX4_mostAlike_87 : decode (mB MX4_mostAlike) 87 = .ok (.ireturn, 1) := by decide +kernel
theorem eX4_usesLaid_0 : decode (mB MX4_usesLaid) 0 = .ok (.iconst 0, 1) := by decide +kernel
theorem eX4_usesLaid_1 : decode (mB MX4_usesLaid) 1 = .ok (.istore_n 3, 1) := by decide +kernel
theorem eX4_usesLaid_2 : decode (mB MX4_usesLaid) 2 = .ok (.iconst 0, 1) := by decide +kernel
theorem eX4_usesLaid_3 : decode (mB MX4_usesLaid) 3 = .ok (.istore 4, 2) := by decide +kernel
theorem eX4_usesLaid_5 : decode (mB MX4_usesLaid) 5 = .ok (.iload 4, 2) := by decide +kernel
theorem eX4_usesLaid_7 : decode (mB MX4_usesLaid) 7 = .ok (.aload_n 0, 1) := by decide +kernel
theorem eX4_usesLaid_8 : decode (mB MX4_usesLaid) 8 = .ok (.getfield 44, 3) := by decide +kernel
theorem eX4_usesLaid_11 : decode (mB MX4_usesLaid) 11 = .ok (.if_icmp .ge 27, 3) := by decide +kernel
theorem eX4_usesLaid_14 : decode (mB MX4_usesLaid) 14 = .ok (.iload_n 3, 1) := by decide +kernel
theorem eX4_usesLaid_15 : decode (mB MX4_usesLaid) 15 = .ok (.aload_n 1, 1) := by decide +kernel
theorem eX4_usesLaid_16 : decode (mB MX4_usesLaid) 16 = .ok (.getfield 121, 3) := by decide +kernel
theorem eX4_usesLaid_19 : decode (mB MX4_usesLaid) 19 = .ok (.iload 4, 2) := by decide +kernel
theorem eX4_usesLaid_21 : decode (mB MX4_usesLaid) 21 = .ok (.iaload, 1) := by decide +kernel
theorem eX4_usesLaid_22 : decode (mB MX4_usesLaid) 22 = .ok (.aload_n 0, 1) := by decide +kernel
theorem eX4_usesLaid_23 : decode (mB MX4_usesLaid) 23 = .ok (.iload 4, 2) := by decide +kernel
theorem eX4_usesLaid_25 : decode (mB MX4_usesLaid) 25 = .ok (.iload_n 2, 1) := by decide +kernel
theorem eX4_usesLaid_26 : decode (mB MX4_usesLaid) 26 = .ok (.invokevirtual 126, 3) := by decide +kernel
theorem eX4_usesLaid_29 : decode (mB MX4_usesLaid) 29 = .ok (.imul, 1) := by decide +kernel
theorem eX4_usesLaid_30 : decode (mB MX4_usesLaid) 30 = .ok (.iadd, 1) := by decide +kernel
theorem eX4_usesLaid_31 : decode (mB MX4_usesLaid) 31 = .ok (.istore_n 3, 1) := by decide +kernel
theorem eX4_usesLaid_32 : decode (mB MX4_usesLaid) 32 = .ok (.iinc 4 1, 3) := by decide +kernel
theorem eX4_usesLaid_35 : decode (mB MX4_usesLaid) 35 = .ok (.goto (-30), 3) := by decide +kernel
theorem eX4_usesLaid_38 : decode (mB MX4_usesLaid) 38 = .ok (.iload_n 3, 1) := by decide +kernel
theorem eX4_usesLaid_39 : decode (mB MX4_usesLaid) 39 = .ok (.ireturn, 1) := by decide +kernel
theorem eX4_lacking_0 : decode (mB MX4_lacking) 0 = .ok (.iconst 0, 1) := by decide +kernel
theorem eX4_lacking_1 : decode (mB MX4_lacking) 1 = .ok (.istore_n 3, 1) := by decide +kernel
theorem eX4_lacking_2 : decode (mB MX4_lacking) 2 = .ok (.iconst 0, 1) := by decide +kernel
theorem eX4_lacking_3 : decode (mB MX4_lacking) 3 = .ok (.istore 4, 2) := by decide +kernel
theorem eX4_lacking_5 : decode (mB MX4_lacking) 5 = .ok (.iload 4, 2) := by decide +kernel
theorem eX4_lacking_7 : decode (mB MX4_lacking) 7 = .ok (.aload_n 0, 1) := by decide +kernel
theorem eX4_lacking_8 : decode (mB MX4_lacking) 8 = .ok (.getfield 21, 3) := by decide +kernel
theorem eX4_lacking_11 : decode (mB MX4_lacking) 11 = .ok (.if_icmp .ge 39, 3) := by decide +kernel
theorem eX4_lacking_14 : decode (mB MX4_lacking) 14 = .ok (.iload_n 3, 1) := by decide +kernel
theorem eX4_lacking_15 : decode (mB MX4_lacking) 15 = .ok (.aload_n 0, 1) := by decide +kernel
theorem eX4_lacking_16 : decode (mB MX4_lacking) 16 = .ok (.getfield 34, 3) := by decide +kernel
theorem eX4_lacking_19 : decode (mB MX4_lacking) 19 = .ok (.iload 4, 2) := by decide +kernel
theorem eX4_lacking_21 : decode (mB MX4_lacking) 21 = .ok (.iaload, 1) := by decide +kernel
theorem eX4_lacking_22 : decode (mB MX4_lacking) 22 = .ok (.aload_n 0, 1) := by decide +kernel
theorem eX4_lacking_23 : decode (mB MX4_lacking) 23 = .ok (.aload_n 1, 1) := by decide +kernel
theorem eX4_lacking_24 : decode (mB MX4_lacking) 24 = .ok (.iload 4, 2) := by decide +kernel
theorem eX4_lacking_26 : decode (mB MX4_lacking) 26 = .ok (.invokevirtual 129, 3) := by decide +kernel
theorem eX4_lacking_29 : decode (mB MX4_lacking) 29 = .ok (.isub, 1) := by decide +kernel
theorem eX4_lacking_30 : decode (mB MX4_lacking) 30 = .ok (.iload_n 2, 1) := by decide +kernel
theorem eX4_lacking_31 : decode (mB MX4_lacking) 31 = .ok (.if_icmp .lt 10, 3) := by decide +kernel
theorem eX4_lacking_34 : decode (mB MX4_lacking) 34 = .ok (.iconst 1, 1) := by decide +kernel
theorem eX4_lacking_35 : decode (mB MX4_lacking) 35 = .ok (.iload 4, 2) := by decide +kernel
theorem eX4_lacking_37 : decode (mB MX4_lacking) 37 = .ok (.ishl, 1) := by decide +kernel
theorem eX4_lacking_38 : decode (mB MX4_lacking) 38 = .ok (.goto 4, 3) := by decide +kernel
theorem eX4_lacking_41 : decode (mB MX4_lacking) 41 = .ok (.iconst 0, 1) := by decide +kernel
theorem eX4_lacking_42 : decode (mB MX4_lacking) 42 = .ok (.ior, 1) := by decide +kernel
theorem eX4_lacking_43 : decode (mB MX4_lacking) 43 = .ok (.istore_n 3, 1) := by decide +kernel
theorem eX4_lacking_44 : decode (mB MX4_lacking) 44 = .ok (.iinc 4 1, 3) := by decide +kernel
theorem eX4_lacking_47 : decode (mB MX4_lacking) 47 = .ok (.goto (-42), 3) := by decide +kernel
theorem eX4_lacking_50 : decode (mB MX4_lacking) 50 = .ok (.iload_n 3, 1) := by decide +kernel
theorem eX4_lacking_51 : decode (mB MX4_lacking) 51 = .ok (.ireturn, 1) := by decide +kernel
theorem eX4_working_0 : decode (mB MX4_working) 0 = .ok (.iconst 0, 1) := by decide +kernel
theorem eX4_working_1 : decode (mB MX4_working) 1 = .ok (.istore_n 2, 1) := by decide +kernel
theorem eX4_working_2 : decode (mB MX4_working) 2 = .ok (.iconst 0, 1) := by decide +kernel
theorem eX4_working_3 : decode (mB MX4_working) 3 = .ok (.istore_n 3, 1) := by decide +kernel
theorem eX4_working_4 : decode (mB MX4_working) 4 = .ok (.iload_n 3, 1) := by decide +kernel
theorem eX4_working_5 : decode (mB MX4_working) 5 = .ok (.aload_n 0, 1) := by decide +kernel
theorem eX4_working_6 : decode (mB MX4_working) 6 = .ok (.getfield 21, 3) := by decide +kernel
theorem eX4_working_9 : decode (mB MX4_working) 9 = .ok (.if_icmp .ge 29, 3) := by decide +kernel
theorem eX4_working_12 : decode (mB MX4_working) 12 = .ok (.iload_n 2, 1) := by decide +kernel
theorem eX4_working_13 : decode (mB MX4_working) 13 = .ok (.aload_n 0, 1) := by decide +kernel
theorem eX4_working_14 : decode (mB MX4_working) 14 = .ok (.getfield 34, 3) := by decide +kernel
theorem eX4_working_17 : decode (mB MX4_working) 17 = .ok (.iload_n 3, 1) := by decide +kernel
theorem eX4_working_18 : decode (mB MX4_working) 18 = .ok (.iaload, 1) := by decide +kernel
theorem eX4_working_19 : decode (mB MX4_working) 19 = .ok (.iload_n 1, 1) := by decide +kernel
theorem eX4_working_20 : decode (mB MX4_working) 20 = .ok (.if_icmp .lt 9, 3) := by decide +kernel
theorem eX4_working_23 : decode (mB MX4_working) 23 = .ok (.iconst 1, 1) := by decide +kernel
theorem eX4_working_24 : decode (mB MX4_working) 24 = .ok (.iload_n 3, 1) := by decide +kernel
theorem eX4_working_25 : decode (mB MX4_working) 25 = .ok (.ishl, 1) := by decide +kernel
theorem eX4_working_26 : decode (mB MX4_working) 26 = .ok (.goto 4, 3) := by decide +kernel
theorem eX4_working_29 : decode (mB MX4_working) 29 = .ok (.iconst 0, 1) := by decide +kernel
theorem eX4_working_30 : decode (mB MX4_working) 30 = .ok (.ior, 1) := by decide +kernel
theorem eX4_working_31 : decode (mB MX4_working) 31 = .ok (.istore_n 2, 1) := by decide +kernel
theorem eX4_working_32 : decode (mB MX4_working) 32 = .ok (.iinc 3 1, 3) := by decide +kernel
theorem eX4_working_35 : decode (mB MX4_working) 35 = .ok (.goto (-31), 3) := by decide +kernel
theorem eX4_working_38 : decode (mB MX4_working) 38 = .ok (.iload_n 2, 1) := by decide +kernel
theorem eX4_working_39 : decode (mB MX4_working) 39 = .ok (.ireturn, 1) := by decide +kernel
theorem eX4_allWork_0 : decode (mB MX4_allWork) 0 = .ok (.aload_n 0, 1) := by decide +kernel
theorem eX4_allWork_1 : decode (mB MX4_allWork) 1 = .ok (.aload_n 0, 1) := by decide +kernel
theorem eX4_allWork_2 : decode (mB MX4_allWork) 2 = .ok (.getfield 34, 3) := by decide +kernel
theorem eX4_allWork_5 : decode (mB MX4_allWork) 5 = .ok (.iconst (-1), 1) := by decide +kernel
theorem eX4_allWork_6 : decode (mB MX4_allWork) 6 = .ok (.invokevirtual 77, 3) := by decide +kernel
theorem eX4_allWork_9 : decode (mB MX4_allWork) 9 = .ok (.ireturn, 1) := by decide +kernel
theorem eX4_comeTo_0 : decode (mB MX4_comeTo) 0 = .ok (.iconst 1, 1) := by decide +kernel
theorem eX4_comeTo_1 : decode (mB MX4_comeTo) 1 = .ok (.iload_n 1, 1) := by decide +kernel
theorem eX4_comeTo_2 : decode (mB MX4_comeTo) 2 = .ok (.ishl, 1) := by decide +kernel
theorem eX4_comeTo_3 : decode (mB MX4_comeTo) 3 = .ok (.istore_n 3, 1) := by decide +kernel
theorem eX4_comeTo_4 : decode (mB MX4_comeTo) 4 = .ok (.iconst 0, 1) := by decide +kernel
theorem eX4_comeTo_5 : decode (mB MX4_comeTo) 5 = .ok (.istore 4, 2) := by decide +kernel
theorem eX4_comeTo_7 : decode (mB MX4_comeTo) 7 = .ok (.iload 4, 2) := by decide +kernel
theorem eX4_comeTo_9 : decode (mB MX4_comeTo) 9 = .ok (.aload_n 0, 1) := by decide +kernel
theorem eX4_comeTo_10 : decode (mB MX4_comeTo) 10 = .ok (.getfield 9, 3) := by decide +kernel
theorem eX4_comeTo_13 : decode (mB MX4_comeTo) 13 = .ok (.if_icmp .ge 69, 3) := by decide +kernel
theorem eX4_comeTo_16 : decode (mB MX4_comeTo) 16 = .ok (.iconst 0, 1) := by decide +kernel
theorem eX4_comeTo_17 : decode (mB MX4_comeTo) 17 = .ok (.istore 5, 2) := by decide +kernel
theorem eX4_comeTo_19 : decode (mB MX4_comeTo) 19 = .ok (.iload 5, 2) := by decide +kernel
theorem eX4_comeTo_21 : decode (mB MX4_comeTo) 21 = .ok (.aload_n 0, 1) := by decide +kernel
theorem eX4_comeTo_22 : decode (mB MX4_comeTo) 22 = .ok (.getfield 21, 3) := by decide +kernel
theorem eX4_comeTo_25 : decode (mB MX4_comeTo) 25 = .ok (.if_icmp .ge 51, 3) := by decide +kernel
theorem eX4_comeTo_28 : decode (mB MX4_comeTo) 28 = .ok (.iconst 1, 1) := by decide +kernel
theorem eX4_comeTo_29 : decode (mB MX4_comeTo) 29 = .ok (.aload_n 0, 1) := by decide +kernel
theorem eX4_comeTo_30 : decode (mB MX4_comeTo) 30 = .ok (.getfield 24, 3) := by decide +kernel
theorem eX4_comeTo_33 : decode (mB MX4_comeTo) 33 = .ok (.iload 5, 2) := by decide +kernel
theorem eX4_comeTo_35 : decode (mB MX4_comeTo) 35 = .ok (.iaload, 1) := by decide +kernel
theorem eX4_comeTo_36 : decode (mB MX4_comeTo) 36 = .ok (.ishl, 1) := by decide +kernel
theorem eX4_comeTo_37 : decode (mB MX4_comeTo) 37 = .ok (.iconst 1, 1) := by decide +kernel
theorem eX4_comeTo_38 : decode (mB MX4_comeTo) 38 = .ok (.aload_n 0, 1) := by decide +kernel
theorem eX4_comeTo_39 : decode (mB MX4_comeTo) 39 = .ok (.getfield 28, 3) := by decide +kernel
theorem eX4_comeTo_42 : decode (mB MX4_comeTo) 42 = .ok (.iload 5, 2) := by decide +kernel
theorem eX4_comeTo_44 : decode (mB MX4_comeTo) 44 = .ok (.iaload, 1) := by decide +kernel
theorem eX4_comeTo_45 : decode (mB MX4_comeTo) 45 = .ok (.ishl, 1) := by decide +kernel
theorem eX4_comeTo_46 : decode (mB MX4_comeTo) 46 = .ok (.ior, 1) := by decide +kernel
theorem eX4_comeTo_47 : decode (mB MX4_comeTo) 47 = .ok (.istore 6, 2) := by decide +kernel
theorem eX4_comeTo_49 : decode (mB MX4_comeTo) 49 = .ok (.iload_n 2, 1) := by decide +kernel
theorem eX4_comeTo_50 : decode (mB MX4_comeTo) 50 = .ok (.iload 5, 2) := by decide +kernel
theorem eX4_comeTo_52 : decode (mB MX4_comeTo) 52 = .ok (.ishr, 1) := by decide +kernel
theorem eX4_comeTo_53 : decode (mB MX4_comeTo) 53 = .ok (.iconst 1, 1) := by decide +kernel
theorem eX4_comeTo_54 : decode (mB MX4_comeTo) 54 = .ok (.iand, 1) := by decide +kernel
theorem eX4_comeTo_55 : decode (mB MX4_comeTo) 55 = .ok (.ifCond .ne 15, 3) := by decide +kernel
theorem eX4_comeTo_58 : decode (mB MX4_comeTo) 58 = .ok (.iload_n 3, 1) := by decide +kernel
theorem eX4_comeTo_59 : decode (mB MX4_comeTo) 59 = .ok (.iload 6, 2) := by decide +kernel
theorem eX4_comeTo_61 : decode (mB MX4_comeTo) 61 = .ok (.iand, 1) := by decide +kernel
theorem eX4_comeTo_62 : decode (mB MX4_comeTo) 62 = .ok (.ifCond .eq 8, 3) := by decide +kernel
theorem eX4_comeTo_65 : decode (mB MX4_comeTo) 65 = .ok (.iload_n 3, 1) := by decide +kernel
theorem eX4_comeTo_66 : decode (mB MX4_comeTo) 66 = .ok (.iload 6, 2) := by decide +kernel
theorem eX4_comeTo_68 : decode (mB MX4_comeTo) 68 = .ok (.ior, 1) := by decide +kernel
theorem eX4_comeTo_69 : decode (mB MX4_comeTo) 69 = .ok (.istore_n 3, 1) := by decide +kernel
theorem eX4_comeTo_70 : decode (mB MX4_comeTo) 70 = .ok (.iinc 5 1, 3) := by decide +kernel
theorem eX4_comeTo_73 : decode (mB MX4_comeTo) 73 = .ok (.goto (-54), 3) := by decide +kernel
theorem eX4_comeTo_76 : decode (mB MX4_comeTo) 76 = .ok (.iinc 4 1, 3) := by decide +kernel
theorem eX4_comeTo_79 : decode (mB MX4_comeTo) 79 = .ok (.goto (-72), 3) := by decide +kernel
theorem eX4_comeTo_82 : decode (mB MX4_comeTo) 82 = .ok (.iload_n 3, 1) := by decide +kernel
theorem eX4_comeTo_83 : decode (mB MX4_comeTo) 83 = .ok (.ireturn, 1) := by decide +kernel
theorem eX4_leastCut_0 : decode (mB MX4_leastCut) 0 = .ok (.iconst 1, 1) := by decide +kernel
theorem eX4_leastCut_1 : decode (mB MX4_leastCut) 1 = .ok (.aload_n 0, 1) := by decide +kernel
theorem eX4_leastCut_2 : decode (mB MX4_leastCut) 2 = .ok (.getfield 21, 3) := by decide +kernel
theorem eX4_leastCut_5 : decode (mB MX4_leastCut) 5 = .ok (.ishl, 1) := by decide +kernel
theorem eX4_leastCut_6 : decode (mB MX4_leastCut) 6 = .ok (.iconst 1, 1) := by decide +kernel
theorem eX4_leastCut_7 : decode (mB MX4_leastCut) 7 = .ok (.isub, 1) := by decide +kernel
theorem eX4_leastCut_8 : decode (mB MX4_leastCut) 8 = .ok (.istore_n 3, 1) := by decide +kernel
theorem eX4_leastCut_9 : decode (mB MX4_leastCut) 9 = .ok (.iconst 0, 1) := by decide +kernel
theorem eX4_leastCut_10 : decode (mB MX4_leastCut) 10 = .ok (.istore 4, 2) := by decide +kernel
theorem eX4_leastCut_12 : decode (mB MX4_leastCut) 12 = .ok (.iload 4, 2) := by decide +kernel
theorem eX4_leastCut_14 : decode (mB MX4_leastCut) 14 = .ok (.iconst 1, 1) := by decide +kernel
theorem eX4_leastCut_15 : decode (mB MX4_leastCut) 15 = .ok (.aload_n 0, 1) := by decide +kernel
theorem eX4_leastCut_16 : decode (mB MX4_leastCut) 16 = .ok (.getfield 9, 3) := by decide +kernel
theorem eX4_leastCut_19 : decode (mB MX4_leastCut) 19 = .ok (.ishl, 1) := by decide +kernel
theorem eX4_leastCut_20 : decode (mB MX4_leastCut) 20 = .ok (.if_icmp .ge 66, 3) := by decide +kernel
theorem eX4_leastCut_23 : decode (mB MX4_leastCut) 23 = .ok (.iload 4, 2) := by decide +kernel
theorem eX4_leastCut_25 : decode (mB MX4_leastCut) 25 = .ok (.iload_n 1, 1) := by decide +kernel
theorem eX4_leastCut_26 : decode (mB MX4_leastCut) 26 = .ok (.ishr, 1) := by decide +kernel
theorem eX4_leastCut_27 : decode (mB MX4_leastCut) 27 = .ok (.iconst 1, 1) := by decide +kernel
theorem eX4_leastCut_28 : decode (mB MX4_leastCut) 28 = .ok (.iand, 1) := by decide +kernel
theorem eX4_leastCut_29 : decode (mB MX4_leastCut) 29 = .ok (.ifCond .eq 51, 3) := by decide +kernel
theorem eX4_leastCut_32 : decode (mB MX4_leastCut) 32 = .ok (.iload 4, 2) := by decide +kernel
theorem eX4_leastCut_34 : decode (mB MX4_leastCut) 34 = .ok (.iload_n 2, 1) := by decide +kernel
theorem eX4_leastCut_35 : decode (mB MX4_leastCut) 35 = .ok (.ishr, 1) := by decide +kernel
theorem eX4_leastCut_36 : decode (mB MX4_leastCut) 36 = .ok (.iconst 1, 1) := by decide +kernel
theorem eX4_leastCut_37 : decode (mB MX4_leastCut) 37 = .ok (.iand, 1) := by decide +kernel
theorem eX4_leastCut_38 : decode (mB MX4_leastCut) 38 = .ok (.ifCond .ne 42, 3) := by decide +kernel
theorem eX4_leastCut_41 : decode (mB MX4_leastCut) 41 = .ok (.aload_n 0, 1) := by decide +kernel
theorem eX4_leastCut_42 : decode (mB MX4_leastCut) 42 = .ok (.iload 4, 2) := by decide +kernel
theorem eX4_leastCut_44 : decode (mB MX4_leastCut) 44 = .ok (.invokevirtual 133, 3) := by decide +kernel
theorem eX4_leastCut_47 : decode (mB MX4_leastCut) 47 = .ok (.istore 5, 2) := by decide +kernel
theorem eX4_leastCut_49 : decode (mB MX4_leastCut) 49 = .ok (.iload 5, 2) := by decide +kernel
theorem eX4_leastCut_51 : decode (mB MX4_leastCut) 51 = .ok (.invokestatic 72, 3) := by decide +kernel
theorem eX4_leastCut_54 : decode (mB MX4_leastCut) 54 = .ok (.iload_n 3, 1) := by decide +kernel
theorem eX4_leastCut_55 : decode (mB MX4_leastCut) 55 = .ok (.invokestatic 72, 3) := by decide +kernel
theorem eX4_leastCut_58 : decode (mB MX4_leastCut) 58 = .ok (.isub, 1) := by decide +kernel
theorem eX4_leastCut_59 : decode (mB MX4_leastCut) 59 = .ok (.istore 6, 2) := by decide +kernel
theorem eX4_leastCut_61 : decode (mB MX4_leastCut) 61 = .ok (.iload 6, 2) := by decide +kernel
theorem eX4_leastCut_63 : decode (mB MX4_leastCut) 63 = .ok (.ifCond .lt 14, 3) := by decide +kernel
theorem eX4_leastCut_66 : decode (mB MX4_leastCut) 66 = .ok (.iload 6, 2) := by decide +kernel
theorem eX4_leastCut_68 : decode (mB MX4_leastCut) 68 = .ok (.ifCond .ne 12, 3) := by decide +kernel
theorem eX4_leastCut_71 : decode (mB MX4_leastCut) 71 = .ok (.iload 5, 2) := by decide +kernel
theorem eX4_leastCut_73 : decode (mB MX4_leastCut) 73 = .ok (.iload_n 3, 1) := by decide +kernel
theorem eX4_leastCut_74 : decode (mB MX4_leastCut) 74 = .ok (.if_icmp .ge 6, 3) := by decide +kernel
theorem eX4_leastCut_77 : decode (mB MX4_leastCut) 77 = .ok (.iload 5, 2) := by decide +kernel
theorem eX4_leastCut_79 : decode (mB MX4_leastCut) 79 = .ok (.istore_n 3, 1) := by decide +kernel
theorem eX4_leastCut_80 : decode (mB MX4_leastCut) 80 = .ok (.iinc 4 1, 3) := by decide +kernel
theorem eX4_leastCut_83 : decode (mB MX4_leastCut) 83 = .ok (.goto (-71), 3) := by decide +kernel
theorem eX4_leastCut_86 : decode (mB MX4_leastCut) 86 = .ok (.iload_n 3, 1) := by decide +kernel
theorem eX4_leastCut_87 : decode (mB MX4_leastCut) 87 = .ok (.ireturn, 1) := by decide +kernel
theorem eX4_linksLeaving_0 : decode (mB MX4_linksLeaving) 0 = .ok (.iconst 0, 1) := by decide +kernel
theorem eX4_linksLeaving_1 : decode (mB MX4_linksLeaving) 1 = .ok (.istore_n 2, 1) := by decide +kernel
theorem eX4_linksLeaving_2 : decode (mB MX4_linksLeaving) 2 = .ok (.iconst 0, 1) := by decide +kernel
theorem eX4_linksLeaving_3 : decode (mB MX4_linksLeaving) 3 = .ok (.istore_n 3, 1) := by decide +kernel
theorem eX4_linksLeaving_4 : decode (mB MX4_linksLeaving) 4 = .ok (.iload_n 3, 1) := by decide +kernel
theorem eX4_linksLeaving_5 : decode (mB MX4_linksLeaving) 5 = .ok (.aload_n 0, 1) := by decide +kernel
theorem eX4_linksLeaving_6 : decode (mB MX4_linksLeaving) 6 = .ok (.getfield 21, 3) := by decide +kernel
theorem eX4_linksLeaving_9 : decode (mB MX4_linksLeaving) 9 = .ok (.if_icmp .ge 33, 3) := by decide +kernel
theorem eX4_linksLeaving_12 : decode (mB MX4_linksLeaving) 12 = .ok (.iload_n 2, 1) := by decide +kernel
theorem eX4_linksLeaving_13 : decode (mB MX4_linksLeaving) 13 = .ok (.iload_n 1, 1) := by decide +kernel
theorem eX4_linksLeaving_14 : decode (mB MX4_linksLeaving) 14 = .ok (.aload_n 0, 1) := by decide +kernel
theorem eX4_linksLeaving_15 : decode (mB MX4_linksLeaving) 15 = .ok (.getfield 24, 3) := by decide +kernel
theorem eX4_linksLeaving_18 : decode (mB MX4_linksLeaving) 18 = .ok (.iload_n 3, 1) := by decide +kernel
theorem eX4_linksLeaving_19 : decode (mB MX4_linksLeaving) 19 = .ok (.iaload, 1) := by decide +kernel
theorem eX4_linksLeaving_20 : decode (mB MX4_linksLeaving) 20 = .ok (.ishr, 1) := by decide +kernel
theorem eX4_linksLeaving_21 : decode (mB MX4_linksLeaving) 21 = .ok (.iload_n 1, 1) := by decide +kernel
theorem eX4_linksLeaving_22 : decode (mB MX4_linksLeaving) 22 = .ok (.aload_n 0, 1) := by decide +kernel
theorem eX4_linksLeaving_23 : decode (mB MX4_linksLeaving) 23 = .ok (.getfield 28, 3) := by decide +kernel
theorem eX4_linksLeaving_26 : decode (mB MX4_linksLeaving) 26 = .ok (.iload_n 3, 1) := by decide +kernel
theorem eX4_linksLeaving_27 : decode (mB MX4_linksLeaving) 27 = .ok (.iaload, 1) := by decide +kernel
theorem eX4_linksLeaving_28 : decode (mB MX4_linksLeaving) 28 = .ok (.ishr, 1) := by decide +kernel
theorem eX4_linksLeaving_29 : decode (mB MX4_linksLeaving) 29 = .ok (.ixor, 1) := by decide +kernel
theorem eX4_linksLeaving_30 : decode (mB MX4_linksLeaving) 30 = .ok (.iconst 1, 1) := by decide +kernel
theorem eX4_linksLeaving_31 : decode (mB MX4_linksLeaving) 31 = .ok (.iand, 1) := by decide +kernel
theorem eX4_linksLeaving_32 : decode (mB MX4_linksLeaving) 32 = .ok (.iload_n 3, 1) := by decide +kernel
theorem eX4_linksLeaving_33 : decode (mB MX4_linksLeaving) 33 = .ok (.ishl, 1) := by decide +kernel
theorem eX4_linksLeaving_34 : decode (mB MX4_linksLeaving) 34 = .ok (.ior, 1) := by decide +kernel
theorem eX4_linksLeaving_35 : decode (mB MX4_linksLeaving) 35 = .ok (.istore_n 2, 1) := by decide +kernel
theorem eX4_linksLeaving_36 : decode (mB MX4_linksLeaving) 36 = .ok (.iinc 3 1, 3) := by decide +kernel
theorem eX4_linksLeaving_39 : decode (mB MX4_linksLeaving) 39 = .ok (.goto (-35), 3) := by decide +kernel
theorem eX4_linksLeaving_42 : decode (mB MX4_linksLeaving) 42 = .ok (.iload_n 2, 1) := by decide +kernel
theorem eX4_linksLeaving_43 : decode (mB MX4_linksLeaving) 43 = .ok (.ireturn, 1) := by decide +kernel
theorem eX5_init_0 : decode (mB MX5_init) 0 = .ok (.aload_n 0, 1) := by decide +kernel
theorem eX5_init_1 : decode (mB MX5_init) 1 = .ok (.invokespecial 3, 3) := by decide +kernel
theorem eX5_init_4 : decode (mB MX5_init) 4 = .ok (.aload_n 0, 1) := by decide +kernel
theorem eX5_init_5 : decode (mB MX5_init) 5 = .ok (.iconst 0, 1) := by decide +kernel
theorem eX5_init_6 : decode (mB MX5_init) 6 = .ok (.putfield 9, 3) := by decide +kernel
theorem eX5_init_9 : decode (mB MX5_init) 9 = .ok (.aload_n 0, 1) := by decide +kernel
theorem eX5_init_10 : decode (mB MX5_init) 10 = .ok (.iconst 0, 1) := by decide +kernel
theorem eX5_init_11 : decode (mB MX5_init) 11 = .ok (.putfield 15, 3) := by decide +kernel
theorem eX5_init_14 : decode (mB MX5_init) 14 = .ok (.aload_n 0, 1) := by decide +kernel
theorem eX5_init_15 : decode (mB MX5_init) 15 = .ok (.iconst (-1), 1) := by decide +kernel
theorem eX5_init_16 : decode (mB MX5_init) 16 = .ok (.putfield 18, 3) := by decide +kernel
theorem eX5_init_19 : decode (mB MX5_init) 19 = .ok (.aload_n 0, 1) := by decide +kernel
theorem eX5_init_20 : decode (mB MX5_init) 20 = .ok (.sipush 900, 3) := by decide +kernel
theorem eX5_init_23 : decode (mB MX5_init) 23 = .ok (.newarray .byte, 2) := by decide +kernel
theorem eX5_init_25 : decode (mB MX5_init) 25 = .ok (.putfield 21, 3) := by decide +kernel
theorem eX5_init_28 : decode (mB MX5_init) 28 = .ok (.aload_n 0, 1) := by decide +kernel
theorem eX5_init_29 : decode (mB MX5_init) 29 = .ok (.new 25, 3) := by decide +kernel
theorem eX5_init_32 : decode (mB MX5_init) 32 = .ok (.dup, 1) := by decide +kernel
theorem eX5_init_33 : decode (mB MX5_init) 33 = .ok (.invokespecial 27, 3) := by decide +kernel
theorem eX5_init_36 : decode (mB MX5_init) 36 = .ok (.putfield 28, 3) := by decide +kernel
theorem eX5_init_39 : decode (mB MX5_init) 39 = .ok (.return_, 1) := by decide +kernel
theorem eX5_putOnTape_0 : decode (mB MX5_putOnTape) 0 = .ok (.bipush 24, 2) := by decide +kernel
theorem eX5_putOnTape_2 : decode (mB MX5_putOnTape) 2 = .ok (.istore_n 2, 1) := by decide +kernel
theorem eX5_putOnTape_3 : decode (mB MX5_putOnTape) 3 = .ok (.iload_n 2, 1) := by decide +kernel
theorem eX5_putOnTape_4 : decode (mB MX5_putOnTape) 4 = .ok (.ifCond .lt 42, 3) := by decide +kernel
theorem eX5_putOnTape_7 : decode (mB MX5_putOnTape) 7 = .ok (.aload_n 0, 1) := by decide +kernel
theorem eX5_putOnTape_8 : decode (mB MX5_putOnTape) 8 = .ok (.getfield 9, 3) := by decide +kernel
theorem eX5_putOnTape_11 : decode (mB MX5_putOnTape) 11 = .ok (.sipush 900, 3) := by decide +kernel
theorem eX5_putOnTape_14 : decode (mB MX5_putOnTape) 14 = .ok (.if_icmp .ge 32, 3) := by decide +kernel
theorem eX5_putOnTape_17 : decode (mB MX5_putOnTape) 17 = .ok (.aload_n 0, 1) := by decide +kernel
theorem eX5_putOnTape_18 : decode (mB MX5_putOnTape) 18 = .ok (.getfield 21, 3) := by decide +kernel
theorem eX5_putOnTape_21 : decode (mB MX5_putOnTape) 21 = .ok (.aload_n 0, 1) := by decide +kernel
theorem eX5_putOnTape_22 : decode (mB MX5_putOnTape) 22 = .ok (.getfield 9, 3) := by decide +kernel
theorem eX5_putOnTape_25 : decode (mB MX5_putOnTape) 25 = .ok (.iload_n 1, 1) := by decide +kernel
theorem eX5_putOnTape_26 : decode (mB MX5_putOnTape) 26 = .ok (.iload_n 2, 1) := by decide +kernel
theorem eX5_putOnTape_27 : decode (mB MX5_putOnTape) 27 = .ok (.iushr, 1) := by decide +kernel
theorem eX5_putOnTape_28 : decode (mB MX5_putOnTape) 28 = .ok (.i2b, 1) := by decide +kernel
theorem eX5_putOnTape_29 : decode (mB MX5_putOnTape) 29 = .ok (.bastore, 1) := by decide +kernel
theorem eX5_putOnTape_30 : decode (mB MX5_putOnTape) 30 = .ok (.aload_n 0, 1) := by decide +kernel
theorem eX5_putOnTape_31 : decode (mB MX5_putOnTape) 31 = .ok (.dup, 1) := by decide +kernel
theorem eX5_putOnTape_32 : decode (mB MX5_putOnTape) 32 = .ok (.getfield 9, 3) := by decide +kernel
theorem eX5_putOnTape_35 : decode (mB MX5_putOnTape) 35 = .ok (.iconst 1, 1) := by decide +kernel
theorem eX5_putOnTape_36 : decode (mB MX5_putOnTape) 36 = .ok (.iadd, 1) := by decide +kernel
theorem eX5_putOnTape_37 : decode (mB MX5_putOnTape) 37 = .ok (.putfield 9, 3) := by decide +kernel
theorem eX5_putOnTape_40 : decode (mB MX5_putOnTape) 40 = .ok (.iinc 2 (-8), 3) := by decide +kernel
theorem eX5_putOnTape_43 : decode (mB MX5_putOnTape) 43 = .ok (.goto (-40), 3) := by decide +kernel
theorem eX5_putOnTape_46 : decode (mB MX5_putOnTape) 46 = .ok (.return_, 1) := by decide +kernel
theorem eX5_readNet_0 : decode (mB MX5_readNet) 0 = .ok (.aload_n 0, 1) := by decide +kernel
theorem eX5_readNet_1 : decode (mB MX5_readNet) 1 = .ok (.iconst 0, 1) := by decide +kernel
theorem eX5_readNet_2 : decode (mB MX5_readNet) 2 = .ok (.putfield 9, 3) := by decide +kernel
theorem eX5_readNet_5 : decode (mB MX5_readNet) 5 = .ok (.aload_n 0, 1) := by decide +kernel
theorem eX5_readNet_6 : decode (mB MX5_readNet) 6 = .ok (.iconst 0, 1) := by decide +kernel
theorem eX5_readNet_7 : decode (mB MX5_readNet) 7 = .ok (.putfield 15, 3) := by decide +kernel
theorem eX5_readNet_10 : decode (mB MX5_readNet) 10 = .ok (.aload_n 0, 1) := by decide +kernel
theorem eX5_readNet_11 : decode (mB MX5_readNet) 11 = .ok (.iconst (-1), 1) := by decide +kernel
theorem eX5_readNet_12 : decode (mB MX5_readNet) 12 = .ok (.putfield 18, 3) := by decide +kernel
theorem eX5_readNet_15 : decode (mB MX5_readNet) 15 = .ok (.aload_n 0, 1) := by decide +kernel
theorem eX5_readNet_16 : decode (mB MX5_readNet) 16 = .ok (.iload_n 1, 1) := by decide +kernel
theorem eX5_readNet_17 : decode (mB MX5_readNet) 17 = .ok (.putfield 32, 3) := by decide +kernel
theorem eX5_readNet_20 : decode (mB MX5_readNet) 20 = .ok (.aload_n 0, 1) := by decide +kernel
theorem eX5_readNet_21 : decode (mB MX5_readNet) 21 = .ok (.iconst 0, 1) := by decide +kernel
theorem eX5_readNet_22 : decode (mB MX5_readNet) 22 = .ok (.putfield 35, 3) := by decide +kernel
theorem eX5_readNet_25 : decode (mB MX5_readNet) 25 = .ok (.aload_n 0, 1) := by decide +kernel
theorem eX5_readNet_26 : decode (mB MX5_readNet) 26 = .ok (.new 38, 3) := by decide +kernel
theorem eX5_readNet_29 : decode (mB MX5_readNet) 29 = .ok (.dup, 1) := by decide +kernel
theorem eX5_readNet_30 : decode (mB MX5_readNet) 30 = .ok (.invokespecial 40, 3) := by decide +kernel
theorem eX5_readNet_33 : decode (mB MX5_readNet) 33 = .ok (.putfield 41, 3) := by decide +kernel
theorem eX5_readNet_36 : decode (mB MX5_readNet) 36 = .ok (.aload_n 0, 1) := by decide +kernel
theorem eX5_readNet_37 : decode (mB MX5_readNet) 37 = .ok (.getfield 28, 3) := by decide +kernel
theorem eX5_readNet_40 : decode (mB MX5_readNet) 40 = .ok (.invokevirtual 45, 3) := by decide +kernel
theorem eX5_readNet_43 : decode (mB MX5_readNet) 43 = .ok (.aload_n 0, 1) := by decide +kernel
theorem eX5_readNet_44 : decode (mB MX5_readNet) 44 = .ok (.invokevirtual 48, 3) := by decide +kernel
theorem eX5_readNet_47 : decode (mB MX5_readNet) 47 = .ok (.aload_n 0, 1) := by decide +kernel
theorem eX5_readNet_48 : decode (mB MX5_readNet) 48 = .ok (.invokevirtual 51, 3) := by decide +kernel
theorem eX5_readNet_51 : decode (mB MX5_readNet) 51 = .ok (.istore_n 2, 1) := by decide +kernel
theorem eX5_readNet_52 : decode (mB MX5_readNet) 52 = .ok (.iconst 0, 1) := by decide +kernel
theorem eX5_readNet_53 : decode (mB MX5_readNet) 53 = .ok (.istore_n 3, 1) := by decide +kernel
theorem eX5_readNet_54 : decode (mB MX5_readNet) 54 = .ok (.iload_n 3, 1) := by decide +kernel
theorem eX5_readNet_55 : decode (mB MX5_readNet) 55 = .ok (.sipush 900, 3) := by decide +kernel
theorem eX5_readNet_58 : decode (mB MX5_readNet) 58 = .ok (.if_icmp .ge 29, 3) := by decide +kernel
theorem eX5_readNet_61 : decode (mB MX5_readNet) 61 = .ok (.iload_n 2, 1) := by decide +kernel
theorem eX5_readNet_62 : decode (mB MX5_readNet) 62 = .ok (.ifCond .eq 25, 3) := by decide +kernel
theorem eX5_readNet_65 : decode (mB MX5_readNet) 65 = .ok (.aload_n 0, 1) := by decide +kernel
theorem eX5_readNet_66 : decode (mB MX5_readNet) 66 = .ok (.getfield 55, 3) := by decide +kernel
theorem eX5_readNet_69 : decode (mB MX5_readNet) 69 = .ok (.aload_n 0, 1) := by decide +kernel
theorem eX5_readNet_70 : decode (mB MX5_readNet) 70 = .ok (.getfield 32, 3) := by decide +kernel
theorem eX5_readNet_73 : decode (mB MX5_readNet) 73 = .ok (.if_icmp .ge 14, 3) := by decide +kernel
theorem eX5_readNet_76 : decode (mB MX5_readNet) 76 = .ok (.aload_n 0, 1) := by decide +kernel
theorem eX5_readNet_77 : decode (mB MX5_readNet) 77 = .ok (.invokevirtual 58, 3) := by decide +kernel
theorem eX5_readNet_80 : decode (mB MX5_readNet) 80 = .ok (.istore_n 2, 1) := by decide +kernel
theorem eX5_readNet_81 : decode (mB MX5_readNet) 81 = .ok (.iinc 3 1, 3) := by decide +kernel
theorem eX5_readNet_84 : decode (mB MX5_readNet) 84 = .ok (.goto (-30), 3) := by decide +kernel
theorem eX5_readNet_87 : decode (mB MX5_readNet) 87 = .ok (.iload_n 2, 1) := by decide +kernel
theorem eX5_readNet_88 : decode (mB MX5_readNet) 88 = .ok (.ifCond .ne 5, 3) := by decide +kernel
theorem eX5_readNet_91 : decode (mB MX5_readNet) 91 = .ok (.aconst_null, 1) := by decide +kernel
theorem eX5_readNet_92 : decode (mB MX5_readNet) 92 = .ok (.areturn, 1) := by decide +kernel
theorem eX5_readNet_93 : decode (mB MX5_readNet) 93 = .ok (.aload_n 0, 1) := by decide +kernel
theorem eX5_readNet_94 : decode (mB MX5_readNet) 94 = .ok (.getfield 41, 3) := by decide +kernel
theorem eX5_readNet_97 : decode (mB MX5_readNet) 97 = .ok (.aload_n 0, 1) := by decide +kernel
theorem eX5_readNet_98 : decode (mB MX5_readNet) 98 = .ok (.getfield 28, 3) := by decide +kernel
theorem eX5_readNet_101 : decode (mB MX5_readNet) 101 = .ok (.invokevirtual 61, 3) := by decide +kernel
theorem eX5_readNet_104 : decode (mB MX5_readNet) 104 = .ok (.aload_n 0, 1) := by decide +kernel
theorem eX5_readNet_105 : decode (mB MX5_readNet) 105 = .ok (.getfield 41, 3) := by decide +kernel
theorem eX5_readNet_108 : decode (mB MX5_readNet) 108 = .ok (.areturn, 1) := by decide +kernel
theorem eX5_readHead_0 : decode (mB MX5_readHead) 0 = .ok (.aload_n 0, 1) := by decide +kernel
theorem eX5_readHead_1 : decode (mB MX5_readHead) 1 = .ok (.ldc 65, 2) := by decide +kernel
theorem eX5_readHead_3 : decode (mB MX5_readHead) 3 = .ok (.invokevirtual 67, 3) := by decide +kernel
theorem eX5_readHead_6 : decode (mB MX5_readHead) 6 = .ok (.ifCond .eq 12, 3) := by decide +kernel
theorem eX5_readHead_9 : decode (mB MX5_readHead) 9 = .ok (.aload_n 0, 1) := by decide +kernel
theorem eX5_readHead_10 : decode (mB MX5_readHead) 10 = .ok (.ldc 71, 2) := by decide +kernel
theorem eX5_readHead_12 : decode (mB MX5_readHead) 12 = .ok (.invokevirtual 67, 3) := by decide +kernel
theorem eX5_readHead_15 : decode (mB MX5_readHead) 15 = .ok (.ifCond .ne 5, 3) := by decide +kernel
theorem eX5_readHead_18 : decode (mB MX5_readHead) 18 = .ok (.iconst 0, 1) := by decide +kernel
theorem eX5_readHead_19 : decode (mB MX5_readHead) 19 = .ok (.ireturn, 1) := by decide +kernel
theorem eX5_readHead_20 : decode (mB MX5_readHead) 20 = .ok (.aload_n 0, 1) := by decide +kernel
theorem eX5_readHead_21 : decode (mB MX5_readHead) 21 = .ok (.iconst 1, 1) := by decide +kernel
theorem eX5_readHead_22 : decode (mB MX5_readHead) 22 = .ok (.bipush 8, 2) := by decide +kernel
theorem eX5_readHead_24 : decode (mB MX5_readHead) 24 = .ok (.iconst 0, 1) := by decide +kernel
theorem eX5_readHead_25 : decode (mB MX5_readHead) 25 = .ok (.invokevirtual 73, 3) := by decide +kernel
theorem eX5_readHead_28 : decode (mB MX5_readHead) 28 = .ok (.istore_n 1, 1) := by decide +kernel
theorem eX5_readHead_29 : decode (mB MX5_readHead) 29 = .ok (.iload_n 1, 1) := by decide +kernel
theorem eX5_readHead_30 : decode (mB MX5_readHead) 30 = .ok (.ifCond .lt 12, 3) := by decide +kernel
theorem eX5_readHead_33 : decode (mB MX5_readHead) 33 = .ok (.aload_n 0, 1) := by decide +kernel
theorem eX5_readHead_34 : decode (mB MX5_readHead) 34 = .ok (.ldc 77, 2) := by decide +kernel
theorem eX5_readHead_36 : decode (mB MX5_readHead) 36 = .ok (.invokevirtual 67, 3) := by decide +kernel
theorem eX5_readHead_39 : decode (mB MX5_readHead) 39 = .ok (.ifCond .ne 5, 3) := by decide +kernel
theorem eX5_readHead_42 : decode (mB MX5_readHead) 42 = .ok (.iconst 0, 1) := by decide +kernel
theorem eX5_readHead_43 : decode (mB MX5_readHead) 43 = .ok (.ireturn, 1) := by decide +kernel
theorem eX5_readHead_44 : decode (mB MX5_readHead) 44 = .ok (.aload_n 0, 1) := by decide +kernel
theorem eX5_readHead_45 : decode (mB MX5_readHead) 45 = .ok (.iconst 0, 1) := by decide +kernel
theorem eX5_readHead_46 : decode (mB MX5_readHead) 46 = .ok (.bipush 9, 2) := by decide +kernel
theorem eX5_readHead_48 : decode (mB MX5_readHead) 48 = .ok (.iconst 0, 1) := by decide +kernel
theorem eX5_readHead_49 : decode (mB MX5_readHead) 49 = .ok (.invokevirtual 73, 3) := by decide +kernel
theorem eX5_readHead_52 : decode (mB MX5_readHead) 52 = .ok (.istore_n 2, 1) := by decide +kernel
theorem eX5_readHead_53 : decode (mB MX5_readHead) 53 = .ok (.iload_n 2, 1) := by decide +kernel
theorem eX5_readHead_54 : decode (mB MX5_readHead) 54 = .ok (.ifCond .lt 12, 3) := by decide +kernel
theorem eX5_readHead_57 : decode (mB MX5_readHead) 57 = .ok (.aload_n 0, 1) := by decide +kernel
theorem eX5_readHead_58 : decode (mB MX5_readHead) 58 = .ok (.ldc 79, 2) := by decide +kernel
theorem eX5_readHead_60 : decode (mB MX5_readHead) 60 = .ok (.invokevirtual 67, 3) := by decide +kernel
theorem eX5_readHead_63 : decode (mB MX5_readHead) 63 = .ok (.ifCond .ne 5, 3) := by decide +kernel
theorem eX5_readHead_66 : decode (mB MX5_readHead) 66 = .ok (.iconst 0, 1) := by decide +kernel
theorem eX5_readHead_67 : decode (mB MX5_readHead) 67 = .ok (.ireturn, 1) := by decide +kernel
theorem eX5_readHead_68 : decode (mB MX5_readHead) 68 = .ok (.aload_n 0, 1) := by decide +kernel
theorem eX5_readHead_69 : decode (mB MX5_readHead) 69 = .ok (.getfield 41, 3) := by decide +kernel
theorem eX5_readHead_72 : decode (mB MX5_readHead) 72 = .ok (.iload_n 1, 1) := by decide +kernel
theorem eX5_readHead_73 : decode (mB MX5_readHead) 73 = .ok (.putfield 81, 3) := by decide +kernel
theorem eX5_readHead_76 : decode (mB MX5_readHead) 76 = .ok (.aload_n 0, 1) := by decide +kernel
theorem eX5_readHead_77 : decode (mB MX5_readHead) 77 = .ok (.getfield 41, 3) := by decide +kernel
theorem eX5_readHead_80 : decode (mB MX5_readHead) 80 = .ok (.iload_n 2, 1) := by decide +kernel
theorem eX5_readHead_81 : decode (mB MX5_readHead) 81 = .ok (.putfield 83, 3) := by decide +kernel
theorem eX5_readHead_84 : decode (mB MX5_readHead) 84 = .ok (.aload_n 0, 1) := by decide +kernel
theorem eX5_readHead_85 : decode (mB MX5_readHead) 85 = .ok (.getfield 41, 3) := by decide +kernel
theorem eX5_readHead_88 : decode (mB MX5_readHead) 88 = .ok (.iconst 1, 1) := by decide +kernel
theorem eX5_readHead_89 : decode (mB MX5_readHead) 89 = .ok (.putfield 86, 3) := by decide +kernel
theorem eX5_readHead_92 : decode (mB MX5_readHead) 92 = .ok (.iconst 1, 1) := by decide +kernel
theorem eX5_readHead_93 : decode (mB MX5_readHead) 93 = .ok (.ireturn, 1) := by decide +kernel
theorem eX5_readLine_0 : decode (mB MX5_readLine) 0 = .ok (.aload_n 0, 1) := by decide +kernel
theorem eX5_readLine_1 : decode (mB MX5_readLine) 1 = .ok (.ldc 89, 2) := by decide +kernel
theorem eX5_readLine_3 : decode (mB MX5_readLine) 3 = .ok (.invokevirtual 91, 3) := by decide +kernel
theorem eX5_readLine_6 : decode (mB MX5_readLine) 6 = .ok (.ifCond .eq 11, 3) := by decide +kernel
theorem eX5_readLine_9 : decode (mB MX5_readLine) 9 = .ok (.aload_n 0, 1) := by decide +kernel
theorem eX5_readLine_10 : decode (mB MX5_readLine) 10 = .ok (.invokevirtual 94, 3) := by decide +kernel
theorem eX5_readLine_13 : decode (mB MX5_readLine) 13 = .ok (.istore_n 1, 1) := by decide +kernel
theorem eX5_readLine_14 : decode (mB MX5_readLine) 14 = .ok (.goto 45, 3) := by decide +kernel
theorem eX5_readLine_17 : decode (mB MX5_readLine) 17 = .ok (.aload_n 0, 1) := by decide +kernel
theorem eX5_readLine_18 : decode (mB MX5_readLine) 18 = .ok (.ldc 97, 2) := by decide +kernel
theorem eX5_readLine_20 : decode (mB MX5_readLine) 20 = .ok (.invokevirtual 91, 3) := by decide +kernel
theorem eX5_readLine_23 : decode (mB MX5_readLine) 23 = .ok (.ifCond .eq 12, 3) := by decide +kernel
theorem eX5_readLine_26 : decode (mB MX5_readLine) 26 = .ok (.aload_n 0, 1) := by decide +kernel
theorem eX5_readLine_27 : decode (mB MX5_readLine) 27 = .ok (.iconst 0, 1) := by decide +kernel
theorem eX5_readLine_28 : decode (mB MX5_readLine) 28 = .ok (.invokevirtual 99, 3) := by decide +kernel
theorem eX5_readLine_31 : decode (mB MX5_readLine) 31 = .ok (.istore_n 1, 1) := by decide +kernel
theorem eX5_readLine_32 : decode (mB MX5_readLine) 32 = .ok (.goto 27, 3) := by decide +kernel
theorem eX5_readLine_35 : decode (mB MX5_readLine) 35 = .ok (.aload_n 0, 1) := by decide +kernel
theorem eX5_readLine_36 : decode (mB MX5_readLine) 36 = .ok (.ldc 103, 2) := by decide +kernel
theorem eX5_readLine_38 : decode (mB MX5_readLine) 38 = .ok (.invokevirtual 91, 3) := by decide +kernel
theorem eX5_readLine_41 : decode (mB MX5_readLine) 41 = .ok (.ifCond .eq 12, 3) := by decide +kernel
theorem eX5_readLine_44 : decode (mB MX5_readLine) 44 = .ok (.aload_n 0, 1) := by decide +kernel
theorem eX5_readLine_45 : decode (mB MX5_readLine) 45 = .ok (.iconst 1, 1) := by decide +kernel
theorem eX5_readLine_46 : decode (mB MX5_readLine) 46 = .ok (.invokevirtual 99, 3) := by decide +kernel
theorem eX5_readLine_49 : decode (mB MX5_readLine) 49 = .ok (.istore_n 1, 1) := by decide +kernel
theorem eX5_readLine_50 : decode (mB MX5_readLine) 50 = .ok (.goto 9, 3) := by decide +kernel
theorem eX5_readLine_53 : decode (mB MX5_readLine) 53 = .ok (.aload_n 0, 1) := by decide +kernel
theorem eX5_readLine_54 : decode (mB MX5_readLine) 54 = .ok (.iconst 2, 1) := by decide +kernel
theorem eX5_readLine_55 : decode (mB MX5_readLine) 55 = .ok (.invokevirtual 105, 3) := by decide +kernel
theorem eX5_readLine_58 : decode (mB MX5_readLine) 58 = .ok (.istore_n 1, 1) := by decide +kernel
theorem eX5_readLine_59 : decode (mB MX5_readLine) 59 = .ok (.iload_n 1, 1) := by decide +kernel
theorem eX5_readLine_60 : decode (mB MX5_readLine) 60 = .ok (.ifCond .eq 12, 3) := by decide +kernel
theorem eX5_readLine_63 : decode (mB MX5_readLine) 63 = .ok (.aload_n 0, 1) := by decide +kernel
theorem eX5_readLine_64 : decode (mB MX5_readLine) 64 = .ok (.ldc 79, 2) := by decide +kernel
theorem eX5_readLine_66 : decode (mB MX5_readLine) 66 = .ok (.invokevirtual 67, 3) := by decide +kernel
theorem eX5_readLine_69 : decode (mB MX5_readLine) 69 = .ok (.ifCond .ne 5, 3) := by decide +kernel
theorem eX5_readLine_72 : decode (mB MX5_readLine) 72 = .ok (.iconst 0, 1) := by decide +kernel
theorem eX5_readLine_73 : decode (mB MX5_readLine) 73 = .ok (.ireturn, 1) := by decide +kernel
theorem eX5_readLine_74 : decode (mB MX5_readLine) 74 = .ok (.aload_n 0, 1) := by decide +kernel
theorem eX5_readLine_75 : decode (mB MX5_readLine) 75 = .ok (.getfield 41, 3) := by decide +kernel
theorem eX5_readLine_78 : decode (mB MX5_readLine) 78 = .ok (.dup, 1) := by decide +kernel
theorem eX5_readLine_79 : decode (mB MX5_readLine) 79 = .ok (.getfield 86, 3) := by decide +kernel
theorem eX5_readLine_82 : decode (mB MX5_readLine) 82 = .ok (.iconst 1, 1) := by decide +kernel
theorem eX5_readLine_83 : decode (mB MX5_readLine) 83 = .ok (.iadd, 1) := by decide +kernel
theorem eX5_readLine_84 : decode (mB MX5_readLine) 84 = .ok (.putfield 86, 3) := by decide +kernel
theorem eX5_readLine_87 : decode (mB MX5_readLine) 87 = .ok (.iconst 1, 1) := by decide +kernel
theorem eX5_readLine_88 : decode (mB MX5_readLine) 88 = .ok (.ireturn, 1) := by decide +kernel
theorem eX5_readLink_0 : decode (mB MX5_readLink) 0 = .ok (.aload_n 0, 1) := by decide +kernel
theorem eX5_readLink_1 : decode (mB MX5_readLink) 1 = .ok (.getfield 41, 3) := by decide +kernel
theorem eX5_readLink_4 : decode (mB MX5_readLink) 4 = .ok (.getfield 109, 3) := by decide +kernel
theorem eX5_readLink_7 : decode (mB MX5_readLink) 7 = .ok (.bipush 10, 2) := by decide +kernel
theorem eX5_readLink_9 : decode (mB MX5_readLink) 9 = .ok (.if_icmp .lt 9, 3) := by decide +kernel
theorem eX5_readLink_12 : decode (mB MX5_readLink) 12 = .ok (.aload_n 0, 1) := by decide +kernel
theorem eX5_readLink_13 : decode (mB MX5_readLink) 13 = .ok (.iconst 4, 1) := by decide +kernel
theorem eX5_readLink_14 : decode (mB MX5_readLink) 14 = .ok (.invokevirtual 105, 3) := by decide +kernel
theorem eX5_readLink_17 : decode (mB MX5_readLink) 17 = .ok (.ireturn, 1) := by decide +kernel
theorem eX5_readLink_18 : decode (mB MX5_readLink) 18 = .ok (.aload_n 0, 1) := by decide +kernel
theorem eX5_readLink_19 : decode (mB MX5_readLink) 19 = .ok (.invokevirtual 48, 3) := by decide +kernel
theorem eX5_readLink_22 : decode (mB MX5_readLink) 22 = .ok (.aload_n 0, 1) := by decide +kernel
theorem eX5_readLink_23 : decode (mB MX5_readLink) 23 = .ok (.iconst 0, 1) := by decide +kernel
theorem eX5_readLink_24 : decode (mB MX5_readLink) 24 = .ok (.aload_n 0, 1) := by decide +kernel
theorem eX5_readLink_25 : decode (mB MX5_readLink) 25 = .ok (.getfield 41, 3) := by decide +kernel
theorem eX5_readLink_28 : decode (mB MX5_readLink) 28 = .ok (.getfield 81, 3) := by decide +kernel
theorem eX5_readLink_31 : decode (mB MX5_readLink) 31 = .ok (.iconst 1, 1) := by decide +kernel
theorem eX5_readLink_32 : decode (mB MX5_readLink) 32 = .ok (.isub, 1) := by decide +kernel
theorem eX5_readLink_33 : decode (mB MX5_readLink) 33 = .ok (.iconst 0, 1) := by decide +kernel
theorem eX5_readLink_34 : decode (mB MX5_readLink) 34 = .ok (.invokevirtual 73, 3) := by decide +kernel
theorem eX5_readLink_37 : decode (mB MX5_readLink) 37 = .ok (.istore_n 1, 1) := by decide +kernel
theorem eX5_readLink_38 : decode (mB MX5_readLink) 38 = .ok (.iload_n 1, 1) := by decide +kernel
theorem eX5_readLink_39 : decode (mB MX5_readLink) 39 = .ok (.ifCond .ge 5, 3) := by decide +kernel
theorem eX5_readLink_42 : decode (mB MX5_readLink) 42 = .ok (.iconst 0, 1) := by decide +kernel
theorem eX5_readLink_43 : decode (mB MX5_readLink) 43 = .ok (.ireturn, 1) := by decide +kernel
theorem eX5_readLink_44 : decode (mB MX5_readLink) 44 = .ok (.aload_n 0, 1) := by decide +kernel
theorem eX5_readLink_45 : decode (mB MX5_readLink) 45 = .ok (.iconst 0, 1) := by decide +kernel
theorem eX5_readLink_46 : decode (mB MX5_readLink) 46 = .ok (.aload_n 0, 1) := by decide +kernel
theorem eX5_readLink_47 : decode (mB MX5_readLink) 47 = .ok (.getfield 41, 3) := by decide +kernel
theorem eX5_readLink_50 : decode (mB MX5_readLink) 50 = .ok (.getfield 81, 3) := by decide +kernel
theorem eX5_readLink_53 : decode (mB MX5_readLink) 53 = .ok (.iconst 1, 1) := by decide +kernel
theorem eX5_readLink_54 : decode (mB MX5_readLink) 54 = .ok (.isub, 1) := by decide +kernel
theorem eX5_readLink_55 : decode (mB MX5_readLink) 55 = .ok (.iconst 1, 1) := by decide +kernel
theorem eX5_readLink_56 : decode (mB MX5_readLink) 56 = .ok (.iload_n 1, 1) := by decide +kernel
theorem eX5_readLink_57 : decode (mB MX5_readLink) 57 = .ok (.ishl, 1) := by decide +kernel
theorem eX5_readLink_58 : decode (mB MX5_readLink) 58 = .ok (.aload_n 0, 1) := by decide +kernel
theorem eX5_readLink_59 : decode (mB MX5_readLink) 59 = .ok (.getfield 41, 3) := by decide +kernel
theorem eX5_readLink_62 : decode (mB MX5_readLink) 62 = .ok (.iload_n 1, 1) := by decide +kernel
theorem eX5_readLink_63 : decode (mB MX5_readLink) 63 = .ok (.invokevirtual 112, 3) := by decide +kernel
theorem eX5_readLink_66 : decode (mB MX5_readLink) 66 = .ok (.ior, 1) := by decide +kernel
theorem eX5_readLink_67 : decode (mB MX5_readLink) 67 = .ok (.invokevirtual 73, 3) := by decide +kernel
theorem eX5_readLink_70 : decode (mB MX5_readLink) 70 = .ok (.istore_n 2, 1) := by decide +kernel
theorem eX5_readLink_71 : decode (mB MX5_readLink) 71 = .ok (.iload_n 2, 1) := by decide +kernel
theorem eX5_readLink_72 : decode (mB MX5_readLink) 72 = .ok (.ifCond .lt 12, 3) := by decide +kernel
theorem eX5_readLink_75 : decode (mB MX5_readLink) 75 = .ok (.aload_n 0, 1) := by decide +kernel
theorem eX5_readLink_76 : decode (mB MX5_readLink) 76 = .ok (.ldc 116, 2) := by decide +kernel
theorem eX5_readLink_78 : decode (mB MX5_readLink) 78 = .ok (.invokevirtual 67, 3) := by decide +kernel
theorem eX5_readLink_81 : decode (mB MX5_readLink) 81 = .ok (.ifCond .ne 5, 3) := by decide +kernel
theorem eX5_readLink_84 : decode (mB MX5_readLink) 84 = .ok (.iconst 0, 1) := by decide +kernel
theorem eX5_readLink_85 : decode (mB MX5_readLink) 85 = .ok (.ireturn, 1) := by decide +kernel
theorem eX5_readLink_86 : decode (mB MX5_readLink) 86 = .ok (.aload_n 0, 1) := by decide +kernel
theorem eX5_readLink_87 : decode (mB MX5_readLink) 87 = .ok (.iconst 1, 1) := by decide +kernel
theorem eX5_readLink_88 : decode (mB MX5_readLink) 88 = .ok (.bipush 9, 2) := by decide +kernel
theorem eX5_readLink_90 : decode (mB MX5_readLink) 90 = .ok (.iconst 0, 1) := by decide +kernel
theorem eX5_readLink_91 : decode (mB MX5_readLink) 91 = .ok (.invokevirtual 73, 3) := by decide +kernel
theorem eX5_readLink_94 : decode (mB MX5_readLink) 94 = .ok (.istore_n 3, 1) := by decide +kernel
theorem eX5_readLink_95 : decode (mB MX5_readLink) 95 = .ok (.iload_n 3, 1) := by decide +kernel
theorem eX5_readLink_96 : decode (mB MX5_readLink) 96 = .ok (.ifCond .lt 12, 3) := by decide +kernel
theorem eX5_readLink_99 : decode (mB MX5_readLink) 99 = .ok (.aload_n 0, 1) := by decide +kernel
theorem eX5_readLink_100 : decode (mB MX5_readLink) 100 = .ok (.ldc 118, 2) := by decide +kernel
theorem eX5_readLink_102 : decode (mB MX5_readLink) 102 = .ok (.invokevirtual 67, 3) := by decide +kernel
theorem eX5_readLink_105 : decode (mB MX5_readLink) 105 = .ok (.ifCond .ne 5, 3) := by decide +kernel
theorem eX5_readLink_108 : decode (mB MX5_readLink) 108 = .ok (.iconst 0, 1) := by decide +kernel
theorem eX5_readLink_109 : decode (mB MX5_readLink) 109 = .ok (.ireturn, 1) := by decide +kernel
theorem eX5_readLink_110 : decode (mB MX5_readLink) 110 = .ok (.aload_n 0, 1) := by decide +kernel
theorem eX5_readLink_111 : decode (mB MX5_readLink) 111 = .ok (.iconst 0, 1) := by decide +kernel
theorem eX5_readLink_112 : decode (mB MX5_readLink) 112 = .ok (.iconst 2, 1) := by decide +kernel
theorem eX5_readLink_113 : decode (mB MX5_readLink) 113 = .ok (.iconst 0, 1) := by decide +kernel
theorem eX5_readLink_114 : decode (mB MX5_readLink) 114 = .ok (.invokevirtual 73, 3) := by decide +kernel
theorem eX5_readLink_117 : decode (mB MX5_readLink) 117 = .ok (.istore 4, 2) := by decide +kernel
theorem eX5_readLink_119 : decode (mB MX5_readLink) 119 = .ok (.iload 4, 2) := by decide +kernel
theorem eX5_readLink_121 : decode (mB MX5_readLink) 121 = .ok (.ifCond .ge 5, 3) := by decide +kernel
theorem eX5_readLink_124 : decode (mB MX5_readLink) 124 = .ok (.iconst 0, 1) := by decide +kernel
theorem eX5_readLink_125 : decode (mB MX5_readLink) 125 = .ok (.ireturn, 1) := by decide +kernel
theorem eX5_readLink_126 : decode (mB MX5_readLink) 126 = .ok (.aload_n 0, 1) := by decide +kernel
theorem eX5_readLink_127 : decode (mB MX5_readLink) 127 = .ok (.getfield 41, 3) := by decide +kernel
theorem eX5_readLink_130 : decode (mB MX5_readLink) 130 = .ok (.iload_n 1, 1) := by decide +kernel
theorem eX5_readLink_131 : decode (mB MX5_readLink) 131 = .ok (.iload_n 2, 1) := by decide +kernel
theorem eX5_readLink_132 : decode (mB MX5_readLink) 132 = .ok (.iload_n 3, 1) := by decide +kernel
theorem eX5_readLink_133 : decode (mB MX5_readLink) 133 = .ok (.iload 4, 2) := by decide +kernel
theorem eX5_readLink_135 : decode (mB MX5_readLink) 135 = .ok (.invokevirtual 120, 3) := by decide +kernel
theorem eX5_readLink_138 : decode (mB MX5_readLink) 138 = .ok (.iconst 1, 1) := by decide +kernel
theorem eX5_readLink_139 : decode (mB MX5_readLink) 139 = .ok (.ireturn, 1) := by decide +kernel
theorem eX5_readLaw_0 : decode (mB MX5_readLaw) 0 = .ok (.aload_n 0, 1) := by decide +kernel
theorem eX5_readLaw_1 : decode (mB MX5_readLaw) 1 = .ok (.iload_n 1, 1) := by decide +kernel
theorem eX5_readLaw_2 : decode (mB MX5_readLaw) 2 = .ok (.putfield 124, 3) := by decide +kernel
theorem eX5_readLaw_5 : decode (mB MX5_readLaw) 5 = .ok (.aload_n 0, 1) := by decide +kernel
theorem eX5_readLaw_6 : decode (mB MX5_readLaw) 6 = .ok (.invokevirtual 48, 3) := by decide +kernel
theorem eX5_readLaw_9 : decode (mB MX5_readLaw) 9 = .ok (.aload_n 0, 1) := by decide +kernel
theorem eX5_readLaw_10 : decode (mB MX5_readLaw) 10 = .ok (.ldc 128, 2) := by decide +kernel
theorem eX5_readLaw_12 : decode (mB MX5_readLaw) 12 = .ok (.invokevirtual 67, 3) := by decide +kernel
theorem eX5_readLaw_15 : decode (mB MX5_readLaw) 15 = .ok (.ifCond .ne 5, 3) := by decide +kernel
theorem eX5_readLaw_18 : decode (mB MX5_readLaw) 18 = .ok (.iconst 0, 1) := by decide +kernel
theorem eX5_readLaw_19 : decode (mB MX5_readLaw) 19 = .ok (.ireturn, 1) := by decide +kernel
theorem eX5_readLaw_20 : decode (mB MX5_readLaw) 20 = .ok (.aload_n 0, 1) := by decide +kernel
theorem eX5_readLaw_21 : decode (mB MX5_readLaw) 21 = .ok (.getfield 28, 3) := by decide +kernel
theorem eX5_readLaw_24 : decode (mB MX5_readLaw) 24 = .ok (.iload_n 1, 1) := by decide +kernel
theorem eX5_readLaw_25 : decode (mB MX5_readLaw) 25 = .ok (.invokevirtual 130, 3) := by decide +kernel
theorem eX5_readLaw_28 : decode (mB MX5_readLaw) 28 = .ok (.iload_n 1, 1) := by decide +kernel
theorem eX5_readLaw_29 : decode (mB MX5_readLaw) 29 = .ok (.ifCond .eq 14, 3) := by decide +kernel
theorem eX5_readLaw_32 : decode (mB MX5_readLaw) 32 = .ok (.aload_n 0, 1) := by decide +kernel
theorem eX5_readLaw_33 : decode (mB MX5_readLaw) 33 = .ok (.iconst 0, 1) := by decide +kernel
theorem eX5_readLaw_34 : decode (mB MX5_readLaw) 34 = .ok (.invokevirtual 134, 3) := by decide +kernel
theorem eX5_readLaw_37 : decode (mB MX5_readLaw) 37 = .ok (.ifCond .eq 14, 3) := by decide +kernel
theorem eX5_readLaw_40 : decode (mB MX5_readLaw) 40 = .ok (.goto 13, 3) := by decide +kernel
theorem eX5_readLaw_43 : decode (mB MX5_readLaw) 43 = .ok (.aload_n 0, 1) := by decide +kernel
theorem eX5_readLaw_44 : decode (mB MX5_readLaw) 44 = .ok (.iconst 0, 1) := by decide +kernel
theorem eX5_readLaw_45 : decode (mB MX5_readLaw) 45 = .ok (.invokevirtual 137, 3) := by decide +kernel
theorem eX5_readLaw_48 : decode (mB MX5_readLaw) 48 = .ok (.ifCond .ne 5, 3) := by decide +kernel
theorem eX5_readLaw_51 : decode (mB MX5_readLaw) 51 = .ok (.iconst 0, 1) := by decide +kernel
theorem eX5_readLaw_52 : decode (mB MX5_readLaw) 52 = .ok (.ireturn, 1) := by decide +kernel
theorem eX5_readLaw_53 : decode (mB MX5_readLaw) 53 = .ok (.aload_n 0, 1) := by decide +kernel
theorem eX5_readLaw_54 : decode (mB MX5_readLaw) 54 = .ok (.getfield 28, 3) := by decide +kernel
theorem eX5_readLaw_57 : decode (mB MX5_readLaw) 57 = .ok (.iload_n 1, 1) := by decide +kernel
theorem eX5_readLaw_58 : decode (mB MX5_readLaw) 58 = .ok (.invokevirtual 140, 3) := by decide +kernel
theorem eX5_readLaw_61 : decode (mB MX5_readLaw) 61 = .ok (.iconst 1, 1) := by decide +kernel
theorem eX5_readLaw_62 : decode (mB MX5_readLaw) 62 = .ok (.ireturn, 1) := by decide +kernel
theorem eX5_readTruth_0 : decode (mB MX5_readTruth) 0 = .ok (.aload_n 0, 1) := by decide +kernel
theorem eX5_readTruth_1 : decode (mB MX5_readTruth) 1 = .ok (.iload_n 1, 1) := by decide +kernel
theorem eX5_readTruth_2 : decode (mB MX5_readTruth) 2 = .ok (.invokevirtual 143, 3) := by decide +kernel
theorem eX5_readTruth_5 : decode (mB MX5_readTruth) 5 = .ok (.istore_n 2, 1) := by decide +kernel
theorem eX5_readTruth_6 : decode (mB MX5_readTruth) 6 = .ok (.iconst 0, 1) := by decide +kernel
theorem eX5_readTruth_7 : decode (mB MX5_readTruth) 7 = .ok (.istore_n 3, 1) := by decide +kernel
theorem eX5_readTruth_8 : decode (mB MX5_readTruth) 8 = .ok (.iload_n 3, 1) := by decide +kernel
theorem eX5_readTruth_9 : decode (mB MX5_readTruth) 9 = .ok (.sipush 900, 3) := by decide +kernel
theorem eX5_readTruth_12 : decode (mB MX5_readTruth) 12 = .ok (.if_icmp .ge 42, 3) := by decide +kernel
theorem eX5_readTruth_15 : decode (mB MX5_readTruth) 15 = .ok (.iload_n 2, 1) := by decide +kernel
theorem eX5_readTruth_16 : decode (mB MX5_readTruth) 16 = .ok (.ifCond .eq 38, 3) := by decide +kernel
theorem eX5_readTruth_19 : decode (mB MX5_readTruth) 19 = .ok (.aload_n 0, 1) := by decide +kernel
theorem eX5_readTruth_20 : decode (mB MX5_readTruth) 20 = .ok (.ldc 146, 2) := by decide +kernel
theorem eX5_readTruth_22 : decode (mB MX5_readTruth) 22 = .ok (.invokevirtual 91, 3) := by decide +kernel
theorem eX5_readTruth_25 : decode (mB MX5_readTruth) 25 = .ok (.ifCond .eq 29, 3) := by decide +kernel
theorem eX5_readTruth_28 : decode (mB MX5_readTruth) 28 = .ok (.aload_n 0, 1) := by decide +kernel
theorem eX5_readTruth_29 : decode (mB MX5_readTruth) 29 = .ok (.invokevirtual 48, 3) := by decide +kernel
theorem eX5_readTruth_32 : decode (mB MX5_readTruth) 32 = .ok (.aload_n 0, 1) := by decide +kernel
theorem eX5_readTruth_33 : decode (mB MX5_readTruth) 33 = .ok (.iload_n 1, 1) := by decide +kernel
theorem eX5_readTruth_34 : decode (mB MX5_readTruth) 34 = .ok (.invokevirtual 143, 3) := by decide +kernel
theorem eX5_readTruth_37 : decode (mB MX5_readTruth) 37 = .ok (.istore_n 2, 1) := by decide +kernel
theorem eX5_readTruth_38 : decode (mB MX5_readTruth) 38 = .ok (.aload_n 0, 1) := by decide +kernel
theorem eX5_readTruth_39 : decode (mB MX5_readTruth) 39 = .ok (.getfield 28, 3) := by decide +kernel
theorem eX5_readTruth_42 : decode (mB MX5_readTruth) 42 = .ok (.sipush 1012, 3) := by decide +kernel
theorem eX5_readTruth_45 : decode (mB MX5_readTruth) 45 = .ok (.invokevirtual 148, 3) := by decide +kernel
theorem eX5_readTruth_48 : decode (mB MX5_readTruth) 48 = .ok (.iinc 3 1, 3) := by decide +kernel
theorem eX5_readTruth_51 : decode (mB MX5_readTruth) 51 = .ok (.goto (-43), 3) := by decide +kernel
theorem eX5_readTruth_54 : decode (mB MX5_readTruth) 54 = .ok (.iload_n 2, 1) := by decide +kernel
theorem eX5_readTruth_55 : decode (mB MX5_readTruth) 55 = .ok (.ireturn, 1) := by decide +kernel
theorem eX5_readBoth_0 : decode (mB MX5_readBoth) 0 = .ok (.aload_n 0, 1) := by decide +kernel
theorem eX5_readBoth_1 : decode (mB MX5_readBoth) 1 = .ok (.iload_n 1, 1) := by decide +kernel
theorem eX5_readBoth_2 : decode (mB MX5_readBoth) 2 = .ok (.invokevirtual 152, 3) := by decide +kernel
theorem eX5_readBoth_5 : decode (mB MX5_readBoth) 5 = .ok (.istore_n 2, 1) := by decide +kernel
theorem eX5_readBoth_6 : decode (mB MX5_readBoth) 6 = .ok (.iconst 0, 1) := by decide +kernel
theorem eX5_readBoth_7 : decode (mB MX5_readBoth) 7 = .ok (.istore_n 3, 1) := by decide +kernel
theorem eX5_readBoth_8 : decode (mB MX5_readBoth) 8 = .ok (.iload_n 3, 1) := by decide +kernel
theorem eX5_readBoth_9 : decode (mB MX5_readBoth) 9 = .ok (.sipush 900, 3) := by decide +kernel
theorem eX5_readBoth_12 : decode (mB MX5_readBoth) 12 = .ok (.if_icmp .ge 42, 3) := by decide +kernel
theorem eX5_readBoth_15 : decode (mB MX5_readBoth) 15 = .ok (.iload_n 2, 1) := by decide +kernel
theorem eX5_readBoth_16 : decode (mB MX5_readBoth) 16 = .ok (.ifCond .eq 38, 3) := by decide +kernel
theorem eX5_readBoth_19 : decode (mB MX5_readBoth) 19 = .ok (.aload_n 0, 1) := by decide +kernel
theorem eX5_readBoth_20 : decode (mB MX5_readBoth) 20 = .ok (.ldc 155, 2) := by decide +kernel
theorem eX5_readBoth_22 : decode (mB MX5_readBoth) 22 = .ok (.invokevirtual 91, 3) := by decide +kernel
theorem eX5_readBoth_25 : decode (mB MX5_readBoth) 25 = .ok (.ifCond .eq 29, 3) := by decide +kernel
theorem eX5_readBoth_28 : decode (mB MX5_readBoth) 28 = .ok (.aload_n 0, 1) := by decide +kernel
theorem eX5_readBoth_29 : decode (mB MX5_readBoth) 29 = .ok (.invokevirtual 48, 3) := by decide +kernel
theorem eX5_readBoth_32 : decode (mB MX5_readBoth) 32 = .ok (.aload_n 0, 1) := by decide +kernel
theorem eX5_readBoth_33 : decode (mB MX5_readBoth) 33 = .ok (.iload_n 1, 1) := by decide +kernel
theorem eX5_readBoth_34 : decode (mB MX5_readBoth) 34 = .ok (.invokevirtual 152, 3) := by decide +kernel
theorem eX5_readBoth_37 : decode (mB MX5_readBoth) 37 = .ok (.istore_n 2, 1) := by decide +kernel
theorem eX5_readBoth_38 : decode (mB MX5_readBoth) 38 = .ok (.aload_n 0, 1) := by decide +kernel
theorem eX5_readBoth_39 : decode (mB MX5_readBoth) 39 = .ok (.getfield 28, 3) := by decide +kernel
theorem eX5_readBoth_42 : decode (mB MX5_readBoth) 42 = .ok (.sipush 1011, 3) := by decide +kernel
theorem eX5_readBoth_45 : decode (mB MX5_readBoth) 45 = .ok (.invokevirtual 148, 3) := by decide +kernel
theorem eX5_readBoth_48 : decode (mB MX5_readBoth) 48 = .ok (.iinc 3 1, 3) := by decide +kernel
theorem eX5_readBoth_51 : decode (mB MX5_readBoth) 51 = .ok (.goto (-43), 3) := by decide +kernel
theorem eX5_readBoth_54 : decode (mB MX5_readBoth) 54 = .ok (.iload_n 2, 1) := by decide +kernel
theorem eX5_readBoth_55 : decode (mB MX5_readBoth) 55 = .ok (.ireturn, 1) := by decide +kernel
theorem eX5_readUnit_0 : decode (mB MX5_readUnit) 0 = .ok (.aload_n 0, 1) := by decide +kernel
theorem eX5_readUnit_1 : decode (mB MX5_readUnit) 1 = .ok (.ldc 157, 2) := by decide +kernel
theorem eX5_readUnit_3 : decode (mB MX5_readUnit) 3 = .ok (.invokevirtual 91, 3) := by decide +kernel
theorem eX5_readUnit_6 : decode (mB MX5_readUnit) 6 = .ok (.ifCond .eq 35, 3) := by decide +kernel
theorem eX5_readUnit_9 : decode (mB MX5_readUnit) 9 = .ok (.aload_n 0, 1) := by decide +kernel
theorem eX5_readUnit_10 : decode (mB MX5_readUnit) 10 = .ok (.iload_n 1, 1) := by decide +kernel
theorem eX5_readUnit_11 : decode (mB MX5_readUnit) 11 = .ok (.invokevirtual 159, 3) := by decide +kernel
theorem eX5_readUnit_14 : decode (mB MX5_readUnit) 14 = .ok (.ifCond .eq 13, 3) := by decide +kernel
theorem eX5_readUnit_17 : decode (mB MX5_readUnit) 17 = .ok (.aload_n 0, 1) := by decide +kernel
theorem eX5_readUnit_18 : decode (mB MX5_readUnit) 18 = .ok (.iload_n 1, 1) := by decide +kernel
theorem eX5_readUnit_19 : decode (mB MX5_readUnit) 19 = .ok (.iconst 1, 1) := by decide +kernel
theorem eX5_readUnit_20 : decode (mB MX5_readUnit) 20 = .ok (.iadd, 1) := by decide +kernel
theorem eX5_readUnit_21 : decode (mB MX5_readUnit) 21 = .ok (.invokevirtual 152, 3) := by decide +kernel
theorem eX5_readUnit_24 : decode (mB MX5_readUnit) 24 = .ok (.ifCond .ne 5, 3) := by decide +kernel
theorem eX5_readUnit_27 : decode (mB MX5_readUnit) 27 = .ok (.iconst 0, 1) := by decide +kernel
theorem eX5_readUnit_28 : decode (mB MX5_readUnit) 28 = .ok (.ireturn, 1) := by decide +kernel
theorem eX5_readUnit_29 : decode (mB MX5_readUnit) 29 = .ok (.aload_n 0, 1) := by decide +kernel
theorem eX5_readUnit_30 : decode (mB MX5_readUnit) 30 = .ok (.getfield 28, 3) := by decide +kernel
theorem eX5_readUnit_33 : decode (mB MX5_readUnit) 33 = .ok (.sipush 1013, 3) := by decide +kernel
theorem eX5_readUnit_36 : decode (mB MX5_readUnit) 36 = .ok (.invokevirtual 148, 3) := by decide +kernel
theorem eX5_readUnit_39 : decode (mB MX5_readUnit) 39 = .ok (.iconst 1, 1) := by decide +kernel
theorem eX5_readUnit_40 : decode (mB MX5_readUnit) 40 = .ok (.ireturn, 1) := by decide +kernel
theorem eX5_readUnit_41 : decode (mB MX5_readUnit) 41 = .ok (.aload_n 0, 1) := by decide +kernel
theorem eX5_readUnit_42 : decode (mB MX5_readUnit) 42 = .ok (.ldc 162, 2) := by decide +kernel
theorem eX5_readUnit_44 : decode (mB MX5_readUnit) 44 = .ok (.invokevirtual 91, 3) := by decide +kernel
theorem eX5_readUnit_47 : decode (mB MX5_readUnit) 47 = .ok (.ifCond .eq 36, 3) := by decide +kernel
theorem eX5_readUnit_50 : decode (mB MX5_readUnit) 50 = .ok (.aload_n 0, 1) := by decide +kernel
theorem eX5_readUnit_51 : decode (mB MX5_readUnit) 51 = .ok (.iload_n 1, 1) := by decide +kernel
theorem eX5_readUnit_52 : decode (mB MX5_readUnit) 52 = .ok (.invokevirtual 159, 3) := by decide +kernel
theorem eX5_readUnit_55 : decode (mB MX5_readUnit) 55 = .ok (.ifCond .eq 26, 3) := by decide +kernel
theorem eX5_readUnit_58 : decode (mB MX5_readUnit) 58 = .ok (.aload_n 0, 1) := by decide +kernel
theorem eX5_readUnit_59 : decode (mB MX5_readUnit) 59 = .ok (.iload_n 1, 1) := by decide +kernel
theorem eX5_readUnit_60 : decode (mB MX5_readUnit) 60 = .ok (.iconst 1, 1) := by decide +kernel
theorem eX5_readUnit_61 : decode (mB MX5_readUnit) 61 = .ok (.iadd, 1) := by decide +kernel
theorem eX5_readUnit_62 : decode (mB MX5_readUnit) 62 = .ok (.invokevirtual 134, 3) := by decide +kernel
theorem eX5_readUnit_65 : decode (mB MX5_readUnit) 65 = .ok (.ifCond .eq 16, 3) := by decide +kernel
theorem eX5_readUnit_68 : decode (mB MX5_readUnit) 68 = .ok (.aload_n 0, 1) := by decide +kernel
theorem eX5_readUnit_69 : decode (mB MX5_readUnit) 69 = .ok (.ldc 164, 2) := by decide +kernel
theorem eX5_readUnit_71 : decode (mB MX5_readUnit) 71 = .ok (.invokevirtual 67, 3) := by decide +kernel
theorem eX5_readUnit_74 : decode (mB MX5_readUnit) 74 = .ok (.ifCond .eq 7, 3) := by decide +kernel
theorem eX5_readUnit_77 : decode (mB MX5_readUnit) 77 = .ok (.iconst 1, 1) := by decide +kernel
theorem eX5_readUnit_78 : decode (mB MX5_readUnit) 78 = .ok (.goto 4, 3) := by decide +kernel
theorem eX5_readUnit_81 : decode (mB MX5_readUnit) 81 = .ok (.iconst 0, 1) := by decide +kernel
theorem eX5_readUnit_82 : decode (mB MX5_readUnit) 82 = .ok (.ireturn, 1) := by decide +kernel
theorem eX5_readUnit_83 : decode (mB MX5_readUnit) 83 = .ok (.aload_n 0, 1) := by decide +kernel
theorem eX5_readUnit_84 : decode (mB MX5_readUnit) 84 = .ok (.iload_n 1, 1) := by decide +kernel
theorem eX5_readUnit_85 : decode (mB MX5_readUnit) 85 = .ok (.invokevirtual 137, 3) := by decide +kernel
theorem eX5_readUnit_88 : decode (mB MX5_readUnit) 88 = .ok (.ifCond .ne 5, 3) := by decide +kernel
theorem eX5_readUnit_91 : decode (mB MX5_readUnit) 91 = .ok (.iconst 0, 1) := by decide +kernel
theorem eX5_readUnit_92 : decode (mB MX5_readUnit) 92 = .ok (.ireturn, 1) := by decide +kernel
theorem eX5_readUnit_93 : decode (mB MX5_readUnit) 93 = .ok (.aload_n 0, 1) := by decide +kernel
theorem eX5_readUnit_94 : decode (mB MX5_readUnit) 94 = .ok (.ldc 166, 2) := by decide +kernel
theorem eX5_readUnit_96 : decode (mB MX5_readUnit) 96 = .ok (.invokevirtual 91, 3) := by decide +kernel
theorem eX5_readUnit_99 : decode (mB MX5_readUnit) 99 = .ok (.ifCond .eq 9, 3) := by decide +kernel
theorem eX5_readUnit_102 : decode (mB MX5_readUnit) 102 = .ok (.sipush 1008, 3) := by decide +kernel
theorem eX5_readUnit_105 : decode (mB MX5_readUnit) 105 = .ok (.goto 34, 3) := by decide +kernel
theorem eX5_readUnit_108 : decode (mB MX5_readUnit) 108 = .ok (.aload_n 0, 1) := by decide +kernel
theorem eX5_readUnit_109 : decode (mB MX5_readUnit) 109 = .ok (.ldc 168, 2) := by decide +kernel
theorem eX5_readUnit_111 : decode (mB MX5_readUnit) 111 = .ok (.invokevirtual 91, 3) := by decide +kernel
theorem eX5_readUnit_114 : decode (mB MX5_readUnit) 114 = .ok (.ifCond .eq 9, 3) := by decide +kernel
theorem eX5_readUnit_117 : decode (mB MX5_readUnit) 117 = .ok (.sipush 1009, 3) := by decide +kernel
theorem eX5_readUnit_120 : decode (mB MX5_readUnit) 120 = .ok (.goto 19, 3) := by decide +kernel
theorem eX5_readUnit_123 : decode (mB MX5_readUnit) 123 = .ok (.aload_n 0, 1) := by decide +kernel
theorem eX5_readUnit_124 : decode (mB MX5_readUnit) 124 = .ok (.ldc 170, 2) := by decide +kernel
theorem eX5_readUnit_126 : decode (mB MX5_readUnit) 126 = .ok (.invokevirtual 91, 3) := by decide +kernel
theorem eX5_readUnit_129 : decode (mB MX5_readUnit) 129 = .ok (.ifCond .eq 9, 3) := by decide +kernel
theorem eX5_readUnit_132 : decode (mB MX5_readUnit) 132 = .ok (.sipush 1010, 3) := by decide +kernel
theorem eX5_readUnit_135 : decode (mB MX5_readUnit) 135 = .ok (.goto 4, 3) := by decide +kernel
theorem eX5_readUnit_138 : decode (mB MX5_readUnit) 138 = .ok (.iconst (-1), 1) := by decide +kernel
theorem eX5_readUnit_139 : decode (mB MX5_readUnit) 139 = .ok (.istore_n 2, 1) := by decide +kernel
theorem eX5_readUnit_140 : decode (mB MX5_readUnit) 140 = .ok (.iload_n 2, 1) := by decide +kernel
theorem eX5_readUnit_141 : decode (mB MX5_readUnit) 141 = .ok (.ifCond .ge 9, 3) := by decide +kernel
theorem eX5_readUnit_144 : decode (mB MX5_readUnit) 144 = .ok (.aload_n 0, 1) := by decide +kernel
theorem eX5_readUnit_145 : decode (mB MX5_readUnit) 145 = .ok (.iconst 2, 1) := by decide +kernel
theorem eX5_readUnit_146 : decode (mB MX5_readUnit) 146 = .ok (.invokevirtual 105, 3) := by decide +kernel
theorem eX5_readUnit_149 : decode (mB MX5_readUnit) 149 = .ok (.ireturn, 1) := by decide +kernel
theorem eX5_readUnit_150 : decode (mB MX5_readUnit) 150 = .ok (.aload_n 0, 1) := by decide +kernel
theorem eX5_readUnit_151 : decode (mB MX5_readUnit) 151 = .ok (.invokevirtual 48, 3) := by decide +kernel
theorem eX5_readUnit_154 : decode (mB MX5_readUnit) 154 = .ok (.aload_n 0, 1) := by decide +kernel
theorem eX5_readUnit_155 : decode (mB MX5_readUnit) 155 = .ok (.iload_n 1, 1) := by decide +kernel
theorem eX5_readUnit_156 : decode (mB MX5_readUnit) 156 = .ok (.invokevirtual 137, 3) := by decide +kernel
theorem eX5_readUnit_159 : decode (mB MX5_readUnit) 159 = .ok (.istore_n 3, 1) := by decide +kernel
theorem eX5_readUnit_160 : decode (mB MX5_readUnit) 160 = .ok (.aload_n 0, 1) := by decide +kernel
theorem eX5_readUnit_161 : decode (mB MX5_readUnit) 161 = .ok (.getfield 28, 3) := by decide +kernel
theorem eX5_readUnit_164 : decode (mB MX5_readUnit) 164 = .ok (.iload_n 2, 1) := by decide +kernel
theorem eX5_readUnit_165 : decode (mB MX5_readUnit) 165 = .ok (.invokevirtual 148, 3) := by decide +kernel
theorem eX5_readUnit_168 : decode (mB MX5_readUnit) 168 = .ok (.iload_n 3, 1) := by decide +kernel
theorem eX5_readUnit_169 : decode (mB MX5_readUnit) 169 = .ok (.ireturn, 1) := by decide +kernel
theorem eX5_readSum_0 : decode (mB MX5_readSum) 0 = .ok (.aload_n 0, 1) := by decide +kernel
theorem eX5_readSum_1 : decode (mB MX5_readSum) 1 = .ok (.iload_n 1, 1) := by decide +kernel
theorem eX5_readSum_2 : decode (mB MX5_readSum) 2 = .ok (.invokevirtual 172, 3) := by decide +kernel
theorem eX5_readSum_5 : decode (mB MX5_readSum) 5 = .ok (.istore_n 2, 1) := by decide +kernel
theorem eX5_readSum_6 : decode (mB MX5_readSum) 6 = .ok (.iconst 0, 1) := by decide +kernel
theorem eX5_readSum_7 : decode (mB MX5_readSum) 7 = .ok (.istore_n 3, 1) := by decide +kernel
theorem eX5_readSum_8 : decode (mB MX5_readSum) 8 = .ok (.iload_n 3, 1) := by decide +kernel
theorem eX5_readSum_9 : decode (mB MX5_readSum) 9 = .ok (.sipush 900, 3) := by decide +kernel
theorem eX5_readSum_12 : decode (mB MX5_readSum) 12 = .ok (.if_icmp .ge 70, 3) := by decide +kernel
theorem eX5_readSum_15 : decode (mB MX5_readSum) 15 = .ok (.iload_n 2, 1) := by decide +kernel
theorem eX5_readSum_16 : decode (mB MX5_readSum) 16 = .ok (.ifCond .eq 66, 3) := by decide +kernel
theorem eX5_readSum_19 : decode (mB MX5_readSum) 19 = .ok (.aload_n 0, 1) := by decide +kernel
theorem eX5_readSum_20 : decode (mB MX5_readSum) 20 = .ok (.ldc 175, 2) := by decide +kernel
theorem eX5_readSum_22 : decode (mB MX5_readSum) 22 = .ok (.invokevirtual 91, 3) := by decide +kernel
theorem eX5_readSum_25 : decode (mB MX5_readSum) 25 = .ok (.ifCond .ne 12, 3) := by decide +kernel
theorem eX5_readSum_28 : decode (mB MX5_readSum) 28 = .ok (.aload_n 0, 1) := by decide +kernel
theorem eX5_readSum_29 : decode (mB MX5_readSum) 29 = .ok (.ldc 177, 2) := by decide +kernel
theorem eX5_readSum_31 : decode (mB MX5_readSum) 31 = .ok (.invokevirtual 91, 3) := by decide +kernel
theorem eX5_readSum_34 : decode (mB MX5_readSum) 34 = .ok (.ifCond .eq 48, 3) := by decide +kernel
theorem eX5_readSum_37 : decode (mB MX5_readSum) 37 = .ok (.aload_n 0, 1) := by decide +kernel
theorem eX5_readSum_38 : decode (mB MX5_readSum) 38 = .ok (.ldc 175, 2) := by decide +kernel
theorem eX5_readSum_40 : decode (mB MX5_readSum) 40 = .ok (.invokevirtual 91, 3) := by decide +kernel
theorem eX5_readSum_43 : decode (mB MX5_readSum) 43 = .ok (.ifCond .eq 9, 3) := by decide +kernel
theorem eX5_readSum_46 : decode (mB MX5_readSum) 46 = .ok (.sipush 1005, 3) := by decide +kernel
theorem eX5_readSum_49 : decode (mB MX5_readSum) 49 = .ok (.goto 6, 3) := by decide +kernel
theorem eX5_readSum_52 : decode (mB MX5_readSum) 52 = .ok (.sipush 1006, 3) := by decide +kernel
theorem eX5_readSum_55 : decode (mB MX5_readSum) 55 = .ok (.istore 4, 2) := by decide +kernel
theorem eX5_readSum_57 : decode (mB MX5_readSum) 57 = .ok (.aload_n 0, 1) := by decide +kernel
theorem eX5_readSum_58 : decode (mB MX5_readSum) 58 = .ok (.invokevirtual 48, 3) := by decide +kernel
theorem eX5_readSum_61 : decode (mB MX5_readSum) 61 = .ok (.aload_n 0, 1) := by decide +kernel
theorem eX5_readSum_62 : decode (mB MX5_readSum) 62 = .ok (.iload_n 1, 1) := by decide +kernel
theorem eX5_readSum_63 : decode (mB MX5_readSum) 63 = .ok (.invokevirtual 172, 3) := by decide +kernel
theorem eX5_readSum_66 : decode (mB MX5_readSum) 66 = .ok (.istore_n 2, 1) := by decide +kernel
theorem eX5_readSum_67 : decode (mB MX5_readSum) 67 = .ok (.aload_n 0, 1) := by decide +kernel
theorem eX5_readSum_68 : decode (mB MX5_readSum) 68 = .ok (.getfield 28, 3) := by decide +kernel
theorem eX5_readSum_71 : decode (mB MX5_readSum) 71 = .ok (.iload 4, 2) := by decide +kernel
theorem eX5_readSum_73 : decode (mB MX5_readSum) 73 = .ok (.invokevirtual 148, 3) := by decide +kernel
theorem eX5_readSum_76 : decode (mB MX5_readSum) 76 = .ok (.iinc 3 1, 3) := by decide +kernel
theorem eX5_readSum_79 : decode (mB MX5_readSum) 79 = .ok (.goto (-71), 3) := by decide +kernel
theorem eX5_readSum_82 : decode (mB MX5_readSum) 82 = .ok (.iload_n 2, 1) := by decide +kernel
theorem eX5_readSum_83 : decode (mB MX5_readSum) 83 = .ok (.ireturn, 1) := by decide +kernel
theorem eX5_readTerm_0 : decode (mB MX5_readTerm) 0 = .ok (.aload_n 0, 1) := by decide +kernel
theorem eX5_readTerm_1 : decode (mB MX5_readTerm) 1 = .ok (.iload_n 1, 1) := by decide +kernel
theorem eX5_readTerm_2 : decode (mB MX5_readTerm) 2 = .ok (.invokevirtual 179, 3) := by decide +kernel
theorem eX5_readTerm_5 : decode (mB MX5_readTerm) 5 = .ok (.istore_n 2, 1) := by decide +kernel
theorem eX5_readTerm_6 : decode (mB MX5_readTerm) 6 = .ok (.iconst 0, 1) := by decide +kernel
theorem eX5_readTerm_7 : decode (mB MX5_readTerm) 7 = .ok (.istore_n 3, 1) := by decide +kernel
theorem eX5_readTerm_8 : decode (mB MX5_readTerm) 8 = .ok (.iload_n 3, 1) := by decide +kernel
theorem eX5_readTerm_9 : decode (mB MX5_readTerm) 9 = .ok (.sipush 900, 3) := by decide +kernel
theorem eX5_readTerm_12 : decode (mB MX5_readTerm) 12 = .ok (.if_icmp .ge 42, 3) := by decide +kernel
theorem eX5_readTerm_15 : decode (mB MX5_readTerm) 15 = .ok (.iload_n 2, 1) := by decide +kernel
theorem eX5_readTerm_16 : decode (mB MX5_readTerm) 16 = .ok (.ifCond .eq 38, 3) := by decide +kernel
theorem eX5_readTerm_19 : decode (mB MX5_readTerm) 19 = .ok (.aload_n 0, 1) := by decide +kernel
theorem eX5_readTerm_20 : decode (mB MX5_readTerm) 20 = .ok (.ldc 182, 2) := by decide +kernel
theorem eX5_readTerm_22 : decode (mB MX5_readTerm) 22 = .ok (.invokevirtual 91, 3) := by decide +kernel
theorem eX5_readTerm_25 : decode (mB MX5_readTerm) 25 = .ok (.ifCond .eq 29, 3) := by decide +kernel
theorem eX5_readTerm_28 : decode (mB MX5_readTerm) 28 = .ok (.aload_n 0, 1) := by decide +kernel
theorem eX5_readTerm_29 : decode (mB MX5_readTerm) 29 = .ok (.invokevirtual 48, 3) := by decide +kernel
theorem eX5_readTerm_32 : decode (mB MX5_readTerm) 32 = .ok (.aload_n 0, 1) := by decide +kernel
theorem eX5_readTerm_33 : decode (mB MX5_readTerm) 33 = .ok (.iload_n 1, 1) := by decide +kernel
theorem eX5_readTerm_34 : decode (mB MX5_readTerm) 34 = .ok (.invokevirtual 179, 3) := by decide +kernel
theorem eX5_readTerm_37 : decode (mB MX5_readTerm) 37 = .ok (.istore_n 2, 1) := by decide +kernel
theorem eX5_readTerm_38 : decode (mB MX5_readTerm) 38 = .ok (.aload_n 0, 1) := by decide +kernel
theorem eX5_readTerm_39 : decode (mB MX5_readTerm) 39 = .ok (.getfield 28, 3) := by decide +kernel
theorem eX5_readTerm_42 : decode (mB MX5_readTerm) 42 = .ok (.sipush 1007, 3) := by decide +kernel
theorem eX5_readTerm_45 : decode (mB MX5_readTerm) 45 = .ok (.invokevirtual 148, 3) := by decide +kernel
theorem eX5_readTerm_48 : decode (mB MX5_readTerm) 48 = .ok (.iinc 3 1, 3) := by decide +kernel
theorem eX5_readTerm_51 : decode (mB MX5_readTerm) 51 = .ok (.goto (-43), 3) := by decide +kernel
theorem eX5_readTerm_54 : decode (mB MX5_readTerm) 54 = .ok (.iload_n 2, 1) := by decide +kernel
theorem eX5_readTerm_55 : decode (mB MX5_readTerm) 55 = .ok (.ireturn, 1) := by decide +kernel
theorem eX5_readAtom_0 : decode (mB MX5_readAtom) 0 = .ok (.aload_n 0, 1) := by decide +kernel
theorem eX5_readAtom_1 : decode (mB MX5_readAtom) 1 = .ok (.ldc 184, 2) := by decide +kernel
theorem eX5_readAtom_3 : decode (mB MX5_readAtom) 3 = .ok (.invokevirtual 91, 3) := by decide +kernel
theorem eX5_readAtom_6 : decode (mB MX5_readAtom) 6 = .ok (.ifCond .eq 36, 3) := by decide +kernel
theorem eX5_readAtom_9 : decode (mB MX5_readAtom) 9 = .ok (.aload_n 0, 1) := by decide +kernel
theorem eX5_readAtom_10 : decode (mB MX5_readAtom) 10 = .ok (.iload_n 1, 1) := by decide +kernel
theorem eX5_readAtom_11 : decode (mB MX5_readAtom) 11 = .ok (.invokevirtual 159, 3) := by decide +kernel
theorem eX5_readAtom_14 : decode (mB MX5_readAtom) 14 = .ok (.ifCond .eq 26, 3) := by decide +kernel
theorem eX5_readAtom_17 : decode (mB MX5_readAtom) 17 = .ok (.aload_n 0, 1) := by decide +kernel
theorem eX5_readAtom_18 : decode (mB MX5_readAtom) 18 = .ok (.iload_n 1, 1) := by decide +kernel
theorem eX5_readAtom_19 : decode (mB MX5_readAtom) 19 = .ok (.iconst 1, 1) := by decide +kernel
theorem eX5_readAtom_20 : decode (mB MX5_readAtom) 20 = .ok (.iadd, 1) := by decide +kernel
theorem eX5_readAtom_21 : decode (mB MX5_readAtom) 21 = .ok (.invokevirtual 137, 3) := by decide +kernel
theorem eX5_readAtom_24 : decode (mB MX5_readAtom) 24 = .ok (.ifCond .eq 16, 3) := by decide +kernel
theorem eX5_readAtom_27 : decode (mB MX5_readAtom) 27 = .ok (.aload_n 0, 1) := by decide +kernel
theorem eX5_readAtom_28 : decode (mB MX5_readAtom) 28 = .ok (.ldc 186, 2) := by decide +kernel
theorem eX5_readAtom_30 : decode (mB MX5_readAtom) 30 = .ok (.invokevirtual 67, 3) := by decide +kernel
theorem eX5_readAtom_33 : decode (mB MX5_readAtom) 33 = .ok (.ifCond .eq 7, 3) := by decide +kernel
theorem eX5_readAtom_36 : decode (mB MX5_readAtom) 36 = .ok (.iconst 1, 1) := by decide +kernel
theorem eX5_readAtom_37 : decode (mB MX5_readAtom) 37 = .ok (.goto 4, 3) := by decide +kernel
theorem eX5_readAtom_40 : decode (mB MX5_readAtom) 40 = .ok (.iconst 0, 1) := by decide +kernel
theorem eX5_readAtom_41 : decode (mB MX5_readAtom) 41 = .ok (.ireturn, 1) := by decide +kernel
theorem eX5_readAtom_42 : decode (mB MX5_readAtom) 42 = .ok (.aload_n 0, 1) := by decide +kernel
theorem eX5_readAtom_43 : decode (mB MX5_readAtom) 43 = .ok (.ldc 188, 2) := by decide +kernel
theorem eX5_readAtom_45 : decode (mB MX5_readAtom) 45 = .ok (.invokevirtual 91, 3) := by decide +kernel
theorem eX5_readAtom_48 : decode (mB MX5_readAtom) 48 = .ok (.ifCond .eq 27, 3) := by decide +kernel
theorem eX5_readAtom_51 : decode (mB MX5_readAtom) 51 = .ok (.aload_n 0, 1) := by decide +kernel
theorem eX5_readAtom_52 : decode (mB MX5_readAtom) 52 = .ok (.iload_n 1, 1) := by decide +kernel
theorem eX5_readAtom_53 : decode (mB MX5_readAtom) 53 = .ok (.invokevirtual 159, 3) := by decide +kernel
theorem eX5_readAtom_56 : decode (mB MX5_readAtom) 56 = .ok (.ifCond .eq 17, 3) := by decide +kernel
theorem eX5_readAtom_59 : decode (mB MX5_readAtom) 59 = .ok (.aload_n 0, 1) := by decide +kernel
theorem eX5_readAtom_60 : decode (mB MX5_readAtom) 60 = .ok (.iload_n 1, 1) := by decide +kernel
theorem eX5_readAtom_61 : decode (mB MX5_readAtom) 61 = .ok (.iconst 1, 1) := by decide +kernel
theorem eX5_readAtom_62 : decode (mB MX5_readAtom) 62 = .ok (.iadd, 1) := by decide +kernel
theorem eX5_readAtom_63 : decode (mB MX5_readAtom) 63 = .ok (.invokevirtual 190, 3) := by decide +kernel
theorem eX5_readAtom_66 : decode (mB MX5_readAtom) 66 = .ok (.ifCond .eq 7, 3) := by decide +kernel
theorem eX5_readAtom_69 : decode (mB MX5_readAtom) 69 = .ok (.iconst 1, 1) := by decide +kernel
theorem eX5_readAtom_70 : decode (mB MX5_readAtom) 70 = .ok (.goto 4, 3) := by decide +kernel
theorem eX5_readAtom_73 : decode (mB MX5_readAtom) 73 = .ok (.iconst 0, 1) := by decide +kernel
theorem eX5_readAtom_74 : decode (mB MX5_readAtom) 74 = .ok (.ireturn, 1) := by decide +kernel
theorem eX5_readAtom_75 : decode (mB MX5_readAtom) 75 = .ok (.aload_n 0, 1) := by decide +kernel
theorem eX5_readAtom_76 : decode (mB MX5_readAtom) 76 = .ok (.getfield 193, 3) := by decide +kernel
theorem eX5_readAtom_79 : decode (mB MX5_readAtom) 79 = .ok (.ifCond .lt 10, 3) := by decide +kernel
theorem eX5_readAtom_82 : decode (mB MX5_readAtom) 82 = .ok (.aload_n 0, 1) := by decide +kernel
theorem eX5_readAtom_83 : decode (mB MX5_readAtom) 83 = .ok (.getfield 193, 3) := by decide +kernel
theorem eX5_readAtom_86 : decode (mB MX5_readAtom) 86 = .ok (.goto 7, 3) := by decide +kernel
theorem eX5_readAtom_89 : decode (mB MX5_readAtom) 89 = .ok (.aload_n 0, 1) := by decide +kernel
theorem eX5_readAtom_90 : decode (mB MX5_readAtom) 90 = .ok (.invokevirtual 196, 3) := by decide +kernel
theorem eX5_readAtom_93 : decode (mB MX5_readAtom) 93 = .ok (.istore_n 2, 1) := by decide +kernel
theorem eX5_readAtom_94 : decode (mB MX5_readAtom) 94 = .ok (.iload_n 2, 1) := by decide +kernel
theorem eX5_readAtom_95 : decode (mB MX5_readAtom) 95 = .ok (.ifCond .ge 9, 3) := by decide +kernel
theorem eX5_readAtom_98 : decode (mB MX5_readAtom) 98 = .ok (.aload_n 0, 1) := by decide +kernel
theorem eX5_readAtom_99 : decode (mB MX5_readAtom) 99 = .ok (.iconst 2, 1) := by decide +kernel
theorem eX5_readAtom_100 : decode (mB MX5_readAtom) 100 = .ok (.invokevirtual 105, 3) := by decide +kernel
theorem eX5_readAtom_103 : decode (mB MX5_readAtom) 103 = .ok (.ireturn, 1) := by decide +kernel
theorem eX5_readAtom_104 : decode (mB MX5_readAtom) 104 = .ok (.aload_n 0, 1) := by decide +kernel
theorem eX5_readAtom_105 : decode (mB MX5_readAtom) 105 = .ok (.getfield 28, 3) := by decide +kernel
theorem eX5_readAtom_108 : decode (mB MX5_readAtom) 108 = .ok (.iload_n 2, 1) := by decide +kernel
theorem eX5_readAtom_109 : decode (mB MX5_readAtom) 109 = .ok (.invokevirtual 148, 3) := by decide +kernel
theorem eX5_readAtom_112 : decode (mB MX5_readAtom) 112 = .ok (.aload_n 0, 1) := by decide +kernel
theorem eX5_readAtom_113 : decode (mB MX5_readAtom) 113 = .ok (.invokevirtual 48, 3) := by decide +kernel
theorem eX5_readAtom_116 : decode (mB MX5_readAtom) 116 = .ok (.iconst 1, 1) := by decide +kernel
theorem eX5_readAtom_117 : decode (mB MX5_readAtom) 117 = .ok (.ireturn, 1) := by decide +kernel
theorem eX5_readChoice_0 : decode (mB MX5_readChoice) 0 = .ok (.aload_n 0, 1) := by decide +kernel
theorem eX5_readChoice_1 : decode (mB MX5_readChoice) 1 = .ok (.iload_n 1, 1) := by decide +kernel
theorem eX5_readChoice_2 : decode (mB MX5_readChoice) 2 = .ok (.invokevirtual 134, 3) := by decide +kernel
theorem eX5_readChoice_5 : decode (mB MX5_readChoice) 5 = .ok (.ifCond .eq 46, 3) := by decide +kernel
theorem eX5_readChoice_8 : decode (mB MX5_readChoice) 8 = .ok (.aload_n 0, 1) := by decide +kernel
theorem eX5_readChoice_9 : decode (mB MX5_readChoice) 9 = .ok (.ldc 200, 2) := by decide +kernel
theorem eX5_readChoice_11 : decode (mB MX5_readChoice) 11 = .ok (.invokevirtual 67, 3) := by decide +kernel
theorem eX5_readChoice_14 : decode (mB MX5_readChoice) 14 = .ok (.ifCond .eq 37, 3) := by decide +kernel
theorem eX5_readChoice_17 : decode (mB MX5_readChoice) 17 = .ok (.aload_n 0, 1) := by decide +kernel
theorem eX5_readChoice_18 : decode (mB MX5_readChoice) 18 = .ok (.iload_n 1, 1) := by decide +kernel
theorem eX5_readChoice_19 : decode (mB MX5_readChoice) 19 = .ok (.invokevirtual 137, 3) := by decide +kernel
theorem eX5_readChoice_22 : decode (mB MX5_readChoice) 22 = .ok (.ifCond .eq 29, 3) := by decide +kernel
theorem eX5_readChoice_25 : decode (mB MX5_readChoice) 25 = .ok (.aload_n 0, 1) := by decide +kernel
theorem eX5_readChoice_26 : decode (mB MX5_readChoice) 26 = .ok (.ldc 202, 2) := by decide +kernel
theorem eX5_readChoice_28 : decode (mB MX5_readChoice) 28 = .ok (.invokevirtual 67, 3) := by decide +kernel
theorem eX5_readChoice_31 : decode (mB MX5_readChoice) 31 = .ok (.ifCond .eq 20, 3) := by decide +kernel
theorem eX5_readChoice_34 : decode (mB MX5_readChoice) 34 = .ok (.aload_n 0, 1) := by decide +kernel
theorem eX5_readChoice_35 : decode (mB MX5_readChoice) 35 = .ok (.iload_n 1, 1) := by decide +kernel
theorem eX5_readChoice_36 : decode (mB MX5_readChoice) 36 = .ok (.invokevirtual 137, 3) := by decide +kernel
theorem eX5_readChoice_39 : decode (mB MX5_readChoice) 39 = .ok (.ifCond .eq 12, 3) := by decide +kernel
theorem eX5_readChoice_42 : decode (mB MX5_readChoice) 42 = .ok (.aload_n 0, 1) := by decide +kernel
theorem eX5_readChoice_43 : decode (mB MX5_readChoice) 43 = .ok (.ldc 204, 2) := by decide +kernel
theorem eX5_readChoice_45 : decode (mB MX5_readChoice) 45 = .ok (.invokevirtual 67, 3) := by decide +kernel
theorem eX5_readChoice_48 : decode (mB MX5_readChoice) 48 = .ok (.ifCond .ne 5, 3) := by decide +kernel
theorem eX5_readChoice_51 : decode (mB MX5_readChoice) 51 = .ok (.iconst 0, 1) := by decide +kernel
theorem eX5_readChoice_52 : decode (mB MX5_readChoice) 52 = .ok (.ireturn, 1) := by decide +kernel
theorem eX5_readChoice_53 : decode (mB MX5_readChoice) 53 = .ok (.aload_n 0, 1) := by decide +kernel
theorem eX5_readChoice_54 : decode (mB MX5_readChoice) 54 = .ok (.getfield 28, 3) := by decide +kernel
theorem eX5_readChoice_57 : decode (mB MX5_readChoice) 57 = .ok (.sipush 1014, 3) := by decide +kernel
theorem eX5_readChoice_60 : decode (mB MX5_readChoice) 60 = .ok (.invokevirtual 148, 3) := by decide +kernel
theorem eX5_readChoice_63 : decode (mB MX5_readChoice) 63 = .ok (.iconst 1, 1) := by decide +kernel
theorem eX5_readChoice_64 : decode (mB MX5_readChoice) 64 = .ok (.ireturn, 1) := by decide +kernel
theorem eX5_wordCode_0 : decode (mB MX5_wordCode) 0 = .ok (.aload_n 0, 1) := by decide +kernel
theorem eX5_wordCode_1 : decode (mB MX5_wordCode) 1 = .ok (.ldc 77, 2) := by decide +kernel
theorem eX5_wordCode_3 : decode (mB MX5_wordCode) 3 = .ok (.invokevirtual 91, 3) := by decide +kernel
theorem eX5_wordCode_6 : decode (mB MX5_wordCode) 6 = .ok (.ifCond .eq 7, 3) := by decide +kernel
theorem eX5_wordCode_9 : decode (mB MX5_wordCode) 9 = .ok (.sipush 1000, 3) := by decide +kernel
theorem eX5_wordCode_12 : decode (mB MX5_wordCode) 12 = .ok (.ireturn, 1) := by decide +kernel
theorem eX5_wordCode_13 : decode (mB MX5_wordCode) 13 = .ok (.aload_n 0, 1) := by decide +kernel
theorem eX5_wordCode_14 : decode (mB MX5_wordCode) 14 = .ok (.ldc 116, 2) := by decide +kernel
theorem eX5_wordCode_16 : decode (mB MX5_wordCode) 16 = .ok (.invokevirtual 91, 3) := by decide +kernel
theorem eX5_wordCode_19 : decode (mB MX5_wordCode) 19 = .ok (.ifCond .eq 7, 3) := by decide +kernel
theorem eX5_wordCode_22 : decode (mB MX5_wordCode) 22 = .ok (.sipush 1001, 3) := by decide +kernel
theorem eX5_wordCode_25 : decode (mB MX5_wordCode) 25 = .ok (.ireturn, 1) := by decide +kernel
theorem eX5_wordCode_26 : decode (mB MX5_wordCode) 26 = .ok (.aload_n 0, 1) := by decide +kernel
theorem eX5_wordCode_27 : decode (mB MX5_wordCode) 27 = .ok (.ldc 118, 2) := by decide +kernel
theorem eX5_wordCode_29 : decode (mB MX5_wordCode) 29 = .ok (.invokevirtual 91, 3) := by decide +kernel
theorem eX5_wordCode_32 : decode (mB MX5_wordCode) 32 = .ok (.ifCond .eq 7, 3) := by decide +kernel
theorem eX5_wordCode_35 : decode (mB MX5_wordCode) 35 = .ok (.sipush 1002, 3) := by decide +kernel
theorem eX5_wordCode_38 : decode (mB MX5_wordCode) 38 = .ok (.ireturn, 1) := by decide +kernel
theorem eX5_wordCode_39 : decode (mB MX5_wordCode) 39 = .ok (.aload_n 0, 1) := by decide +kernel
theorem eX5_wordCode_40 : decode (mB MX5_wordCode) 40 = .ok (.aload_n 0, 1) := by decide +kernel
theorem eX5_wordCode_41 : decode (mB MX5_wordCode) 41 = .ok (.getfield 124, 3) := by decide +kernel
theorem eX5_wordCode_44 : decode (mB MX5_wordCode) 44 = .ok (.ifCond .eq 8, 3) := by decide +kernel
theorem eX5_wordCode_47 : decode (mB MX5_wordCode) 47 = .ok (.ldc 205, 2) := by decide +kernel
theorem eX5_wordCode_49 : decode (mB MX5_wordCode) 49 = .ok (.goto 5, 3) := by decide +kernel
theorem eX5_wordCode_52 : decode (mB MX5_wordCode) 52 = .ok (.ldc 206, 2) := by decide +kernel
theorem eX5_wordCode_54 : decode (mB MX5_wordCode) 54 = .ok (.invokevirtual 91, 3) := by decide +kernel
theorem eX5_wordCode_57 : decode (mB MX5_wordCode) 57 = .ok (.ifCond .eq 7, 3) := by decide +kernel
theorem eX5_wordCode_60 : decode (mB MX5_wordCode) 60 = .ok (.sipush 1003, 3) := by decide +kernel
theorem eX5_wordCode_63 : decode (mB MX5_wordCode) 63 = .ok (.ireturn, 1) := by decide +kernel
theorem eX5_wordCode_64 : decode (mB MX5_wordCode) 64 = .ok (.aload_n 0, 1) := by decide +kernel
theorem eX5_wordCode_65 : decode (mB MX5_wordCode) 65 = .ok (.aload_n 0, 1) := by decide +kernel
theorem eX5_wordCode_66 : decode (mB MX5_wordCode) 66 = .ok (.getfield 124, 3) := by decide +kernel
theorem eX5_wordCode_69 : decode (mB MX5_wordCode) 69 = .ok (.ifCond .eq 8, 3) := by decide +kernel
theorem eX5_wordCode_72 : decode (mB MX5_wordCode) 72 = .ok (.ldc 208, 2) := by decide +kernel
theorem eX5_wordCode_74 : decode (mB MX5_wordCode) 74 = .ok (.goto 5, 3) := by decide +kernel
theorem eX5_wordCode_77 : decode (mB MX5_wordCode) 77 = .ok (.ldc 210, 2) := by decide +kernel
theorem eX5_wordCode_79 : decode (mB MX5_wordCode) 79 = .ok (.invokevirtual 91, 3) := by decide +kernel
theorem eX5_wordCode_82 : decode (mB MX5_wordCode) 82 = .ok (.ifCond .eq 9, 3) := by decide +kernel
theorem eX5_wordCode_85 : decode (mB MX5_wordCode) 85 = .ok (.sipush 1004, 3) := by decide +kernel
theorem eX5_wordCode_88 : decode (mB MX5_wordCode) 88 = .ok (.goto 4, 3) := by decide +kernel
theorem eX5_wordCode_91 : decode (mB MX5_wordCode) 91 = .ok (.iconst (-1), 1) := by decide +kernel
theorem eX5_wordCode_92 : decode (mB MX5_wordCode) 92 = .ok (.ireturn, 1) := by decide +kernel
theorem eX5_goWithin_0 : decode (mB MX5_goWithin) 0 = .ok (.iload_n 1, 1) := by decide +kernel
theorem eX5_goWithin_1 : decode (mB MX5_goWithin) 1 = .ok (.bipush 6, 2) := by decide +kernel
theorem eX5_goWithin_3 : decode (mB MX5_goWithin) 3 = .ok (.if_icmp .lt 9, 3) := by decide +kernel
theorem eX5_goWithin_6 : decode (mB MX5_goWithin) 6 = .ok (.aload_n 0, 1) := by decide +kernel
theorem eX5_goWithin_7 : decode (mB MX5_goWithin) 7 = .ok (.iconst 4, 1) := by decide +kernel
theorem eX5_goWithin_8 : decode (mB MX5_goWithin) 8 = .ok (.invokevirtual 105, 3) := by decide +kernel
theorem eX5_goWithin_11 : decode (mB MX5_goWithin) 11 = .ok (.ireturn, 1) := by decide +kernel
theorem eX5_goWithin_12 : decode (mB MX5_goWithin) 12 = .ok (.aload_n 0, 1) := by decide +kernel
theorem eX5_goWithin_13 : decode (mB MX5_goWithin) 13 = .ok (.invokevirtual 48, 3) := by decide +kernel
theorem eX5_goWithin_16 : decode (mB MX5_goWithin) 16 = .ok (.iconst 1, 1) := by decide +kernel
theorem eX5_goWithin_17 : decode (mB MX5_goWithin) 17 = .ok (.ireturn, 1) := by decide +kernel
theorem eX5_readNumber_0 : decode (mB MX5_readNumber) 0 = .ok (.aload_n 0, 1) := by decide +kernel
theorem eX5_readNumber_1 : decode (mB MX5_readNumber) 1 = .ok (.getfield 193, 3) := by decide +kernel
theorem eX5_readNumber_4 : decode (mB MX5_readNumber) 4 = .ok (.ifCond .ge 11, 3) := by decide +kernel
theorem eX5_readNumber_7 : decode (mB MX5_readNumber) 7 = .ok (.aload_n 0, 1) := by decide +kernel
theorem eX5_readNumber_8 : decode (mB MX5_readNumber) 8 = .ok (.iconst 2, 1) := by decide +kernel
theorem eX5_readNumber_9 : decode (mB MX5_readNumber) 9 = .ok (.invokevirtual 105, 3) := by decide +kernel
theorem eX5_readNumber_12 : decode (mB MX5_readNumber) 12 = .ok (.pop, 1) := by decide +kernel
theorem eX5_readNumber_13 : decode (mB MX5_readNumber) 13 = .ok (.iconst (-1), 1) := by decide +kernel
theorem eX5_readNumber_14 : decode (mB MX5_readNumber) 14 = .ok (.ireturn, 1) := by decide +kernel
theorem eX5_readNumber_15 : decode (mB MX5_readNumber) 15 = .ok (.aload_n 0, 1) := by decide +kernel
theorem eX5_readNumber_16 : decode (mB MX5_readNumber) 16 = .ok (.getfield 193, 3) := by decide +kernel
theorem eX5_readNumber_19 : decode (mB MX5_readNumber) 19 = .ok (.iload_n 1, 1) := by decide +kernel
theorem eX5_readNumber_20 : decode (mB MX5_readNumber) 20 = .ok (.if_icmp .lt 22, 3) := by decide +kernel
theorem eX5_readNumber_23 : decode (mB MX5_readNumber) 23 = .ok (.aload_n 0, 1) := by decide +kernel
theorem eX5_readNumber_24 : decode (mB MX5_readNumber) 24 = .ok (.getfield 193, 3) := by decide +kernel
theorem eX5_readNumber_27 : decode (mB MX5_readNumber) 27 = .ok (.iload_n 2, 1) := by decide +kernel
theorem eX5_readNumber_28 : decode (mB MX5_readNumber) 28 = .ok (.if_icmp .gt 14, 3) := by decide +kernel
theorem eX5_readNumber_31 : decode (mB MX5_readNumber) 31 = .ok (.iload_n 3, 1) := by decide +kernel
theorem eX5_readNumber_32 : decode (mB MX5_readNumber) 32 = .ok (.aload_n 0, 1) := by decide +kernel
theorem eX5_readNumber_33 : decode (mB MX5_readNumber) 33 = .ok (.getfield 193, 3) := by decide +kernel
theorem eX5_readNumber_36 : decode (mB MX5_readNumber) 36 = .ok (.ishr, 1) := by decide +kernel
theorem eX5_readNumber_37 : decode (mB MX5_readNumber) 37 = .ok (.iconst 1, 1) := by decide +kernel
theorem eX5_readNumber_38 : decode (mB MX5_readNumber) 38 = .ok (.iand, 1) := by decide +kernel
theorem eX5_readNumber_39 : decode (mB MX5_readNumber) 39 = .ok (.ifCond .eq 11, 3) := by decide +kernel
theorem eX5_readNumber_42 : decode (mB MX5_readNumber) 42 = .ok (.aload_n 0, 1) := by decide +kernel
theorem eX5_readNumber_43 : decode (mB MX5_readNumber) 43 = .ok (.iconst 3, 1) := by decide +kernel
theorem eX5_readNumber_44 : decode (mB MX5_readNumber) 44 = .ok (.invokevirtual 105, 3) := by decide +kernel
theorem eX5_readNumber_47 : decode (mB MX5_readNumber) 47 = .ok (.pop, 1) := by decide +kernel
theorem eX5_readNumber_48 : decode (mB MX5_readNumber) 48 = .ok (.iconst (-1), 1) := by decide +kernel
theorem eX5_readNumber_49 : decode (mB MX5_readNumber) 49 = .ok (.ireturn, 1) := by decide +kernel
theorem eX5_readNumber_50 : decode (mB MX5_readNumber) 50 = .ok (.aload_n 0, 1) := by decide +kernel
theorem eX5_readNumber_51 : decode (mB MX5_readNumber) 51 = .ok (.getfield 193, 3) := by decide +kernel
theorem eX5_readNumber_54 : decode (mB MX5_readNumber) 54 = .ok (.istore 4, 2) := by decide +kernel
theorem eX5_readNumber_56 : decode (mB MX5_readNumber) 56 = .ok (.aload_n 0, 1) := by decide +kernel
theorem eX5_readNumber_57 : decode (mB MX5_readNumber) 57 = .ok (.invokevirtual 48, 3) := by decide +kernel
theorem eX5_readNumber_60 : decode (mB MX5_readNumber) 60 = .ok (.iload 4, 2) := by decide +kernel
theorem eX5_readNumber_62 : decode (mB MX5_readNumber) 62 = .ok (.ireturn, 1) := by decide +kernel
theorem eX5_pass_0 : decode (mB MX5_pass) 0 = .ok (.aload_n 0, 1) := by decide +kernel
theorem eX5_pass_1 : decode (mB MX5_pass) 1 = .ok (.aload_n 1, 1) := by decide +kernel
theorem eX5_pass_2 : decode (mB MX5_pass) 2 = .ok (.invokevirtual 91, 3) := by decide +kernel
theorem eX5_pass_5 : decode (mB MX5_pass) 5 = .ok (.ifCond .ne 9, 3) := by decide +kernel
theorem eX5_pass_8 : decode (mB MX5_pass) 8 = .ok (.aload_n 0, 1) := by decide +kernel
theorem eX5_pass_9 : decode (mB MX5_pass) 9 = .ok (.iconst 2, 1) := by decide +kernel
theorem eX5_pass_10 : decode (mB MX5_pass) 10 = .ok (.invokevirtual 105, 3) := by decide +kernel
theorem eX5_pass_13 : decode (mB MX5_pass) 13 = .ok (.ireturn, 1) := by decide +kernel
theorem eX5_pass_14 : decode (mB MX5_pass) 14 = .ok (.aload_n 0, 1) := by decide +kernel
theorem eX5_pass_15 : decode (mB MX5_pass) 15 = .ok (.invokevirtual 48, 3) := by decide +kernel
theorem eX5_pass_18 : decode (mB MX5_pass) 18 = .ok (.iconst 1, 1) := by decide +kernel
theorem eX5_pass_19 : decode (mB MX5_pass) 19 = .ok (.ireturn, 1) := by decide +kernel
theorem eX5_refuse_0 : decode (mB MX5_refuse) 0 = .ok (.aload_n 0, 1) := by decide +kernel
theorem eX5_refuse_1 : decode (mB MX5_refuse) 1 = .ok (.getfield 15, 3) := by decide +kernel
theorem eX5_refuse_4 : decode (mB MX5_refuse) 4 = .ok (.ifCond .ne 16, 3) := by decide +kernel
theorem eX5_refuse_7 : decode (mB MX5_refuse) 7 = .ok (.aload_n 0, 1) := by decide +kernel
theorem eX5_refuse_8 : decode (mB MX5_refuse) 8 = .ok (.iload_n 1, 1) := by decide +kernel
theorem eX5_refuse_9 : decode (mB MX5_refuse) 9 = .ok (.putfield 15, 3) := by decide +kernel
theorem eX5_refuse_12 : decode (mB MX5_refuse) 12 = .ok (.aload_n 0, 1) := by decide +kernel
theorem eX5_refuse_13 : decode (mB MX5_refuse) 13 = .ok (.aload_n 0, 1) := by decide +kernel
theorem eX5_refuse_14 : decode (mB MX5_refuse) 14 = .ok (.getfield 55, 3) := by decide +kernel
theorem eX5_refuse_17 : decode (mB MX5_refuse) 17 = .ok (.putfield 18, 3) := by decide +kernel
theorem eX5_refuse_20 : decode (mB MX5_refuse) 20 = .ok (.iconst 0, 1) := by decide +kernel
theorem eX5_refuse_21 : decode (mB MX5_refuse) 21 = .ok (.ireturn, 1) := by decide +kernel
theorem eX5_isAt_0 : decode (mB MX5_isAt) 0 = .ok (.aload_n 0, 1) := by decide +kernel
theorem eX5_isAt_1 : decode (mB MX5_isAt) 1 = .ok (.getfield 35, 3) := by decide +kernel
theorem eX5_isAt_4 : decode (mB MX5_isAt) 4 = .ok (.aload_n 0, 1) := by decide +kernel
theorem eX5_isAt_5 : decode (mB MX5_isAt) 5 = .ok (.getfield 55, 3) := by decide +kernel
theorem eX5_isAt_8 : decode (mB MX5_isAt) 8 = .ok (.isub, 1) := by decide +kernel
theorem eX5_isAt_9 : decode (mB MX5_isAt) 9 = .ok (.aload_n 1, 1) := by decide +kernel
theorem eX5_isAt_10 : decode (mB MX5_isAt) 10 = .ok (.invokevirtual 212, 3) := by decide +kernel
theorem eX5_isAt_13 : decode (mB MX5_isAt) 13 = .ok (.if_icmp .eq 5, 3) := by decide +kernel
theorem eX5_isAt_16 : decode (mB MX5_isAt) 16 = .ok (.iconst 0, 1) := by decide +kernel
theorem eX5_isAt_17 : decode (mB MX5_isAt) 17 = .ok (.ireturn, 1) := by decide +kernel
theorem eX5_isAt_18 : decode (mB MX5_isAt) 18 = .ok (.aload_n 0, 1) := by decide +kernel
theorem eX5_isAt_19 : decode (mB MX5_isAt) 19 = .ok (.getfield 55, 3) := by decide +kernel
theorem eX5_isAt_22 : decode (mB MX5_isAt) 22 = .ok (.istore_n 2, 1) := by decide +kernel
theorem eX5_isAt_23 : decode (mB MX5_isAt) 23 = .ok (.iload_n 2, 1) := by decide +kernel
theorem eX5_isAt_24 : decode (mB MX5_isAt) 24 = .ok (.aload_n 0, 1) := by decide +kernel
theorem eX5_isAt_25 : decode (mB MX5_isAt) 25 = .ok (.getfield 35, 3) := by decide +kernel
theorem eX5_isAt_28 : decode (mB MX5_isAt) 28 = .ok (.if_icmp .ge 30, 3) := by decide +kernel
theorem eX5_isAt_31 : decode (mB MX5_isAt) 31 = .ok (.aload_n 0, 1) := by decide +kernel
theorem eX5_isAt_32 : decode (mB MX5_isAt) 32 = .ok (.getfield 21, 3) := by decide +kernel
theorem eX5_isAt_35 : decode (mB MX5_isAt) 35 = .ok (.iload_n 2, 1) := by decide +kernel
theorem eX5_isAt_36 : decode (mB MX5_isAt) 36 = .ok (.baload, 1) := by decide +kernel
theorem eX5_isAt_37 : decode (mB MX5_isAt) 37 = .ok (.aload_n 1, 1) := by decide +kernel
theorem eX5_isAt_38 : decode (mB MX5_isAt) 38 = .ok (.iload_n 2, 1) := by decide +kernel
theorem eX5_isAt_39 : decode (mB MX5_isAt) 39 = .ok (.aload_n 0, 1) := by decide +kernel
theorem eX5_isAt_40 : decode (mB MX5_isAt) 40 = .ok (.getfield 55, 3) := by decide +kernel
theorem eX5_isAt_43 : decode (mB MX5_isAt) 43 = .ok (.isub, 1) := by decide +kernel
theorem eX5_isAt_44 : decode (mB MX5_isAt) 44 = .ok (.invokevirtual 217, 3) := by decide +kernel
theorem eX5_isAt_47 : decode (mB MX5_isAt) 47 = .ok (.if_icmp .eq 5, 3) := by decide +kernel
theorem eX5_isAt_50 : decode (mB MX5_isAt) 50 = .ok (.iconst 0, 1) := by decide +kernel
theorem eX5_isAt_51 : decode (mB MX5_isAt) 51 = .ok (.ireturn, 1) := by decide +kernel
theorem eX5_isAt_52 : decode (mB MX5_isAt) 52 = .ok (.iinc 2 1, 3) := by decide +kernel
theorem eX5_isAt_55 : decode (mB MX5_isAt) 55 = .ok (.goto (-32), 3) := by decide +kernel
theorem eX5_isAt_58 : decode (mB MX5_isAt) 58 = .ok (.iconst 1, 1) := by decide +kernel
theorem eX5_isAt_59 : decode (mB MX5_isAt) 59 = .ok (.ireturn, 1) := by decide +kernel
theorem eX5_advance_0 : decode (mB MX5_advance) 0 = .ok (.aload_n 0, 1) := by decide +kernel
theorem eX5_advance_1 : decode (mB MX5_advance) 1 = .ok (.getfield 35, 3) := by decide +kernel
theorem eX5_advance_4 : decode (mB MX5_advance) 4 = .ok (.aload_n 0, 1) := by decide +kernel
theorem eX5_advance_5 : decode (mB MX5_advance) 5 = .ok (.getfield 32, 3) := by decide +kernel
theorem eX5_advance_8 : decode (mB MX5_advance) 8 = .ok (.if_icmp .ge 44, 3) := by decide +kernel
theorem eX5_advance_11 : decode (mB MX5_advance) 11 = .ok (.aload_n 0, 1) := by decide +kernel
theorem eX5_advance_12 : decode (mB MX5_advance) 12 = .ok (.getfield 21, 3) := by decide +kernel
theorem eX5_advance_15 : decode (mB MX5_advance) 15 = .ok (.aload_n 0, 1) := by decide +kernel
theorem eX5_advance_16 : decode (mB MX5_advance) 16 = .ok (.getfield 35, 3) := by decide +kernel
theorem eX5_advance_19 : decode (mB MX5_advance) 19 = .ok (.baload, 1) := by decide +kernel
theorem eX5_advance_20 : decode (mB MX5_advance) 20 = .ok (.bipush 10, 2) := by decide +kernel
theorem eX5_advance_22 : decode (mB MX5_advance) 22 = .ok (.if_icmp .eq 17, 3) := by decide +kernel
theorem eX5_advance_25 : decode (mB MX5_advance) 25 = .ok (.aload_n 0, 1) := by decide +kernel
theorem eX5_advance_26 : decode (mB MX5_advance) 26 = .ok (.getfield 21, 3) := by decide +kernel
theorem eX5_advance_29 : decode (mB MX5_advance) 29 = .ok (.aload_n 0, 1) := by decide +kernel
theorem eX5_advance_30 : decode (mB MX5_advance) 30 = .ok (.getfield 35, 3) := by decide +kernel
theorem eX5_advance_33 : decode (mB MX5_advance) 33 = .ok (.baload, 1) := by decide +kernel
theorem eX5_advance_34 : decode (mB MX5_advance) 34 = .ok (.bipush 32, 2) := by decide +kernel
theorem eX5_advance_36 : decode (mB MX5_advance) 36 = .ok (.if_icmp .ne 16, 3) := by decide +kernel
theorem eX5_advance_39 : decode (mB MX5_advance) 39 = .ok (.aload_n 0, 1) := by decide +kernel
theorem eX5_advance_40 : decode (mB MX5_advance) 40 = .ok (.dup, 1) := by decide +kernel
theorem eX5_advance_41 : decode (mB MX5_advance) 41 = .ok (.getfield 35, 3) := by decide +kernel
theorem eX5_advance_44 : decode (mB MX5_advance) 44 = .ok (.iconst 1, 1) := by decide +kernel
theorem eX5_advance_45 : decode (mB MX5_advance) 45 = .ok (.iadd, 1) := by decide +kernel
theorem eX5_advance_46 : decode (mB MX5_advance) 46 = .ok (.putfield 35, 3) := by decide +kernel
theorem eX5_advance_49 : decode (mB MX5_advance) 49 = .ok (.goto (-49), 3) := by decide +kernel
theorem eX5_advance_52 : decode (mB MX5_advance) 52 = .ok (.aload_n 0, 1) := by decide +kernel
theorem eX5_advance_53 : decode (mB MX5_advance) 53 = .ok (.aload_n 0, 1) := by decide +kernel
theorem eX5_advance_54 : decode (mB MX5_advance) 54 = .ok (.getfield 35, 3) := by decide +kernel
theorem eX5_advance_57 : decode (mB MX5_advance) 57 = .ok (.putfield 55, 3) := by decide +kernel
theorem eX5_advance_60 : decode (mB MX5_advance) 60 = .ok (.aload_n 0, 1) := by decide +kernel
theorem eX5_advance_61 : decode (mB MX5_advance) 61 = .ok (.iconst (-1), 1) := by decide +kernel
theorem eX5_advance_62 : decode (mB MX5_advance) 62 = .ok (.putfield 193, 3) := by decide +kernel
theorem eX5_advance_65 : decode (mB MX5_advance) 65 = .ok (.aload_n 0, 1) := by decide +kernel
theorem eX5_advance_66 : decode (mB MX5_advance) 66 = .ok (.getfield 55, 3) := by decide +kernel
theorem eX5_advance_69 : decode (mB MX5_advance) 69 = .ok (.aload_n 0, 1) := by decide +kernel
theorem eX5_advance_70 : decode (mB MX5_advance) 70 = .ok (.getfield 32, 3) := by decide +kernel
theorem eX5_advance_73 : decode (mB MX5_advance) 73 = .ok (.if_icmp .lt 4, 3) := by decide +kernel
theorem eX5_advance_76 : decode (mB MX5_advance) 76 = .ok (.return_, 1) := by decide +kernel
theorem eX5_advance_77 : decode (mB MX5_advance) 77 = .ok (.aload_n 0, 1) := by decide +kernel
theorem eX5_advance_78 : decode (mB MX5_advance) 78 = .ok (.getfield 21, 3) := by decide +kernel
theorem eX5_advance_81 : decode (mB MX5_advance) 81 = .ok (.aload_n 0, 1) := by decide +kernel
theorem eX5_advance_82 : decode (mB MX5_advance) 82 = .ok (.getfield 55, 3) := by decide +kernel
theorem eX5_advance_85 : decode (mB MX5_advance) 85 = .ok (.baload, 1) := by decide +kernel
theorem eX5_advance_86 : decode (mB MX5_advance) 86 = .ok (.istore_n 1, 1) := by decide +kernel
theorem eX5_advance_87 : decode (mB MX5_advance) 87 = .ok (.iload_n 1, 1) := by decide +kernel
theorem eX5_advance_88 : decode (mB MX5_advance) 88 = .ok (.invokestatic 221, 3) := by decide +kernel
theorem eX5_advance_91 : decode (mB MX5_advance) 91 = .ok (.ifCond .eq 42, 3) := by decide +kernel
theorem eX5_advance_94 : decode (mB MX5_advance) 94 = .ok (.aload_n 0, 1) := by decide +kernel
theorem eX5_advance_95 : decode (mB MX5_advance) 95 = .ok (.getfield 35, 3) := by decide +kernel
theorem eX5_advance_98 : decode (mB MX5_advance) 98 = .ok (.aload_n 0, 1) := by decide +kernel
theorem eX5_advance_99 : decode (mB MX5_advance) 99 = .ok (.getfield 32, 3) := by decide +kernel
theorem eX5_advance_102 : decode (mB MX5_advance) 102 = .ok (.if_icmp .ge 78, 3) := by decide +kernel
theorem eX5_advance_105 : decode (mB MX5_advance) 105 = .ok (.aload_n 0, 1) := by decide +kernel
theorem eX5_advance_106 : decode (mB MX5_advance) 106 = .ok (.getfield 21, 3) := by decide +kernel
theorem eX5_advance_109 : decode (mB MX5_advance) 109 = .ok (.aload_n 0, 1) := by decide +kernel
theorem eX5_advance_110 : decode (mB MX5_advance) 110 = .ok (.getfield 35, 3) := by decide +kernel
theorem eX5_advance_113 : decode (mB MX5_advance) 113 = .ok (.baload, 1) := by decide +kernel
theorem eX5_advance_114 : decode (mB MX5_advance) 114 = .ok (.invokestatic 221, 3) := by decide +kernel
theorem eX5_advance_117 : decode (mB MX5_advance) 117 = .ok (.ifCond .eq 63, 3) := by decide +kernel
theorem eX5_advance_120 : decode (mB MX5_advance) 120 = .ok (.aload_n 0, 1) := by decide +kernel
theorem eX5_advance_121 : decode (mB MX5_advance) 121 = .ok (.dup, 1) := by decide +kernel
theorem eX5_advance_122 : decode (mB MX5_advance) 122 = .ok (.getfield 35, 3) := by decide +kernel
theorem eX5_advance_125 : decode (mB MX5_advance) 125 = .ok (.iconst 1, 1) := by decide +kernel
theorem eX5_advance_126 : decode (mB MX5_advance) 126 = .ok (.iadd, 1) := by decide +kernel
theorem eX5_advance_127 : decode (mB MX5_advance) 127 = .ok (.putfield 35, 3) := by decide +kernel
theorem eX5_advance_130 : decode (mB MX5_advance) 130 = .ok (.goto (-36), 3) := by decide +kernel
theorem eX5_advance_133 : decode (mB MX5_advance) 133 = .ok (.iload_n 1, 1) := by decide +kernel
theorem eX5_advance_134 : decode (mB MX5_advance) 134 = .ok (.invokestatic 224, 3) := by decide +kernel
theorem eX5_advance_137 : decode (mB MX5_advance) 137 = .ok (.ifCond .eq 10, 3) := by decide +kernel
theorem eX5_advance_140 : decode (mB MX5_advance) 140 = .ok (.aload_n 0, 1) := by decide +kernel
theorem eX5_advance_141 : decode (mB MX5_advance) 141 = .ok (.invokevirtual 227, 3) := by decide +kernel
theorem eX5_advance_144 : decode (mB MX5_advance) 144 = .ok (.goto 36, 3) := by decide +kernel
theorem eX5_advance_147 : decode (mB MX5_advance) 147 = .ok (.iload_n 1, 1) := by decide +kernel
theorem eX5_advance_148 : decode (mB MX5_advance) 148 = .ok (.ifCond .le 26, 3) := by decide +kernel
theorem eX5_advance_151 : decode (mB MX5_advance) 151 = .ok (.ldc 230, 2) := by decide +kernel
theorem eX5_advance_153 : decode (mB MX5_advance) 153 = .ok (.iload_n 1, 1) := by decide +kernel
theorem eX5_advance_154 : decode (mB MX5_advance) 154 = .ok (.i2c, 1) := by decide +kernel
theorem eX5_advance_155 : decode (mB MX5_advance) 155 = .ok (.invokevirtual 232, 3) := by decide +kernel
theorem eX5_advance_158 : decode (mB MX5_advance) 158 = .ok (.ifCond .lt 16, 3) := by decide +kernel
theorem eX5_advance_161 : decode (mB MX5_advance) 161 = .ok (.aload_n 0, 1) := by decide +kernel
theorem eX5_advance_162 : decode (mB MX5_advance) 162 = .ok (.dup, 1) := by decide +kernel
theorem eX5_advance_163 : decode (mB MX5_advance) 163 = .ok (.getfield 35, 3) := by decide +kernel
theorem eX5_advance_166 : decode (mB MX5_advance) 166 = .ok (.iconst 1, 1) := by decide +kernel
theorem eX5_advance_167 : decode (mB MX5_advance) 167 = .ok (.iadd, 1) := by decide +kernel
theorem eX5_advance_168 : decode (mB MX5_advance) 168 = .ok (.putfield 35, 3) := by decide +kernel
theorem eX5_advance_171 : decode (mB MX5_advance) 171 = .ok (.goto 9, 3) := by decide +kernel
theorem eX5_advance_174 : decode (mB MX5_advance) 174 = .ok (.aload_n 0, 1) := by decide +kernel
theorem eX5_advance_175 : decode (mB MX5_advance) 175 = .ok (.iconst 1, 1) := by decide +kernel
theorem eX5_advance_176 : decode (mB MX5_advance) 176 = .ok (.invokevirtual 105, 3) := by decide +kernel
theorem eX5_advance_179 : decode (mB MX5_advance) 179 = .ok (.pop, 1) := by decide +kernel
theorem eX5_advance_180 : decode (mB MX5_advance) 180 = .ok (.return_, 1) := by decide +kernel
theorem eX5_readDigits_0 : decode (mB MX5_readDigits) 0 = .ok (.iconst 0, 1) := by decide +kernel
theorem eX5_readDigits_1 : decode (mB MX5_readDigits) 1 = .ok (.istore_n 1, 1) := by decide +kernel
theorem eX5_readDigits_2 : decode (mB MX5_readDigits) 2 = .ok (.aload_n 0, 1) := by decide +kernel
theorem eX5_readDigits_3 : decode (mB MX5_readDigits) 3 = .ok (.getfield 35, 3) := by decide +kernel
theorem eX5_readDigits_6 : decode (mB MX5_readDigits) 6 = .ok (.aload_n 0, 1) := by decide +kernel
theorem eX5_readDigits_7 : decode (mB MX5_readDigits) 7 = .ok (.getfield 32, 3) := by decide +kernel
theorem eX5_readDigits_10 : decode (mB MX5_readDigits) 10 = .ok (.if_icmp .ge 66, 3) := by decide +kernel
theorem eX5_readDigits_13 : decode (mB MX5_readDigits) 13 = .ok (.aload_n 0, 1) := by decide +kernel
theorem eX5_readDigits_14 : decode (mB MX5_readDigits) 14 = .ok (.getfield 21, 3) := by decide +kernel
theorem eX5_readDigits_17 : decode (mB MX5_readDigits) 17 = .ok (.aload_n 0, 1) := by decide +kernel
theorem eX5_readDigits_18 : decode (mB MX5_readDigits) 18 = .ok (.getfield 35, 3) := by decide +kernel
theorem eX5_readDigits_21 : decode (mB MX5_readDigits) 21 = .ok (.baload, 1) := by decide +kernel
theorem eX5_readDigits_22 : decode (mB MX5_readDigits) 22 = .ok (.invokestatic 224, 3) := by decide +kernel
theorem eX5_readDigits_25 : decode (mB MX5_readDigits) 25 = .ok (.ifCond .eq 51, 3) := by decide +kernel
theorem eX5_readDigits_28 : decode (mB MX5_readDigits) 28 = .ok (.aload_n 0, 1) := by decide +kernel
theorem eX5_readDigits_29 : decode (mB MX5_readDigits) 29 = .ok (.getfield 35, 3) := by decide +kernel
theorem eX5_readDigits_32 : decode (mB MX5_readDigits) 32 = .ok (.aload_n 0, 1) := by decide +kernel
theorem eX5_readDigits_33 : decode (mB MX5_readDigits) 33 = .ok (.getfield 55, 3) := by decide +kernel
theorem eX5_readDigits_36 : decode (mB MX5_readDigits) 36 = .ok (.isub, 1) := by decide +kernel
theorem eX5_readDigits_37 : decode (mB MX5_readDigits) 37 = .ok (.iconst 3, 1) := by decide +kernel
theorem eX5_readDigits_38 : decode (mB MX5_readDigits) 38 = .ok (.if_icmp .ge 23, 3) := by decide +kernel
theorem eX5_readDigits_41 : decode (mB MX5_readDigits) 41 = .ok (.bipush 10, 2) := by decide +kernel
theorem eX5_readDigits_43 : decode (mB MX5_readDigits) 43 = .ok (.iload_n 1, 1) := by decide +kernel
theorem eX5_readDigits_44 : decode (mB MX5_readDigits) 44 = .ok (.imul, 1) := by decide +kernel
theorem eX5_readDigits_45 : decode (mB MX5_readDigits) 45 = .ok (.aload_n 0, 1) := by decide +kernel
theorem eX5_readDigits_46 : decode (mB MX5_readDigits) 46 = .ok (.getfield 21, 3) := by decide +kernel
theorem eX5_readDigits_49 : decode (mB MX5_readDigits) 49 = .ok (.aload_n 0, 1) := by decide +kernel
theorem eX5_readDigits_50 : decode (mB MX5_readDigits) 50 = .ok (.getfield 35, 3) := by decide +kernel
theorem eX5_readDigits_53 : decode (mB MX5_readDigits) 53 = .ok (.baload, 1) := by decide +kernel
theorem eX5_readDigits_54 : decode (mB MX5_readDigits) 54 = .ok (.iadd, 1) := by decide +kernel
theorem eX5_readDigits_55 : decode (mB MX5_readDigits) 55 = .ok (.bipush 48, 2) := by decide +kernel
theorem eX5_readDigits_57 : decode (mB MX5_readDigits) 57 = .ok (.isub, 1) := by decide +kernel
theorem eX5_readDigits_58 : decode (mB MX5_readDigits) 58 = .ok (.goto 4, 3) := by decide +kernel
theorem eX5_readDigits_61 : decode (mB MX5_readDigits) 61 = .ok (.iload_n 1, 1) := by decide +kernel
theorem eX5_readDigits_62 : decode (mB MX5_readDigits) 62 = .ok (.istore_n 1, 1) := by decide +kernel
theorem eX5_readDigits_63 : decode (mB MX5_readDigits) 63 = .ok (.aload_n 0, 1) := by decide +kernel
theorem eX5_readDigits_64 : decode (mB MX5_readDigits) 64 = .ok (.dup, 1) := by decide +kernel
theorem eX5_readDigits_65 : decode (mB MX5_readDigits) 65 = .ok (.getfield 35, 3) := by decide +kernel
theorem eX5_readDigits_68 : decode (mB MX5_readDigits) 68 = .ok (.iconst 1, 1) := by decide +kernel
theorem eX5_readDigits_69 : decode (mB MX5_readDigits) 69 = .ok (.iadd, 1) := by decide +kernel
theorem eX5_readDigits_70 : decode (mB MX5_readDigits) 70 = .ok (.putfield 35, 3) := by decide +kernel
theorem eX5_readDigits_73 : decode (mB MX5_readDigits) 73 = .ok (.goto (-71), 3) := by decide +kernel
theorem eX5_readDigits_76 : decode (mB MX5_readDigits) 76 = .ok (.aload_n 0, 1) := by decide +kernel
theorem eX5_readDigits_77 : decode (mB MX5_readDigits) 77 = .ok (.getfield 35, 3) := by decide +kernel
theorem eX5_readDigits_80 : decode (mB MX5_readDigits) 80 = .ok (.aload_n 0, 1) := by decide +kernel
theorem eX5_readDigits_81 : decode (mB MX5_readDigits) 81 = .ok (.getfield 55, 3) := by decide +kernel
theorem eX5_readDigits_84 : decode (mB MX5_readDigits) 84 = .ok (.isub, 1) := by decide +kernel
theorem eX5_readDigits_85 : decode (mB MX5_readDigits) 85 = .ok (.iconst 3, 1) := by decide +kernel
theorem eX5_readDigits_86 : decode (mB MX5_readDigits) 86 = .ok (.if_icmp .le 20, 3) := by decide +kernel
theorem eX5_readDigits_89 : decode (mB MX5_readDigits) 89 = .ok (.aload_n 0, 1) := by decide +kernel
theorem eX5_readDigits_90 : decode (mB MX5_readDigits) 90 = .ok (.aload_n 0, 1) := by decide +kernel
theorem eX5_readDigits_91 : decode (mB MX5_readDigits) 91 = .ok (.getfield 55, 3) := by decide +kernel
theorem eX5_readDigits_94 : decode (mB MX5_readDigits) 94 = .ok (.putfield 35, 3) := by decide +kernel
theorem eX5_readDigits_97 : decode (mB MX5_readDigits) 97 = .ok (.aload_n 0, 1) := by decide +kernel
theorem eX5_readDigits_98 : decode (mB MX5_readDigits) 98 = .ok (.iconst 1, 1) := by decide +kernel
theorem eX5_readDigits_99 : decode (mB MX5_readDigits) 99 = .ok (.invokevirtual 105, 3) := by decide +kernel
theorem eX5_readDigits_102 : decode (mB MX5_readDigits) 102 = .ok (.pop, 1) := by decide +kernel
theorem eX5_readDigits_103 : decode (mB MX5_readDigits) 103 = .ok (.goto 8, 3) := by decide +kernel
theorem eX5_readDigits_106 : decode (mB MX5_readDigits) 106 = .ok (.aload_n 0, 1) := by decide +kernel
theorem eX5_readDigits_107 : decode (mB MX5_readDigits) 107 = .ok (.iload_n 1, 1) := by decide +kernel
theorem eX5_readDigits_108 : decode (mB MX5_readDigits) 108 = .ok (.putfield 193, 3) := by decide +kernel
theorem eX5_readDigits_111 : decode (mB MX5_readDigits) 111 = .ok (.return_, 1) := by decide +kernel
theorem eX5_isLetter_0 : decode (mB MX5_isLetter) 0 = .ok (.iload_n 0, 1) := by decide +kernel
theorem eX5_isLetter_1 : decode (mB MX5_isLetter) 1 = .ok (.bipush 97, 2) := by decide +kernel
theorem eX5_isLetter_3 : decode (mB MX5_isLetter) 3 = .ok (.if_icmp .lt 13, 3) := by decide +kernel
theorem eX5_isLetter_6 : decode (mB MX5_isLetter) 6 = .ok (.iload_n 0, 1) := by decide +kernel
theorem eX5_isLetter_7 : decode (mB MX5_isLetter) 7 = .ok (.bipush 122, 2) := by decide +kernel
theorem eX5_isLetter_9 : decode (mB MX5_isLetter) 9 = .ok (.if_icmp .gt 7, 3) := by decide +kernel
theorem eX5_isLetter_12 : decode (mB MX5_isLetter) 12 = .ok (.iconst 1, 1) := by decide +kernel
theorem eX5_isLetter_13 : decode (mB MX5_isLetter) 13 = .ok (.goto 4, 3) := by decide +kernel
theorem eX5_isLetter_16 : decode (mB MX5_isLetter) 16 = .ok (.iconst 0, 1) := by decide +kernel
theorem eX5_isLetter_17 : decode (mB MX5_isLetter) 17 = .ok (.ireturn, 1) := by decide +kernel
theorem eX5_isDigit_0 : decode (mB MX5_isDigit) 0 = .ok (.iload_n 0, 1) := by decide +kernel
theorem eX5_isDigit_1 : decode (mB MX5_isDigit) 1 = .ok (.bipush 48, 2) := by decide +kernel
theorem eX5_isDigit_3 : decode (mB MX5_isDigit) 3 = .ok (.if_icmp .lt 13, 3) := by decide +kernel
theorem eX5_isDigit_6 : decode (mB MX5_isDigit) 6 = .ok (.iload_n 0, 1) := by decide +kernel
theorem eX5_isDigit_7 : decode (mB MX5_isDigit) 7 = .ok (.bipush 57, 2) := by decide +kernel
theorem eX5_isDigit_9 : decode (mB MX5_isDigit) 9 = .ok (.if_icmp .gt 7, 3) := by decide +kernel
theorem eX5_isDigit_12 : decode (mB MX5_isDigit) 12 = .ok (.iconst 1, 1) := by decide +kernel
theorem eX5_isDigit_13 : decode (mB MX5_isDigit) 13 = .ok (.goto 4, 3) := by decide +kernel
theorem eX5_isDigit_16 : decode (mB MX5_isDigit) 16 = .ok (.iconst 0, 1) := by decide +kernel
theorem eX5_isDigit_17 : decode (mB MX5_isDigit) 17 = .ok (.ireturn, 1) := by decide +kernel
theorem eX6_init_0 : decode (mB MX6_init) 0 = .ok (.aload_n 0, 1) := by decide +kernel
theorem eX6_init_1 : decode (mB MX6_init) 1 = .ok (.invokespecial 3, 3) := by decide +kernel
theorem eX6_init_4 : decode (mB MX6_init) 4 = .ok (.aload_n 0, 1) := by decide +kernel
theorem eX6_init_5 : decode (mB MX6_init) 5 = .ok (.iconst 0, 1) := by decide +kernel
theorem eX6_init_6 : decode (mB MX6_init) 6 = .ok (.putfield 9, 3) := by decide +kernel
theorem eX6_init_9 : decode (mB MX6_init) 9 = .ok (.aload_n 0, 1) := by decide +kernel
theorem eX6_init_10 : decode (mB MX6_init) 10 = .ok (.iconst 0, 1) := by decide +kernel
theorem eX6_init_11 : decode (mB MX6_init) 11 = .ok (.putfield 15, 3) := by decide +kernel
theorem eX6_init_14 : decode (mB MX6_init) 14 = .ok (.aload_n 0, 1) := by decide +kernel
theorem eX6_init_15 : decode (mB MX6_init) 15 = .ok (.bipush 40, 2) := by decide +kernel
theorem eX6_init_17 : decode (mB MX6_init) 17 = .ok (.newarray .int, 2) := by decide +kernel
theorem eX6_init_19 : decode (mB MX6_init) 19 = .ok (.putfield 18, 3) := by decide +kernel
theorem eX6_init_22 : decode (mB MX6_init) 22 = .ok (.aload_n 0, 1) := by decide +kernel
theorem eX6_init_23 : decode (mB MX6_init) 23 = .ok (.bipush 20, 2) := by decide +kernel
theorem eX6_init_25 : decode (mB MX6_init) 25 = .ok (.newarray .int, 2) := by decide +kernel
theorem eX6_init_27 : decode (mB MX6_init) 27 = .ok (.putfield 22, 3) := by decide +kernel
theorem eX6_init_30 : decode (mB MX6_init) 30 = .ok (.iconst 0, 1) := by decide +kernel
theorem eX6_init_31 : decode (mB MX6_init) 31 = .ok (.istore_n 1, 1) := by decide +kernel
theorem eX6_init_32 : decode (mB MX6_init) 32 = .ok (.iload_n 1, 1) := by decide +kernel
theorem eX6_init_33 : decode (mB MX6_init) 33 = .ok (.bipush 20, 2) := by decide +kernel
theorem eX6_init_35 : decode (mB MX6_init) 35 = .ok (.if_icmp .ge 16, 3) := by decide +kernel
theorem eX6_init_38 : decode (mB MX6_init) 38 = .ok (.aload_n 0, 1) := by decide +kernel
theorem eX6_init_39 : decode (mB MX6_init) 39 = .ok (.getfield 22, 3) := by decide +kernel
theorem eX6_init_42 : decode (mB MX6_init) 42 = .ok (.iload_n 1, 1) := by decide +kernel
theorem eX6_init_43 : decode (mB MX6_init) 43 = .ok (.iconst (-1), 1) := by decide +kernel
theorem eX6_init_44 : decode (mB MX6_init) 44 = .ok (.iastore, 1) := by decide +kernel
theorem eX6_init_45 : decode (mB MX6_init) 45 = .ok (.iinc 1 1, 3) := by decide +kernel
theorem eX6_init_48 : decode (mB MX6_init) 48 = .ok (.goto (-16), 3) := by decide +kernel
theorem eX6_init_51 : decode (mB MX6_init) 51 = .ok (.return_, 1) := by decide +kernel
theorem eX6_placeOf_0 : decode (mB MX6_placeOf) 0 = .ok (.iload_n 0, 1) := by decide +kernel
theorem eX6_placeOf_1 : decode (mB MX6_placeOf) 1 = .ok (.bipush 10, 2) := by decide +kernel
theorem eX6_placeOf_3 : decode (mB MX6_placeOf) 3 = .ok (.ishl, 1) := by decide +kernel
theorem eX6_placeOf_4 : decode (mB MX6_placeOf) 4 = .ok (.iload_n 1, 1) := by decide +kernel
theorem eX6_placeOf_5 : decode (mB MX6_placeOf) 5 = .ok (.ior, 1) := by decide +kernel
theorem eX6_placeOf_6 : decode (mB MX6_placeOf) 6 = .ok (.ireturn, 1) := by decide +kernel
theorem eX6_pathAt_0 : decode (mB MX6_pathAt) 0 = .ok (.iload_n 0, 1) := by decide +kernel
theorem eX6_pathAt_1 : decode (mB MX6_pathAt) 1 = .ok (.sipush 1023, 3) := by decide +kernel
theorem eX6_pathAt_4 : decode (mB MX6_pathAt) 4 = .ok (.iand, 1) := by decide +kernel
theorem eX6_pathAt_5 : decode (mB MX6_pathAt) 5 = .ok (.ireturn, 1) := by decide +kernel
theorem eX6_copyFrom_0 : decode (mB MX6_copyFrom) 0 = .ok (.aload_n 0, 1) := by decide +kernel
theorem eX6_copyFrom_1 : decode (mB MX6_copyFrom) 1 = .ok (.aload_n 1, 1) := by decide +kernel
theorem eX6_copyFrom_2 : decode (mB MX6_copyFrom) 2 = .ok (.getfield 9, 3) := by decide +kernel
theorem eX6_copyFrom_5 : decode (mB MX6_copyFrom) 5 = .ok (.putfield 9, 3) := by decide +kernel
theorem eX6_copyFrom_8 : decode (mB MX6_copyFrom) 8 = .ok (.aload_n 0, 1) := by decide +kernel
theorem eX6_copyFrom_9 : decode (mB MX6_copyFrom) 9 = .ok (.aload_n 1, 1) := by decide +kernel
theorem eX6_copyFrom_10 : decode (mB MX6_copyFrom) 10 = .ok (.getfield 15, 3) := by decide +kernel
theorem eX6_copyFrom_13 : decode (mB MX6_copyFrom) 13 = .ok (.putfield 15, 3) := by decide +kernel
theorem eX6_copyFrom_16 : decode (mB MX6_copyFrom) 16 = .ok (.aload_n 1, 1) := by decide +kernel
theorem eX6_copyFrom_17 : decode (mB MX6_copyFrom) 17 = .ok (.getfield 18, 3) := by decide +kernel
theorem eX6_copyFrom_20 : decode (mB MX6_copyFrom) 20 = .ok (.iconst 0, 1) := by decide +kernel
theorem eX6_copyFrom_21 : decode (mB MX6_copyFrom) 21 = .ok (.aload_n 0, 1) := by decide +kernel
theorem eX6_copyFrom_22 : decode (mB MX6_copyFrom) 22 = .ok (.getfield 18, 3) := by decide +kernel
theorem eX6_copyFrom_25 : decode (mB MX6_copyFrom) 25 = .ok (.iconst 0, 1) := by decide +kernel
theorem eX6_copyFrom_26 : decode (mB MX6_copyFrom) 26 = .ok (.bipush 40, 2) := by decide +kernel
theorem eX6_copyFrom_28 : decode (mB MX6_copyFrom) 28 = .ok (.invokestatic 25, 3) := by decide +kernel
theorem eX6_copyFrom_31 : decode (mB MX6_copyFrom) 31 = .ok (.aload_n 1, 1) := by decide +kernel
theorem eX6_copyFrom_32 : decode (mB MX6_copyFrom) 32 = .ok (.getfield 22, 3) := by decide +kernel
theorem eX6_copyFrom_35 : decode (mB MX6_copyFrom) 35 = .ok (.iconst 0, 1) := by decide +kernel
theorem eX6_copyFrom_36 : decode (mB MX6_copyFrom) 36 = .ok (.aload_n 0, 1) := by decide +kernel
theorem eX6_copyFrom_37 : decode (mB MX6_copyFrom) 37 = .ok (.getfield 22, 3) := by decide +kernel
theorem eX6_copyFrom_40 : decode (mB MX6_copyFrom) 40 = .ok (.iconst 0, 1) := by decide +kernel
theorem eX6_copyFrom_41 : decode (mB MX6_copyFrom) 41 = .ok (.bipush 20, 2) := by decide +kernel
theorem eX6_copyFrom_43 : decode (mB MX6_copyFrom) 43 = .ok (.invokestatic 25, 3) := by decide +kernel
theorem eX6_copyFrom_46 : decode (mB MX6_copyFrom) 46 = .ok (.return_, 1) := by decide +kernel
theorem eX6_begin_0 : decode (mB MX6_begin) 0 = .ok (.aload_n 0, 1) := by decide +kernel
theorem eX6_begin_1 : decode (mB MX6_begin) 1 = .ok (.iload_n 1, 1) := by decide +kernel
theorem eX6_begin_2 : decode (mB MX6_begin) 2 = .ok (.putfield 9, 3) := by decide +kernel
theorem eX6_begin_5 : decode (mB MX6_begin) 5 = .ok (.iconst 0, 1) := by decide +kernel
theorem eX6_begin_6 : decode (mB MX6_begin) 6 = .ok (.istore_n 2, 1) := by decide +kernel
theorem eX6_begin_7 : decode (mB MX6_begin) 7 = .ok (.iload_n 2, 1) := by decide +kernel
theorem eX6_begin_8 : decode (mB MX6_begin) 8 = .ok (.bipush 40, 2) := by decide +kernel
theorem eX6_begin_10 : decode (mB MX6_begin) 10 = .ok (.if_icmp .ge 16, 3) := by decide +kernel
theorem eX6_begin_13 : decode (mB MX6_begin) 13 = .ok (.aload_n 0, 1) := by decide +kernel
theorem eX6_begin_14 : decode (mB MX6_begin) 14 = .ok (.getfield 18, 3) := by decide +kernel
theorem eX6_begin_17 : decode (mB MX6_begin) 17 = .ok (.iload_n 2, 1) := by decide +kernel
theorem eX6_begin_18 : decode (mB MX6_begin) 18 = .ok (.iconst 0, 1) := by decide +kernel
theorem eX6_begin_19 : decode (mB MX6_begin) 19 = .ok (.iastore, 1) := by decide +kernel
theorem eX6_begin_20 : decode (mB MX6_begin) 20 = .ok (.iinc 2 1, 3) := by decide +kernel
theorem eX6_begin_23 : decode (mB MX6_begin) 23 = .ok (.goto (-16), 3) := by decide +kernel
theorem eX6_begin_26 : decode (mB MX6_begin) 26 = .ok (.aload_n 0, 1) := by decide +kernel
theorem eX6_begin_27 : decode (mB MX6_begin) 27 = .ok (.invokevirtual 31, 3) := by decide +kernel
theorem eX6_begin_30 : decode (mB MX6_begin) 30 = .ok (.return_, 1) := by decide +kernel
theorem eX6_freshFrom_0 : decode (mB MX6_freshFrom) 0 = .ok (.aload_n 0, 1) := by decide +kernel
theorem eX6_freshFrom_1 : decode (mB MX6_freshFrom) 1 = .ok (.aload_n 1, 1) := by decide +kernel
theorem eX6_freshFrom_2 : decode (mB MX6_freshFrom) 2 = .ok (.invokevirtual 34, 3) := by decide +kernel
theorem eX6_freshFrom_5 : decode (mB MX6_freshFrom) 5 = .ok (.aload_n 0, 1) := by decide +kernel
theorem eX6_freshFrom_6 : decode (mB MX6_freshFrom) 6 = .ok (.invokevirtual 31, 3) := by decide +kernel
theorem eX6_freshFrom_9 : decode (mB MX6_freshFrom) 9 = .ok (.return_, 1) := by decide +kernel
theorem eX6_mendAll_0 : decode (mB MX6_mendAll) 0 = .ok (.aload_n 0, 1) := by decide +kernel
theorem eX6_mendAll_1 : decode (mB MX6_mendAll) 1 = .ok (.iconst 0, 1) := by decide +kernel
theorem eX6_mendAll_2 : decode (mB MX6_mendAll) 2 = .ok (.putfield 15, 3) := by decide +kernel
theorem eX6_mendAll_5 : decode (mB MX6_mendAll) 5 = .ok (.iconst 0, 1) := by decide +kernel
theorem eX6_mendAll_6 : decode (mB MX6_mendAll) 6 = .ok (.istore_n 1, 1) := by decide +kernel
theorem eX6_mendAll_7 : decode (mB MX6_mendAll) 7 = .ok (.iload_n 1, 1) := by decide +kernel
theorem eX6_mendAll_8 : decode (mB MX6_mendAll) 8 = .ok (.bipush 20, 2) := by decide +kernel
theorem eX6_mendAll_10 : decode (mB MX6_mendAll) 10 = .ok (.if_icmp .ge 16, 3) := by decide +kernel
theorem eX6_mendAll_13 : decode (mB MX6_mendAll) 13 = .ok (.aload_n 0, 1) := by decide +kernel
theorem eX6_mendAll_14 : decode (mB MX6_mendAll) 14 = .ok (.getfield 22, 3) := by decide +kernel
theorem eX6_mendAll_17 : decode (mB MX6_mendAll) 17 = .ok (.iload_n 1, 1) := by decide +kernel
theorem eX6_mendAll_18 : decode (mB MX6_mendAll) 18 = .ok (.iconst (-1), 1) := by decide +kernel
theorem eX6_mendAll_19 : decode (mB MX6_mendAll) 19 = .ok (.iastore, 1) := by decide +kernel
theorem eX6_mendAll_20 : decode (mB MX6_mendAll) 20 = .ok (.iinc 1 1, 3) := by decide +kernel
theorem eX6_mendAll_23 : decode (mB MX6_mendAll) 23 = .ok (.goto (-16), 3) := by decide +kernel
theorem eX6_mendAll_26 : decode (mB MX6_mendAll) 26 = .ok (.return_, 1) := by decide +kernel
theorem eX6_hasFailed_0 : decode (mB MX6_hasFailed) 0 = .ok (.aload_n 0, 1) := by decide +kernel
theorem eX6_hasFailed_1 : decode (mB MX6_hasFailed) 1 = .ok (.getfield 15, 3) := by decide +kernel
theorem eX6_hasFailed_4 : decode (mB MX6_hasFailed) 4 = .ok (.iload_n 1, 1) := by decide +kernel
theorem eX6_hasFailed_5 : decode (mB MX6_hasFailed) 5 = .ok (.ishr, 1) := by decide +kernel
theorem eX6_hasFailed_6 : decode (mB MX6_hasFailed) 6 = .ok (.iconst 1, 1) := by decide +kernel
theorem eX6_hasFailed_7 : decode (mB MX6_hasFailed) 7 = .ok (.iand, 1) := by decide +kernel
theorem eX6_hasFailed_8 : decode (mB MX6_hasFailed) 8 = .ok (.ifCond .eq 7, 3) := by decide +kernel
theorem eX6_hasFailed_11 : decode (mB MX6_hasFailed) 11 = .ok (.iconst 1, 1) := by decide +kernel
theorem eX6_hasFailed_12 : decode (mB MX6_hasFailed) 12 = .ok (.goto 4, 3) := by decide +kernel
theorem eX6_hasFailed_15 : decode (mB MX6_hasFailed) 15 = .ok (.iconst 0, 1) := by decide +kernel
theorem eX6_hasFailed_16 : decode (mB MX6_hasFailed) 16 = .ok (.ireturn, 1) := by decide +kernel
theorem eX6_allCopies_0 : decode (mB MX6_allCopies) 0 = .ok (.iconst 0, 1) := by decide +kernel
theorem eX6_allCopies_1 : decode (mB MX6_allCopies) 1 = .ok (.istore_n 1, 1) := by decide +kernel
theorem eX6_allCopies_2 : decode (mB MX6_allCopies) 2 = .ok (.iconst 0, 1) := by decide +kernel
theorem eX6_allCopies_3 : decode (mB MX6_allCopies) 3 = .ok (.istore_n 2, 1) := by decide +kernel
theorem eX6_allCopies_4 : decode (mB MX6_allCopies) 4 = .ok (.iload_n 2, 1) := by decide +kernel
theorem eX6_allCopies_5 : decode (mB MX6_allCopies) 5 = .ok (.bipush 40, 2) := by decide +kernel
theorem eX6_allCopies_7 : decode (mB MX6_allCopies) 7 = .ok (.if_icmp .ge 18, 3) := by decide +kernel
theorem eX6_allCopies_10 : decode (mB MX6_allCopies) 10 = .ok (.iload_n 1, 1) := by decide +kernel
theorem eX6_allCopies_11 : decode (mB MX6_allCopies) 11 = .ok (.aload_n 0, 1) := by decide +kernel
theorem eX6_allCopies_12 : decode (mB MX6_allCopies) 12 = .ok (.getfield 18, 3) := by decide +kernel
theorem eX6_allCopies_15 : decode (mB MX6_allCopies) 15 = .ok (.iload_n 2, 1) := by decide +kernel
theorem eX6_allCopies_16 : decode (mB MX6_allCopies) 16 = .ok (.iaload, 1) := by decide +kernel
theorem eX6_allCopies_17 : decode (mB MX6_allCopies) 17 = .ok (.iadd, 1) := by decide +kernel
theorem eX6_allCopies_18 : decode (mB MX6_allCopies) 18 = .ok (.istore_n 1, 1) := by decide +kernel
theorem eX6_allCopies_19 : decode (mB MX6_allCopies) 19 = .ok (.iinc 2 1, 3) := by decide +kernel
theorem eX6_allCopies_22 : decode (mB MX6_allCopies) 22 = .ok (.goto (-18), 3) := by decide +kernel
theorem eX6_allCopies_25 : decode (mB MX6_allCopies) 25 = .ok (.iload_n 1, 1) := by decide +kernel
theorem eX6_allCopies_26 : decode (mB MX6_allCopies) 26 = .ok (.ireturn, 1) := by decide +kernel
theorem eX7_init_0 : decode (mB MX7_init) 0 = .ok (.aload_n 0, 1) := by decide +kernel
theorem eX7_init_1 : decode (mB MX7_init) 1 = .ok (.invokespecial 3, 3) := by decide +kernel
theorem eX7_init_4 : decode (mB MX7_init) 4 = .ok (.aload_n 0, 1) := by decide +kernel
theorem eX7_init_5 : decode (mB MX7_init) 5 = .ok (.sipush 360, 3) := by decide +kernel
theorem eX7_init_8 : decode (mB MX7_init) 8 = .ok (.newarray .int, 2) := by decide +kernel
theorem eX7_init_10 : decode (mB MX7_init) 10 = .ok (.putfield 9, 3) := by decide +kernel
theorem eX7_init_13 : decode (mB MX7_init) 13 = .ok (.return_, 1) := by decide +kernel
theorem eX7_layCopy_0 : decode (mB MX7_layCopy) 0 = .ok (.aload_n 1, 1) := by decide +kernel
theorem eX7_layCopy_1 : decode (mB MX7_layCopy) 1 = .ok (.aload_n 2, 1) := by decide +kernel
theorem eX7_layCopy_2 : decode (mB MX7_layCopy) 2 = .ok (.getfield 15, 3) := by decide +kernel
theorem eX7_layCopy_5 : decode (mB MX7_layCopy) 5 = .ok (.iload_n 3, 1) := by decide +kernel
theorem eX7_layCopy_6 : decode (mB MX7_layCopy) 6 = .ok (.invokevirtual 21, 3) := by decide +kernel
theorem eX7_layCopy_9 : decode (mB MX7_layCopy) 9 = .ok (.istore 4, 2) := by decide +kernel
theorem eX7_layCopy_11 : decode (mB MX7_layCopy) 11 = .ok (.iload 4, 2) := by decide +kernel
theorem eX7_layCopy_13 : decode (mB MX7_layCopy) 13 = .ok (.ifCond .ge 5, 3) := by decide +kernel
theorem eX7_layCopy_16 : decode (mB MX7_layCopy) 16 = .ok (.iconst 1, 1) := by decide +kernel
theorem eX7_layCopy_17 : decode (mB MX7_layCopy) 17 = .ok (.ireturn, 1) := by decide +kernel
theorem eX7_layCopy_18 : decode (mB MX7_layCopy) 18 = .ok (.aload_n 2, 1) := by decide +kernel
theorem eX7_layCopy_19 : decode (mB MX7_layCopy) 19 = .ok (.getfield 27, 3) := by decide +kernel
theorem eX7_layCopy_22 : decode (mB MX7_layCopy) 22 = .ok (.iload 4, 2) := by decide +kernel
theorem eX7_layCopy_24 : decode (mB MX7_layCopy) 24 = .ok (.iaload, 1) := by decide +kernel
theorem eX7_layCopy_25 : decode (mB MX7_layCopy) 25 = .ok (.bipush 9, 2) := by decide +kernel
theorem eX7_layCopy_27 : decode (mB MX7_layCopy) 27 = .ok (.if_icmp .lt 5, 3) := by decide +kernel
theorem eX7_layCopy_30 : decode (mB MX7_layCopy) 30 = .ok (.iconst 2, 1) := by decide +kernel
theorem eX7_layCopy_31 : decode (mB MX7_layCopy) 31 = .ok (.ireturn, 1) := by decide +kernel
theorem eX7_layCopy_32 : decode (mB MX7_layCopy) 32 = .ok (.aload_n 2, 1) := by decide +kernel
theorem eX7_layCopy_33 : decode (mB MX7_layCopy) 33 = .ok (.getfield 27, 3) := by decide +kernel
theorem eX7_layCopy_36 : decode (mB MX7_layCopy) 36 = .ok (.iload 4, 2) := by decide +kernel
theorem eX7_layCopy_38 : decode (mB MX7_layCopy) 38 = .ok (.dup2, 1) := by decide +kernel
theorem eX7_layCopy_39 : decode (mB MX7_layCopy) 39 = .ok (.iaload, 1) := by decide +kernel
theorem eX7_layCopy_40 : decode (mB MX7_layCopy) 40 = .ok (.iconst 1, 1) := by decide +kernel
theorem eX7_layCopy_41 : decode (mB MX7_layCopy) 41 = .ok (.iadd, 1) := by decide +kernel
theorem eX7_layCopy_42 : decode (mB MX7_layCopy) 42 = .ok (.iastore, 1) := by decide +kernel
theorem eX7_layCopy_43 : decode (mB MX7_layCopy) 43 = .ok (.aload_n 0, 1) := by decide +kernel
theorem eX7_layCopy_44 : decode (mB MX7_layCopy) 44 = .ok (.aload_n 1, 1) := by decide +kernel
theorem eX7_layCopy_45 : decode (mB MX7_layCopy) 45 = .ok (.aload_n 2, 1) := by decide +kernel
theorem eX7_layCopy_46 : decode (mB MX7_layCopy) 46 = .ok (.invokevirtual 30, 3) := by decide +kernel
theorem eX7_layCopy_49 : decode (mB MX7_layCopy) 49 = .ok (.iconst 0, 1) := by decide +kernel
theorem eX7_layCopy_50 : decode (mB MX7_layCopy) 50 = .ok (.ireturn, 1) := by decide +kernel
theorem eX7_takeCopy_0 : decode (mB MX7_takeCopy) 0 = .ok (.aload_n 1, 1) := by decide +kernel
theorem eX7_takeCopy_1 : decode (mB MX7_takeCopy) 1 = .ok (.aload_n 2, 1) := by decide +kernel
theorem eX7_takeCopy_2 : decode (mB MX7_takeCopy) 2 = .ok (.getfield 15, 3) := by decide +kernel
theorem eX7_takeCopy_5 : decode (mB MX7_takeCopy) 5 = .ok (.iload_n 3, 1) := by decide +kernel
theorem eX7_takeCopy_6 : decode (mB MX7_takeCopy) 6 = .ok (.invokevirtual 21, 3) := by decide +kernel
theorem eX7_takeCopy_9 : decode (mB MX7_takeCopy) 9 = .ok (.istore 4, 2) := by decide +kernel
theorem eX7_takeCopy_11 : decode (mB MX7_takeCopy) 11 = .ok (.iload 4, 2) := by decide +kernel
theorem eX7_takeCopy_13 : decode (mB MX7_takeCopy) 13 = .ok (.ifCond .ge 5, 3) := by decide +kernel
theorem eX7_takeCopy_16 : decode (mB MX7_takeCopy) 16 = .ok (.iconst 1, 1) := by decide +kernel
theorem eX7_takeCopy_17 : decode (mB MX7_takeCopy) 17 = .ok (.ireturn, 1) := by decide +kernel
theorem eX7_takeCopy_18 : decode (mB MX7_takeCopy) 18 = .ok (.aload_n 2, 1) := by decide +kernel
theorem eX7_takeCopy_19 : decode (mB MX7_takeCopy) 19 = .ok (.getfield 27, 3) := by decide +kernel
theorem eX7_takeCopy_22 : decode (mB MX7_takeCopy) 22 = .ok (.iload 4, 2) := by decide +kernel
theorem eX7_takeCopy_24 : decode (mB MX7_takeCopy) 24 = .ok (.iaload, 1) := by decide +kernel
theorem eX7_takeCopy_25 : decode (mB MX7_takeCopy) 25 = .ok (.ifCond .gt 5, 3) := by decide +kernel
theorem eX7_takeCopy_28 : decode (mB MX7_takeCopy) 28 = .ok (.iconst 2, 1) := by decide +kernel
theorem eX7_takeCopy_29 : decode (mB MX7_takeCopy) 29 = .ok (.ireturn, 1) := by decide +kernel
theorem eX7_takeCopy_30 : decode (mB MX7_takeCopy) 30 = .ok (.aload_n 2, 1) := by decide +kernel
theorem eX7_takeCopy_31 : decode (mB MX7_takeCopy) 31 = .ok (.getfield 27, 3) := by decide +kernel
theorem eX7_takeCopy_34 : decode (mB MX7_takeCopy) 34 = .ok (.iload 4, 2) := by decide +kernel
theorem eX7_takeCopy_36 : decode (mB MX7_takeCopy) 36 = .ok (.dup2, 1) := by decide +kernel
theorem eX7_takeCopy_37 : decode (mB MX7_takeCopy) 37 = .ok (.iaload, 1) := by decide +kernel
theorem eX7_takeCopy_38 : decode (mB MX7_takeCopy) 38 = .ok (.iconst 1, 1) := by decide +kernel
theorem eX7_takeCopy_39 : decode (mB MX7_takeCopy) 39 = .ok (.isub, 1) := by decide +kernel
theorem eX7_takeCopy_40 : decode (mB MX7_takeCopy) 40 = .ok (.iastore, 1) := by decide +kernel
theorem eX7_takeCopy_41 : decode (mB MX7_takeCopy) 41 = .ok (.iload 4, 2) := by decide +kernel
theorem eX7_takeCopy_43 : decode (mB MX7_takeCopy) 43 = .ok (.bipush 9, 2) := by decide +kernel
theorem eX7_takeCopy_45 : decode (mB MX7_takeCopy) 45 = .ok (.imul, 1) := by decide +kernel
theorem eX7_takeCopy_46 : decode (mB MX7_takeCopy) 46 = .ok (.aload_n 2, 1) := by decide +kernel
theorem eX7_takeCopy_47 : decode (mB MX7_takeCopy) 47 = .ok (.getfield 27, 3) := by decide +kernel
theorem eX7_takeCopy_50 : decode (mB MX7_takeCopy) 50 = .ok (.iload 4, 2) := by decide +kernel
theorem eX7_takeCopy_52 : decode (mB MX7_takeCopy) 52 = .ok (.iaload, 1) := by decide +kernel
theorem eX7_takeCopy_53 : decode (mB MX7_takeCopy) 53 = .ok (.iadd, 1) := by decide +kernel
theorem eX7_takeCopy_54 : decode (mB MX7_takeCopy) 54 = .ok (.istore 5, 2) := by decide +kernel
theorem eX7_takeCopy_56 : decode (mB MX7_takeCopy) 56 = .ok (.iconst 0, 1) := by decide +kernel
theorem eX7_takeCopy_57 : decode (mB MX7_takeCopy) 57 = .ok (.istore 6, 2) := by decide +kernel
theorem eX7_takeCopy_59 : decode (mB MX7_takeCopy) 59 = .ok (.iload 6, 2) := by decide +kernel
theorem eX7_takeCopy_61 : decode (mB MX7_takeCopy) 61 = .ok (.bipush 20, 2) := by decide +kernel
theorem eX7_takeCopy_63 : decode (mB MX7_takeCopy) 63 = .ok (.if_icmp .ge 32, 3) := by decide +kernel
theorem eX7_takeCopy_66 : decode (mB MX7_takeCopy) 66 = .ok (.aload_n 2, 1) := by decide +kernel
theorem eX7_takeCopy_67 : decode (mB MX7_takeCopy) 67 = .ok (.getfield 34, 3) := by decide +kernel
theorem eX7_takeCopy_70 : decode (mB MX7_takeCopy) 70 = .ok (.iload 6, 2) := by decide +kernel
theorem eX7_takeCopy_72 : decode (mB MX7_takeCopy) 72 = .ok (.iaload, 1) := by decide +kernel
theorem eX7_takeCopy_73 : decode (mB MX7_takeCopy) 73 = .ok (.bipush 10, 2) := by decide +kernel
theorem eX7_takeCopy_75 : decode (mB MX7_takeCopy) 75 = .ok (.ishr, 1) := by decide +kernel
theorem eX7_takeCopy_76 : decode (mB MX7_takeCopy) 76 = .ok (.iload 5, 2) := by decide +kernel
theorem eX7_takeCopy_78 : decode (mB MX7_takeCopy) 78 = .ok (.if_icmp .ne 11, 3) := by decide +kernel
theorem eX7_takeCopy_81 : decode (mB MX7_takeCopy) 81 = .ok (.aload_n 2, 1) := by decide +kernel
theorem eX7_takeCopy_82 : decode (mB MX7_takeCopy) 82 = .ok (.getfield 34, 3) := by decide +kernel
theorem eX7_takeCopy_85 : decode (mB MX7_takeCopy) 85 = .ok (.iload 6, 2) := by decide +kernel
theorem eX7_takeCopy_87 : decode (mB MX7_takeCopy) 87 = .ok (.iconst (-1), 1) := by decide +kernel
theorem eX7_takeCopy_88 : decode (mB MX7_takeCopy) 88 = .ok (.iastore, 1) := by decide +kernel
theorem eX7_takeCopy_89 : decode (mB MX7_takeCopy) 89 = .ok (.iinc 6 1, 3) := by decide +kernel
theorem eX7_takeCopy_92 : decode (mB MX7_takeCopy) 92 = .ok (.goto (-33), 3) := by decide +kernel
theorem eX7_takeCopy_95 : decode (mB MX7_takeCopy) 95 = .ok (.aload_n 0, 1) := by decide +kernel
theorem eX7_takeCopy_96 : decode (mB MX7_takeCopy) 96 = .ok (.aload_n 1, 1) := by decide +kernel
theorem eX7_takeCopy_97 : decode (mB MX7_takeCopy) 97 = .ok (.aload_n 2, 1) := by decide +kernel
theorem eX7_takeCopy_98 : decode (mB MX7_takeCopy) 98 = .ok (.invokevirtual 30, 3) := by decide +kernel
theorem eX7_takeCopy_101 : decode (mB MX7_takeCopy) 101 = .ok (.iconst 0, 1) := by decide +kernel
theorem eX7_takeCopy_102 : decode (mB MX7_takeCopy) 102 = .ok (.ireturn, 1) := by decide +kernel
theorem eX7_failLink_0 : decode (mB MX7_failLink) 0 = .ok (.aload_n 1, 1) := by decide +kernel
theorem eX7_failLink_1 : decode (mB MX7_failLink) 1 = .ok (.iload_n 3, 1) := by decide +kernel
theorem eX7_failLink_2 : decode (mB MX7_failLink) 2 = .ok (.invokevirtual 37, 3) := by decide +kernel
theorem eX7_failLink_5 : decode (mB MX7_failLink) 5 = .ok (.ifCond .ne 5, 3) := by decide +kernel
theorem eX7_failLink_8 : decode (mB MX7_failLink) 8 = .ok (.iconst 1, 1) := by decide +kernel
theorem eX7_failLink_9 : decode (mB MX7_failLink) 9 = .ok (.ireturn, 1) := by decide +kernel
theorem eX7_failLink_10 : decode (mB MX7_failLink) 10 = .ok (.aload_n 2, 1) := by decide +kernel
theorem eX7_failLink_11 : decode (mB MX7_failLink) 11 = .ok (.iload_n 3, 1) := by decide +kernel
theorem eX7_failLink_12 : decode (mB MX7_failLink) 12 = .ok (.invokevirtual 41, 3) := by decide +kernel
theorem eX7_failLink_15 : decode (mB MX7_failLink) 15 = .ok (.ifCond .eq 5, 3) := by decide +kernel
theorem eX7_failLink_18 : decode (mB MX7_failLink) 18 = .ok (.iconst 2, 1) := by decide +kernel
theorem eX7_failLink_19 : decode (mB MX7_failLink) 19 = .ok (.ireturn, 1) := by decide +kernel
theorem eX7_failLink_20 : decode (mB MX7_failLink) 20 = .ok (.aload_n 2, 1) := by decide +kernel
theorem eX7_failLink_21 : decode (mB MX7_failLink) 21 = .ok (.dup, 1) := by decide +kernel
theorem eX7_failLink_22 : decode (mB MX7_failLink) 22 = .ok (.getfield 44, 3) := by decide +kernel
theorem eX7_failLink_25 : decode (mB MX7_failLink) 25 = .ok (.iconst 1, 1) := by decide +kernel
theorem eX7_failLink_26 : decode (mB MX7_failLink) 26 = .ok (.iload_n 3, 1) := by decide +kernel
theorem eX7_failLink_27 : decode (mB MX7_failLink) 27 = .ok (.ishl, 1) := by decide +kernel
theorem eX7_failLink_28 : decode (mB MX7_failLink) 28 = .ok (.ior, 1) := by decide +kernel
theorem eX7_failLink_29 : decode (mB MX7_failLink) 29 = .ok (.putfield 44, 3) := by decide +kernel
theorem eX7_failLink_32 : decode (mB MX7_failLink) 32 = .ok (.iconst 0, 1) := by decide +kernel
theorem eX7_failLink_33 : decode (mB MX7_failLink) 33 = .ok (.istore 4, 2) := by decide +kernel
theorem eX7_failLink_35 : decode (mB MX7_failLink) 35 = .ok (.iload 4, 2) := by decide +kernel
theorem eX7_failLink_37 : decode (mB MX7_failLink) 37 = .ok (.bipush 20, 2) := by decide +kernel
theorem eX7_failLink_39 : decode (mB MX7_failLink) 39 = .ok (.if_icmp .ge 44, 3) := by decide +kernel
theorem eX7_failLink_42 : decode (mB MX7_failLink) 42 = .ok (.aload_n 2, 1) := by decide +kernel
theorem eX7_failLink_43 : decode (mB MX7_failLink) 43 = .ok (.getfield 34, 3) := by decide +kernel
theorem eX7_failLink_46 : decode (mB MX7_failLink) 46 = .ok (.iload 4, 2) := by decide +kernel
theorem eX7_failLink_48 : decode (mB MX7_failLink) 48 = .ok (.iaload, 1) := by decide +kernel
theorem eX7_failLink_49 : decode (mB MX7_failLink) 49 = .ok (.ifCond .lt 28, 3) := by decide +kernel
theorem eX7_failLink_52 : decode (mB MX7_failLink) 52 = .ok (.aload_n 2, 1) := by decide +kernel
theorem eX7_failLink_53 : decode (mB MX7_failLink) 53 = .ok (.getfield 34, 3) := by decide +kernel
theorem eX7_failLink_56 : decode (mB MX7_failLink) 56 = .ok (.iload 4, 2) := by decide +kernel
theorem eX7_failLink_58 : decode (mB MX7_failLink) 58 = .ok (.iaload, 1) := by decide +kernel
theorem eX7_failLink_59 : decode (mB MX7_failLink) 59 = .ok (.invokestatic 47, 3) := by decide +kernel
theorem eX7_failLink_62 : decode (mB MX7_failLink) 62 = .ok (.iload_n 3, 1) := by decide +kernel
theorem eX7_failLink_63 : decode (mB MX7_failLink) 63 = .ok (.ishr, 1) := by decide +kernel
theorem eX7_failLink_64 : decode (mB MX7_failLink) 64 = .ok (.iconst 1, 1) := by decide +kernel
theorem eX7_failLink_65 : decode (mB MX7_failLink) 65 = .ok (.iand, 1) := by decide +kernel
theorem eX7_failLink_66 : decode (mB MX7_failLink) 66 = .ok (.ifCond .eq 11, 3) := by decide +kernel
theorem eX7_failLink_69 : decode (mB MX7_failLink) 69 = .ok (.aload_n 2, 1) := by decide +kernel
theorem eX7_failLink_70 : decode (mB MX7_failLink) 70 = .ok (.getfield 34, 3) := by decide +kernel
theorem eX7_failLink_73 : decode (mB MX7_failLink) 73 = .ok (.iload 4, 2) := by decide +kernel
theorem eX7_failLink_75 : decode (mB MX7_failLink) 75 = .ok (.iconst (-1), 1) := by decide +kernel
theorem eX7_failLink_76 : decode (mB MX7_failLink) 76 = .ok (.iastore, 1) := by decide +kernel
theorem eX7_failLink_77 : decode (mB MX7_failLink) 77 = .ok (.iinc 4 1, 3) := by decide +kernel
theorem eX7_failLink_80 : decode (mB MX7_failLink) 80 = .ok (.goto (-45), 3) := by decide +kernel
theorem eX7_failLink_83 : decode (mB MX7_failLink) 83 = .ok (.aload_n 0, 1) := by decide +kernel
theorem eX7_failLink_84 : decode (mB MX7_failLink) 84 = .ok (.aload_n 1, 1) := by decide +kernel
theorem eX7_failLink_85 : decode (mB MX7_failLink) 85 = .ok (.aload_n 2, 1) := by decide +kernel
theorem eX7_failLink_86 : decode (mB MX7_failLink) 86 = .ok (.invokevirtual 30, 3) := by decide +kernel
theorem eX7_failLink_89 : decode (mB MX7_failLink) 89 = .ok (.iconst 0, 1) := by decide +kernel
theorem eX7_failLink_90 : decode (mB MX7_failLink) 90 = .ok (.ireturn, 1) := by decide +kernel
theorem eX7_mendLink_0 : decode (mB MX7_mendLink) 0 = .ok (.aload_n 1, 1) := by decide +kernel
theorem eX7_mendLink_1 : decode (mB MX7_mendLink) 1 = .ok (.iload_n 3, 1) := by decide +kernel
theorem eX7_mendLink_2 : decode (mB MX7_mendLink) 2 = .ok (.invokevirtual 37, 3) := by decide +kernel
theorem eX7_mendLink_5 : decode (mB MX7_mendLink) 5 = .ok (.ifCond .ne 5, 3) := by decide +kernel
theorem eX7_mendLink_8 : decode (mB MX7_mendLink) 8 = .ok (.iconst 1, 1) := by decide +kernel
theorem eX7_mendLink_9 : decode (mB MX7_mendLink) 9 = .ok (.ireturn, 1) := by decide +kernel
theorem eX7_mendLink_10 : decode (mB MX7_mendLink) 10 = .ok (.aload_n 2, 1) := by decide +kernel
theorem eX7_mendLink_11 : decode (mB MX7_mendLink) 11 = .ok (.iload_n 3, 1) := by decide +kernel
theorem eX7_mendLink_12 : decode (mB MX7_mendLink) 12 = .ok (.invokevirtual 41, 3) := by decide +kernel
theorem eX7_mendLink_15 : decode (mB MX7_mendLink) 15 = .ok (.ifCond .ne 5, 3) := by decide +kernel
theorem eX7_mendLink_18 : decode (mB MX7_mendLink) 18 = .ok (.iconst 2, 1) := by decide +kernel
theorem eX7_mendLink_19 : decode (mB MX7_mendLink) 19 = .ok (.ireturn, 1) := by decide +kernel
theorem eX7_mendLink_20 : decode (mB MX7_mendLink) 20 = .ok (.aload_n 2, 1) := by decide +kernel
theorem eX7_mendLink_21 : decode (mB MX7_mendLink) 21 = .ok (.dup, 1) := by decide +kernel
theorem eX7_mendLink_22 : decode (mB MX7_mendLink) 22 = .ok (.getfield 44, 3) := by decide +kernel
theorem eX7_mendLink_25 : decode (mB MX7_mendLink) 25 = .ok (.iconst 1, 1) := by decide +kernel
theorem eX7_mendLink_26 : decode (mB MX7_mendLink) 26 = .ok (.iload_n 3, 1) := by decide +kernel
theorem eX7_mendLink_27 : decode (mB MX7_mendLink) 27 = .ok (.ishl, 1) := by decide +kernel
theorem eX7_mendLink_28 : decode (mB MX7_mendLink) 28 = .ok (.iconst (-1), 1) := by decide +kernel
theorem eX7_mendLink_29 : decode (mB MX7_mendLink) 29 = .ok (.ixor, 1) := by decide +kernel
theorem eX7_mendLink_30 : decode (mB MX7_mendLink) 30 = .ok (.iand, 1) := by decide +kernel
theorem eX7_mendLink_31 : decode (mB MX7_mendLink) 31 = .ok (.putfield 44, 3) := by decide +kernel
theorem eX7_mendLink_34 : decode (mB MX7_mendLink) 34 = .ok (.iconst 0, 1) := by decide +kernel
theorem eX7_mendLink_35 : decode (mB MX7_mendLink) 35 = .ok (.istore 4, 2) := by decide +kernel
theorem eX7_mendLink_37 : decode (mB MX7_mendLink) 37 = .ok (.iload 4, 2) := by decide +kernel
theorem eX7_mendLink_39 : decode (mB MX7_mendLink) 39 = .ok (.iconst 2, 1) := by decide +kernel
theorem eX7_mendLink_40 : decode (mB MX7_mendLink) 40 = .ok (.if_icmp .ge 21, 3) := by decide +kernel
theorem eX7_mendLink_43 : decode (mB MX7_mendLink) 43 = .ok (.aload_n 2, 1) := by decide +kernel
theorem eX7_mendLink_44 : decode (mB MX7_mendLink) 44 = .ok (.getfield 34, 3) := by decide +kernel
theorem eX7_mendLink_47 : decode (mB MX7_mendLink) 47 = .ok (.iload_n 3, 1) := by decide +kernel
theorem eX7_mendLink_48 : decode (mB MX7_mendLink) 48 = .ok (.iconst 2, 1) := by decide +kernel
theorem eX7_mendLink_49 : decode (mB MX7_mendLink) 49 = .ok (.imul, 1) := by decide +kernel
theorem eX7_mendLink_50 : decode (mB MX7_mendLink) 50 = .ok (.iload 4, 2) := by decide +kernel
theorem eX7_mendLink_52 : decode (mB MX7_mendLink) 52 = .ok (.iadd, 1) := by decide +kernel
theorem eX7_mendLink_53 : decode (mB MX7_mendLink) 53 = .ok (.iconst (-1), 1) := by decide +kernel
theorem eX7_mendLink_54 : decode (mB MX7_mendLink) 54 = .ok (.iastore, 1) := by decide +kernel
theorem eX7_mendLink_55 : decode (mB MX7_mendLink) 55 = .ok (.iinc 4 1, 3) := by decide +kernel
theorem eX7_mendLink_58 : decode (mB MX7_mendLink) 58 = .ok (.goto (-21), 3) := by decide +kernel
theorem eX7_mendLink_61 : decode (mB MX7_mendLink) 61 = .ok (.aload_n 0, 1) := by decide +kernel
theorem eX7_mendLink_62 : decode (mB MX7_mendLink) 62 = .ok (.aload_n 1, 1) := by decide +kernel
theorem eX7_mendLink_63 : decode (mB MX7_mendLink) 63 = .ok (.aload_n 2, 1) := by decide +kernel
theorem eX7_mendLink_64 : decode (mB MX7_mendLink) 64 = .ok (.invokevirtual 30, 3) := by decide +kernel
theorem eX7_mendLink_67 : decode (mB MX7_mendLink) 67 = .ok (.iconst 0, 1) := by decide +kernel
theorem eX7_mendLink_68 : decode (mB MX7_mendLink) 68 = .ok (.ireturn, 1) := by decide +kernel
theorem eX7_changeRate_0 : decode (mB MX7_changeRate) 0 = .ok (.iload_n 3, 1) := by decide +kernel
theorem eX7_changeRate_1 : decode (mB MX7_changeRate) 1 = .ok (.ifCond .lt 9, 3) := by decide +kernel
theorem eX7_changeRate_4 : decode (mB MX7_changeRate) 4 = .ok (.iload_n 3, 1) := by decide +kernel
theorem eX7_changeRate_5 : decode (mB MX7_changeRate) 5 = .ok (.bipush 10, 2) := by decide +kernel
theorem eX7_changeRate_7 : decode (mB MX7_changeRate) 7 = .ok (.if_icmp .lt 5, 3) := by decide +kernel
theorem eX7_changeRate_10 : decode (mB MX7_changeRate) 10 = .ok (.iconst 1, 1) := by decide +kernel
theorem eX7_changeRate_11 : decode (mB MX7_changeRate) 11 = .ok (.ireturn, 1) := by decide +kernel
theorem eX7_changeRate_12 : decode (mB MX7_changeRate) 12 = .ok (.aload_n 1, 1) := by decide +kernel
theorem eX7_changeRate_13 : decode (mB MX7_changeRate) 13 = .ok (.getfield 51, 3) := by decide +kernel
theorem eX7_changeRate_16 : decode (mB MX7_changeRate) 16 = .ok (.iload_n 3, 1) := by decide +kernel
theorem eX7_changeRate_17 : decode (mB MX7_changeRate) 17 = .ok (.laload, 1) := by decide +kernel
theorem eX7_changeRate_18 : decode (mB MX7_changeRate) 18 = .ok (.aload_n 1, 1) := by decide +kernel
theorem eX7_changeRate_19 : decode (mB MX7_changeRate) 19 = .ok (.getfield 51, 3) := by decide +kernel
theorem eX7_changeRate_22 : decode (mB MX7_changeRate) 22 = .ok (.aload_n 2, 1) := by decide +kernel
theorem eX7_changeRate_23 : decode (mB MX7_changeRate) 23 = .ok (.getfield 15, 3) := by decide +kernel
theorem eX7_changeRate_26 : decode (mB MX7_changeRate) 26 = .ok (.laload, 1) := by decide +kernel
theorem eX7_changeRate_27 : decode (mB MX7_changeRate) 27 = .ok (.lcmp, 1) := by decide +kernel
theorem eX7_changeRate_28 : decode (mB MX7_changeRate) 28 = .ok (.ifCond .eq 8, 3) := by decide +kernel
theorem eX7_changeRate_31 : decode (mB MX7_changeRate) 31 = .ok (.aload_n 2, 1) := by decide +kernel
theorem eX7_changeRate_32 : decode (mB MX7_changeRate) 32 = .ok (.iload_n 3, 1) := by decide +kernel
theorem eX7_changeRate_33 : decode (mB MX7_changeRate) 33 = .ok (.invokevirtual 55, 3) := by decide +kernel
theorem eX7_changeRate_36 : decode (mB MX7_changeRate) 36 = .ok (.aload_n 2, 1) := by decide +kernel
theorem eX7_changeRate_37 : decode (mB MX7_changeRate) 37 = .ok (.iload_n 3, 1) := by decide +kernel
theorem eX7_changeRate_38 : decode (mB MX7_changeRate) 38 = .ok (.putfield 15, 3) := by decide +kernel
theorem eX7_changeRate_41 : decode (mB MX7_changeRate) 41 = .ok (.iconst 0, 1) := by decide +kernel
theorem eX7_changeRate_42 : decode (mB MX7_changeRate) 42 = .ok (.ireturn, 1) := by decide +kernel
theorem eX7_doDeed_0 : decode (mB MX7_doDeed) 0 = .ok (.lload_n 3, 1) := by decide +kernel
theorem eX7_doDeed_1 : decode (mB MX7_doDeed) 1 = .ok (.ldc2_w 59, 3) := by decide +kernel
theorem eX7_doDeed_4 : decode (mB MX7_doDeed) 4 = .ok (.lcmp, 1) := by decide +kernel
theorem eX7_doDeed_5 : decode (mB MX7_doDeed) 5 = .ok (.ifCond .lt 11, 3) := by decide +kernel
theorem eX7_doDeed_8 : decode (mB MX7_doDeed) 8 = .ok (.lload_n 3, 1) := by decide +kernel
theorem eX7_doDeed_9 : decode (mB MX7_doDeed) 9 = .ok (.ldc2_w 61, 3) := by decide +kernel
theorem eX7_doDeed_12 : decode (mB MX7_doDeed) 12 = .ok (.lcmp, 1) := by decide +kernel
theorem eX7_doDeed_13 : decode (mB MX7_doDeed) 13 = .ok (.ifCond .le 5, 3) := by decide +kernel
theorem eX7_doDeed_16 : decode (mB MX7_doDeed) 16 = .ok (.iconst 1, 1) := by decide +kernel
theorem eX7_doDeed_17 : decode (mB MX7_doDeed) 17 = .ok (.ireturn, 1) := by decide +kernel
theorem eX7_doDeed_18 : decode (mB MX7_doDeed) 18 = .ok (.lload_n 3, 1) := by decide +kernel
theorem eX7_doDeed_19 : decode (mB MX7_doDeed) 19 = .ok (.l2i, 1) := by decide +kernel
theorem eX7_doDeed_20 : decode (mB MX7_doDeed) 20 = .ok (.istore 5, 2) := by decide +kernel
theorem eX7_doDeed_22 : decode (mB MX7_doDeed) 22 = .ok (.iload 5, 2) := by decide +kernel
theorem eX7_doDeed_24 : decode (mB MX7_doDeed) 24 = .ok (.bipush 20, 2) := by decide +kernel
theorem eX7_doDeed_26 : decode (mB MX7_doDeed) 26 = .ok (.if_icmp .ge 15, 3) := by decide +kernel
theorem eX7_doDeed_29 : decode (mB MX7_doDeed) 29 = .ok (.aload_n 0, 1) := by decide +kernel
theorem eX7_doDeed_30 : decode (mB MX7_doDeed) 30 = .ok (.aload_n 1, 1) := by decide +kernel
theorem eX7_doDeed_31 : decode (mB MX7_doDeed) 31 = .ok (.aload_n 2, 1) := by decide +kernel
theorem eX7_doDeed_32 : decode (mB MX7_doDeed) 32 = .ok (.iload 5, 2) := by decide +kernel
theorem eX7_doDeed_34 : decode (mB MX7_doDeed) 34 = .ok (.bipush 10, 2) := by decide +kernel
theorem eX7_doDeed_36 : decode (mB MX7_doDeed) 36 = .ok (.isub, 1) := by decide +kernel
theorem eX7_doDeed_37 : decode (mB MX7_doDeed) 37 = .ok (.invokevirtual 63, 3) := by decide +kernel
theorem eX7_doDeed_40 : decode (mB MX7_doDeed) 40 = .ok (.ireturn, 1) := by decide +kernel
theorem eX7_doDeed_41 : decode (mB MX7_doDeed) 41 = .ok (.iload 5, 2) := by decide +kernel
theorem eX7_doDeed_43 : decode (mB MX7_doDeed) 43 = .ok (.sipush 300, 3) := by decide +kernel
theorem eX7_doDeed_46 : decode (mB MX7_doDeed) 46 = .ok (.if_icmp .lt 16, 3) := by decide +kernel
theorem eX7_doDeed_49 : decode (mB MX7_doDeed) 49 = .ok (.aload_n 0, 1) := by decide +kernel
theorem eX7_doDeed_50 : decode (mB MX7_doDeed) 50 = .ok (.aload_n 1, 1) := by decide +kernel
theorem eX7_doDeed_51 : decode (mB MX7_doDeed) 51 = .ok (.aload_n 2, 1) := by decide +kernel
theorem eX7_doDeed_52 : decode (mB MX7_doDeed) 52 = .ok (.iload 5, 2) := by decide +kernel
theorem eX7_doDeed_54 : decode (mB MX7_doDeed) 54 = .ok (.sipush 300, 3) := by decide +kernel
theorem eX7_doDeed_57 : decode (mB MX7_doDeed) 57 = .ok (.isub, 1) := by decide +kernel
theorem eX7_doDeed_58 : decode (mB MX7_doDeed) 58 = .ok (.invokevirtual 67, 3) := by decide +kernel
theorem eX7_doDeed_61 : decode (mB MX7_doDeed) 61 = .ok (.ireturn, 1) := by decide +kernel
theorem eX7_doDeed_62 : decode (mB MX7_doDeed) 62 = .ok (.iload 5, 2) := by decide +kernel
theorem eX7_doDeed_64 : decode (mB MX7_doDeed) 64 = .ok (.sipush 200, 3) := by decide +kernel
theorem eX7_doDeed_67 : decode (mB MX7_doDeed) 67 = .ok (.if_icmp .lt 16, 3) := by decide +kernel
theorem eX7_doDeed_70 : decode (mB MX7_doDeed) 70 = .ok (.aload_n 0, 1) := by decide +kernel
theorem eX7_doDeed_71 : decode (mB MX7_doDeed) 71 = .ok (.aload_n 1, 1) := by decide +kernel
theorem eX7_doDeed_72 : decode (mB MX7_doDeed) 72 = .ok (.aload_n 2, 1) := by decide +kernel
theorem eX7_doDeed_73 : decode (mB MX7_doDeed) 73 = .ok (.iload 5, 2) := by decide +kernel
theorem eX7_doDeed_75 : decode (mB MX7_doDeed) 75 = .ok (.sipush 200, 3) := by decide +kernel
theorem eX7_doDeed_78 : decode (mB MX7_doDeed) 78 = .ok (.isub, 1) := by decide +kernel
theorem eX7_doDeed_79 : decode (mB MX7_doDeed) 79 = .ok (.invokevirtual 70, 3) := by decide +kernel
theorem eX7_doDeed_82 : decode (mB MX7_doDeed) 82 = .ok (.ireturn, 1) := by decide +kernel
theorem eX7_doDeed_83 : decode (mB MX7_doDeed) 83 = .ok (.iload 5, 2) := by decide +kernel
theorem eX7_doDeed_85 : decode (mB MX7_doDeed) 85 = .ok (.bipush 110, 2) := by decide +kernel
theorem eX7_doDeed_87 : decode (mB MX7_doDeed) 87 = .ok (.if_icmp .lt 22, 3) := by decide +kernel
theorem eX7_doDeed_90 : decode (mB MX7_doDeed) 90 = .ok (.iload 5, 2) := by decide +kernel
theorem eX7_doDeed_92 : decode (mB MX7_doDeed) 92 = .ok (.bipush 120, 2) := by decide +kernel
theorem eX7_doDeed_94 : decode (mB MX7_doDeed) 94 = .ok (.if_icmp .ge 15, 3) := by decide +kernel
theorem eX7_doDeed_97 : decode (mB MX7_doDeed) 97 = .ok (.aload_n 0, 1) := by decide +kernel
theorem eX7_doDeed_98 : decode (mB MX7_doDeed) 98 = .ok (.aload_n 1, 1) := by decide +kernel
theorem eX7_doDeed_99 : decode (mB MX7_doDeed) 99 = .ok (.aload_n 2, 1) := by decide +kernel
theorem eX7_doDeed_100 : decode (mB MX7_doDeed) 100 = .ok (.iload 5, 2) := by decide +kernel
theorem eX7_doDeed_102 : decode (mB MX7_doDeed) 102 = .ok (.bipush 110, 2) := by decide +kernel
theorem eX7_doDeed_104 : decode (mB MX7_doDeed) 104 = .ok (.isub, 1) := by decide +kernel
theorem eX7_doDeed_105 : decode (mB MX7_doDeed) 105 = .ok (.invokevirtual 73, 3) := by decide +kernel
theorem eX7_doDeed_108 : decode (mB MX7_doDeed) 108 = .ok (.ireturn, 1) := by decide +kernel
theorem eX7_doDeed_109 : decode (mB MX7_doDeed) 109 = .ok (.iload 5, 2) := by decide +kernel
theorem eX7_doDeed_111 : decode (mB MX7_doDeed) 111 = .ok (.bipush 100, 2) := by decide +kernel
theorem eX7_doDeed_113 : decode (mB MX7_doDeed) 113 = .ok (.if_icmp .lt 24, 3) := by decide +kernel
theorem eX7_doDeed_116 : decode (mB MX7_doDeed) 116 = .ok (.iload 5, 2) := by decide +kernel
theorem eX7_doDeed_118 : decode (mB MX7_doDeed) 118 = .ok (.bipush 110, 2) := by decide +kernel
theorem eX7_doDeed_120 : decode (mB MX7_doDeed) 120 = .ok (.if_icmp .ge 17, 3) := by decide +kernel
theorem eX7_doDeed_123 : decode (mB MX7_doDeed) 123 = .ok (.aload_n 0, 1) := by decide +kernel
theorem eX7_doDeed_124 : decode (mB MX7_doDeed) 124 = .ok (.aload_n 1, 1) := by decide +kernel
theorem eX7_doDeed_125 : decode (mB MX7_doDeed) 125 = .ok (.aload_n 2, 1) := by decide +kernel
theorem eX7_doDeed_126 : decode (mB MX7_doDeed) 126 = .ok (.iload 5, 2) := by decide +kernel
theorem eX7_doDeed_128 : decode (mB MX7_doDeed) 128 = .ok (.bipush 100, 2) := by decide +kernel
theorem eX7_doDeed_130 : decode (mB MX7_doDeed) 130 = .ok (.isub, 1) := by decide +kernel
theorem eX7_doDeed_131 : decode (mB MX7_doDeed) 131 = .ok (.invokevirtual 76, 3) := by decide +kernel
theorem eX7_doDeed_134 : decode (mB MX7_doDeed) 134 = .ok (.goto 4, 3) := by decide +kernel
theorem eX7_doDeed_137 : decode (mB MX7_doDeed) 137 = .ok (.iconst 1, 1) := by decide +kernel
theorem eX7_doDeed_138 : decode (mB MX7_doDeed) 138 = .ok (.ireturn, 1) := by decide +kernel
theorem eX7_doAll_0 : decode (mB MX7_doAll) 0 = .ok (.iconst 0, 1) := by decide +kernel
theorem eX7_doAll_1 : decode (mB MX7_doAll) 1 = .ok (.istore 4, 2) := by decide +kernel
theorem eX7_doAll_3 : decode (mB MX7_doAll) 3 = .ok (.iload 4, 2) := by decide +kernel
theorem eX7_doAll_5 : decode (mB MX7_doAll) 5 = .ok (.aload_n 3, 1) := by decide +kernel
theorem eX7_doAll_6 : decode (mB MX7_doAll) 6 = .ok (.getfield 79, 3) := by decide +kernel
theorem eX7_doAll_9 : decode (mB MX7_doAll) 9 = .ok (.if_icmp .ge 25, 3) := by decide +kernel
theorem eX7_doAll_12 : decode (mB MX7_doAll) 12 = .ok (.aload_n 0, 1) := by decide +kernel
theorem eX7_doAll_13 : decode (mB MX7_doAll) 13 = .ok (.aload_n 1, 1) := by decide +kernel
theorem eX7_doAll_14 : decode (mB MX7_doAll) 14 = .ok (.aload_n 2, 1) := by decide +kernel
theorem eX7_doAll_15 : decode (mB MX7_doAll) 15 = .ok (.aload_n 3, 1) := by decide +kernel
theorem eX7_doAll_16 : decode (mB MX7_doAll) 16 = .ok (.getfield 84, 3) := by decide +kernel
theorem eX7_doAll_19 : decode (mB MX7_doAll) 19 = .ok (.iload 4, 2) := by decide +kernel
theorem eX7_doAll_21 : decode (mB MX7_doAll) 21 = .ok (.laload, 1) := by decide +kernel
theorem eX7_doAll_22 : decode (mB MX7_doAll) 22 = .ok (.invokevirtual 87, 3) := by decide +kernel
theorem eX7_doAll_25 : decode (mB MX7_doAll) 25 = .ok (.ifCond .ne 9, 3) := by decide +kernel
theorem eX7_doAll_28 : decode (mB MX7_doAll) 28 = .ok (.iinc 4 1, 3) := by decide +kernel
theorem eX7_doAll_31 : decode (mB MX7_doAll) 31 = .ok (.goto (-28), 3) := by decide +kernel
theorem eX7_doAll_34 : decode (mB MX7_doAll) 34 = .ok (.iload 4, 2) := by decide +kernel
theorem eX7_doAll_36 : decode (mB MX7_doAll) 36 = .ok (.ireturn, 1) := by decide +kernel
theorem eX7_doYear_0 : decode (mB MX7_doYear) 0 = .ok (.iload_n 3, 1) := by decide +kernel
theorem eX7_doYear_1 : decode (mB MX7_doYear) 1 = .ok (.istore 5, 2) := by decide +kernel
theorem eX7_doYear_3 : decode (mB MX7_doYear) 3 = .ok (.iconst 0, 1) := by decide +kernel
theorem eX7_doYear_4 : decode (mB MX7_doYear) 4 = .ok (.istore 6, 2) := by decide +kernel
theorem eX7_doYear_6 : decode (mB MX7_doYear) 6 = .ok (.iconst 0, 1) := by decide +kernel
theorem eX7_doYear_7 : decode (mB MX7_doYear) 7 = .ok (.istore 7, 2) := by decide +kernel
theorem eX7_doYear_9 : decode (mB MX7_doYear) 9 = .ok (.iload 7, 2) := by decide +kernel
theorem eX7_doYear_11 : decode (mB MX7_doYear) 11 = .ok (.iload 4, 2) := by decide +kernel
theorem eX7_doYear_13 : decode (mB MX7_doYear) 13 = .ok (.if_icmp .ge 124, 3) := by decide +kernel
theorem eX7_doYear_16 : decode (mB MX7_doYear) 16 = .ok (.iload 5, 2) := by decide +kernel
theorem eX7_doYear_18 : decode (mB MX7_doYear) 18 = .ok (.invokestatic 91, 3) := by decide +kernel
theorem eX7_doYear_21 : decode (mB MX7_doYear) 21 = .ok (.istore 5, 2) := by decide +kernel
theorem eX7_doYear_23 : decode (mB MX7_doYear) 23 = .ok (.iload 5, 2) := by decide +kernel
theorem eX7_doYear_25 : decode (mB MX7_doYear) 25 = .ok (.bipush 16, 2) := by decide +kernel
theorem eX7_doYear_27 : decode (mB MX7_doYear) 27 = .ok (.iushr, 1) := by decide +kernel
theorem eX7_doYear_28 : decode (mB MX7_doYear) 28 = .ok (.iconst 5, 1) := by decide +kernel
theorem eX7_doYear_29 : decode (mB MX7_doYear) 29 = .ok (.irem, 1) := by decide +kernel
theorem eX7_doYear_30 : decode (mB MX7_doYear) 30 = .ok (.istore 8, 2) := by decide +kernel
theorem eX7_doYear_32 : decode (mB MX7_doYear) 32 = .ok (.iload 5, 2) := by decide +kernel
theorem eX7_doYear_34 : decode (mB MX7_doYear) 34 = .ok (.invokestatic 91, 3) := by decide +kernel
theorem eX7_doYear_37 : decode (mB MX7_doYear) 37 = .ok (.istore 5, 2) := by decide +kernel
theorem eX7_doYear_39 : decode (mB MX7_doYear) 39 = .ok (.iload 5, 2) := by decide +kernel
theorem eX7_doYear_41 : decode (mB MX7_doYear) 41 = .ok (.bipush 16, 2) := by decide +kernel
theorem eX7_doYear_43 : decode (mB MX7_doYear) 43 = .ok (.iushr, 1) := by decide +kernel
theorem eX7_doYear_44 : decode (mB MX7_doYear) 44 = .ok (.istore 9, 2) := by decide +kernel
theorem eX7_doYear_46 : decode (mB MX7_doYear) 46 = .ok (.iload 8, 2) := by decide +kernel
theorem eX7_doYear_48 : decode (mB MX7_doYear) 48 = .ok (.iconst 2, 1) := by decide +kernel
theorem eX7_doYear_49 : decode (mB MX7_doYear) 49 = .ok (.if_icmp .ge 15, 3) := by decide +kernel
theorem eX7_doYear_52 : decode (mB MX7_doYear) 52 = .ok (.sipush 200, 3) := by decide +kernel
