theorem dX0_init_0 : decode cX0_init 0 = .ok (.aload_n 0, 1) := by decide +kernel
theorem dX0_init_1 : decode cX0_init 1 = .ok (.invokespecial 1, 3) := by decide +kernel
theorem dX0_init_4 : decode cX0_init 4 = .ok (.aload_n 0, 1) := by decide +kernel
theorem dX0_init_5 : decode cX0_init 5 = .ok (.new 7, 3) := by decide +kernel
theorem dX0_init_8 : decode cX0_init 8 = .ok (.dup, 1) := by decide +kernel
theorem dX0_init_9 : decode cX0_init 9 = .ok (.invokespecial 9, 3) := by decide +kernel
theorem dX0_init_12 : decode cX0_init 12 = .ok (.putfield 10, 3) := by decide +kernel
theorem dX0_init_15 : decode cX0_init 15 = .ok (.aload_n 0, 1) := by decide +kernel
theorem dX0_init_16 : decode cX0_init 16 = .ok (.iload_n 1, 1) := by decide +kernel
theorem dX0_init_17 : decode cX0_init 17 = .ok (.putfield 16, 3) := by decide +kernel
theorem dX0_init_20 : decode cX0_init 20 = .ok (.aload_n 0, 1) := by decide +kernel
theorem dX0_init_21 : decode cX0_init 21 = .ok (.bipush 20, 2) := by decide +kernel
theorem dX0_init_23 : decode cX0_init 23 = .ok (.putfield 20, 3) := by decide +kernel
theorem dX0_init_26 : decode cX0_init 26 = .ok (.return_, 1) := by decide +kernel
theorem dX0_takeIn_0 : decode cX0_takeIn 0 = .ok (.iconst 1, 1) := by decide +kernel
theorem dX0_takeIn_1 : decode cX0_takeIn 1 = .ok (.istore_n 2, 1) := by decide +kernel
theorem dX0_takeIn_2 : decode cX0_takeIn 2 = .ok (.iload_n 2, 1) := by decide +kernel
theorem dX0_takeIn_3 : decode cX0_takeIn 3 = .ok (.iconst 5, 1) := by decide +kernel
theorem dX0_takeIn_4 : decode cX0_takeIn 4 = .ok (.if_icmp .gt 44, 3) := by decide +kernel
theorem dX0_takeIn_7 : decode cX0_takeIn 7 = .ok (.aload_n 0, 1) := by decide +kernel
theorem dX0_takeIn_8 : decode cX0_takeIn 8 = .ok (.getfield 10, 3) := by decide +kernel
theorem dX0_takeIn_11 : decode cX0_takeIn 11 = .ok (.getfield 23, 3) := by decide +kernel
theorem dX0_takeIn_14 : decode cX0_takeIn 14 = .ok (.iload_n 2, 1) := by decide +kernel
theorem dX0_takeIn_15 : decode cX0_takeIn 15 = .ok (.aload_n 0, 1) := by decide +kernel
theorem dX0_takeIn_16 : decode cX0_takeIn 16 = .ok (.aload_n 0, 1) := by decide +kernel
theorem dX0_takeIn_17 : decode cX0_takeIn 17 = .ok (.getfield 10, 3) := by decide +kernel
theorem dX0_takeIn_20 : decode cX0_takeIn 20 = .ok (.getfield 23, 3) := by decide +kernel
theorem dX0_takeIn_23 : decode cX0_takeIn 23 = .ok (.iload_n 2, 1) := by decide +kernel
theorem dX0_takeIn_24 : decode cX0_takeIn 24 = .ok (.iaload, 1) := by decide +kernel
theorem dX0_takeIn_25 : decode cX0_takeIn 25 = .ok (.aload_n 1, 1) := by decide +kernel
theorem dX0_takeIn_26 : decode cX0_takeIn 26 = .ok (.getfield 10, 3) := by decide +kernel
theorem dX0_takeIn_29 : decode cX0_takeIn 29 = .ok (.getfield 23, 3) := by decide +kernel
theorem dX0_takeIn_32 : decode cX0_takeIn 32 = .ok (.iload_n 2, 1) := by decide +kernel
theorem dX0_takeIn_33 : decode cX0_takeIn 33 = .ok (.iaload, 1) := by decide +kernel
theorem dX0_takeIn_34 : decode cX0_takeIn 34 = .ok (.aload_n 1, 1) := by decide +kernel
theorem dX0_takeIn_35 : decode cX0_takeIn 35 = .ok (.getfield 16, 3) := by decide +kernel
theorem dX0_takeIn_38 : decode cX0_takeIn 38 = .ok (.invokevirtual 27, 3) := by decide +kernel
theorem dX0_takeIn_41 : decode cX0_takeIn 41 = .ok (.iastore, 1) := by decide +kernel
theorem dX0_takeIn_42 : decode cX0_takeIn 42 = .ok (.iinc 2 1, 3) := by decide +kernel
theorem dX0_takeIn_45 : decode cX0_takeIn 45 = .ok (.goto (-43), 3) := by decide +kernel
theorem dX0_takeIn_48 : decode cX0_takeIn 48 = .ok (.aload_n 0, 1) := by decide +kernel
theorem dX0_takeIn_49 : decode cX0_takeIn 49 = .ok (.aload_n 0, 1) := by decide +kernel
theorem dX0_takeIn_50 : decode cX0_takeIn 50 = .ok (.aload_n 0, 1) := by decide +kernel
theorem dX0_takeIn_51 : decode cX0_takeIn 51 = .ok (.getfield 20, 3) := by decide +kernel
theorem dX0_takeIn_54 : decode cX0_takeIn 54 = .ok (.aload_n 1, 1) := by decide +kernel
theorem dX0_takeIn_55 : decode cX0_takeIn 55 = .ok (.getfield 20, 3) := by decide +kernel
theorem dX0_takeIn_58 : decode cX0_takeIn 58 = .ok (.aload_n 1, 1) := by decide +kernel
theorem dX0_takeIn_59 : decode cX0_takeIn 59 = .ok (.getfield 16, 3) := by decide +kernel
theorem dX0_takeIn_62 : decode cX0_takeIn 62 = .ok (.invokevirtual 27, 3) := by decide +kernel
theorem dX0_takeIn_65 : decode cX0_takeIn 65 = .ok (.putfield 20, 3) := by decide +kernel
theorem dX0_takeIn_68 : decode cX0_takeIn 68 = .ok (.aload_n 0, 1) := by decide +kernel
theorem dX0_takeIn_69 : decode cX0_takeIn 69 = .ok (.dup, 1) := by decide +kernel
theorem dX0_takeIn_70 : decode cX0_takeIn 70 = .ok (.getfield 16, 3) := by decide +kernel
theorem dX0_takeIn_73 : decode cX0_takeIn 73 = .ok (.aload_n 1, 1) := by decide +kernel
theorem dX0_takeIn_74 : decode cX0_takeIn 74 = .ok (.getfield 16, 3) := by decide +kernel
theorem dX0_takeIn_77 : decode cX0_takeIn 77 = .ok (.iadd, 1) := by decide +kernel
theorem dX0_takeIn_78 : decode cX0_takeIn 78 = .ok (.putfield 16, 3) := by decide +kernel
theorem dX0_takeIn_81 : decode cX0_takeIn 81 = .ok (.aload_n 1, 1) := by decide +kernel
theorem dX0_takeIn_82 : decode cX0_takeIn 82 = .ok (.iconst 0, 1) := by decide +kernel
theorem dX0_takeIn_83 : decode cX0_takeIn 83 = .ok (.putfield 16, 3) := by decide +kernel
theorem dX0_takeIn_86 : decode cX0_takeIn 86 = .ok (.aload_n 1, 1) := by decide +kernel
theorem dX0_takeIn_87 : decode cX0_takeIn 87 = .ok (.getfield 10, 3) := by decide +kernel
theorem dX0_takeIn_90 : decode cX0_takeIn 90 = .ok (.invokevirtual 31, 3) := by decide +kernel
theorem dX0_takeIn_93 : decode cX0_takeIn 93 = .ok (.return_, 1) := by decide +kernel
theorem dX0_mixed_0 : decode cX0_mixed 0 = .ok (.aload_n 0, 1) := by decide +kernel
theorem dX0_mixed_1 : decode cX0_mixed 1 = .ok (.getfield 16, 3) := by decide +kernel
theorem dX0_mixed_4 : decode cX0_mixed 4 = .ok (.iload_n 3, 1) := by decide +kernel
theorem dX0_mixed_5 : decode cX0_mixed 5 = .ok (.iadd, 1) := by decide +kernel
theorem dX0_mixed_6 : decode cX0_mixed 6 = .ok (.istore 4, 2) := by decide +kernel
theorem dX0_mixed_8 : decode cX0_mixed 8 = .ok (.iload 4, 2) := by decide +kernel
theorem dX0_mixed_10 : decode cX0_mixed 10 = .ok (.ifCond .gt 7, 3) := by decide +kernel
theorem dX0_mixed_13 : decode cX0_mixed 13 = .ok (.iload_n 1, 1) := by decide +kernel
theorem dX0_mixed_14 : decode cX0_mixed 14 = .ok (.goto 16, 3) := by decide +kernel
theorem dX0_mixed_17 : decode cX0_mixed 17 = .ok (.iload_n 1, 1) := by decide +kernel
theorem dX0_mixed_18 : decode cX0_mixed 18 = .ok (.aload_n 0, 1) := by decide +kernel
theorem dX0_mixed_19 : decode cX0_mixed 19 = .ok (.getfield 16, 3) := by decide +kernel
theorem dX0_mixed_22 : decode cX0_mixed 22 = .ok (.imul, 1) := by decide +kernel
theorem dX0_mixed_23 : decode cX0_mixed 23 = .ok (.iload_n 2, 1) := by decide +kernel
theorem dX0_mixed_24 : decode cX0_mixed 24 = .ok (.iload_n 3, 1) := by decide +kernel
theorem dX0_mixed_25 : decode cX0_mixed 25 = .ok (.imul, 1) := by decide +kernel
theorem dX0_mixed_26 : decode cX0_mixed 26 = .ok (.iadd, 1) := by decide +kernel
theorem dX0_mixed_27 : decode cX0_mixed 27 = .ok (.iload 4, 2) := by decide +kernel
theorem dX0_mixed_29 : decode cX0_mixed 29 = .ok (.idiv, 1) := by decide +kernel
theorem dX0_mixed_30 : decode cX0_mixed 30 = .ok (.ireturn, 1) := by decide +kernel
theorem dX1_init_0 : decode cX1_init 0 = .ok (.aload_n 0, 1) := by decide +kernel
theorem dX1_init_1 : decode cX1_init 1 = .ok (.invokespecial 3, 3) := by decide +kernel
theorem dX1_init_4 : decode cX1_init 4 = .ok (.aload_n 0, 1) := by decide +kernel
theorem dX1_init_5 : decode cX1_init 5 = .ok (.iload_n 1, 1) := by decide +kernel
theorem dX1_init_6 : decode cX1_init 6 = .ok (.putfield 9, 3) := by decide +kernel
theorem dX1_init_9 : decode cX1_init 9 = .ok (.aload_n 0, 1) := by decide +kernel
theorem dX1_init_10 : decode cX1_init 10 = .ok (.iload_n 2, 1) := by decide +kernel
theorem dX1_init_11 : decode cX1_init 11 = .ok (.putfield 15, 3) := by decide +kernel
theorem dX1_init_14 : decode cX1_init 14 = .ok (.aload_n 0, 1) := by decide +kernel
theorem dX1_init_15 : decode cX1_init 15 = .ok (.iconst (-1), 1) := by decide +kernel
theorem dX1_init_16 : decode cX1_init 16 = .ok (.putfield 18, 3) := by decide +kernel
theorem dX1_init_19 : decode cX1_init 19 = .ok (.aload_n 0, 1) := by decide +kernel
theorem dX1_init_20 : decode cX1_init 20 = .ok (.iconst (-1), 1) := by decide +kernel
theorem dX1_init_21 : decode cX1_init 21 = .ok (.putfield 21, 3) := by decide +kernel
theorem dX1_init_24 : decode cX1_init 24 = .ok (.return_, 1) := by decide +kernel
theorem dX1_suits_0 : decode cX1_suits 0 = .ok (.aload_n 1, 1) := by decide +kernel
theorem dX1_suits_1 : decode cX1_suits 1 = .ok (.invokevirtual 24, 3) := by decide +kernel
theorem dX1_suits_4 : decode cX1_suits 4 = .ok (.aload_n 0, 1) := by decide +kernel
theorem dX1_suits_5 : decode cX1_suits 5 = .ok (.getfield 9, 3) := by decide +kernel
theorem dX1_suits_8 : decode cX1_suits 8 = .ok (.if_icmp .ne 24, 3) := by decide +kernel
theorem dX1_suits_11 : decode cX1_suits 11 = .ok (.aload_n 1, 1) := by decide +kernel
theorem dX1_suits_12 : decode cX1_suits 12 = .ok (.getfield 29, 3) := by decide +kernel
theorem dX1_suits_15 : decode cX1_suits 15 = .ok (.aload_n 0, 1) := by decide +kernel
theorem dX1_suits_16 : decode cX1_suits 16 = .ok (.getfield 15, 3) := by decide +kernel
theorem dX1_suits_19 : decode cX1_suits 19 = .ok (.if_icmp .lt 13, 3) := by decide +kernel
theorem dX1_suits_22 : decode cX1_suits 22 = .ok (.iload_n 2, 1) := by decide +kernel
theorem dX1_suits_23 : decode cX1_suits 23 = .ok (.bipush 20, 2) := by decide +kernel
theorem dX1_suits_25 : decode cX1_suits 25 = .ok (.if_icmp .gt 7, 3) := by decide +kernel
theorem dX1_suits_28 : decode cX1_suits 28 = .ok (.iconst 1, 1) := by decide +kernel
theorem dX1_suits_29 : decode cX1_suits 29 = .ok (.goto 4, 3) := by decide +kernel
theorem dX1_suits_32 : decode cX1_suits 32 = .ok (.iconst 0, 1) := by decide +kernel
theorem dX1_suits_33 : decode cX1_suits 33 = .ok (.ireturn, 1) := by decide +kernel
theorem dX1_take_0 : decode cX1_take 0 = .ok (.aload_n 0, 1) := by decide +kernel
theorem dX1_take_1 : decode cX1_take 1 = .ok (.iconst 1, 1) := by decide +kernel
theorem dX1_take_2 : decode cX1_take 2 = .ok (.putfield 30, 3) := by decide +kernel
theorem dX1_take_5 : decode cX1_take 5 = .ok (.aload_n 0, 1) := by decide +kernel
theorem dX1_take_6 : decode cX1_take 6 = .ok (.aload_n 1, 1) := by decide +kernel
theorem dX1_take_7 : decode cX1_take 7 = .ok (.getfield 29, 3) := by decide +kernel
theorem dX1_take_10 : decode cX1_take 10 = .ok (.putfield 18, 3) := by decide +kernel
theorem dX1_take_13 : decode cX1_take 13 = .ok (.aload_n 0, 1) := by decide +kernel
theorem dX1_take_14 : decode cX1_take 14 = .ok (.aload_n 1, 1) := by decide +kernel
theorem dX1_take_15 : decode cX1_take 15 = .ok (.getfield 34, 3) := by decide +kernel
theorem dX1_take_18 : decode cX1_take 18 = .ok (.putfield 21, 3) := by decide +kernel
theorem dX1_take_21 : decode cX1_take 21 = .ok (.return_, 1) := by decide +kernel
theorem dX2_init_0 : decode cX2_init 0 = .ok (.aload_n 0, 1) := by decide +kernel
theorem dX2_init_1 : decode cX2_init 1 = .ok (.invokespecial 3, 3) := by decide +kernel
theorem dX2_init_4 : decode cX2_init 4 = .ok (.aload_n 0, 1) := by decide +kernel
theorem dX2_init_5 : decode cX2_init 5 = .ok (.bipush 6, 2) := by decide +kernel
theorem dX2_init_7 : decode cX2_init 7 = .ok (.newarray .int, 2) := by decide +kernel
theorem dX2_init_9 : decode cX2_init 9 = .ok (.putfield 11, 3) := by decide +kernel
theorem dX2_init_12 : decode cX2_init 12 = .ok (.return_, 1) := by decide +kernel
theorem dX2_vanish_0 : decode cX2_vanish 0 = .ok (.iconst 1, 1) := by decide +kernel
theorem dX2_vanish_1 : decode cX2_vanish 1 = .ok (.istore_n 1, 1) := by decide +kernel
theorem dX2_vanish_2 : decode cX2_vanish 2 = .ok (.iload_n 1, 1) := by decide +kernel
theorem dX2_vanish_3 : decode cX2_vanish 3 = .ok (.iconst 5, 1) := by decide +kernel
theorem dX2_vanish_4 : decode cX2_vanish 4 = .ok (.if_icmp .gt 16, 3) := by decide +kernel
theorem dX2_vanish_7 : decode cX2_vanish 7 = .ok (.aload_n 0, 1) := by decide +kernel
theorem dX2_vanish_8 : decode cX2_vanish 8 = .ok (.getfield 11, 3) := by decide +kernel
theorem dX2_vanish_11 : decode cX2_vanish 11 = .ok (.iload_n 1, 1) := by decide +kernel
theorem dX2_vanish_12 : decode cX2_vanish 12 = .ok (.iconst 0, 1) := by decide +kernel
theorem dX2_vanish_13 : decode cX2_vanish 13 = .ok (.iastore, 1) := by decide +kernel
theorem dX2_vanish_14 : decode cX2_vanish 14 = .ok (.iinc 1 1, 3) := by decide +kernel
theorem dX2_vanish_17 : decode cX2_vanish 17 = .ok (.goto (-15), 3) := by decide +kernel
theorem dX2_vanish_20 : decode cX2_vanish 20 = .ok (.return_, 1) := by decide +kernel
theorem dX2_keepAt_0 : decode cX2_keepAt 0 = .ok (.iconst 0, 1) := by decide +kernel
theorem dX2_keepAt_1 : decode cX2_keepAt 1 = .ok (.istore_n 3, 1) := by decide +kernel
theorem dX2_keepAt_2 : decode cX2_keepAt 2 = .ok (.iload_n 3, 1) := by decide +kernel
theorem dX2_keepAt_3 : decode cX2_keepAt 3 = .ok (.iload_n 2, 1) := by decide +kernel
theorem dX2_keepAt_4 : decode cX2_keepAt 4 = .ok (.if_icmp .ge 19, 3) := by decide +kernel
theorem dX2_keepAt_7 : decode cX2_keepAt 7 = .ok (.aload_n 0, 1) := by decide +kernel
theorem dX2_keepAt_8 : decode cX2_keepAt 8 = .ok (.iload_n 1, 1) := by decide +kernel
theorem dX2_keepAt_9 : decode cX2_keepAt 9 = .ok (.invokevirtual 15, 3) := by decide +kernel
theorem dX2_keepAt_12 : decode cX2_keepAt 12 = .ok (.aload_n 0, 1) := by decide +kernel
theorem dX2_keepAt_13 : decode cX2_keepAt 13 = .ok (.iload_n 1, 1) := by decide +kernel
theorem dX2_keepAt_14 : decode cX2_keepAt 14 = .ok (.invokevirtual 19, 3) := by decide +kernel
theorem dX2_keepAt_17 : decode cX2_keepAt 17 = .ok (.iinc 3 1, 3) := by decide +kernel
theorem dX2_keepAt_20 : decode cX2_keepAt 20 = .ok (.goto (-18), 3) := by decide +kernel
theorem dX2_keepAt_23 : decode cX2_keepAt 23 = .ok (.return_, 1) := by decide +kernel
theorem dX2_halveWhatMelts_0 : decode cX2_halveWhatMelts 0 = .ok (.iconst 1, 1) := by decide +kernel
theorem dX2_halveWhatMelts_1 : decode cX2_halveWhatMelts 1 = .ok (.istore_n 2, 1) := by decide +kernel
theorem dX2_halveWhatMelts_2 : decode cX2_halveWhatMelts 2 = .ok (.iload_n 2, 1) := by decide +kernel
theorem dX2_halveWhatMelts_3 : decode cX2_halveWhatMelts 3 = .ok (.iconst 5, 1) := by decide +kernel
theorem dX2_halveWhatMelts_4 : decode cX2_halveWhatMelts 4 = .ok (.if_icmp .gt 27, 3) := by decide +kernel
theorem dX2_halveWhatMelts_7 : decode cX2_halveWhatMelts 7 = .ok (.iload_n 1, 1) := by decide +kernel
theorem dX2_halveWhatMelts_8 : decode cX2_halveWhatMelts 8 = .ok (.iload_n 2, 1) := by decide +kernel
theorem dX2_halveWhatMelts_9 : decode cX2_halveWhatMelts 9 = .ok (.invokestatic 22, 3) := by decide +kernel
theorem dX2_halveWhatMelts_12 : decode cX2_halveWhatMelts 12 = .ok (.if_icmp .lt 13, 3) := by decide +kernel
theorem dX2_halveWhatMelts_15 : decode cX2_halveWhatMelts 15 = .ok (.aload_n 0, 1) := by decide +kernel
theorem dX2_halveWhatMelts_16 : decode cX2_halveWhatMelts 16 = .ok (.getfield 11, 3) := by decide +kernel
theorem dX2_halveWhatMelts_19 : decode cX2_halveWhatMelts 19 = .ok (.iload_n 2, 1) := by decide +kernel
theorem dX2_halveWhatMelts_20 : decode cX2_halveWhatMelts 20 = .ok (.dup2, 1) := by decide +kernel
theorem dX2_halveWhatMelts_21 : decode cX2_halveWhatMelts 21 = .ok (.iaload, 1) := by decide +kernel
theorem dX2_halveWhatMelts_22 : decode cX2_halveWhatMelts 22 = .ok (.iconst 2, 1) := by decide +kernel
theorem dX2_halveWhatMelts_23 : decode cX2_halveWhatMelts 23 = .ok (.idiv, 1) := by decide +kernel
theorem dX2_halveWhatMelts_24 : decode cX2_halveWhatMelts 24 = .ok (.iastore, 1) := by decide +kernel
theorem dX2_halveWhatMelts_25 : decode cX2_halveWhatMelts 25 = .ok (.iinc 2 1, 3) := by decide +kernel
theorem dX2_halveWhatMelts_28 : decode cX2_halveWhatMelts 28 = .ok (.goto (-26), 3) := by decide +kernel
theorem dX2_halveWhatMelts_31 : decode cX2_halveWhatMelts 31 = .ok (.return_, 1) := by decide +kernel
theorem dX2_letGrow_0 : decode cX2_letGrow 0 = .ok (.iload_n 1, 1) := by decide +kernel
theorem dX2_letGrow_1 : decode cX2_letGrow 1 = .ok (.bipush 34, 2) := by decide +kernel
theorem dX2_letGrow_3 : decode cX2_letGrow 3 = .ok (.if_icmp .ge 24, 3) := by decide +kernel
theorem dX2_letGrow_6 : decode cX2_letGrow 6 = .ok (.iload_n 1, 1) := by decide +kernel
theorem dX2_letGrow_7 : decode cX2_letGrow 7 = .ok (.invokestatic 26, 3) := by decide +kernel
theorem dX2_letGrow_10 : decode cX2_letGrow 10 = .ok (.istore_n 2, 1) := by decide +kernel
theorem dX2_letGrow_11 : decode cX2_letGrow 11 = .ok (.aload_n 0, 1) := by decide +kernel
theorem dX2_letGrow_12 : decode cX2_letGrow 12 = .ok (.iload_n 2, 1) := by decide +kernel
theorem dX2_letGrow_13 : decode cX2_letGrow 13 = .ok (.bipush 8, 2) := by decide +kernel
theorem dX2_letGrow_15 : decode cX2_letGrow 15 = .ok (.aload_n 0, 1) := by decide +kernel
theorem dX2_letGrow_16 : decode cX2_letGrow 16 = .ok (.getfield 11, 3) := by decide +kernel
theorem dX2_letGrow_19 : decode cX2_letGrow 19 = .ok (.iload_n 2, 1) := by decide +kernel
theorem dX2_letGrow_20 : decode cX2_letGrow 20 = .ok (.iaload, 1) := by decide +kernel
theorem dX2_letGrow_21 : decode cX2_letGrow 21 = .ok (.iconst 4, 1) := by decide +kernel
theorem dX2_letGrow_22 : decode cX2_letGrow 22 = .ok (.idiv, 1) := by decide +kernel
theorem dX2_letGrow_23 : decode cX2_letGrow 23 = .ok (.iadd, 1) := by decide +kernel
theorem dX2_letGrow_24 : decode cX2_letGrow 24 = .ok (.invokevirtual 29, 3) := by decide +kernel
theorem dX2_letGrow_27 : decode cX2_letGrow 27 = .ok (.return_, 1) := by decide +kernel
theorem dX2_meltingPoint_0 : decode cX2_meltingPoint 0 = .ok (.bipush 15, 2) := by decide +kernel
theorem dX2_meltingPoint_2 : decode cX2_meltingPoint 2 = .ok (.iconst 4, 1) := by decide +kernel
theorem dX2_meltingPoint_3 : decode cX2_meltingPoint 3 = .ok (.iload_n 0, 1) := by decide +kernel
theorem dX2_meltingPoint_4 : decode cX2_meltingPoint 4 = .ok (.imul, 1) := by decide +kernel
theorem dX2_meltingPoint_5 : decode cX2_meltingPoint 5 = .ok (.iadd, 1) := by decide +kernel
theorem dX2_meltingPoint_6 : decode cX2_meltingPoint 6 = .ok (.ireturn, 1) := by decide +kernel
theorem dX2_growingSort_0 : decode cX2_growingSort 0 = .ok (.iconst 1, 1) := by decide +kernel
theorem dX2_growingSort_1 : decode cX2_growingSort 1 = .ok (.istore_n 1, 1) := by decide +kernel
theorem dX2_growingSort_2 : decode cX2_growingSort 2 = .ok (.iload_n 1, 1) := by decide +kernel
theorem dX2_growingSort_3 : decode cX2_growingSort 3 = .ok (.iconst 5, 1) := by decide +kernel
theorem dX2_growingSort_4 : decode cX2_growingSort 4 = .ok (.if_icmp .gt 21, 3) := by decide +kernel
theorem dX2_growingSort_7 : decode cX2_growingSort 7 = .ok (.iload_n 1, 1) := by decide +kernel
theorem dX2_growingSort_8 : decode cX2_growingSort 8 = .ok (.invokestatic 22, 3) := by decide +kernel
theorem dX2_growingSort_11 : decode cX2_growingSort 11 = .ok (.iload_n 0, 1) := by decide +kernel
theorem dX2_growingSort_12 : decode cX2_growingSort 12 = .ok (.iconst 3, 1) := by decide +kernel
theorem dX2_growingSort_13 : decode cX2_growingSort 13 = .ok (.iadd, 1) := by decide +kernel
theorem dX2_growingSort_14 : decode cX2_growingSort 14 = .ok (.if_icmp .le 5, 3) := by decide +kernel
theorem dX2_growingSort_17 : decode cX2_growingSort 17 = .ok (.iload_n 1, 1) := by decide +kernel
theorem dX2_growingSort_18 : decode cX2_growingSort 18 = .ok (.ireturn, 1) := by decide +kernel
theorem dX2_growingSort_19 : decode cX2_growingSort 19 = .ok (.iinc 1 1, 3) := by decide +kernel
theorem dX2_growingSort_22 : decode cX2_growingSort 22 = .ok (.goto (-20), 3) := by decide +kernel
theorem dX2_growingSort_25 : decode cX2_growingSort 25 = .ok (.iconst 5, 1) := by decide +kernel
theorem dX2_growingSort_26 : decode cX2_growingSort 26 = .ok (.ireturn, 1) := by decide +kernel
theorem dX2_increase_0 : decode cX2_increase 0 = .ok (.aload_n 0, 1) := by decide +kernel
theorem dX2_increase_1 : decode cX2_increase 1 = .ok (.getfield 11, 3) := by decide +kernel
theorem dX2_increase_4 : decode cX2_increase 4 = .ok (.iload_n 1, 1) := by decide +kernel
theorem dX2_increase_5 : decode cX2_increase 5 = .ok (.dup2, 1) := by decide +kernel
theorem dX2_increase_6 : decode cX2_increase 6 = .ok (.iaload, 1) := by decide +kernel
theorem dX2_increase_7 : decode cX2_increase 7 = .ok (.iconst 0, 1) := by decide +kernel
theorem dX2_increase_8 : decode cX2_increase 8 = .ok (.iload_n 2, 1) := by decide +kernel
theorem dX2_increase_9 : decode cX2_increase 9 = .ok (.bipush 100, 2) := by decide +kernel
theorem dX2_increase_11 : decode cX2_increase 11 = .ok (.aload_n 0, 1) := by decide +kernel
theorem dX2_increase_12 : decode cX2_increase 12 = .ok (.invokevirtual 33, 3) := by decide +kernel
theorem dX2_increase_15 : decode cX2_increase 15 = .ok (.isub, 1) := by decide +kernel
theorem dX2_increase_16 : decode cX2_increase 16 = .ok (.invokestatic 37, 3) := by decide +kernel
theorem dX2_increase_19 : decode cX2_increase 19 = .ok (.invokestatic 43, 3) := by decide +kernel
theorem dX2_increase_22 : decode cX2_increase 22 = .ok (.iadd, 1) := by decide +kernel
theorem dX2_increase_23 : decode cX2_increase 23 = .ok (.iastore, 1) := by decide +kernel
theorem dX2_increase_24 : decode cX2_increase 24 = .ok (.return_, 1) := by decide +kernel
theorem dX2_total_0 : decode cX2_total 0 = .ok (.iconst 0, 1) := by decide +kernel
theorem dX2_total_1 : decode cX2_total 1 = .ok (.istore_n 1, 1) := by decide +kernel
theorem dX2_total_2 : decode cX2_total 2 = .ok (.iconst 1, 1) := by decide +kernel
theorem dX2_total_3 : decode cX2_total 3 = .ok (.istore_n 2, 1) := by decide +kernel
theorem dX2_total_4 : decode cX2_total 4 = .ok (.iload_n 2, 1) := by decide +kernel
theorem dX2_total_5 : decode cX2_total 5 = .ok (.iconst 5, 1) := by decide +kernel
theorem dX2_total_6 : decode cX2_total 6 = .ok (.if_icmp .gt 18, 3) := by decide +kernel
theorem dX2_total_9 : decode cX2_total 9 = .ok (.iload_n 1, 1) := by decide +kernel
theorem dX2_total_10 : decode cX2_total 10 = .ok (.aload_n 0, 1) := by decide +kernel
theorem dX2_total_11 : decode cX2_total 11 = .ok (.getfield 11, 3) := by decide +kernel
theorem dX2_total_14 : decode cX2_total 14 = .ok (.iload_n 2, 1) := by decide +kernel
theorem dX2_total_15 : decode cX2_total 15 = .ok (.iaload, 1) := by decide +kernel
theorem dX2_total_16 : decode cX2_total 16 = .ok (.iadd, 1) := by decide +kernel
theorem dX2_total_17 : decode cX2_total 17 = .ok (.istore_n 1, 1) := by decide +kernel
theorem dX2_total_18 : decode cX2_total 18 = .ok (.iinc 2 1, 3) := by decide +kernel
theorem dX2_total_21 : decode cX2_total 21 = .ok (.goto (-17), 3) := by decide +kernel
theorem dX2_total_24 : decode cX2_total 24 = .ok (.iload_n 1, 1) := by decide +kernel
theorem dX2_total_25 : decode cX2_total 25 = .ok (.ireturn, 1) := by decide +kernel
theorem dX2_temper_0 : decode cX2_temper 0 = .ok (.iconst 2, 1) := by decide +kernel
theorem dX2_temper_1 : decode cX2_temper 1 = .ok (.aload_n 0, 1) := by decide +kernel
theorem dX2_temper_2 : decode cX2_temper 2 = .ok (.getfield 11, 3) := by decide +kernel
theorem dX2_temper_5 : decode cX2_temper 5 = .ok (.iconst 5, 1) := by decide +kernel
theorem dX2_temper_6 : decode cX2_temper 6 = .ok (.iaload, 1) := by decide +kernel
theorem dX2_temper_7 : decode cX2_temper 7 = .ok (.imul, 1) := by decide +kernel
theorem dX2_temper_8 : decode cX2_temper 8 = .ok (.aload_n 0, 1) := by decide +kernel
theorem dX2_temper_9 : decode cX2_temper 9 = .ok (.getfield 11, 3) := by decide +kernel
theorem dX2_temper_12 : decode cX2_temper 12 = .ok (.iconst 4, 1) := by decide +kernel
theorem dX2_temper_13 : decode cX2_temper 13 = .ok (.iaload, 1) := by decide +kernel
theorem dX2_temper_14 : decode cX2_temper 14 = .ok (.iadd, 1) := by decide +kernel
theorem dX2_temper_15 : decode cX2_temper 15 = .ok (.aload_n 0, 1) := by decide +kernel
theorem dX2_temper_16 : decode cX2_temper 16 = .ok (.getfield 11, 3) := by decide +kernel
theorem dX2_temper_19 : decode cX2_temper 19 = .ok (.iconst 1, 1) := by decide +kernel
theorem dX2_temper_20 : decode cX2_temper 20 = .ok (.iaload, 1) := by decide +kernel
theorem dX2_temper_21 : decode cX2_temper 21 = .ok (.isub, 1) := by decide +kernel
theorem dX2_temper_22 : decode cX2_temper 22 = .ok (.aload_n 0, 1) := by decide +kernel
theorem dX2_temper_23 : decode cX2_temper 23 = .ok (.getfield 11, 3) := by decide +kernel
theorem dX2_temper_26 : decode cX2_temper 26 = .ok (.iconst 2, 1) := by decide +kernel
theorem dX2_temper_27 : decode cX2_temper 27 = .ok (.iaload, 1) := by decide +kernel
theorem dX2_temper_28 : decode cX2_temper 28 = .ok (.isub, 1) := by decide +kernel
theorem dX2_temper_29 : decode cX2_temper 29 = .ok (.aload_n 0, 1) := by decide +kernel
theorem dX2_temper_30 : decode cX2_temper 30 = .ok (.getfield 11, 3) := by decide +kernel
theorem dX2_temper_33 : decode cX2_temper 33 = .ok (.iconst 3, 1) := by decide +kernel
theorem dX2_temper_34 : decode cX2_temper 34 = .ok (.iaload, 1) := by decide +kernel
theorem dX2_temper_35 : decode cX2_temper 35 = .ok (.isub, 1) := by decide +kernel
theorem dX2_temper_36 : decode cX2_temper 36 = .ok (.istore_n 1, 1) := by decide +kernel
theorem dX2_temper_37 : decode cX2_temper 37 = .ok (.iconst 0, 1) := by decide +kernel
theorem dX2_temper_38 : decode cX2_temper 38 = .ok (.iload_n 1, 1) := by decide +kernel
theorem dX2_temper_39 : decode cX2_temper 39 = .ok (.bipush 100, 2) := by decide +kernel
theorem dX2_temper_41 : decode cX2_temper 41 = .ok (.invokestatic 37, 3) := by decide +kernel
theorem dX2_temper_44 : decode cX2_temper 44 = .ok (.invokestatic 43, 3) := by decide +kernel
theorem dX2_temper_47 : decode cX2_temper 47 = .ok (.ireturn, 1) := by decide +kernel
theorem dX3_init_0 : decode cX3_init 0 = .ok (.aload_n 0, 1) := by decide +kernel
theorem dX3_init_1 : decode cX3_init 1 = .ok (.invokespecial 3, 3) := by decide +kernel
theorem dX3_init_4 : decode cX3_init 4 = .ok (.aload_n 0, 1) := by decide +kernel
theorem dX3_init_5 : decode cX3_init 5 = .ok (.iload_n 1, 1) := by decide +kernel
theorem dX3_init_6 : decode cX3_init 6 = .ok (.putfield 9, 3) := by decide +kernel
theorem dX3_init_9 : decode cX3_init 9 = .ok (.aload_n 0, 1) := by decide +kernel
theorem dX3_init_10 : decode cX3_init 10 = .ok (.iload_n 2, 1) := by decide +kernel
theorem dX3_init_11 : decode cX3_init 11 = .ok (.putfield 15, 3) := by decide +kernel
theorem dX3_init_14 : decode cX3_init 14 = .ok (.aload_n 0, 1) := by decide +kernel
theorem dX3_init_15 : decode cX3_init 15 = .ok (.iload_n 3, 1) := by decide +kernel
theorem dX3_init_16 : decode cX3_init 16 = .ok (.putfield 18, 3) := by decide +kernel
theorem dX3_init_19 : decode cX3_init 19 = .ok (.return_, 1) := by decide +kernel
theorem dX3_squares_0 : decode cX3_squares 0 = .ok (.aload_n 0, 1) := by decide +kernel
theorem dX3_squares_1 : decode cX3_squares 1 = .ok (.getfield 9, 3) := by decide +kernel
theorem dX3_squares_4 : decode cX3_squares 4 = .ok (.aload_n 0, 1) := by decide +kernel
theorem dX3_squares_5 : decode cX3_squares 5 = .ok (.getfield 15, 3) := by decide +kernel
theorem dX3_squares_8 : decode cX3_squares 8 = .ok (.imul, 1) := by decide +kernel
theorem dX3_squares_9 : decode cX3_squares 9 = .ok (.ireturn, 1) := by decide +kernel
theorem dX3_grams_0 : decode cX3_grams 0 = .ok (.aload_n 0, 1) := by decide +kernel
theorem dX3_grams_1 : decode cX3_grams 1 = .ok (.invokevirtual 21, 3) := by decide +kernel
theorem dX3_grams_4 : decode cX3_grams 4 = .ok (.bipush 10, 2) := by decide +kernel
theorem dX3_grams_6 : decode cX3_grams 6 = .ok (.imul, 1) := by decide +kernel
theorem dX3_grams_7 : decode cX3_grams 7 = .ok (.ireturn, 1) := by decide +kernel
theorem dX3_isBloomed_0 : decode cX3_isBloomed 0 = .ok (.aload_n 0, 1) := by decide +kernel
theorem dX3_isBloomed_1 : decode cX3_isBloomed 1 = .ok (.getfield 25, 3) := by decide +kernel
theorem dX3_isBloomed_4 : decode cX3_isBloomed 4 = .ok (.bipush 20, 2) := by decide +kernel
theorem dX3_isBloomed_6 : decode cX3_isBloomed 6 = .ok (.if_icmp .le 7, 3) := by decide +kernel
theorem dX3_isBloomed_9 : decode cX3_isBloomed 9 = .ok (.iconst 1, 1) := by decide +kernel
theorem dX3_isBloomed_10 : decode cX3_isBloomed 10 = .ok (.goto 4, 3) := by decide +kernel
theorem dX3_isBloomed_13 : decode cX3_isBloomed 13 = .ok (.iconst 0, 1) := by decide +kernel
theorem dX3_isBloomed_14 : decode cX3_isBloomed 14 = .ok (.ireturn, 1) := by decide +kernel
theorem dX3_bloomBehindPolish_0 : decode cX3_bloomBehindPolish 0 = .ok (.iconst 0, 1) := by decide +kernel
theorem dX3_bloomBehindPolish_1 : decode cX3_bloomBehindPolish 1 = .ok (.aload_n 0, 1) := by decide +kernel
theorem dX3_bloomBehindPolish_2 : decode cX3_bloomBehindPolish 2 = .ok (.getfield 25, 3) := by decide +kernel
theorem dX3_bloomBehindPolish_5 : decode cX3_bloomBehindPolish 5 = .ok (.bipush 15, 2) := by decide +kernel
theorem dX3_bloomBehindPolish_7 : decode cX3_bloomBehindPolish 7 = .ok (.isub, 1) := by decide +kernel
theorem dX3_bloomBehindPolish_8 : decode cX3_bloomBehindPolish 8 = .ok (.invokestatic 28, 3) := by decide +kernel
theorem dX3_bloomBehindPolish_11 : decode cX3_bloomBehindPolish 11 = .ok (.ireturn, 1) := by decide +kernel
theorem dX3_bloomOfADay_0 : decode cX3_bloomOfADay 0 = .ok (.bipush 100, 2) := by decide +kernel
theorem dX3_bloomOfADay_2 : decode cX3_bloomOfADay 2 = .ok (.aload_n 0, 1) := by decide +kernel
theorem dX3_bloomOfADay_3 : decode cX3_bloomOfADay 3 = .ok (.getfield 18, 3) := by decide +kernel
theorem dX3_bloomOfADay_6 : decode cX3_bloomOfADay 6 = .ok (.isub, 1) := by decide +kernel
theorem dX3_bloomOfADay_7 : decode cX3_bloomOfADay 7 = .ok (.bipush 10, 2) := by decide +kernel
theorem dX3_bloomOfADay_9 : decode cX3_bloomOfADay 9 = .ok (.idiv, 1) := by decide +kernel
theorem dX3_bloomOfADay_10 : decode cX3_bloomOfADay 10 = .ok (.iconst 2, 1) := by decide +kernel
theorem dX3_bloomOfADay_11 : decode cX3_bloomOfADay 11 = .ok (.iconst 0, 1) := by decide +kernel
theorem dX3_bloomOfADay_12 : decode cX3_bloomOfADay 12 = .ok (.iload_n 1, 1) := by decide +kernel
theorem dX3_bloomOfADay_13 : decode cX3_bloomOfADay 13 = .ok (.bipush 24, 2) := by decide +kernel
theorem dX3_bloomOfADay_15 : decode cX3_bloomOfADay 15 = .ok (.isub, 1) := by decide +kernel
theorem dX3_bloomOfADay_16 : decode cX3_bloomOfADay 16 = .ok (.invokestatic 28, 3) := by decide +kernel
theorem dX3_bloomOfADay_19 : decode cX3_bloomOfADay 19 = .ok (.imul, 1) := by decide +kernel
theorem dX3_bloomOfADay_20 : decode cX3_bloomOfADay 20 = .ok (.iadd, 1) := by decide +kernel
theorem dX3_bloomOfADay_21 : decode cX3_bloomOfADay 21 = .ok (.ireturn, 1) := by decide +kernel
theorem dX3_standFor_0 : decode cX3_standFor 0 = .ok (.aload_n 0, 1) := by decide +kernel
theorem dX3_standFor_1 : decode cX3_standFor 1 = .ok (.bipush 100, 2) := by decide +kernel
theorem dX3_standFor_3 : decode cX3_standFor 3 = .ok (.aload_n 0, 1) := by decide +kernel
theorem dX3_standFor_4 : decode cX3_standFor 4 = .ok (.getfield 25, 3) := by decide +kernel
theorem dX3_standFor_7 : decode cX3_standFor 7 = .ok (.iload_n 1, 1) := by decide +kernel
theorem dX3_standFor_8 : decode cX3_standFor 8 = .ok (.aload_n 0, 1) := by decide +kernel
theorem dX3_standFor_9 : decode cX3_standFor 9 = .ok (.iload_n 2, 1) := by decide +kernel
theorem dX3_standFor_10 : decode cX3_standFor 10 = .ok (.invokevirtual 34, 3) := by decide +kernel
theorem dX3_standFor_13 : decode cX3_standFor 13 = .ok (.imul, 1) := by decide +kernel
theorem dX3_standFor_14 : decode cX3_standFor 14 = .ok (.iadd, 1) := by decide +kernel
theorem dX3_standFor_15 : decode cX3_standFor 15 = .ok (.invokestatic 38, 3) := by decide +kernel
theorem dX3_standFor_18 : decode cX3_standFor 18 = .ok (.putfield 25, 3) := by decide +kernel
theorem dX3_standFor_21 : decode cX3_standFor 21 = .ok (.aload_n 0, 1) := by decide +kernel
theorem dX3_standFor_22 : decode cX3_standFor 22 = .ok (.dup, 1) := by decide +kernel
theorem dX3_standFor_23 : decode cX3_standFor 23 = .ok (.getfield 41, 3) := by decide +kernel
theorem dX3_standFor_26 : decode cX3_standFor 26 = .ok (.iload_n 1, 1) := by decide +kernel
theorem dX3_standFor_27 : decode cX3_standFor 27 = .ok (.iadd, 1) := by decide +kernel
theorem dX3_standFor_28 : decode cX3_standFor 28 = .ok (.putfield 41, 3) := by decide +kernel
theorem dX3_standFor_31 : decode cX3_standFor 31 = .ok (.return_, 1) := by decide +kernel
theorem dX3_partBehind_0 : decode cX3_partBehind 0 = .ok (.iload_n 2, 1) := by decide +kernel
theorem dX3_partBehind_1 : decode cX3_partBehind 1 = .ok (.ifCond .eq 27, 3) := by decide +kernel
theorem dX3_partBehind_4 : decode cX3_partBehind 4 = .ok (.new 10, 3) := by decide +kernel
theorem dX3_partBehind_7 : decode cX3_partBehind 7 = .ok (.dup, 1) := by decide +kernel
theorem dX3_partBehind_8 : decode cX3_partBehind 8 = .ok (.aload_n 0, 1) := by decide +kernel
theorem dX3_partBehind_9 : decode cX3_partBehind 9 = .ok (.getfield 9, 3) := by decide +kernel
theorem dX3_partBehind_12 : decode cX3_partBehind 12 = .ok (.aload_n 0, 1) := by decide +kernel
theorem dX3_partBehind_13 : decode cX3_partBehind 13 = .ok (.getfield 15, 3) := by decide +kernel
theorem dX3_partBehind_16 : decode cX3_partBehind 16 = .ok (.iload_n 1, 1) := by decide +kernel
theorem dX3_partBehind_17 : decode cX3_partBehind 17 = .ok (.isub, 1) := by decide +kernel
theorem dX3_partBehind_18 : decode cX3_partBehind 18 = .ok (.aload_n 0, 1) := by decide +kernel
theorem dX3_partBehind_19 : decode cX3_partBehind 19 = .ok (.getfield 18, 3) := by decide +kernel
theorem dX3_partBehind_22 : decode cX3_partBehind 22 = .ok (.invokespecial 44, 3) := by decide +kernel
theorem dX3_partBehind_25 : decode cX3_partBehind 25 = .ok (.goto 24, 3) := by decide +kernel
theorem dX3_partBehind_28 : decode cX3_partBehind 28 = .ok (.new 10, 3) := by decide +kernel
theorem dX3_partBehind_31 : decode cX3_partBehind 31 = .ok (.dup, 1) := by decide +kernel
theorem dX3_partBehind_32 : decode cX3_partBehind 32 = .ok (.aload_n 0, 1) := by decide +kernel
theorem dX3_partBehind_33 : decode cX3_partBehind 33 = .ok (.getfield 9, 3) := by decide +kernel
theorem dX3_partBehind_36 : decode cX3_partBehind 36 = .ok (.iload_n 1, 1) := by decide +kernel
theorem dX3_partBehind_37 : decode cX3_partBehind 37 = .ok (.isub, 1) := by decide +kernel
theorem dX3_partBehind_38 : decode cX3_partBehind 38 = .ok (.aload_n 0, 1) := by decide +kernel
theorem dX3_partBehind_39 : decode cX3_partBehind 39 = .ok (.getfield 15, 3) := by decide +kernel
theorem dX3_partBehind_42 : decode cX3_partBehind 42 = .ok (.aload_n 0, 1) := by decide +kernel
theorem dX3_partBehind_43 : decode cX3_partBehind 43 = .ok (.getfield 18, 3) := by decide +kernel
theorem dX3_partBehind_46 : decode cX3_partBehind 46 = .ok (.invokespecial 44, 3) := by decide +kernel
theorem dX3_partBehind_49 : decode cX3_partBehind 49 = .ok (.astore_n 3, 1) := by decide +kernel
theorem dX3_partBehind_50 : decode cX3_partBehind 50 = .ok (.aload_n 3, 1) := by decide +kernel
theorem dX3_partBehind_51 : decode cX3_partBehind 51 = .ok (.aload_n 0, 1) := by decide +kernel
theorem dX3_partBehind_52 : decode cX3_partBehind 52 = .ok (.getfield 25, 3) := by decide +kernel
theorem dX3_partBehind_55 : decode cX3_partBehind 55 = .ok (.putfield 25, 3) := by decide +kernel
theorem dX3_partBehind_58 : decode cX3_partBehind 58 = .ok (.aload_n 3, 1) := by decide +kernel
theorem dX3_partBehind_59 : decode cX3_partBehind 59 = .ok (.aload_n 0, 1) := by decide +kernel
theorem dX3_partBehind_60 : decode cX3_partBehind 60 = .ok (.getfield 41, 3) := by decide +kernel
theorem dX3_partBehind_63 : decode cX3_partBehind 63 = .ok (.putfield 41, 3) := by decide +kernel
theorem dX3_partBehind_66 : decode cX3_partBehind 66 = .ok (.aload_n 3, 1) := by decide +kernel
theorem dX3_partBehind_67 : decode cX3_partBehind 67 = .ok (.areturn, 1) := by decide +kernel
theorem dX3_cutDownTo_0 : decode cX3_cutDownTo 0 = .ok (.iload_n 2, 1) := by decide +kernel
theorem dX3_cutDownTo_1 : decode cX3_cutDownTo 1 = .ok (.ifCond .eq 11, 3) := by decide +kernel
theorem dX3_cutDownTo_4 : decode cX3_cutDownTo 4 = .ok (.aload_n 0, 1) := by decide +kernel
theorem dX3_cutDownTo_5 : decode cX3_cutDownTo 5 = .ok (.iload_n 1, 1) := by decide +kernel
theorem dX3_cutDownTo_6 : decode cX3_cutDownTo 6 = .ok (.putfield 15, 3) := by decide +kernel
theorem dX3_cutDownTo_9 : decode cX3_cutDownTo 9 = .ok (.goto 8, 3) := by decide +kernel
theorem dX3_cutDownTo_12 : decode cX3_cutDownTo 12 = .ok (.aload_n 0, 1) := by decide +kernel
theorem dX3_cutDownTo_13 : decode cX3_cutDownTo 13 = .ok (.iload_n 1, 1) := by decide +kernel
theorem dX3_cutDownTo_14 : decode cX3_cutDownTo 14 = .ok (.putfield 9, 3) := by decide +kernel
theorem dX3_cutDownTo_17 : decode cX3_cutDownTo 17 = .ok (.return_, 1) := by decide +kernel
theorem dX4_init_0 : decode cX4_init 0 = .ok (.aload_n 0, 1) := by decide +kernel
theorem dX4_init_1 : decode cX4_init 1 = .ok (.invokespecial 3, 3) := by decide +kernel
theorem dX4_init_4 : decode cX4_init 4 = .ok (.aload_n 0, 1) := by decide +kernel
theorem dX4_init_5 : decode cX4_init 5 = .ok (.iconst 5, 1) := by decide +kernel
theorem dX4_init_6 : decode cX4_init 6 = .ok (.anewarray 9, 3) := by decide +kernel
theorem dX4_init_9 : decode cX4_init 9 = .ok (.putfield 11, 3) := by decide +kernel
theorem dX4_init_12 : decode cX4_init 12 = .ok (.aload_n 0, 1) := by decide +kernel
theorem dX4_init_13 : decode cX4_init 13 = .ok (.bipush 8, 2) := by decide +kernel
theorem dX4_init_15 : decode cX4_init 15 = .ok (.anewarray 15, 3) := by decide +kernel
theorem dX4_init_18 : decode cX4_init 18 = .ok (.putfield 17, 3) := by decide +kernel
theorem dX4_init_21 : decode cX4_init 21 = .ok (.aload_n 0, 1) := by decide +kernel
theorem dX4_init_22 : decode cX4_init 22 = .ok (.bipush 6, 2) := by decide +kernel
theorem dX4_init_24 : decode cX4_init 24 = .ok (.anewarray 21, 3) := by decide +kernel
theorem dX4_init_27 : decode cX4_init 27 = .ok (.putfield 23, 3) := by decide +kernel
theorem dX4_init_30 : decode cX4_init 30 = .ok (.aload_n 0, 1) := by decide +kernel
theorem dX4_init_31 : decode cX4_init 31 = .ok (.new 27, 3) := by decide +kernel
theorem dX4_init_34 : decode cX4_init 34 = .ok (.dup, 1) := by decide +kernel
theorem dX4_init_35 : decode cX4_init 35 = .ok (.invokespecial 29, 3) := by decide +kernel
theorem dX4_init_38 : decode cX4_init 38 = .ok (.putfield 30, 3) := by decide +kernel
theorem dX4_init_41 : decode cX4_init 41 = .ok (.aload_n 0, 1) := by decide +kernel
theorem dX4_init_42 : decode cX4_init 42 = .ok (.new 27, 3) := by decide +kernel
theorem dX4_init_45 : decode cX4_init 45 = .ok (.dup, 1) := by decide +kernel
theorem dX4_init_46 : decode cX4_init 46 = .ok (.invokespecial 29, 3) := by decide +kernel
theorem dX4_init_49 : decode cX4_init 49 = .ok (.putfield 34, 3) := by decide +kernel
theorem dX4_init_52 : decode cX4_init 52 = .ok (.aload_n 0, 1) := by decide +kernel
theorem dX4_init_53 : decode cX4_init 53 = .ok (.bipush 6, 2) := by decide +kernel
theorem dX4_init_55 : decode cX4_init 55 = .ok (.newarray .int, 2) := by decide +kernel
theorem dX4_init_57 : decode cX4_init 57 = .ok (.putfield 37, 3) := by decide +kernel
theorem dX4_init_60 : decode cX4_init 60 = .ok (.aload_n 0, 1) := by decide +kernel
theorem dX4_init_61 : decode cX4_init 61 = .ok (.bipush 8, 2) := by decide +kernel
theorem dX4_init_63 : decode cX4_init 63 = .ok (.newarray .boolean, 2) := by decide +kernel
theorem dX4_init_65 : decode cX4_init 65 = .ok (.putfield 41, 3) := by decide +kernel
theorem dX4_init_68 : decode cX4_init 68 = .ok (.return_, 1) := by decide +kernel
theorem dX4_bowl_0 : decode cX4_bowl 0 = .ok (.iload_n 1, 1) := by decide +kernel
theorem dX4_bowl_1 : decode cX4_bowl 1 = .ok (.ifCond .lt 10, 3) := by decide +kernel
theorem dX4_bowl_4 : decode cX4_bowl 4 = .ok (.iload_n 1, 1) := by decide +kernel
theorem dX4_bowl_5 : decode cX4_bowl 5 = .ok (.sipush 2000, 3) := by decide +kernel
theorem dX4_bowl_8 : decode cX4_bowl 8 = .ok (.if_icmp .le 13, 3) := by decide +kernel
theorem dX4_bowl_11 : decode cX4_bowl 11 = .ok (.new 45, 3) := by decide +kernel
theorem dX4_bowl_14 : decode cX4_bowl 14 = .ok (.dup, 1) := by decide +kernel
theorem dX4_bowl_15 : decode cX4_bowl 15 = .ok (.ldc 47, 2) := by decide +kernel
theorem dX4_bowl_17 : decode cX4_bowl 17 = .ok (.invokespecial 49, 3) := by decide +kernel
theorem dX4_bowl_20 : decode cX4_bowl 20 = .ok (.athrow, 1) := by decide +kernel
theorem dX4_bowl_21 : decode cX4_bowl 21 = .ok (.aload_n 0, 1) := by decide +kernel
theorem dX4_bowl_22 : decode cX4_bowl 22 = .ok (.getfield 52, 3) := by decide +kernel
theorem dX4_bowl_25 : decode cX4_bowl 25 = .ok (.istore_n 2, 1) := by decide +kernel
theorem dX4_bowl_26 : decode cX4_bowl 26 = .ok (.iload_n 2, 1) := by decide +kernel
theorem dX4_bowl_27 : decode cX4_bowl 27 = .ok (.iconst 5, 1) := by decide +kernel
theorem dX4_bowl_28 : decode cX4_bowl 28 = .ok (.if_icmp .lt 13, 3) := by decide +kernel
theorem dX4_bowl_31 : decode cX4_bowl 31 = .ok (.new 56, 3) := by decide +kernel
theorem dX4_bowl_34 : decode cX4_bowl 34 = .ok (.dup, 1) := by decide +kernel
theorem dX4_bowl_35 : decode cX4_bowl 35 = .ok (.ldc 58, 2) := by decide +kernel
theorem dX4_bowl_37 : decode cX4_bowl 37 = .ok (.invokespecial 60, 3) := by decide +kernel
theorem dX4_bowl_40 : decode cX4_bowl 40 = .ok (.athrow, 1) := by decide +kernel
theorem dX4_bowl_41 : decode cX4_bowl 41 = .ok (.aload_n 0, 1) := by decide +kernel
theorem dX4_bowl_42 : decode cX4_bowl 42 = .ok (.getfield 11, 3) := by decide +kernel
theorem dX4_bowl_45 : decode cX4_bowl 45 = .ok (.iload_n 2, 1) := by decide +kernel
theorem dX4_bowl_46 : decode cX4_bowl 46 = .ok (.new 9, 3) := by decide +kernel
theorem dX4_bowl_49 : decode cX4_bowl 49 = .ok (.dup, 1) := by decide +kernel
theorem dX4_bowl_50 : decode cX4_bowl 50 = .ok (.iload_n 1, 1) := by decide +kernel
theorem dX4_bowl_51 : decode cX4_bowl 51 = .ok (.invokespecial 61, 3) := by decide +kernel
theorem dX4_bowl_54 : decode cX4_bowl 54 = .ok (.aastore, 1) := by decide +kernel
theorem dX4_bowl_55 : decode cX4_bowl 55 = .ok (.aload_n 0, 1) := by decide +kernel
theorem dX4_bowl_56 : decode cX4_bowl 56 = .ok (.iload_n 2, 1) := by decide +kernel
theorem dX4_bowl_57 : decode cX4_bowl 57 = .ok (.iconst 1, 1) := by decide +kernel
theorem dX4_bowl_58 : decode cX4_bowl 58 = .ok (.iadd, 1) := by decide +kernel
theorem dX4_bowl_59 : decode cX4_bowl 59 = .ok (.putfield 52, 3) := by decide +kernel
theorem dX4_bowl_62 : decode cX4_bowl 62 = .ok (.iload_n 2, 1) := by decide +kernel
theorem dX4_bowl_63 : decode cX4_bowl 63 = .ok (.ireturn, 1) := by decide +kernel
theorem dX4_warm_0 : decode cX4_warm 0 = .ok (.aload_n 0, 1) := by decide +kernel
theorem dX4_warm_1 : decode cX4_warm 1 = .ok (.iload_n 1, 1) := by decide +kernel
theorem dX4_warm_2 : decode cX4_warm 2 = .ok (.invokevirtual 64, 3) := by decide +kernel
theorem dX4_warm_5 : decode cX4_warm 5 = .ok (.astore 4, 2) := by decide +kernel
theorem dX4_warm_7 : decode cX4_warm 7 = .ok (.iload_n 2, 1) := by decide +kernel
theorem dX4_warm_8 : decode cX4_warm 8 = .ok (.iload_n 3, 1) := by decide +kernel
theorem dX4_warm_9 : decode cX4_warm 9 = .ok (.invokestatic 68, 3) := by decide +kernel
theorem dX4_warm_12 : decode cX4_warm 12 = .ok (.aload 4, 2) := by decide +kernel
theorem dX4_warm_14 : decode cX4_warm 14 = .ok (.iload_n 2, 1) := by decide +kernel
theorem dX4_warm_15 : decode cX4_warm 15 = .ok (.putfield 72, 3) := by decide +kernel
theorem dX4_warm_18 : decode cX4_warm 18 = .ok (.aload 4, 2) := by decide +kernel
theorem dX4_warm_20 : decode cX4_warm 20 = .ok (.getfield 75, 3) := by decide +kernel
theorem dX4_warm_23 : decode cX4_warm 23 = .ok (.iload_n 2, 1) := by decide +kernel
theorem dX4_warm_24 : decode cX4_warm 24 = .ok (.iload_n 3, 1) := by decide +kernel
theorem dX4_warm_25 : decode cX4_warm 25 = .ok (.invokevirtual 78, 3) := by decide +kernel
theorem dX4_warm_28 : decode cX4_warm 28 = .ok (.aload 4, 2) := by decide +kernel
theorem dX4_warm_30 : decode cX4_warm 30 = .ok (.getfield 75, 3) := by decide +kernel
theorem dX4_warm_33 : decode cX4_warm 33 = .ok (.invokevirtual 81, 3) := by decide +kernel
theorem dX4_warm_36 : decode cX4_warm 36 = .ok (.ireturn, 1) := by decide +kernel
theorem dX4_seed_0 : decode cX4_seed 0 = .ok (.aload_n 0, 1) := by decide +kernel
theorem dX4_seed_1 : decode cX4_seed 1 = .ok (.iload_n 1, 1) := by decide +kernel
theorem dX4_seed_2 : decode cX4_seed 2 = .ok (.invokevirtual 64, 3) := by decide +kernel
theorem dX4_seed_5 : decode cX4_seed 5 = .ok (.astore_n 3, 1) := by decide +kernel
theorem dX4_seed_6 : decode cX4_seed 6 = .ok (.iload_n 2, 1) := by decide +kernel
theorem dX4_seed_7 : decode cX4_seed 7 = .ok (.iconst 1, 1) := by decide +kernel
theorem dX4_seed_8 : decode cX4_seed 8 = .ok (.if_icmp .lt 9, 3) := by decide +kernel
theorem dX4_seed_11 : decode cX4_seed 11 = .ok (.iload_n 2, 1) := by decide +kernel
theorem dX4_seed_12 : decode cX4_seed 12 = .ok (.bipush 30, 2) := by decide +kernel
theorem dX4_seed_14 : decode cX4_seed 14 = .ok (.if_icmp .le 13, 3) := by decide +kernel
theorem dX4_seed_17 : decode cX4_seed 17 = .ok (.new 45, 3) := by decide +kernel
theorem dX4_seed_20 : decode cX4_seed 20 = .ok (.dup, 1) := by decide +kernel
theorem dX4_seed_21 : decode cX4_seed 21 = .ok (.ldc 85, 2) := by decide +kernel
theorem dX4_seed_23 : decode cX4_seed 23 = .ok (.invokespecial 49, 3) := by decide +kernel
theorem dX4_seed_26 : decode cX4_seed 26 = .ok (.athrow, 1) := by decide +kernel
theorem dX4_seed_27 : decode cX4_seed 27 = .ok (.aload_n 3, 1) := by decide +kernel
theorem dX4_seed_28 : decode cX4_seed 28 = .ok (.getfield 75, 3) := by decide +kernel
theorem dX4_seed_31 : decode cX4_seed 31 = .ok (.iconst 5, 1) := by decide +kernel
theorem dX4_seed_32 : decode cX4_seed 32 = .ok (.iload_n 2, 1) := by decide +kernel
theorem dX4_seed_33 : decode cX4_seed 33 = .ok (.invokevirtual 87, 3) := by decide +kernel
theorem dX4_seed_36 : decode cX4_seed 36 = .ok (.aload_n 3, 1) := by decide +kernel
theorem dX4_seed_37 : decode cX4_seed 37 = .ok (.getfield 75, 3) := by decide +kernel
theorem dX4_seed_40 : decode cX4_seed 40 = .ok (.getfield 90, 3) := by decide +kernel
theorem dX4_seed_43 : decode cX4_seed 43 = .ok (.iconst 5, 1) := by decide +kernel
theorem dX4_seed_44 : decode cX4_seed 44 = .ok (.iaload, 1) := by decide +kernel
theorem dX4_seed_45 : decode cX4_seed 45 = .ok (.ireturn, 1) := by decide +kernel
theorem dX4_pour_0 : decode cX4_pour 0 = .ok (.aload_n 0, 1) := by decide +kernel
theorem dX4_pour_1 : decode cX4_pour 1 = .ok (.iload_n 1, 1) := by decide +kernel
theorem dX4_pour_2 : decode cX4_pour 2 = .ok (.invokevirtual 64, 3) := by decide +kernel
theorem dX4_pour_5 : decode cX4_pour 5 = .ok (.astore_n 3, 1) := by decide +kernel
theorem dX4_pour_6 : decode cX4_pour 6 = .ok (.aload_n 0, 1) := by decide +kernel
theorem dX4_pour_7 : decode cX4_pour 7 = .ok (.iload_n 2, 1) := by decide +kernel
theorem dX4_pour_8 : decode cX4_pour 8 = .ok (.invokevirtual 64, 3) := by decide +kernel
theorem dX4_pour_11 : decode cX4_pour 11 = .ok (.astore 4, 2) := by decide +kernel
theorem dX4_pour_13 : decode cX4_pour 13 = .ok (.aload_n 3, 1) := by decide +kernel
theorem dX4_pour_14 : decode cX4_pour 14 = .ok (.getfield 93, 3) := by decide +kernel
theorem dX4_pour_17 : decode cX4_pour 17 = .ok (.aload 4, 2) := by decide +kernel
theorem dX4_pour_19 : decode cX4_pour 19 = .ok (.getfield 93, 3) := by decide +kernel
theorem dX4_pour_22 : decode cX4_pour 22 = .ok (.iadd, 1) := by decide +kernel
theorem dX4_pour_23 : decode cX4_pour 23 = .ok (.istore 5, 2) := by decide +kernel
theorem dX4_pour_25 : decode cX4_pour 25 = .ok (.iload_n 1, 1) := by decide +kernel
theorem dX4_pour_26 : decode cX4_pour 26 = .ok (.iload_n 2, 1) := by decide +kernel
theorem dX4_pour_27 : decode cX4_pour 27 = .ok (.if_icmp .eq 16, 3) := by decide +kernel
theorem dX4_pour_30 : decode cX4_pour 30 = .ok (.iload 5, 2) := by decide +kernel
theorem dX4_pour_32 : decode cX4_pour 32 = .ok (.ifCond .eq 11, 3) := by decide +kernel
theorem dX4_pour_35 : decode cX4_pour 35 = .ok (.iload 5, 2) := by decide +kernel
theorem dX4_pour_37 : decode cX4_pour 37 = .ok (.sipush 2000, 3) := by decide +kernel
theorem dX4_pour_40 : decode cX4_pour 40 = .ok (.if_icmp .le 13, 3) := by decide +kernel
theorem dX4_pour_43 : decode cX4_pour 43 = .ok (.new 45, 3) := by decide +kernel
theorem dX4_pour_46 : decode cX4_pour 46 = .ok (.dup, 1) := by decide +kernel
theorem dX4_pour_47 : decode cX4_pour 47 = .ok (.ldc 96, 2) := by decide +kernel
theorem dX4_pour_49 : decode cX4_pour 49 = .ok (.invokespecial 49, 3) := by decide +kernel
theorem dX4_pour_52 : decode cX4_pour 52 = .ok (.athrow, 1) := by decide +kernel
theorem dX4_pour_53 : decode cX4_pour 53 = .ok (.aload 4, 2) := by decide +kernel
theorem dX4_pour_55 : decode cX4_pour 55 = .ok (.aload_n 3, 1) := by decide +kernel
theorem dX4_pour_56 : decode cX4_pour 56 = .ok (.invokevirtual 98, 3) := by decide +kernel
theorem dX4_pour_59 : decode cX4_pour 59 = .ok (.aload 4, 2) := by decide +kernel
theorem dX4_pour_61 : decode cX4_pour 61 = .ok (.getfield 93, 3) := by decide +kernel
theorem dX4_pour_64 : decode cX4_pour 64 = .ok (.ireturn, 1) := by decide +kernel
theorem dX4_cast_0 : decode cX4_cast 0 = .ok (.aload_n 0, 1) := by decide +kernel
theorem dX4_cast_1 : decode cX4_cast 1 = .ok (.iload_n 1, 1) := by decide +kernel
theorem dX4_cast_2 : decode cX4_cast 2 = .ok (.invokevirtual 64, 3) := by decide +kernel
theorem dX4_cast_5 : decode cX4_cast 5 = .ok (.astore 4, 2) := by decide +kernel
theorem dX4_cast_7 : decode cX4_cast 7 = .ok (.iload_n 2, 1) := by decide +kernel
theorem dX4_cast_8 : decode cX4_cast 8 = .ok (.iconst 1, 1) := by decide +kernel
theorem dX4_cast_9 : decode cX4_cast 9 = .ok (.if_icmp .lt 20, 3) := by decide +kernel
theorem dX4_cast_12 : decode cX4_cast 12 = .ok (.iload_n 2, 1) := by decide +kernel
theorem dX4_cast_13 : decode cX4_cast 13 = .ok (.bipush 6, 2) := by decide +kernel
theorem dX4_cast_15 : decode cX4_cast 15 = .ok (.if_icmp .gt 14, 3) := by decide +kernel
theorem dX4_cast_18 : decode cX4_cast 18 = .ok (.iload_n 3, 1) := by decide +kernel
theorem dX4_cast_19 : decode cX4_cast 19 = .ok (.iconst 1, 1) := by decide +kernel
theorem dX4_cast_20 : decode cX4_cast 20 = .ok (.if_icmp .lt 9, 3) := by decide +kernel
theorem dX4_cast_23 : decode cX4_cast 23 = .ok (.iload_n 3, 1) := by decide +kernel
theorem dX4_cast_24 : decode cX4_cast 24 = .ok (.bipush 6, 2) := by decide +kernel
theorem dX4_cast_26 : decode cX4_cast 26 = .ok (.if_icmp .le 13, 3) := by decide +kernel
theorem dX4_cast_29 : decode cX4_cast 29 = .ok (.new 45, 3) := by decide +kernel
theorem dX4_cast_32 : decode cX4_cast 32 = .ok (.dup, 1) := by decide +kernel
theorem dX4_cast_33 : decode cX4_cast 33 = .ok (.ldc 102, 2) := by decide +kernel
theorem dX4_cast_35 : decode cX4_cast 35 = .ok (.invokespecial 49, 3) := by decide +kernel
theorem dX4_cast_38 : decode cX4_cast 38 = .ok (.athrow, 1) := by decide +kernel
theorem dX4_cast_39 : decode cX4_cast 39 = .ok (.new 15, 3) := by decide +kernel
theorem dX4_cast_42 : decode cX4_cast 42 = .ok (.dup, 1) := by decide +kernel
theorem dX4_cast_43 : decode cX4_cast 43 = .ok (.iload_n 2, 1) := by decide +kernel
theorem dX4_cast_44 : decode cX4_cast 44 = .ok (.iload_n 3, 1) := by decide +kernel
theorem dX4_cast_45 : decode cX4_cast 45 = .ok (.aload 4, 2) := by decide +kernel
theorem dX4_cast_47 : decode cX4_cast 47 = .ok (.getfield 75, 3) := by decide +kernel
theorem dX4_cast_50 : decode cX4_cast 50 = .ok (.invokevirtual 81, 3) := by decide +kernel
theorem dX4_cast_53 : decode cX4_cast 53 = .ok (.invokespecial 104, 3) := by decide +kernel
theorem dX4_cast_56 : decode cX4_cast 56 = .ok (.astore 5, 2) := by decide +kernel
theorem dX4_cast_58 : decode cX4_cast 58 = .ok (.aload 4, 2) := by decide +kernel
theorem dX4_cast_60 : decode cX4_cast 60 = .ok (.getfield 93, 3) := by decide +kernel
theorem dX4_cast_63 : decode cX4_cast 63 = .ok (.aload 5, 2) := by decide +kernel
theorem dX4_cast_65 : decode cX4_cast 65 = .ok (.invokevirtual 107, 3) := by decide +kernel
theorem dX4_cast_68 : decode cX4_cast 68 = .ok (.if_icmp .ge 13, 3) := by decide +kernel
theorem dX4_cast_71 : decode cX4_cast 71 = .ok (.new 56, 3) := by decide +kernel
theorem dX4_cast_74 : decode cX4_cast 74 = .ok (.dup, 1) := by decide +kernel
theorem dX4_cast_75 : decode cX4_cast 75 = .ok (.ldc 109, 2) := by decide +kernel
theorem dX4_cast_77 : decode cX4_cast 77 = .ok (.invokespecial 60, 3) := by decide +kernel
theorem dX4_cast_80 : decode cX4_cast 80 = .ok (.athrow, 1) := by decide +kernel
theorem dX4_cast_81 : decode cX4_cast 81 = .ok (.aload_n 0, 1) := by decide +kernel
theorem dX4_cast_82 : decode cX4_cast 82 = .ok (.aload 5, 2) := by decide +kernel
theorem dX4_cast_84 : decode cX4_cast 84 = .ok (.invokevirtual 111, 3) := by decide +kernel
theorem dX4_cast_87 : decode cX4_cast 87 = .ok (.istore 6, 2) := by decide +kernel
theorem dX4_cast_89 : decode cX4_cast 89 = .ok (.aload 4, 2) := by decide +kernel
theorem dX4_cast_91 : decode cX4_cast 91 = .ok (.dup, 1) := by decide +kernel
theorem dX4_cast_92 : decode cX4_cast 92 = .ok (.getfield 93, 3) := by decide +kernel
theorem dX4_cast_95 : decode cX4_cast 95 = .ok (.aload 5, 2) := by decide +kernel
theorem dX4_cast_97 : decode cX4_cast 97 = .ok (.invokevirtual 107, 3) := by decide +kernel
theorem dX4_cast_100 : decode cX4_cast 100 = .ok (.isub, 1) := by decide +kernel
theorem dX4_cast_101 : decode cX4_cast 101 = .ok (.putfield 93, 3) := by decide +kernel
theorem dX4_cast_104 : decode cX4_cast 104 = .ok (.iload 6, 2) := by decide +kernel
theorem dX4_cast_106 : decode cX4_cast 106 = .ok (.ireturn, 1) := by decide +kernel
theorem dX4_polish_0 : decode cX4_polish 0 = .ok (.aload_n 0, 1) := by decide +kernel
theorem dX4_polish_1 : decode cX4_polish 1 = .ok (.iload_n 1, 1) := by decide +kernel
theorem dX4_polish_2 : decode cX4_polish 2 = .ok (.invokevirtual 115, 3) := by decide +kernel
theorem dX4_polish_5 : decode cX4_polish 5 = .ok (.astore_n 2, 1) := by decide +kernel
theorem dX4_polish_6 : decode cX4_polish 6 = .ok (.aload_n 2, 1) := by decide +kernel
theorem dX4_polish_7 : decode cX4_polish 7 = .ok (.aload_n 2, 1) := by decide +kernel
theorem dX4_polish_8 : decode cX4_polish 8 = .ok (.invokevirtual 119, 3) := by decide +kernel
theorem dX4_polish_11 : decode cX4_polish 11 = .ok (.putfield 122, 3) := by decide +kernel
theorem dX4_polish_14 : decode cX4_polish 14 = .ok (.aload_n 2, 1) := by decide +kernel
theorem dX4_polish_15 : decode cX4_polish 15 = .ok (.getfield 122, 3) := by decide +kernel
theorem dX4_polish_18 : decode cX4_polish 18 = .ok (.ireturn, 1) := by decide +kernel
theorem dX4_split_0 : decode cX4_split 0 = .ok (.aload_n 0, 1) := by decide +kernel
theorem dX4_split_1 : decode cX4_split 1 = .ok (.iload_n 1, 1) := by decide +kernel
theorem dX4_split_2 : decode cX4_split 2 = .ok (.invokevirtual 115, 3) := by decide +kernel
theorem dX4_split_5 : decode cX4_split 5 = .ok (.astore 4, 2) := by decide +kernel
theorem dX4_split_7 : decode cX4_split 7 = .ok (.iload_n 3, 1) := by decide +kernel
theorem dX4_split_8 : decode cX4_split 8 = .ok (.ifCond .eq 11, 3) := by decide +kernel
theorem dX4_split_11 : decode cX4_split 11 = .ok (.aload 4, 2) := by decide +kernel
theorem dX4_split_13 : decode cX4_split 13 = .ok (.getfield 125, 3) := by decide +kernel
theorem dX4_split_16 : decode cX4_split 16 = .ok (.goto 8, 3) := by decide +kernel
theorem dX4_split_19 : decode cX4_split 19 = .ok (.aload 4, 2) := by decide +kernel
theorem dX4_split_21 : decode cX4_split 21 = .ok (.getfield 128, 3) := by decide +kernel
theorem dX4_split_24 : decode cX4_split 24 = .ok (.istore 5, 2) := by decide +kernel
theorem dX4_split_26 : decode cX4_split 26 = .ok (.iload_n 2, 1) := by decide +kernel
theorem dX4_split_27 : decode cX4_split 27 = .ok (.iconst 1, 1) := by decide +kernel
theorem dX4_split_28 : decode cX4_split 28 = .ok (.if_icmp .lt 9, 3) := by decide +kernel
theorem dX4_split_31 : decode cX4_split 31 = .ok (.iload_n 2, 1) := by decide +kernel
theorem dX4_split_32 : decode cX4_split 32 = .ok (.iload 5, 2) := by decide +kernel
theorem dX4_split_34 : decode cX4_split 34 = .ok (.if_icmp .lt 13, 3) := by decide +kernel
theorem dX4_split_37 : decode cX4_split 37 = .ok (.new 131, 3) := by decide +kernel
theorem dX4_split_40 : decode cX4_split 40 = .ok (.dup, 1) := by decide +kernel
theorem dX4_split_41 : decode cX4_split 41 = .ok (.ldc 133, 2) := by decide +kernel
theorem dX4_split_43 : decode cX4_split 43 = .ok (.invokespecial 135, 3) := by decide +kernel
theorem dX4_split_46 : decode cX4_split 46 = .ok (.athrow, 1) := by decide +kernel
theorem dX4_split_47 : decode cX4_split 47 = .ok (.aload_n 0, 1) := by decide +kernel
theorem dX4_split_48 : decode cX4_split 48 = .ok (.aload 4, 2) := by decide +kernel
theorem dX4_split_50 : decode cX4_split 50 = .ok (.iload_n 2, 1) := by decide +kernel
theorem dX4_split_51 : decode cX4_split 51 = .ok (.iload_n 3, 1) := by decide +kernel
theorem dX4_split_52 : decode cX4_split 52 = .ok (.invokevirtual 136, 3) := by decide +kernel
theorem dX4_split_55 : decode cX4_split 55 = .ok (.invokevirtual 111, 3) := by decide +kernel
theorem dX4_split_58 : decode cX4_split 58 = .ok (.istore 6, 2) := by decide +kernel
theorem dX4_split_60 : decode cX4_split 60 = .ok (.aload 4, 2) := by decide +kernel
theorem dX4_split_62 : decode cX4_split 62 = .ok (.iload_n 2, 1) := by decide +kernel
theorem dX4_split_63 : decode cX4_split 63 = .ok (.iload_n 3, 1) := by decide +kernel
theorem dX4_split_64 : decode cX4_split 64 = .ok (.invokevirtual 140, 3) := by decide +kernel
theorem dX4_split_67 : decode cX4_split 67 = .ok (.iload 6, 2) := by decide +kernel
theorem dX4_split_69 : decode cX4_split 69 = .ok (.ireturn, 1) := by decide +kernel
theorem dX4_melt_0 : decode cX4_melt 0 = .ok (.aload_n 0, 1) := by decide +kernel
theorem dX4_melt_1 : decode cX4_melt 1 = .ok (.iload_n 1, 1) := by decide +kernel
theorem dX4_melt_2 : decode cX4_melt 2 = .ok (.invokevirtual 115, 3) := by decide +kernel
theorem dX4_melt_5 : decode cX4_melt 5 = .ok (.invokevirtual 107, 3) := by decide +kernel
theorem dX4_melt_8 : decode cX4_melt 8 = .ok (.istore_n 3, 1) := by decide +kernel
theorem dX4_melt_9 : decode cX4_melt 9 = .ok (.aload_n 0, 1) := by decide +kernel
theorem dX4_melt_10 : decode cX4_melt 10 = .ok (.iload_n 2, 1) := by decide +kernel
theorem dX4_melt_11 : decode cX4_melt 11 = .ok (.invokevirtual 64, 3) := by decide +kernel
theorem dX4_melt_14 : decode cX4_melt 14 = .ok (.astore 4, 2) := by decide +kernel
theorem dX4_melt_16 : decode cX4_melt 16 = .ok (.aload 4, 2) := by decide +kernel
theorem dX4_melt_18 : decode cX4_melt 18 = .ok (.getfield 93, 3) := by decide +kernel
theorem dX4_melt_21 : decode cX4_melt 21 = .ok (.iload_n 3, 1) := by decide +kernel
theorem dX4_melt_22 : decode cX4_melt 22 = .ok (.iadd, 1) := by decide +kernel
theorem dX4_melt_23 : decode cX4_melt 23 = .ok (.sipush 2000, 3) := by decide +kernel
theorem dX4_melt_26 : decode cX4_melt 26 = .ok (.if_icmp .le 13, 3) := by decide +kernel
theorem dX4_melt_29 : decode cX4_melt 29 = .ok (.new 45, 3) := by decide +kernel
theorem dX4_melt_32 : decode cX4_melt 32 = .ok (.dup, 1) := by decide +kernel
theorem dX4_melt_33 : decode cX4_melt 33 = .ok (.ldc 144, 2) := by decide +kernel
theorem dX4_melt_35 : decode cX4_melt 35 = .ok (.invokespecial 49, 3) := by decide +kernel
theorem dX4_melt_38 : decode cX4_melt 38 = .ok (.athrow, 1) := by decide +kernel
theorem dX4_melt_39 : decode cX4_melt 39 = .ok (.aload 4, 2) := by decide +kernel
theorem dX4_melt_41 : decode cX4_melt 41 = .ok (.dup, 1) := by decide +kernel
theorem dX4_melt_42 : decode cX4_melt 42 = .ok (.getfield 93, 3) := by decide +kernel
theorem dX4_melt_45 : decode cX4_melt 45 = .ok (.iload_n 3, 1) := by decide +kernel
theorem dX4_melt_46 : decode cX4_melt 46 = .ok (.iadd, 1) := by decide +kernel
theorem dX4_melt_47 : decode cX4_melt 47 = .ok (.putfield 93, 3) := by decide +kernel
theorem dX4_melt_50 : decode cX4_melt 50 = .ok (.aload_n 0, 1) := by decide +kernel
theorem dX4_melt_51 : decode cX4_melt 51 = .ok (.getfield 17, 3) := by decide +kernel
theorem dX4_melt_54 : decode cX4_melt 54 = .ok (.iload_n 1, 1) := by decide +kernel
theorem dX4_melt_55 : decode cX4_melt 55 = .ok (.aconst_null, 1) := by decide +kernel
theorem dX4_melt_56 : decode cX4_melt 56 = .ok (.aastore, 1) := by decide +kernel
theorem dX4_melt_57 : decode cX4_melt 57 = .ok (.aload_n 0, 1) := by decide +kernel
theorem dX4_melt_58 : decode cX4_melt 58 = .ok (.invokevirtual 146, 3) := by decide +kernel
theorem dX4_melt_61 : decode cX4_melt 61 = .ok (.aload 4, 2) := by decide +kernel
theorem dX4_melt_63 : decode cX4_melt 63 = .ok (.getfield 93, 3) := by decide +kernel
theorem dX4_melt_66 : decode cX4_melt 66 = .ok (.ireturn, 1) := by decide +kernel
theorem dX4_box_0 : decode cX4_box 0 = .ok (.iload_n 1, 1) := by decide +kernel
theorem dX4_box_1 : decode cX4_box 1 = .ok (.iconst 1, 1) := by decide +kernel
theorem dX4_box_2 : decode cX4_box 2 = .ok (.if_icmp .lt 19, 3) := by decide +kernel
theorem dX4_box_5 : decode cX4_box 5 = .ok (.iload_n 1, 1) := by decide +kernel
theorem dX4_box_6 : decode cX4_box 6 = .ok (.bipush 36, 2) := by decide +kernel
theorem dX4_box_8 : decode cX4_box 8 = .ok (.if_icmp .gt 13, 3) := by decide +kernel
theorem dX4_box_11 : decode cX4_box 11 = .ok (.iload_n 2, 1) := by decide +kernel
theorem dX4_box_12 : decode cX4_box 12 = .ok (.ifCond .lt 9, 3) := by decide +kernel
theorem dX4_box_15 : decode cX4_box 15 = .ok (.iload_n 2, 1) := by decide +kernel
theorem dX4_box_16 : decode cX4_box 16 = .ok (.bipush 100, 2) := by decide +kernel
theorem dX4_box_18 : decode cX4_box 18 = .ok (.if_icmp .le 13, 3) := by decide +kernel
theorem dX4_box_21 : decode cX4_box 21 = .ok (.new 45, 3) := by decide +kernel
theorem dX4_box_24 : decode cX4_box 24 = .ok (.dup, 1) := by decide +kernel
theorem dX4_box_25 : decode cX4_box 25 = .ok (.ldc 149, 2) := by decide +kernel
theorem dX4_box_27 : decode cX4_box 27 = .ok (.invokespecial 49, 3) := by decide +kernel
theorem dX4_box_30 : decode cX4_box 30 = .ok (.athrow, 1) := by decide +kernel
theorem dX4_box_31 : decode cX4_box 31 = .ok (.aload_n 0, 1) := by decide +kernel
theorem dX4_box_32 : decode cX4_box 32 = .ok (.getfield 151, 3) := by decide +kernel
theorem dX4_box_35 : decode cX4_box 35 = .ok (.istore_n 3, 1) := by decide +kernel
theorem dX4_box_36 : decode cX4_box 36 = .ok (.iload_n 3, 1) := by decide +kernel
theorem dX4_box_37 : decode cX4_box 37 = .ok (.bipush 6, 2) := by decide +kernel
theorem dX4_box_39 : decode cX4_box 39 = .ok (.if_icmp .lt 13, 3) := by decide +kernel
theorem dX4_box_42 : decode cX4_box 42 = .ok (.new 56, 3) := by decide +kernel
theorem dX4_box_45 : decode cX4_box 45 = .ok (.dup, 1) := by decide +kernel
theorem dX4_box_46 : decode cX4_box 46 = .ok (.ldc 154, 2) := by decide +kernel
theorem dX4_box_48 : decode cX4_box 48 = .ok (.invokespecial 60, 3) := by decide +kernel
theorem dX4_box_51 : decode cX4_box 51 = .ok (.athrow, 1) := by decide +kernel
theorem dX4_box_52 : decode cX4_box 52 = .ok (.aload_n 0, 1) := by decide +kernel
theorem dX4_box_53 : decode cX4_box 53 = .ok (.getfield 23, 3) := by decide +kernel
theorem dX4_box_56 : decode cX4_box 56 = .ok (.iload_n 3, 1) := by decide +kernel
theorem dX4_box_57 : decode cX4_box 57 = .ok (.new 21, 3) := by decide +kernel
theorem dX4_box_60 : decode cX4_box 60 = .ok (.dup, 1) := by decide +kernel
theorem dX4_box_61 : decode cX4_box 61 = .ok (.iload_n 1, 1) := by decide +kernel
theorem dX4_box_62 : decode cX4_box 62 = .ok (.iload_n 2, 1) := by decide +kernel
theorem dX4_box_63 : decode cX4_box 63 = .ok (.invokespecial 156, 3) := by decide +kernel
theorem dX4_box_66 : decode cX4_box 66 = .ok (.aastore, 1) := by decide +kernel
theorem dX4_box_67 : decode cX4_box 67 = .ok (.aload_n 0, 1) := by decide +kernel
theorem dX4_box_68 : decode cX4_box 68 = .ok (.iload_n 3, 1) := by decide +kernel
theorem dX4_box_69 : decode cX4_box 69 = .ok (.iconst 1, 1) := by decide +kernel
theorem dX4_box_70 : decode cX4_box 70 = .ok (.iadd, 1) := by decide +kernel
theorem dX4_box_71 : decode cX4_box 71 = .ok (.putfield 151, 3) := by decide +kernel
theorem dX4_box_74 : decode cX4_box 74 = .ok (.iload_n 3, 1) := by decide +kernel
theorem dX4_box_75 : decode cX4_box 75 = .ok (.ireturn, 1) := by decide +kernel
theorem dX4_fill_0 : decode cX4_fill 0 = .ok (.aload_n 0, 1) := by decide +kernel
theorem dX4_fill_1 : decode cX4_fill 1 = .ok (.iconst (-1), 1) := by decide +kernel
theorem dX4_fill_2 : decode cX4_fill 2 = .ok (.invokevirtual 158, 3) := by decide +kernel
theorem dX4_fill_5 : decode cX4_fill 5 = .ok (.istore_n 1, 1) := by decide +kernel
theorem dX4_fill_6 : decode cX4_fill 6 = .ok (.iconst 0, 1) := by decide +kernel
theorem dX4_fill_7 : decode cX4_fill 7 = .ok (.istore_n 2, 1) := by decide +kernel
theorem dX4_fill_8 : decode cX4_fill 8 = .ok (.iload_n 2, 1) := by decide +kernel
theorem dX4_fill_9 : decode cX4_fill 9 = .ok (.bipush 6, 2) := by decide +kernel
theorem dX4_fill_11 : decode cX4_fill 11 = .ok (.if_icmp .ge 25, 3) := by decide +kernel
theorem dX4_fill_14 : decode cX4_fill 14 = .ok (.aload_n 0, 1) := by decide +kernel
theorem dX4_fill_15 : decode cX4_fill 15 = .ok (.aload_n 0, 1) := by decide +kernel
theorem dX4_fill_16 : decode cX4_fill 16 = .ok (.getfield 37, 3) := by decide +kernel
theorem dX4_fill_19 : decode cX4_fill 19 = .ok (.iload_n 2, 1) := by decide +kernel
theorem dX4_fill_20 : decode cX4_fill 20 = .ok (.iaload, 1) := by decide +kernel
theorem dX4_fill_21 : decode cX4_fill 21 = .ok (.aload_n 0, 1) := by decide +kernel
theorem dX4_fill_22 : decode cX4_fill 22 = .ok (.getfield 23, 3) := by decide +kernel
theorem dX4_fill_25 : decode cX4_fill 25 = .ok (.iload_n 2, 1) := by decide +kernel
theorem dX4_fill_26 : decode cX4_fill 26 = .ok (.aaload, 1) := by decide +kernel
theorem dX4_fill_27 : decode cX4_fill 27 = .ok (.invokevirtual 162, 3) := by decide +kernel
theorem dX4_fill_30 : decode cX4_fill 30 = .ok (.iinc 2 1, 3) := by decide +kernel
theorem dX4_fill_33 : decode cX4_fill 33 = .ok (.goto (-25), 3) := by decide +kernel
theorem dX4_fill_36 : decode cX4_fill 36 = .ok (.aload_n 0, 1) := by decide +kernel
theorem dX4_fill_37 : decode cX4_fill 37 = .ok (.invokevirtual 146, 3) := by decide +kernel
theorem dX4_fill_40 : decode cX4_fill 40 = .ok (.iload_n 1, 1) := by decide +kernel
theorem dX4_fill_41 : decode cX4_fill 41 = .ok (.ireturn, 1) := by decide +kernel
theorem dX4_pass_0 : decode cX4_pass 0 = .ok (.iload_n 1, 1) := by decide +kernel
theorem dX4_pass_1 : decode cX4_pass 1 = .ok (.invokestatic 166, 3) := by decide +kernel
theorem dX4_pass_4 : decode cX4_pass 4 = .ok (.iload_n 2, 1) := by decide +kernel
theorem dX4_pass_5 : decode cX4_pass 5 = .ok (.iconst 1, 1) := by decide +kernel
theorem dX4_pass_6 : decode cX4_pass 6 = .ok (.if_icmp .lt 9, 3) := by decide +kernel
theorem dX4_pass_9 : decode cX4_pass 9 = .ok (.iload_n 2, 1) := by decide +kernel
theorem dX4_pass_10 : decode cX4_pass 10 = .ok (.bipush 60, 2) := by decide +kernel
theorem dX4_pass_12 : decode cX4_pass 12 = .ok (.if_icmp .le 13, 3) := by decide +kernel
theorem dX4_pass_15 : decode cX4_pass 15 = .ok (.new 45, 3) := by decide +kernel
theorem dX4_pass_18 : decode cX4_pass 18 = .ok (.dup, 1) := by decide +kernel
theorem dX4_pass_19 : decode cX4_pass 19 = .ok (.ldc 169, 2) := by decide +kernel
theorem dX4_pass_21 : decode cX4_pass 21 = .ok (.invokespecial 49, 3) := by decide +kernel
theorem dX4_pass_24 : decode cX4_pass 24 = .ok (.athrow, 1) := by decide +kernel
theorem dX4_pass_25 : decode cX4_pass 25 = .ok (.aload_n 0, 1) := by decide +kernel
theorem dX4_pass_26 : decode cX4_pass 26 = .ok (.getfield 17, 3) := by decide +kernel
theorem dX4_pass_29 : decode cX4_pass 29 = .ok (.astore_n 3, 1) := by decide +kernel
theorem dX4_pass_30 : decode cX4_pass 30 = .ok (.aload_n 3, 1) := by decide +kernel
theorem dX4_pass_31 : decode cX4_pass 31 = .ok (.arraylength, 1) := by decide +kernel
theorem dX4_pass_32 : decode cX4_pass 32 = .ok (.istore 4, 2) := by decide +kernel
theorem dX4_pass_34 : decode cX4_pass 34 = .ok (.iconst 0, 1) := by decide +kernel
theorem dX4_pass_35 : decode cX4_pass 35 = .ok (.istore 5, 2) := by decide +kernel
theorem dX4_pass_37 : decode cX4_pass 37 = .ok (.iload 5, 2) := by decide +kernel
theorem dX4_pass_39 : decode cX4_pass 39 = .ok (.iload 4, 2) := by decide +kernel
theorem dX4_pass_41 : decode cX4_pass 41 = .ok (.if_icmp .ge 27, 3) := by decide +kernel
theorem dX4_pass_44 : decode cX4_pass 44 = .ok (.aload_n 3, 1) := by decide +kernel
theorem dX4_pass_45 : decode cX4_pass 45 = .ok (.iload 5, 2) := by decide +kernel
theorem dX4_pass_47 : decode cX4_pass 47 = .ok (.aaload, 1) := by decide +kernel
theorem dX4_pass_48 : decode cX4_pass 48 = .ok (.astore 6, 2) := by decide +kernel
theorem dX4_pass_50 : decode cX4_pass 50 = .ok (.aload 6, 2) := by decide +kernel
theorem dX4_pass_52 : decode cX4_pass 52 = .ok (.ifnull 10, 3) := by decide +kernel
theorem dX4_pass_55 : decode cX4_pass 55 = .ok (.aload 6, 2) := by decide +kernel
theorem dX4_pass_57 : decode cX4_pass 57 = .ok (.iload_n 2, 1) := by decide +kernel
theorem dX4_pass_58 : decode cX4_pass 58 = .ok (.iload_n 1, 1) := by decide +kernel
theorem dX4_pass_59 : decode cX4_pass 59 = .ok (.invokevirtual 171, 3) := by decide +kernel
theorem dX4_pass_62 : decode cX4_pass 62 = .ok (.iinc 5 1, 3) := by decide +kernel
theorem dX4_pass_65 : decode cX4_pass 65 = .ok (.goto (-28), 3) := by decide +kernel
theorem dX4_pass_68 : decode cX4_pass 68 = .ok (.aload_n 0, 1) := by decide +kernel
theorem dX4_pass_69 : decode cX4_pass 69 = .ok (.dup, 1) := by decide +kernel
theorem dX4_pass_70 : decode cX4_pass 70 = .ok (.getfield 174, 3) := by decide +kernel
theorem dX4_pass_73 : decode cX4_pass 73 = .ok (.iload_n 2, 1) := by decide +kernel
theorem dX4_pass_74 : decode cX4_pass 74 = .ok (.iadd, 1) := by decide +kernel
theorem dX4_pass_75 : decode cX4_pass 75 = .ok (.putfield 174, 3) := by decide +kernel
theorem dX4_pass_78 : decode cX4_pass 78 = .ok (.aload_n 0, 1) := by decide +kernel
theorem dX4_pass_79 : decode cX4_pass 79 = .ok (.invokevirtual 177, 3) := by decide +kernel
theorem dX4_pass_82 : decode cX4_pass 82 = .ok (.ireturn, 1) := by decide +kernel
theorem dX4_told_0 : decode cX4_told 0 = .ok (.aload_n 0, 1) := by decide +kernel
theorem dX4_told_1 : decode cX4_told 1 = .ok (.iload_n 1, 1) := by decide +kernel
theorem dX4_told_2 : decode cX4_told 2 = .ok (.invokevirtual 64, 3) := by decide +kernel
theorem dX4_told_5 : decode cX4_told 5 = .ok (.astore_n 3, 1) := by decide +kernel
theorem dX4_told_6 : decode cX4_told 6 = .ok (.iload_n 2, 1) := by decide +kernel
theorem dX4_told_7 : decode cX4_told 7 = .ok (.bipush 7, 2) := by decide +kernel
theorem dX4_told_9 : decode cX4_told 9 = .ok (.invokestatic 180, 3) := by decide +kernel
theorem dX4_told_12 : decode cX4_told 12 = .ok (.iload_n 2, 1) := by decide +kernel
theorem dX4_told_13 : decode cX4_told 13 = .ok (.ifCond .ne 8, 3) := by decide +kernel
theorem dX4_told_16 : decode cX4_told 16 = .ok (.aload_n 3, 1) := by decide +kernel
theorem dX4_told_17 : decode cX4_told 17 = .ok (.getfield 93, 3) := by decide +kernel
theorem dX4_told_20 : decode cX4_told 20 = .ok (.ireturn, 1) := by decide +kernel
theorem dX4_told_21 : decode cX4_told 21 = .ok (.iload_n 2, 1) := by decide +kernel
theorem dX4_told_22 : decode cX4_told 22 = .ok (.iconst 5, 1) := by decide +kernel
theorem dX4_told_23 : decode cX4_told 23 = .ok (.if_icmp .gt 13, 3) := by decide +kernel
theorem dX4_told_26 : decode cX4_told 26 = .ok (.aload_n 3, 1) := by decide +kernel
theorem dX4_told_27 : decode cX4_told 27 = .ok (.getfield 75, 3) := by decide +kernel
theorem dX4_told_30 : decode cX4_told 30 = .ok (.getfield 90, 3) := by decide +kernel
theorem dX4_told_33 : decode cX4_told 33 = .ok (.iload_n 2, 1) := by decide +kernel
theorem dX4_told_34 : decode cX4_told 34 = .ok (.iaload, 1) := by decide +kernel
theorem dX4_told_35 : decode cX4_told 35 = .ok (.ireturn, 1) := by decide +kernel
theorem dX4_told_36 : decode cX4_told 36 = .ok (.iload_n 2, 1) := by decide +kernel
theorem dX4_told_37 : decode cX4_told 37 = .ok (.bipush 6, 2) := by decide +kernel
theorem dX4_told_39 : decode cX4_told 39 = .ok (.if_icmp .ne 10, 3) := by decide +kernel
theorem dX4_told_42 : decode cX4_told 42 = .ok (.aload_n 3, 1) := by decide +kernel
theorem dX4_told_43 : decode cX4_told 43 = .ok (.getfield 72, 3) := by decide +kernel
theorem dX4_told_46 : decode cX4_told 46 = .ok (.goto 10, 3) := by decide +kernel
theorem dX4_told_49 : decode cX4_told 49 = .ok (.aload_n 3, 1) := by decide +kernel
theorem dX4_told_50 : decode cX4_told 50 = .ok (.getfield 75, 3) := by decide +kernel
theorem dX4_told_53 : decode cX4_told 53 = .ok (.invokevirtual 81, 3) := by decide +kernel
theorem dX4_told_56 : decode cX4_told 56 = .ok (.ireturn, 1) := by decide +kernel
theorem dX4_about_0 : decode cX4_about 0 = .ok (.aload_n 0, 1) := by decide +kernel
theorem dX4_about_1 : decode cX4_about 1 = .ok (.iload_n 1, 1) := by decide +kernel
theorem dX4_about_2 : decode cX4_about 2 = .ok (.invokevirtual 115, 3) := by decide +kernel
theorem dX4_about_5 : decode cX4_about 5 = .ok (.astore_n 3, 1) := by decide +kernel
theorem dX4_about_6 : decode cX4_about 6 = .ok (.iload_n 2, 1) := by decide +kernel
theorem dX4_about_7 : decode cX4_about 7 = .ok (.bipush 6, 2) := by decide +kernel
theorem dX4_about_9 : decode cX4_about 9 = .ok (.invokestatic 180, 3) := by decide +kernel
theorem dX4_about_12 : decode cX4_about 12 = .ok (.iload_n 2, 1) := by decide +kernel
theorem dX4_about_13 : decode cX4_about 13 = .ok (.tableswitch 69 0 5 #[39, 44, 49, 54, 59, 64], 39) := by decide +kernel
theorem dX4_about_52 : decode cX4_about 52 = .ok (.aload_n 3, 1) := by decide +kernel
theorem dX4_about_53 : decode cX4_about 53 = .ok (.getfield 128, 3) := by decide +kernel
theorem dX4_about_56 : decode cX4_about 56 = .ok (.ireturn, 1) := by decide +kernel
theorem dX4_about_57 : decode cX4_about 57 = .ok (.aload_n 3, 1) := by decide +kernel
theorem dX4_about_58 : decode cX4_about 58 = .ok (.getfield 125, 3) := by decide +kernel
theorem dX4_about_61 : decode cX4_about 61 = .ok (.ireturn, 1) := by decide +kernel
theorem dX4_about_62 : decode cX4_about 62 = .ok (.aload_n 3, 1) := by decide +kernel
theorem dX4_about_63 : decode cX4_about 63 = .ok (.getfield 183, 3) := by decide +kernel
theorem dX4_about_66 : decode cX4_about 66 = .ok (.ireturn, 1) := by decide +kernel
theorem dX4_about_67 : decode cX4_about 67 = .ok (.aload_n 3, 1) := by decide +kernel
theorem dX4_about_68 : decode cX4_about 68 = .ok (.getfield 122, 3) := by decide +kernel
theorem dX4_about_71 : decode cX4_about 71 = .ok (.ireturn, 1) := by decide +kernel
theorem dX4_about_72 : decode cX4_about 72 = .ok (.aload_n 3, 1) := by decide +kernel
theorem dX4_about_73 : decode cX4_about 73 = .ok (.getfield 185, 3) := by decide +kernel
theorem dX4_about_76 : decode cX4_about 76 = .ok (.ireturn, 1) := by decide +kernel
theorem dX4_about_77 : decode cX4_about 77 = .ok (.aload_n 3, 1) := by decide +kernel
theorem dX4_about_78 : decode cX4_about 78 = .ok (.invokevirtual 188, 3) := by decide +kernel
theorem dX4_about_81 : decode cX4_about 81 = .ok (.ireturn, 1) := by decide +kernel
theorem dX4_about_82 : decode cX4_about 82 = .ok (.aload_n 0, 1) := by decide +kernel
theorem dX4_about_83 : decode cX4_about 83 = .ok (.aload_n 3, 1) := by decide +kernel
theorem dX4_about_84 : decode cX4_about 84 = .ok (.invokevirtual 191, 3) := by decide +kernel
theorem dX4_about_87 : decode cX4_about 87 = .ok (.ireturn, 1) := by decide +kernel
theorem dX4_order_0 : decode cX4_order 0 = .ok (.aload_n 0, 1) := by decide +kernel
theorem dX4_order_1 : decode cX4_order 1 = .ok (.iload_n 1, 1) := by decide +kernel
theorem dX4_order_2 : decode cX4_order 2 = .ok (.invokevirtual 194, 3) := by decide +kernel
theorem dX4_order_5 : decode cX4_order 5 = .ok (.astore_n 3, 1) := by decide +kernel
theorem dX4_order_6 : decode cX4_order 6 = .ok (.iload_n 2, 1) := by decide +kernel
theorem dX4_order_7 : decode cX4_order 7 = .ok (.iconst 4, 1) := by decide +kernel
theorem dX4_order_8 : decode cX4_order 8 = .ok (.invokestatic 180, 3) := by decide +kernel
theorem dX4_order_11 : decode cX4_order 11 = .ok (.iload_n 2, 1) := by decide +kernel
theorem dX4_order_12 : decode cX4_order 12 = .ok (.tableswitch 60 0 3 #[32, 37, 42, 55], 32) := by decide +kernel
theorem dX4_order_44 : decode cX4_order 44 = .ok (.aload_n 3, 1) := by decide +kernel
theorem dX4_order_45 : decode cX4_order 45 = .ok (.getfield 198, 3) := by decide +kernel
theorem dX4_order_48 : decode cX4_order 48 = .ok (.ireturn, 1) := by decide +kernel
theorem dX4_order_49 : decode cX4_order 49 = .ok (.aload_n 3, 1) := by decide +kernel
theorem dX4_order_50 : decode cX4_order 50 = .ok (.getfield 200, 3) := by decide +kernel
theorem dX4_order_53 : decode cX4_order 53 = .ok (.ireturn, 1) := by decide +kernel
theorem dX4_order_54 : decode cX4_order 54 = .ok (.aload_n 3, 1) := by decide +kernel
theorem dX4_order_55 : decode cX4_order 55 = .ok (.getfield 201, 3) := by decide +kernel
theorem dX4_order_58 : decode cX4_order 58 = .ok (.ifCond .eq 7, 3) := by decide +kernel
theorem dX4_order_61 : decode cX4_order 61 = .ok (.iconst 1, 1) := by decide +kernel
theorem dX4_order_62 : decode cX4_order 62 = .ok (.goto 4, 3) := by decide +kernel
theorem dX4_order_65 : decode cX4_order 65 = .ok (.iconst 0, 1) := by decide +kernel
theorem dX4_order_66 : decode cX4_order 66 = .ok (.ireturn, 1) := by decide +kernel
theorem dX4_order_67 : decode cX4_order 67 = .ok (.aload_n 3, 1) := by decide +kernel
theorem dX4_order_68 : decode cX4_order 68 = .ok (.getfield 205, 3) := by decide +kernel
theorem dX4_order_71 : decode cX4_order 71 = .ok (.ireturn, 1) := by decide +kernel
theorem dX4_order_72 : decode cX4_order 72 = .ok (.aload_n 3, 1) := by decide +kernel
theorem dX4_order_73 : decode cX4_order 73 = .ok (.getfield 208, 3) := by decide +kernel
theorem dX4_order_76 : decode cX4_order 76 = .ok (.ireturn, 1) := by decide +kernel
theorem dX4_count_0 : decode cX4_count 0 = .ok (.iload_n 1, 1) := by decide +kernel
theorem dX4_count_1 : decode cX4_count 1 = .ok (.bipush 7, 2) := by decide +kernel
theorem dX4_count_3 : decode cX4_count 3 = .ok (.invokestatic 180, 3) := by decide +kernel
theorem dX4_count_6 : decode cX4_count 6 = .ok (.iload_n 1, 1) := by decide +kernel
theorem dX4_count_7 : decode cX4_count 7 = .ok (.tableswitch 76 0 6 #[41, 46, 51, 56, 61, 66, 71], 41) := by decide +kernel
theorem dX4_count_48 : decode cX4_count 48 = .ok (.aload_n 0, 1) := by decide +kernel
theorem dX4_count_49 : decode cX4_count 49 = .ok (.getfield 174, 3) := by decide +kernel
theorem dX4_count_52 : decode cX4_count 52 = .ok (.ireturn, 1) := by decide +kernel
theorem dX4_count_53 : decode cX4_count 53 = .ok (.aload_n 0, 1) := by decide +kernel
theorem dX4_count_54 : decode cX4_count 54 = .ok (.getfield 52, 3) := by decide +kernel
theorem dX4_count_57 : decode cX4_count 57 = .ok (.ireturn, 1) := by decide +kernel
theorem dX4_count_58 : decode cX4_count 58 = .ok (.aload_n 0, 1) := by decide +kernel
theorem dX4_count_59 : decode cX4_count 59 = .ok (.getfield 211, 3) := by decide +kernel
theorem dX4_count_62 : decode cX4_count 62 = .ok (.ireturn, 1) := by decide +kernel
theorem dX4_count_63 : decode cX4_count 63 = .ok (.aload_n 0, 1) := by decide +kernel
theorem dX4_count_64 : decode cX4_count 64 = .ok (.getfield 151, 3) := by decide +kernel
theorem dX4_count_67 : decode cX4_count 67 = .ok (.ireturn, 1) := by decide +kernel
theorem dX4_count_68 : decode cX4_count 68 = .ok (.aload_n 0, 1) := by decide +kernel
theorem dX4_count_69 : decode cX4_count 69 = .ok (.invokevirtual 214, 3) := by decide +kernel
theorem dX4_count_72 : decode cX4_count 72 = .ok (.ireturn, 1) := by decide +kernel
theorem dX4_count_73 : decode cX4_count 73 = .ok (.aload_n 0, 1) := by decide +kernel
theorem dX4_count_74 : decode cX4_count 74 = .ok (.invokevirtual 217, 3) := by decide +kernel
theorem dX4_count_77 : decode cX4_count 77 = .ok (.ireturn, 1) := by decide +kernel
theorem dX4_count_78 : decode cX4_count 78 = .ok (.aload_n 0, 1) := by decide +kernel
theorem dX4_count_79 : decode cX4_count 79 = .ok (.invokevirtual 220, 3) := by decide +kernel
theorem dX4_count_82 : decode cX4_count 82 = .ok (.ireturn, 1) := by decide +kernel
theorem dX4_count_83 : decode cX4_count 83 = .ok (.aload_n 0, 1) := by decide +kernel
theorem dX4_count_84 : decode cX4_count 84 = .ok (.invokevirtual 177, 3) := by decide +kernel
theorem dX4_count_87 : decode cX4_count 87 = .ok (.ireturn, 1) := by decide +kernel
theorem dX4_mean_0 : decode cX4_mean 0 = .ok (.iconst 0, 1) := by decide +kernel
theorem dX4_mean_1 : decode cX4_mean 1 = .ok (.istore_n 1, 1) := by decide +kernel
theorem dX4_mean_2 : decode cX4_mean 2 = .ok (.aload_n 0, 1) := by decide +kernel
theorem dX4_mean_3 : decode cX4_mean 3 = .ok (.getfield 17, 3) := by decide +kernel
theorem dX4_mean_6 : decode cX4_mean 6 = .ok (.astore_n 2, 1) := by decide +kernel
theorem dX4_mean_7 : decode cX4_mean 7 = .ok (.aload_n 2, 1) := by decide +kernel
theorem dX4_mean_8 : decode cX4_mean 8 = .ok (.arraylength, 1) := by decide +kernel
theorem dX4_mean_9 : decode cX4_mean 9 = .ok (.istore_n 3, 1) := by decide +kernel
theorem dX4_mean_10 : decode cX4_mean 10 = .ok (.iconst 0, 1) := by decide +kernel
theorem dX4_mean_11 : decode cX4_mean 11 = .ok (.istore 4, 2) := by decide +kernel
theorem dX4_mean_13 : decode cX4_mean 13 = .ok (.iload 4, 2) := by decide +kernel
theorem dX4_mean_15 : decode cX4_mean 15 = .ok (.iload_n 3, 1) := by decide +kernel
theorem dX4_mean_16 : decode cX4_mean 16 = .ok (.if_icmp .ge 28, 3) := by decide +kernel
theorem dX4_mean_19 : decode cX4_mean 19 = .ok (.aload_n 2, 1) := by decide +kernel
theorem dX4_mean_20 : decode cX4_mean 20 = .ok (.iload 4, 2) := by decide +kernel
theorem dX4_mean_22 : decode cX4_mean 22 = .ok (.aaload, 1) := by decide +kernel
theorem dX4_mean_23 : decode cX4_mean 23 = .ok (.astore 5, 2) := by decide +kernel
theorem dX4_mean_25 : decode cX4_mean 25 = .ok (.aload 5, 2) := by decide +kernel
theorem dX4_mean_27 : decode cX4_mean 27 = .ok (.ifnull 11, 3) := by decide +kernel
theorem dX4_mean_30 : decode cX4_mean 30 = .ok (.iload_n 1, 1) := by decide +kernel
theorem dX4_mean_31 : decode cX4_mean 31 = .ok (.aload 5, 2) := by decide +kernel
theorem dX4_mean_33 : decode cX4_mean 33 = .ok (.getfield 122, 3) := by decide +kernel
theorem dX4_mean_36 : decode cX4_mean 36 = .ok (.iadd, 1) := by decide +kernel
theorem dX4_mean_37 : decode cX4_mean 37 = .ok (.istore_n 1, 1) := by decide +kernel
theorem dX4_mean_38 : decode cX4_mean 38 = .ok (.iinc 4 1, 3) := by decide +kernel
theorem dX4_mean_41 : decode cX4_mean 41 = .ok (.goto (-28), 3) := by decide +kernel
theorem dX4_mean_44 : decode cX4_mean 44 = .ok (.aload_n 0, 1) := by decide +kernel
theorem dX4_mean_45 : decode cX4_mean 45 = .ok (.getfield 211, 3) := by decide +kernel
theorem dX4_mean_48 : decode cX4_mean 48 = .ok (.ifCond .gt 7, 3) := by decide +kernel
theorem dX4_mean_51 : decode cX4_mean 51 = .ok (.dconst 0, 1) := by decide +kernel
theorem dX4_mean_52 : decode cX4_mean 52 = .ok (.goto 11, 3) := by decide +kernel
theorem dX4_mean_55 : decode cX4_mean 55 = .ok (.iload_n 1, 1) := by decide +kernel
theorem dX4_mean_56 : decode cX4_mean 56 = .ok (.i2d, 1) := by decide +kernel
theorem dX4_mean_57 : decode cX4_mean 57 = .ok (.aload_n 0, 1) := by decide +kernel
theorem dX4_mean_58 : decode cX4_mean 58 = .ok (.getfield 211, 3) := by decide +kernel
theorem dX4_mean_61 : decode cX4_mean 61 = .ok (.i2d, 1) := by decide +kernel
theorem dX4_mean_62 : decode cX4_mean 62 = .ok (.ddiv, 1) := by decide +kernel
theorem dX4_mean_63 : decode cX4_mean 63 = .ok (.dreturn, 1) := by decide +kernel
theorem dX4_checkWarming_0 : decode cX4_checkWarming 0 = .ok (.iload_n 0, 1) := by decide +kernel
theorem dX4_checkWarming_1 : decode cX4_checkWarming 1 = .ok (.bipush 15, 2) := by decide +kernel
theorem dX4_checkWarming_3 : decode cX4_checkWarming 3 = .ok (.if_icmp .lt 20, 3) := by decide +kernel
theorem dX4_checkWarming_6 : decode cX4_checkWarming 6 = .ok (.iload_n 0, 1) := by decide +kernel
theorem dX4_checkWarming_7 : decode cX4_checkWarming 7 = .ok (.bipush 50, 2) := by decide +kernel
theorem dX4_checkWarming_9 : decode cX4_checkWarming 9 = .ok (.if_icmp .gt 14, 3) := by decide +kernel
theorem dX4_checkWarming_12 : decode cX4_checkWarming 12 = .ok (.iload_n 1, 1) := by decide +kernel
theorem dX4_checkWarming_13 : decode cX4_checkWarming 13 = .ok (.iconst 1, 1) := by decide +kernel
theorem dX4_checkWarming_14 : decode cX4_checkWarming 14 = .ok (.if_icmp .lt 9, 3) := by decide +kernel
theorem dX4_checkWarming_17 : decode cX4_checkWarming 17 = .ok (.iload_n 1, 1) := by decide +kernel
theorem dX4_checkWarming_18 : decode cX4_checkWarming 18 = .ok (.bipush 40, 2) := by decide +kernel
theorem dX4_checkWarming_20 : decode cX4_checkWarming 20 = .ok (.if_icmp .le 13, 3) := by decide +kernel
theorem dX4_checkWarming_23 : decode cX4_checkWarming 23 = .ok (.new 45, 3) := by decide +kernel
theorem dX4_checkWarming_26 : decode cX4_checkWarming 26 = .ok (.dup, 1) := by decide +kernel
theorem dX4_checkWarming_27 : decode cX4_checkWarming 27 = .ok (.ldc 253, 2) := by decide +kernel
theorem dX4_checkWarming_29 : decode cX4_checkWarming 29 = .ok (.invokespecial 49, 3) := by decide +kernel
theorem dX4_checkWarming_32 : decode cX4_checkWarming 32 = .ok (.athrow, 1) := by decide +kernel
theorem dX4_checkWarming_33 : decode cX4_checkWarming 33 = .ok (.return_, 1) := by decide +kernel
theorem dX4_checkRoom_0 : decode cX4_checkRoom 0 = .ok (.iload_n 0, 1) := by decide +kernel
theorem dX4_checkRoom_1 : decode cX4_checkRoom 1 = .ok (.bipush 10, 2) := by decide +kernel
theorem dX4_checkRoom_3 : decode cX4_checkRoom 3 = .ok (.if_icmp .lt 9, 3) := by decide +kernel
theorem dX4_checkRoom_6 : decode cX4_checkRoom 6 = .ok (.iload_n 0, 1) := by decide +kernel
theorem dX4_checkRoom_7 : decode cX4_checkRoom 7 = .ok (.bipush 40, 2) := by decide +kernel
theorem dX4_checkRoom_9 : decode cX4_checkRoom 9 = .ok (.if_icmp .le 13, 3) := by decide +kernel
theorem dX4_checkRoom_12 : decode cX4_checkRoom 12 = .ok (.new 45, 3) := by decide +kernel
theorem dX4_checkRoom_15 : decode cX4_checkRoom 15 = .ok (.dup, 1) := by decide +kernel
theorem dX4_checkRoom_16 : decode cX4_checkRoom 16 = .ok (.ldc 255, 2) := by decide +kernel
theorem dX4_checkRoom_18 : decode cX4_checkRoom 18 = .ok (.invokespecial 49, 3) := by decide +kernel
theorem dX4_checkRoom_21 : decode cX4_checkRoom 21 = .ok (.athrow, 1) := by decide +kernel
theorem dX4_checkRoom_22 : decode cX4_checkRoom 22 = .ok (.return_, 1) := by decide +kernel
theorem dX4_checkWhat_0 : decode cX4_checkWhat 0 = .ok (.iload_n 0, 1) := by decide +kernel
theorem dX4_checkWhat_1 : decode cX4_checkWhat 1 = .ok (.ifCond .lt 8, 3) := by decide +kernel
theorem dX4_checkWhat_4 : decode cX4_checkWhat 4 = .ok (.iload_n 0, 1) := by decide +kernel
theorem dX4_checkWhat_5 : decode cX4_checkWhat 5 = .ok (.iload_n 1, 1) := by decide +kernel
theorem dX4_checkWhat_6 : decode cX4_checkWhat 6 = .ok (.if_icmp .le 14, 3) := by decide +kernel
theorem dX4_checkWhat_9 : decode cX4_checkWhat 9 = .ok (.new 131, 3) := by decide +kernel
theorem dX4_checkWhat_12 : decode cX4_checkWhat 12 = .ok (.dup, 1) := by decide +kernel
theorem dX4_checkWhat_13 : decode cX4_checkWhat 13 = .ok (.ldc_w 257, 3) := by decide +kernel
theorem dX4_checkWhat_16 : decode cX4_checkWhat 16 = .ok (.invokespecial 135, 3) := by decide +kernel
theorem dX4_checkWhat_19 : decode cX4_checkWhat 19 = .ok (.athrow, 1) := by decide +kernel
theorem dX4_checkWhat_20 : decode cX4_checkWhat 20 = .ok (.return_, 1) := by decide +kernel
theorem dX4_bowlAt_0 : decode cX4_bowlAt 0 = .ok (.iload_n 1, 1) := by decide +kernel
theorem dX4_bowlAt_1 : decode cX4_bowlAt 1 = .ok (.ifCond .lt 8, 3) := by decide +kernel
theorem dX4_bowlAt_4 : decode cX4_bowlAt 4 = .ok (.iload_n 1, 1) := by decide +kernel
theorem dX4_bowlAt_5 : decode cX4_bowlAt 5 = .ok (.iconst 5, 1) := by decide +kernel
theorem dX4_bowlAt_6 : decode cX4_bowlAt 6 = .ok (.if_icmp .lt 7, 3) := by decide +kernel
theorem dX4_bowlAt_9 : decode cX4_bowlAt 9 = .ok (.aconst_null, 1) := by decide +kernel
theorem dX4_bowlAt_10 : decode cX4_bowlAt 10 = .ok (.goto 9, 3) := by decide +kernel
theorem dX4_bowlAt_13 : decode cX4_bowlAt 13 = .ok (.aload_n 0, 1) := by decide +kernel
theorem dX4_bowlAt_14 : decode cX4_bowlAt 14 = .ok (.getfield 11, 3) := by decide +kernel
theorem dX4_bowlAt_17 : decode cX4_bowlAt 17 = .ok (.iload_n 1, 1) := by decide +kernel
theorem dX4_bowlAt_18 : decode cX4_bowlAt 18 = .ok (.aaload, 1) := by decide +kernel
theorem dX4_bowlAt_19 : decode cX4_bowlAt 19 = .ok (.astore_n 2, 1) := by decide +kernel
theorem dX4_bowlAt_20 : decode cX4_bowlAt 20 = .ok (.aload_n 2, 1) := by decide +kernel
theorem dX4_bowlAt_21 : decode cX4_bowlAt 21 = .ok (.ifnonnull 14, 3) := by decide +kernel
theorem dX4_bowlAt_24 : decode cX4_bowlAt 24 = .ok (.new 131, 3) := by decide +kernel
theorem dX4_bowlAt_27 : decode cX4_bowlAt 27 = .ok (.dup, 1) := by decide +kernel
theorem dX4_bowlAt_28 : decode cX4_bowlAt 28 = .ok (.ldc_w 259, 3) := by decide +kernel
theorem dX4_bowlAt_31 : decode cX4_bowlAt 31 = .ok (.invokespecial 135, 3) := by decide +kernel
theorem dX4_bowlAt_34 : decode cX4_bowlAt 34 = .ok (.athrow, 1) := by decide +kernel
theorem dX4_bowlAt_35 : decode cX4_bowlAt 35 = .ok (.aload_n 2, 1) := by decide +kernel
theorem dX4_bowlAt_36 : decode cX4_bowlAt 36 = .ok (.areturn, 1) := by decide +kernel
theorem dX4_slabAt_0 : decode cX4_slabAt 0 = .ok (.aload_n 0, 1) := by decide +kernel
theorem dX4_slabAt_1 : decode cX4_slabAt 1 = .ok (.iload_n 1, 1) := by decide +kernel
theorem dX4_slabAt_2 : decode cX4_slabAt 2 = .ok (.invokevirtual 261, 3) := by decide +kernel
theorem dX4_slabAt_5 : decode cX4_slabAt 5 = .ok (.astore_n 2, 1) := by decide +kernel
theorem dX4_slabAt_6 : decode cX4_slabAt 6 = .ok (.aload_n 2, 1) := by decide +kernel
theorem dX4_slabAt_7 : decode cX4_slabAt 7 = .ok (.ifnonnull 14, 3) := by decide +kernel
theorem dX4_slabAt_10 : decode cX4_slabAt 10 = .ok (.new 131, 3) := by decide +kernel
theorem dX4_slabAt_13 : decode cX4_slabAt 13 = .ok (.dup, 1) := by decide +kernel
theorem dX4_slabAt_14 : decode cX4_slabAt 14 = .ok (.ldc_w 264, 3) := by decide +kernel
theorem dX4_slabAt_17 : decode cX4_slabAt 17 = .ok (.invokespecial 135, 3) := by decide +kernel
theorem dX4_slabAt_20 : decode cX4_slabAt 20 = .ok (.athrow, 1) := by decide +kernel
theorem dX4_slabAt_21 : decode cX4_slabAt 21 = .ok (.aload_n 2, 1) := by decide +kernel
theorem dX4_slabAt_22 : decode cX4_slabAt 22 = .ok (.areturn, 1) := by decide +kernel
theorem dX4_findSlab_0 : decode cX4_findSlab 0 = .ok (.iload_n 1, 1) := by decide +kernel
theorem dX4_findSlab_1 : decode cX4_findSlab 1 = .ok (.ifCond .lt 9, 3) := by decide +kernel
theorem dX4_findSlab_4 : decode cX4_findSlab 4 = .ok (.iload_n 1, 1) := by decide +kernel
theorem dX4_findSlab_5 : decode cX4_findSlab 5 = .ok (.bipush 8, 2) := by decide +kernel
theorem dX4_findSlab_7 : decode cX4_findSlab 7 = .ok (.if_icmp .lt 7, 3) := by decide +kernel
theorem dX4_findSlab_10 : decode cX4_findSlab 10 = .ok (.aconst_null, 1) := by decide +kernel
theorem dX4_findSlab_11 : decode cX4_findSlab 11 = .ok (.goto 9, 3) := by decide +kernel
theorem dX4_findSlab_14 : decode cX4_findSlab 14 = .ok (.aload_n 0, 1) := by decide +kernel
theorem dX4_findSlab_15 : decode cX4_findSlab 15 = .ok (.getfield 17, 3) := by decide +kernel
theorem dX4_findSlab_18 : decode cX4_findSlab 18 = .ok (.iload_n 1, 1) := by decide +kernel
theorem dX4_findSlab_19 : decode cX4_findSlab 19 = .ok (.aaload, 1) := by decide +kernel
theorem dX4_findSlab_20 : decode cX4_findSlab 20 = .ok (.areturn, 1) := by decide +kernel
theorem dX4_boxAt_0 : decode cX4_boxAt 0 = .ok (.iload_n 1, 1) := by decide +kernel
theorem dX4_boxAt_1 : decode cX4_boxAt 1 = .ok (.ifCond .lt 9, 3) := by decide +kernel
theorem dX4_boxAt_4 : decode cX4_boxAt 4 = .ok (.iload_n 1, 1) := by decide +kernel
theorem dX4_boxAt_5 : decode cX4_boxAt 5 = .ok (.bipush 6, 2) := by decide +kernel
theorem dX4_boxAt_7 : decode cX4_boxAt 7 = .ok (.if_icmp .lt 7, 3) := by decide +kernel
theorem dX4_boxAt_10 : decode cX4_boxAt 10 = .ok (.aconst_null, 1) := by decide +kernel
theorem dX4_boxAt_11 : decode cX4_boxAt 11 = .ok (.goto 9, 3) := by decide +kernel
theorem dX4_boxAt_14 : decode cX4_boxAt 14 = .ok (.aload_n 0, 1) := by decide +kernel
theorem dX4_boxAt_15 : decode cX4_boxAt 15 = .ok (.getfield 23, 3) := by decide +kernel
theorem dX4_boxAt_18 : decode cX4_boxAt 18 = .ok (.iload_n 1, 1) := by decide +kernel
theorem dX4_boxAt_19 : decode cX4_boxAt 19 = .ok (.aaload, 1) := by decide +kernel
theorem dX4_boxAt_20 : decode cX4_boxAt 20 = .ok (.astore_n 2, 1) := by decide +kernel
theorem dX4_boxAt_21 : decode cX4_boxAt 21 = .ok (.aload_n 2, 1) := by decide +kernel
theorem dX4_boxAt_22 : decode cX4_boxAt 22 = .ok (.ifnonnull 14, 3) := by decide +kernel
theorem dX4_boxAt_25 : decode cX4_boxAt 25 = .ok (.new 131, 3) := by decide +kernel
theorem dX4_boxAt_28 : decode cX4_boxAt 28 = .ok (.dup, 1) := by decide +kernel
theorem dX4_boxAt_29 : decode cX4_boxAt 29 = .ok (.ldc_w 266, 3) := by decide +kernel
theorem dX4_boxAt_32 : decode cX4_boxAt 32 = .ok (.invokespecial 135, 3) := by decide +kernel
theorem dX4_boxAt_35 : decode cX4_boxAt 35 = .ok (.athrow, 1) := by decide +kernel
theorem dX4_boxAt_36 : decode cX4_boxAt 36 = .ok (.aload_n 2, 1) := by decide +kernel
theorem dX4_boxAt_37 : decode cX4_boxAt 37 = .ok (.areturn, 1) := by decide +kernel
theorem dX4_addSlab_0 : decode cX4_addSlab 0 = .ok (.aload_n 0, 1) := by decide +kernel
theorem dX4_addSlab_1 : decode cX4_addSlab 1 = .ok (.getfield 211, 3) := by decide +kernel
theorem dX4_addSlab_4 : decode cX4_addSlab 4 = .ok (.istore_n 2, 1) := by decide +kernel
theorem dX4_addSlab_5 : decode cX4_addSlab 5 = .ok (.iload_n 2, 1) := by decide +kernel
theorem dX4_addSlab_6 : decode cX4_addSlab 6 = .ok (.bipush 8, 2) := by decide +kernel
theorem dX4_addSlab_8 : decode cX4_addSlab 8 = .ok (.if_icmp .lt 14, 3) := by decide +kernel
theorem dX4_addSlab_11 : decode cX4_addSlab 11 = .ok (.new 56, 3) := by decide +kernel
theorem dX4_addSlab_14 : decode cX4_addSlab 14 = .ok (.dup, 1) := by decide +kernel
theorem dX4_addSlab_15 : decode cX4_addSlab 15 = .ok (.ldc_w 268, 3) := by decide +kernel
theorem dX4_addSlab_18 : decode cX4_addSlab 18 = .ok (.invokespecial 60, 3) := by decide +kernel
theorem dX4_addSlab_21 : decode cX4_addSlab 21 = .ok (.athrow, 1) := by decide +kernel
theorem dX4_addSlab_22 : decode cX4_addSlab 22 = .ok (.aload_n 0, 1) := by decide +kernel
theorem dX4_addSlab_23 : decode cX4_addSlab 23 = .ok (.getfield 17, 3) := by decide +kernel
theorem dX4_addSlab_26 : decode cX4_addSlab 26 = .ok (.iload_n 2, 1) := by decide +kernel
theorem dX4_addSlab_27 : decode cX4_addSlab 27 = .ok (.aload_n 1, 1) := by decide +kernel
theorem dX4_addSlab_28 : decode cX4_addSlab 28 = .ok (.aastore, 1) := by decide +kernel
theorem dX4_addSlab_29 : decode cX4_addSlab 29 = .ok (.aload_n 0, 1) := by decide +kernel
theorem dX4_addSlab_30 : decode cX4_addSlab 30 = .ok (.iload_n 2, 1) := by decide +kernel
theorem dX4_addSlab_31 : decode cX4_addSlab 31 = .ok (.iconst 1, 1) := by decide +kernel
theorem dX4_addSlab_32 : decode cX4_addSlab 32 = .ok (.iadd, 1) := by decide +kernel
theorem dX4_addSlab_33 : decode cX4_addSlab 33 = .ok (.putfield 211, 3) := by decide +kernel
theorem dX4_addSlab_36 : decode cX4_addSlab 36 = .ok (.iload_n 2, 1) := by decide +kernel
theorem dX4_addSlab_37 : decode cX4_addSlab 37 = .ok (.ireturn, 1) := by decide +kernel
theorem dX4_closeGaps_0 : decode cX4_closeGaps 0 = .ok (.iconst 0, 1) := by decide +kernel
theorem dX4_closeGaps_1 : decode cX4_closeGaps 1 = .ok (.istore_n 1, 1) := by decide +kernel
theorem dX4_closeGaps_2 : decode cX4_closeGaps 2 = .ok (.iconst 0, 1) := by decide +kernel
theorem dX4_closeGaps_3 : decode cX4_closeGaps 3 = .ok (.istore_n 2, 1) := by decide +kernel
theorem dX4_closeGaps_4 : decode cX4_closeGaps 4 = .ok (.iload_n 2, 1) := by decide +kernel
theorem dX4_closeGaps_5 : decode cX4_closeGaps 5 = .ok (.bipush 8, 2) := by decide +kernel
theorem dX4_closeGaps_7 : decode cX4_closeGaps 7 = .ok (.if_icmp .ge 37, 3) := by decide +kernel
theorem dX4_closeGaps_10 : decode cX4_closeGaps 10 = .ok (.aload_n 0, 1) := by decide +kernel
theorem dX4_closeGaps_11 : decode cX4_closeGaps 11 = .ok (.getfield 17, 3) := by decide +kernel
theorem dX4_closeGaps_14 : decode cX4_closeGaps 14 = .ok (.iload_n 2, 1) := by decide +kernel
theorem dX4_closeGaps_15 : decode cX4_closeGaps 15 = .ok (.aaload, 1) := by decide +kernel
theorem dX4_closeGaps_16 : decode cX4_closeGaps 16 = .ok (.astore_n 3, 1) := by decide +kernel
theorem dX4_closeGaps_17 : decode cX4_closeGaps 17 = .ok (.aload_n 0, 1) := by decide +kernel
theorem dX4_closeGaps_18 : decode cX4_closeGaps 18 = .ok (.getfield 17, 3) := by decide +kernel
theorem dX4_closeGaps_21 : decode cX4_closeGaps 21 = .ok (.iload_n 2, 1) := by decide +kernel
theorem dX4_closeGaps_22 : decode cX4_closeGaps 22 = .ok (.aconst_null, 1) := by decide +kernel
theorem dX4_closeGaps_23 : decode cX4_closeGaps 23 = .ok (.aastore, 1) := by decide +kernel
theorem dX4_closeGaps_24 : decode cX4_closeGaps 24 = .ok (.aload_n 3, 1) := by decide +kernel
theorem dX4_closeGaps_25 : decode cX4_closeGaps 25 = .ok (.ifnull 13, 3) := by decide +kernel
theorem dX4_closeGaps_28 : decode cX4_closeGaps 28 = .ok (.aload_n 0, 1) := by decide +kernel
theorem dX4_closeGaps_29 : decode cX4_closeGaps 29 = .ok (.getfield 17, 3) := by decide +kernel
theorem dX4_closeGaps_32 : decode cX4_closeGaps 32 = .ok (.iload_n 1, 1) := by decide +kernel
theorem dX4_closeGaps_33 : decode cX4_closeGaps 33 = .ok (.aload_n 3, 1) := by decide +kernel
theorem dX4_closeGaps_34 : decode cX4_closeGaps 34 = .ok (.aastore, 1) := by decide +kernel
theorem dX4_closeGaps_35 : decode cX4_closeGaps 35 = .ok (.iinc 1 1, 3) := by decide +kernel
theorem dX4_closeGaps_38 : decode cX4_closeGaps 38 = .ok (.iinc 2 1, 3) := by decide +kernel
theorem dX4_closeGaps_41 : decode cX4_closeGaps 41 = .ok (.goto (-37), 3) := by decide +kernel
theorem dX4_closeGaps_44 : decode cX4_closeGaps 44 = .ok (.aload_n 0, 1) := by decide +kernel
theorem dX4_closeGaps_45 : decode cX4_closeGaps 45 = .ok (.iload_n 1, 1) := by decide +kernel
theorem dX4_closeGaps_46 : decode cX4_closeGaps 46 = .ok (.putfield 211, 3) := by decide +kernel
theorem dX4_closeGaps_49 : decode cX4_closeGaps 49 = .ok (.return_, 1) := by decide +kernel
theorem dX4_filledBoxes_0 : decode cX4_filledBoxes 0 = .ok (.iconst 0, 1) := by decide +kernel
theorem dX4_filledBoxes_1 : decode cX4_filledBoxes 1 = .ok (.istore_n 1, 1) := by decide +kernel
theorem dX4_filledBoxes_2 : decode cX4_filledBoxes 2 = .ok (.aload_n 0, 1) := by decide +kernel
theorem dX4_filledBoxes_3 : decode cX4_filledBoxes 3 = .ok (.getfield 23, 3) := by decide +kernel
theorem dX4_filledBoxes_6 : decode cX4_filledBoxes 6 = .ok (.astore_n 2, 1) := by decide +kernel
theorem dX4_filledBoxes_7 : decode cX4_filledBoxes 7 = .ok (.aload_n 2, 1) := by decide +kernel
theorem dX4_filledBoxes_8 : decode cX4_filledBoxes 8 = .ok (.arraylength, 1) := by decide +kernel
theorem dX4_filledBoxes_9 : decode cX4_filledBoxes 9 = .ok (.istore_n 3, 1) := by decide +kernel
theorem dX4_filledBoxes_10 : decode cX4_filledBoxes 10 = .ok (.iconst 0, 1) := by decide +kernel
theorem dX4_filledBoxes_11 : decode cX4_filledBoxes 11 = .ok (.istore 4, 2) := by decide +kernel
theorem dX4_filledBoxes_13 : decode cX4_filledBoxes 13 = .ok (.iload 4, 2) := by decide +kernel
theorem dX4_filledBoxes_15 : decode cX4_filledBoxes 15 = .ok (.iload_n 3, 1) := by decide +kernel
theorem dX4_filledBoxes_16 : decode cX4_filledBoxes 16 = .ok (.if_icmp .ge 31, 3) := by decide +kernel
theorem dX4_filledBoxes_19 : decode cX4_filledBoxes 19 = .ok (.aload_n 2, 1) := by decide +kernel
theorem dX4_filledBoxes_20 : decode cX4_filledBoxes 20 = .ok (.iload 4, 2) := by decide +kernel
theorem dX4_filledBoxes_22 : decode cX4_filledBoxes 22 = .ok (.aaload, 1) := by decide +kernel
theorem dX4_filledBoxes_23 : decode cX4_filledBoxes 23 = .ok (.astore 5, 2) := by decide +kernel
theorem dX4_filledBoxes_25 : decode cX4_filledBoxes 25 = .ok (.aload 5, 2) := by decide +kernel
theorem dX4_filledBoxes_27 : decode cX4_filledBoxes 27 = .ok (.ifnull 14, 3) := by decide +kernel
theorem dX4_filledBoxes_30 : decode cX4_filledBoxes 30 = .ok (.aload 5, 2) := by decide +kernel
theorem dX4_filledBoxes_32 : decode cX4_filledBoxes 32 = .ok (.getfield 201, 3) := by decide +kernel
theorem dX4_filledBoxes_35 : decode cX4_filledBoxes 35 = .ok (.ifCond .eq 6, 3) := by decide +kernel
theorem dX4_filledBoxes_38 : decode cX4_filledBoxes 38 = .ok (.iinc 1 1, 3) := by decide +kernel
theorem dX4_filledBoxes_41 : decode cX4_filledBoxes 41 = .ok (.iinc 4 1, 3) := by decide +kernel
theorem dX4_filledBoxes_44 : decode cX4_filledBoxes 44 = .ok (.goto (-31), 3) := by decide +kernel
theorem dX4_filledBoxes_47 : decode cX4_filledBoxes 47 = .ok (.iload_n 1, 1) := by decide +kernel
theorem dX4_filledBoxes_48 : decode cX4_filledBoxes 48 = .ok (.ireturn, 1) := by decide +kernel
theorem dX4_gramsOfBowls_0 : decode cX4_gramsOfBowls 0 = .ok (.iconst 0, 1) := by decide +kernel
theorem dX4_gramsOfBowls_1 : decode cX4_gramsOfBowls 1 = .ok (.istore_n 1, 1) := by decide +kernel
theorem dX4_gramsOfBowls_2 : decode cX4_gramsOfBowls 2 = .ok (.aload_n 0, 1) := by decide +kernel
theorem dX4_gramsOfBowls_3 : decode cX4_gramsOfBowls 3 = .ok (.getfield 11, 3) := by decide +kernel
theorem dX4_gramsOfBowls_6 : decode cX4_gramsOfBowls 6 = .ok (.astore_n 2, 1) := by decide +kernel
theorem dX4_gramsOfBowls_7 : decode cX4_gramsOfBowls 7 = .ok (.aload_n 2, 1) := by decide +kernel
theorem dX4_gramsOfBowls_8 : decode cX4_gramsOfBowls 8 = .ok (.arraylength, 1) := by decide +kernel
theorem dX4_gramsOfBowls_9 : decode cX4_gramsOfBowls 9 = .ok (.istore_n 3, 1) := by decide +kernel
theorem dX4_gramsOfBowls_10 : decode cX4_gramsOfBowls 10 = .ok (.iconst 0, 1) := by decide +kernel
theorem dX4_gramsOfBowls_11 : decode cX4_gramsOfBowls 11 = .ok (.istore 4, 2) := by decide +kernel
theorem dX4_gramsOfBowls_13 : decode cX4_gramsOfBowls 13 = .ok (.iload 4, 2) := by decide +kernel
theorem dX4_gramsOfBowls_15 : decode cX4_gramsOfBowls 15 = .ok (.iload_n 3, 1) := by decide +kernel
theorem dX4_gramsOfBowls_16 : decode cX4_gramsOfBowls 16 = .ok (.if_icmp .ge 28, 3) := by decide +kernel
theorem dX4_gramsOfBowls_19 : decode cX4_gramsOfBowls 19 = .ok (.aload_n 2, 1) := by decide +kernel
theorem dX4_gramsOfBowls_20 : decode cX4_gramsOfBowls 20 = .ok (.iload 4, 2) := by decide +kernel
theorem dX4_gramsOfBowls_22 : decode cX4_gramsOfBowls 22 = .ok (.aaload, 1) := by decide +kernel
theorem dX4_gramsOfBowls_23 : decode cX4_gramsOfBowls 23 = .ok (.astore 5, 2) := by decide +kernel
theorem dX4_gramsOfBowls_25 : decode cX4_gramsOfBowls 25 = .ok (.aload 5, 2) := by decide +kernel
theorem dX4_gramsOfBowls_27 : decode cX4_gramsOfBowls 27 = .ok (.ifnull 11, 3) := by decide +kernel
theorem dX4_gramsOfBowls_30 : decode cX4_gramsOfBowls 30 = .ok (.iload_n 1, 1) := by decide +kernel
theorem dX4_gramsOfBowls_31 : decode cX4_gramsOfBowls 31 = .ok (.aload 5, 2) := by decide +kernel
theorem dX4_gramsOfBowls_33 : decode cX4_gramsOfBowls 33 = .ok (.getfield 93, 3) := by decide +kernel
theorem dX4_gramsOfBowls_36 : decode cX4_gramsOfBowls 36 = .ok (.iadd, 1) := by decide +kernel
theorem dX4_gramsOfBowls_37 : decode cX4_gramsOfBowls 37 = .ok (.istore_n 1, 1) := by decide +kernel
theorem dX4_gramsOfBowls_38 : decode cX4_gramsOfBowls 38 = .ok (.iinc 4 1, 3) := by decide +kernel
theorem dX4_gramsOfBowls_41 : decode cX4_gramsOfBowls 41 = .ok (.goto (-28), 3) := by decide +kernel
theorem dX4_gramsOfBowls_44 : decode cX4_gramsOfBowls 44 = .ok (.iload_n 1, 1) := by decide +kernel
theorem dX4_gramsOfBowls_45 : decode cX4_gramsOfBowls 45 = .ok (.ireturn, 1) := by decide +kernel
theorem dX4_squaresOfSlabs_0 : decode cX4_squaresOfSlabs 0 = .ok (.iconst 0, 1) := by decide +kernel
theorem dX4_squaresOfSlabs_1 : decode cX4_squaresOfSlabs 1 = .ok (.istore_n 1, 1) := by decide +kernel
theorem dX4_squaresOfSlabs_2 : decode cX4_squaresOfSlabs 2 = .ok (.aload_n 0, 1) := by decide +kernel
theorem dX4_squaresOfSlabs_3 : decode cX4_squaresOfSlabs 3 = .ok (.getfield 17, 3) := by decide +kernel
theorem dX4_squaresOfSlabs_6 : decode cX4_squaresOfSlabs 6 = .ok (.astore_n 2, 1) := by decide +kernel
theorem dX4_squaresOfSlabs_7 : decode cX4_squaresOfSlabs 7 = .ok (.aload_n 2, 1) := by decide +kernel
theorem dX4_squaresOfSlabs_8 : decode cX4_squaresOfSlabs 8 = .ok (.arraylength, 1) := by decide +kernel
theorem dX4_squaresOfSlabs_9 : decode cX4_squaresOfSlabs 9 = .ok (.istore_n 3, 1) := by decide +kernel
theorem dX4_squaresOfSlabs_10 : decode cX4_squaresOfSlabs 10 = .ok (.iconst 0, 1) := by decide +kernel
theorem dX4_squaresOfSlabs_11 : decode cX4_squaresOfSlabs 11 = .ok (.istore 4, 2) := by decide +kernel
theorem dX4_squaresOfSlabs_13 : decode cX4_squaresOfSlabs 13 = .ok (.iload 4, 2) := by decide +kernel
theorem dX4_squaresOfSlabs_15 : decode cX4_squaresOfSlabs 15 = .ok (.iload_n 3, 1) := by decide +kernel
theorem dX4_squaresOfSlabs_16 : decode cX4_squaresOfSlabs 16 = .ok (.if_icmp .ge 28, 3) := by decide +kernel
theorem dX4_squaresOfSlabs_19 : decode cX4_squaresOfSlabs 19 = .ok (.aload_n 2, 1) := by decide +kernel
theorem dX4_squaresOfSlabs_20 : decode cX4_squaresOfSlabs 20 = .ok (.iload 4, 2) := by decide +kernel
theorem dX4_squaresOfSlabs_22 : decode cX4_squaresOfSlabs 22 = .ok (.aaload, 1) := by decide +kernel
theorem dX4_squaresOfSlabs_23 : decode cX4_squaresOfSlabs 23 = .ok (.astore 5, 2) := by decide +kernel
theorem dX4_squaresOfSlabs_25 : decode cX4_squaresOfSlabs 25 = .ok (.aload 5, 2) := by decide +kernel
theorem dX4_squaresOfSlabs_27 : decode cX4_squaresOfSlabs 27 = .ok (.ifnull 11, 3) := by decide +kernel
theorem dX4_squaresOfSlabs_30 : decode cX4_squaresOfSlabs 30 = .ok (.iload_n 1, 1) := by decide +kernel
theorem dX4_squaresOfSlabs_31 : decode cX4_squaresOfSlabs 31 = .ok (.aload 5, 2) := by decide +kernel
theorem dX4_squaresOfSlabs_33 : decode cX4_squaresOfSlabs 33 = .ok (.invokevirtual 188, 3) := by decide +kernel
theorem dX4_squaresOfSlabs_36 : decode cX4_squaresOfSlabs 36 = .ok (.iadd, 1) := by decide +kernel
theorem dX4_squaresOfSlabs_37 : decode cX4_squaresOfSlabs 37 = .ok (.istore_n 1, 1) := by decide +kernel
theorem dX4_squaresOfSlabs_38 : decode cX4_squaresOfSlabs 38 = .ok (.iinc 4 1, 3) := by decide +kernel
theorem dX4_squaresOfSlabs_41 : decode cX4_squaresOfSlabs 41 = .ok (.goto (-28), 3) := by decide +kernel
theorem dX4_squaresOfSlabs_44 : decode cX4_squaresOfSlabs 44 = .ok (.iload_n 1, 1) := by decide +kernel
theorem dX4_squaresOfSlabs_45 : decode cX4_squaresOfSlabs 45 = .ok (.ireturn, 1) := by decide +kernel
theorem dX4_bloomedSlabs_0 : decode cX4_bloomedSlabs 0 = .ok (.iconst 0, 1) := by decide +kernel
theorem dX4_bloomedSlabs_1 : decode cX4_bloomedSlabs 1 = .ok (.istore_n 1, 1) := by decide +kernel
theorem dX4_bloomedSlabs_2 : decode cX4_bloomedSlabs 2 = .ok (.aload_n 0, 1) := by decide +kernel
theorem dX4_bloomedSlabs_3 : decode cX4_bloomedSlabs 3 = .ok (.getfield 17, 3) := by decide +kernel
theorem dX4_bloomedSlabs_6 : decode cX4_bloomedSlabs 6 = .ok (.astore_n 2, 1) := by decide +kernel
theorem dX4_bloomedSlabs_7 : decode cX4_bloomedSlabs 7 = .ok (.aload_n 2, 1) := by decide +kernel
theorem dX4_bloomedSlabs_8 : decode cX4_bloomedSlabs 8 = .ok (.arraylength, 1) := by decide +kernel
theorem dX4_bloomedSlabs_9 : decode cX4_bloomedSlabs 9 = .ok (.istore_n 3, 1) := by decide +kernel
theorem dX4_bloomedSlabs_10 : decode cX4_bloomedSlabs 10 = .ok (.iconst 0, 1) := by decide +kernel
theorem dX4_bloomedSlabs_11 : decode cX4_bloomedSlabs 11 = .ok (.istore 4, 2) := by decide +kernel
theorem dX4_bloomedSlabs_13 : decode cX4_bloomedSlabs 13 = .ok (.iload 4, 2) := by decide +kernel
theorem dX4_bloomedSlabs_15 : decode cX4_bloomedSlabs 15 = .ok (.iload_n 3, 1) := by decide +kernel
theorem dX4_bloomedSlabs_16 : decode cX4_bloomedSlabs 16 = .ok (.if_icmp .ge 31, 3) := by decide +kernel
theorem dX4_bloomedSlabs_19 : decode cX4_bloomedSlabs 19 = .ok (.aload_n 2, 1) := by decide +kernel
theorem dX4_bloomedSlabs_20 : decode cX4_bloomedSlabs 20 = .ok (.iload 4, 2) := by decide +kernel
theorem dX4_bloomedSlabs_22 : decode cX4_bloomedSlabs 22 = .ok (.aaload, 1) := by decide +kernel
theorem dX4_bloomedSlabs_23 : decode cX4_bloomedSlabs 23 = .ok (.astore 5, 2) := by decide +kernel
theorem dX4_bloomedSlabs_25 : decode cX4_bloomedSlabs 25 = .ok (.aload 5, 2) := by decide +kernel
theorem dX4_bloomedSlabs_27 : decode cX4_bloomedSlabs 27 = .ok (.ifnull 14, 3) := by decide +kernel
theorem dX4_bloomedSlabs_30 : decode cX4_bloomedSlabs 30 = .ok (.aload 5, 2) := by decide +kernel
theorem dX4_bloomedSlabs_32 : decode cX4_bloomedSlabs 32 = .ok (.invokevirtual 229, 3) := by decide +kernel
theorem dX4_bloomedSlabs_35 : decode cX4_bloomedSlabs 35 = .ok (.ifCond .eq 6, 3) := by decide +kernel
theorem dX4_bloomedSlabs_38 : decode cX4_bloomedSlabs 38 = .ok (.iinc 1 1, 3) := by decide +kernel
theorem dX4_bloomedSlabs_41 : decode cX4_bloomedSlabs 41 = .ok (.iinc 4 1, 3) := by decide +kernel
theorem dX4_bloomedSlabs_44 : decode cX4_bloomedSlabs 44 = .ok (.goto (-31), 3) := by decide +kernel
theorem dX4_bloomedSlabs_47 : decode cX4_bloomedSlabs 47 = .ok (.iload_n 1, 1) := by decide +kernel
theorem dX4_bloomedSlabs_48 : decode cX4_bloomedSlabs 48 = .ok (.ireturn, 1) := by decide +kernel
theorem dX4_firstEmptyBoxFor_0 : decode cX4_firstEmptyBoxFor 0 = .ok (.iconst 0, 1) := by decide +kernel
theorem dX4_firstEmptyBoxFor_1 : decode cX4_firstEmptyBoxFor 1 = .ok (.istore_n 2, 1) := by decide +kernel
theorem dX4_firstEmptyBoxFor_2 : decode cX4_firstEmptyBoxFor 2 = .ok (.iload_n 2, 1) := by decide +kernel
theorem dX4_firstEmptyBoxFor_3 : decode cX4_firstEmptyBoxFor 3 = .ok (.bipush 6, 2) := by decide +kernel
theorem dX4_firstEmptyBoxFor_5 : decode cX4_firstEmptyBoxFor 5 = .ok (.if_icmp .ge 41, 3) := by decide +kernel
theorem dX4_firstEmptyBoxFor_8 : decode cX4_firstEmptyBoxFor 8 = .ok (.aload_n 0, 1) := by decide +kernel
theorem dX4_firstEmptyBoxFor_9 : decode cX4_firstEmptyBoxFor 9 = .ok (.getfield 23, 3) := by decide +kernel
theorem dX4_firstEmptyBoxFor_12 : decode cX4_firstEmptyBoxFor 12 = .ok (.iload_n 2, 1) := by decide +kernel
theorem dX4_firstEmptyBoxFor_13 : decode cX4_firstEmptyBoxFor 13 = .ok (.aaload, 1) := by decide +kernel
theorem dX4_firstEmptyBoxFor_14 : decode cX4_firstEmptyBoxFor 14 = .ok (.astore_n 3, 1) := by decide +kernel
theorem dX4_firstEmptyBoxFor_15 : decode cX4_firstEmptyBoxFor 15 = .ok (.aload_n 3, 1) := by decide +kernel
theorem dX4_firstEmptyBoxFor_16 : decode cX4_firstEmptyBoxFor 16 = .ok (.ifnull 24, 3) := by decide +kernel
theorem dX4_firstEmptyBoxFor_19 : decode cX4_firstEmptyBoxFor 19 = .ok (.aload_n 3, 1) := by decide +kernel
theorem dX4_firstEmptyBoxFor_20 : decode cX4_firstEmptyBoxFor 20 = .ok (.getfield 201, 3) := by decide +kernel
theorem dX4_firstEmptyBoxFor_23 : decode cX4_firstEmptyBoxFor 23 = .ok (.ifCond .ne 17, 3) := by decide +kernel
theorem dX4_firstEmptyBoxFor_26 : decode cX4_firstEmptyBoxFor 26 = .ok (.aload_n 3, 1) := by decide +kernel
theorem dX4_firstEmptyBoxFor_27 : decode cX4_firstEmptyBoxFor 27 = .ok (.aload_n 1, 1) := by decide +kernel
theorem dX4_firstEmptyBoxFor_28 : decode cX4_firstEmptyBoxFor 28 = .ok (.aload_n 1, 1) := by decide +kernel
theorem dX4_firstEmptyBoxFor_29 : decode cX4_firstEmptyBoxFor 29 = .ok (.getfield 122, 3) := by decide +kernel
theorem dX4_firstEmptyBoxFor_32 : decode cX4_firstEmptyBoxFor 32 = .ok (.invokevirtual 270, 3) := by decide +kernel
theorem dX4_firstEmptyBoxFor_35 : decode cX4_firstEmptyBoxFor 35 = .ok (.ifCond .eq 5, 3) := by decide +kernel
theorem dX4_firstEmptyBoxFor_38 : decode cX4_firstEmptyBoxFor 38 = .ok (.iload_n 2, 1) := by decide +kernel
theorem dX4_firstEmptyBoxFor_39 : decode cX4_firstEmptyBoxFor 39 = .ok (.ireturn, 1) := by decide +kernel
theorem dX4_firstEmptyBoxFor_40 : decode cX4_firstEmptyBoxFor 40 = .ok (.iinc 2 1, 3) := by decide +kernel
theorem dX4_firstEmptyBoxFor_43 : decode cX4_firstEmptyBoxFor 43 = .ok (.goto (-41), 3) := by decide +kernel
theorem dX4_firstEmptyBoxFor_46 : decode cX4_firstEmptyBoxFor 46 = .ok (.iconst (-1), 1) := by decide +kernel
theorem dX4_firstEmptyBoxFor_47 : decode cX4_firstEmptyBoxFor 47 = .ok (.ireturn, 1) := by decide +kernel
theorem dX4_planFilling_0 : decode cX4_planFilling 0 = .ok (.iconst 0, 1) := by decide +kernel
theorem dX4_planFilling_1 : decode cX4_planFilling 1 = .ok (.istore_n 2, 1) := by decide +kernel
theorem dX4_planFilling_2 : decode cX4_planFilling 2 = .ok (.iload_n 2, 1) := by decide +kernel
theorem dX4_planFilling_3 : decode cX4_planFilling 3 = .ok (.bipush 8, 2) := by decide +kernel
theorem dX4_planFilling_5 : decode cX4_planFilling 5 = .ok (.if_icmp .ge 16, 3) := by decide +kernel
theorem dX4_planFilling_8 : decode cX4_planFilling 8 = .ok (.aload_n 0, 1) := by decide +kernel
theorem dX4_planFilling_9 : decode cX4_planFilling 9 = .ok (.getfield 41, 3) := by decide +kernel
theorem dX4_planFilling_12 : decode cX4_planFilling 12 = .ok (.iload_n 2, 1) := by decide +kernel
theorem dX4_planFilling_13 : decode cX4_planFilling 13 = .ok (.iconst 0, 1) := by decide +kernel
theorem dX4_planFilling_14 : decode cX4_planFilling 14 = .ok (.bastore, 1) := by decide +kernel
theorem dX4_planFilling_15 : decode cX4_planFilling 15 = .ok (.iinc 2 1, 3) := by decide +kernel
theorem dX4_planFilling_18 : decode cX4_planFilling 18 = .ok (.goto (-16), 3) := by decide +kernel
theorem dX4_planFilling_21 : decode cX4_planFilling 21 = .ok (.iconst 0, 1) := by decide +kernel
theorem dX4_planFilling_22 : decode cX4_planFilling 22 = .ok (.istore_n 2, 1) := by decide +kernel
theorem dX4_planFilling_23 : decode cX4_planFilling 23 = .ok (.iconst 0, 1) := by decide +kernel
theorem dX4_planFilling_24 : decode cX4_planFilling 24 = .ok (.istore_n 3, 1) := by decide +kernel
theorem dX4_planFilling_25 : decode cX4_planFilling 25 = .ok (.iload_n 3, 1) := by decide +kernel
theorem dX4_planFilling_26 : decode cX4_planFilling 26 = .ok (.bipush 6, 2) := by decide +kernel
theorem dX4_planFilling_28 : decode cX4_planFilling 28 = .ok (.if_icmp .ge 60, 3) := by decide +kernel
theorem dX4_planFilling_31 : decode cX4_planFilling 31 = .ok (.aload_n 0, 1) := by decide +kernel
theorem dX4_planFilling_32 : decode cX4_planFilling 32 = .ok (.getfield 23, 3) := by decide +kernel
theorem dX4_planFilling_35 : decode cX4_planFilling 35 = .ok (.iload_n 3, 1) := by decide +kernel
theorem dX4_planFilling_36 : decode cX4_planFilling 36 = .ok (.aaload, 1) := by decide +kernel
theorem dX4_planFilling_37 : decode cX4_planFilling 37 = .ok (.astore 4, 2) := by decide +kernel
theorem dX4_planFilling_39 : decode cX4_planFilling 39 = .ok (.aload_n 0, 1) := by decide +kernel
theorem dX4_planFilling_40 : decode cX4_planFilling 40 = .ok (.getfield 37, 3) := by decide +kernel
theorem dX4_planFilling_43 : decode cX4_planFilling 43 = .ok (.iload_n 3, 1) := by decide +kernel
theorem dX4_planFilling_44 : decode cX4_planFilling 44 = .ok (.aload 4, 2) := by decide +kernel
theorem dX4_planFilling_46 : decode cX4_planFilling 46 = .ok (.ifnull 11, 3) := by decide +kernel
theorem dX4_planFilling_49 : decode cX4_planFilling 49 = .ok (.aload 4, 2) := by decide +kernel
theorem dX4_planFilling_51 : decode cX4_planFilling 51 = .ok (.getfield 201, 3) := by decide +kernel
theorem dX4_planFilling_54 : decode cX4_planFilling 54 = .ok (.ifCond .eq 7, 3) := by decide +kernel
theorem dX4_planFilling_57 : decode cX4_planFilling 57 = .ok (.iconst (-1), 1) := by decide +kernel
theorem dX4_planFilling_58 : decode cX4_planFilling 58 = .ok (.goto 10, 3) := by decide +kernel
theorem dX4_planFilling_61 : decode cX4_planFilling 61 = .ok (.aload_n 0, 1) := by decide +kernel
theorem dX4_planFilling_62 : decode cX4_planFilling 62 = .ok (.aload 4, 2) := by decide +kernel
theorem dX4_planFilling_64 : decode cX4_planFilling 64 = .ok (.iload_n 1, 1) := by decide +kernel
theorem dX4_planFilling_65 : decode cX4_planFilling 65 = .ok (.invokevirtual 274, 3) := by decide +kernel
theorem dX4_planFilling_68 : decode cX4_planFilling 68 = .ok (.iastore, 1) := by decide +kernel
theorem dX4_planFilling_69 : decode cX4_planFilling 69 = .ok (.aload_n 0, 1) := by decide +kernel
theorem dX4_planFilling_70 : decode cX4_planFilling 70 = .ok (.getfield 37, 3) := by decide +kernel
theorem dX4_planFilling_73 : decode cX4_planFilling 73 = .ok (.iload_n 3, 1) := by decide +kernel
theorem dX4_planFilling_74 : decode cX4_planFilling 74 = .ok (.iaload, 1) := by decide +kernel
theorem dX4_planFilling_75 : decode cX4_planFilling 75 = .ok (.iconst (-1), 1) := by decide +kernel
theorem dX4_planFilling_76 : decode cX4_planFilling 76 = .ok (.if_icmp .eq 6, 3) := by decide +kernel
theorem dX4_planFilling_79 : decode cX4_planFilling 79 = .ok (.iinc 2 1, 3) := by decide +kernel
theorem dX4_planFilling_82 : decode cX4_planFilling 82 = .ok (.iinc 3 1, 3) := by decide +kernel
theorem dX4_planFilling_85 : decode cX4_planFilling 85 = .ok (.goto (-60), 3) := by decide +kernel
theorem dX4_planFilling_88 : decode cX4_planFilling 88 = .ok (.iload_n 2, 1) := by decide +kernel
theorem dX4_planFilling_89 : decode cX4_planFilling 89 = .ok (.ireturn, 1) := by decide +kernel
theorem dX4_planSlab_0 : decode cX4_planSlab 0 = .ok (.iconst 0, 1) := by decide +kernel
theorem dX4_planSlab_1 : decode cX4_planSlab 1 = .ok (.istore_n 3, 1) := by decide +kernel
theorem dX4_planSlab_2 : decode cX4_planSlab 2 = .ok (.iload_n 3, 1) := by decide +kernel
theorem dX4_planSlab_3 : decode cX4_planSlab 3 = .ok (.bipush 8, 2) := by decide +kernel
theorem dX4_planSlab_5 : decode cX4_planSlab 5 = .ok (.if_icmp .ge 71, 3) := by decide +kernel
theorem dX4_planSlab_8 : decode cX4_planSlab 8 = .ok (.aload_n 0, 1) := by decide +kernel
theorem dX4_planSlab_9 : decode cX4_planSlab 9 = .ok (.getfield 17, 3) := by decide +kernel
theorem dX4_planSlab_12 : decode cX4_planSlab 12 = .ok (.iload_n 3, 1) := by decide +kernel
theorem dX4_planSlab_13 : decode cX4_planSlab 13 = .ok (.aaload, 1) := by decide +kernel
theorem dX4_planSlab_14 : decode cX4_planSlab 14 = .ok (.astore 4, 2) := by decide +kernel
theorem dX4_planSlab_16 : decode cX4_planSlab 16 = .ok (.aload 4, 2) := by decide +kernel
theorem dX4_planSlab_18 : decode cX4_planSlab 18 = .ok (.ifnull 52, 3) := by decide +kernel
theorem dX4_planSlab_21 : decode cX4_planSlab 21 = .ok (.aload_n 0, 1) := by decide +kernel
theorem dX4_planSlab_22 : decode cX4_planSlab 22 = .ok (.getfield 41, 3) := by decide +kernel
theorem dX4_planSlab_25 : decode cX4_planSlab 25 = .ok (.iload_n 3, 1) := by decide +kernel
theorem dX4_planSlab_26 : decode cX4_planSlab 26 = .ok (.baload, 1) := by decide +kernel
theorem dX4_planSlab_27 : decode cX4_planSlab 27 = .ok (.ifCond .ne 43, 3) := by decide +kernel
theorem dX4_planSlab_30 : decode cX4_planSlab 30 = .ok (.iload_n 3, 1) := by decide +kernel
theorem dX4_planSlab_31 : decode cX4_planSlab 31 = .ok (.iload_n 2, 1) := by decide +kernel
theorem dX4_planSlab_32 : decode cX4_planSlab 32 = .ok (.if_icmp .ne 11, 3) := by decide +kernel
theorem dX4_planSlab_35 : decode cX4_planSlab 35 = .ok (.aload 4, 2) := by decide +kernel
theorem dX4_planSlab_37 : decode cX4_planSlab 37 = .ok (.invokevirtual 119, 3) := by decide +kernel
theorem dX4_planSlab_40 : decode cX4_planSlab 40 = .ok (.goto 8, 3) := by decide +kernel
theorem dX4_planSlab_43 : decode cX4_planSlab 43 = .ok (.aload 4, 2) := by decide +kernel
theorem dX4_planSlab_45 : decode cX4_planSlab 45 = .ok (.getfield 122, 3) := by decide +kernel
theorem dX4_planSlab_48 : decode cX4_planSlab 48 = .ok (.istore 5, 2) := by decide +kernel
theorem dX4_planSlab_50 : decode cX4_planSlab 50 = .ok (.aload_n 1, 1) := by decide +kernel
theorem dX4_planSlab_51 : decode cX4_planSlab 51 = .ok (.aload 4, 2) := by decide +kernel
theorem dX4_planSlab_53 : decode cX4_planSlab 53 = .ok (.iload 5, 2) := by decide +kernel
theorem dX4_planSlab_55 : decode cX4_planSlab 55 = .ok (.invokevirtual 270, 3) := by decide +kernel
theorem dX4_planSlab_58 : decode cX4_planSlab 58 = .ok (.ifCond .eq 12, 3) := by decide +kernel
theorem dX4_planSlab_61 : decode cX4_planSlab 61 = .ok (.aload_n 0, 1) := by decide +kernel
theorem dX4_planSlab_62 : decode cX4_planSlab 62 = .ok (.getfield 41, 3) := by decide +kernel
theorem dX4_planSlab_65 : decode cX4_planSlab 65 = .ok (.iload_n 3, 1) := by decide +kernel
theorem dX4_planSlab_66 : decode cX4_planSlab 66 = .ok (.iconst 1, 1) := by decide +kernel
theorem dX4_planSlab_67 : decode cX4_planSlab 67 = .ok (.bastore, 1) := by decide +kernel
theorem dX4_planSlab_68 : decode cX4_planSlab 68 = .ok (.iload_n 3, 1) := by decide +kernel
theorem dX4_planSlab_69 : decode cX4_planSlab 69 = .ok (.ireturn, 1) := by decide +kernel
theorem dX4_planSlab_70 : decode cX4_planSlab 70 = .ok (.iinc 3 1, 3) := by decide +kernel
theorem dX4_planSlab_73 : decode cX4_planSlab 73 = .ok (.goto (-71), 3) := by decide +kernel
theorem dX4_planSlab_76 : decode cX4_planSlab 76 = .ok (.iconst (-1), 1) := by decide +kernel
theorem dX4_planSlab_77 : decode cX4_planSlab 77 = .ok (.ireturn, 1) := by decide +kernel
theorem dX4_moveIntoBox_0 : decode cX4_moveIntoBox 0 = .ok (.aload_n 0, 1) := by decide +kernel
theorem dX4_moveIntoBox_1 : decode cX4_moveIntoBox 1 = .ok (.iload_n 1, 1) := by decide +kernel
theorem dX4_moveIntoBox_2 : decode cX4_moveIntoBox 2 = .ok (.invokevirtual 261, 3) := by decide +kernel
theorem dX4_moveIntoBox_5 : decode cX4_moveIntoBox 5 = .ok (.astore_n 3, 1) := by decide +kernel
theorem dX4_moveIntoBox_6 : decode cX4_moveIntoBox 6 = .ok (.aload_n 3, 1) := by decide +kernel
theorem dX4_moveIntoBox_7 : decode cX4_moveIntoBox 7 = .ok (.ifnull 19, 3) := by decide +kernel
theorem dX4_moveIntoBox_10 : decode cX4_moveIntoBox 10 = .ok (.aload_n 2, 1) := by decide +kernel
theorem dX4_moveIntoBox_11 : decode cX4_moveIntoBox 11 = .ok (.ifnull 15, 3) := by decide +kernel
theorem dX4_moveIntoBox_14 : decode cX4_moveIntoBox 14 = .ok (.aload_n 2, 1) := by decide +kernel
theorem dX4_moveIntoBox_15 : decode cX4_moveIntoBox 15 = .ok (.aload_n 3, 1) := by decide +kernel
theorem dX4_moveIntoBox_16 : decode cX4_moveIntoBox 16 = .ok (.invokevirtual 278, 3) := by decide +kernel
theorem dX4_moveIntoBox_19 : decode cX4_moveIntoBox 19 = .ok (.aload_n 0, 1) := by decide +kernel
theorem dX4_moveIntoBox_20 : decode cX4_moveIntoBox 20 = .ok (.getfield 17, 3) := by decide +kernel
theorem dX4_moveIntoBox_23 : decode cX4_moveIntoBox 23 = .ok (.iload_n 1, 1) := by decide +kernel
theorem dX4_moveIntoBox_24 : decode cX4_moveIntoBox 24 = .ok (.aconst_null, 1) := by decide +kernel
theorem dX4_moveIntoBox_25 : decode cX4_moveIntoBox 25 = .ok (.aastore, 1) := by decide +kernel
theorem dX4_moveIntoBox_26 : decode cX4_moveIntoBox 26 = .ok (.return_, 1) := by decide +kernel
theorem dX5_init_0 : decode cX5_init 0 = .ok (.aload_n 0, 1) := by decide +kernel
theorem dX5_init_1 : decode cX5_init 1 = .ok (.invokespecial 1, 3) := by decide +kernel
theorem dX5_init_4 : decode cX5_init 4 = .ok (.aload_n 0, 1) := by decide +kernel
theorem dX5_init_5 : decode cX5_init 5 = .ok (.bipush 20, 2) := by decide +kernel
theorem dX5_init_7 : decode cX5_init 7 = .ok (.putfield 7, 3) := by decide +kernel
theorem dX5_init_10 : decode cX5_init 10 = .ok (.aload_n 0, 1) := by decide +kernel
theorem dX5_init_11 : decode cX5_init 11 = .ok (.bipush 6, 2) := by decide +kernel
theorem dX5_init_13 : decode cX5_init 13 = .ok (.newarray .int, 2) := by decide +kernel
theorem dX5_init_15 : decode cX5_init 15 = .ok (.putfield 13, 3) := by decide +kernel
theorem dX5_init_18 : decode cX5_init 18 = .ok (.return_, 1) := by decide +kernel
theorem dX5_all_0 : decode cX5_all 0 = .ok (.aload_n 0, 1) := by decide +kernel
theorem dX5_all_1 : decode cX5_all 1 = .ok (.getfield 13, 3) := by decide +kernel
theorem dX5_all_4 : decode cX5_all 4 = .ok (.iconst 1, 1) := by decide +kernel
theorem dX5_all_5 : decode cX5_all 5 = .ok (.iaload, 1) := by decide +kernel
theorem dX5_all_6 : decode cX5_all 6 = .ok (.aload_n 0, 1) := by decide +kernel
theorem dX5_all_7 : decode cX5_all 7 = .ok (.getfield 13, 3) := by decide +kernel
theorem dX5_all_10 : decode cX5_all 10 = .ok (.iconst 2, 1) := by decide +kernel
theorem dX5_all_11 : decode cX5_all 11 = .ok (.iaload, 1) := by decide +kernel
theorem dX5_all_12 : decode cX5_all 12 = .ok (.iadd, 1) := by decide +kernel
theorem dX5_all_13 : decode cX5_all 13 = .ok (.aload_n 0, 1) := by decide +kernel
theorem dX5_all_14 : decode cX5_all 14 = .ok (.getfield 13, 3) := by decide +kernel
theorem dX5_all_17 : decode cX5_all 17 = .ok (.iconst 3, 1) := by decide +kernel
theorem dX5_all_18 : decode cX5_all 18 = .ok (.iaload, 1) := by decide +kernel
theorem dX5_all_19 : decode cX5_all 19 = .ok (.iadd, 1) := by decide +kernel
theorem dX5_all_20 : decode cX5_all 20 = .ok (.aload_n 0, 1) := by decide +kernel
theorem dX5_all_21 : decode cX5_all 21 = .ok (.getfield 13, 3) := by decide +kernel
theorem dX5_all_24 : decode cX5_all 24 = .ok (.iconst 4, 1) := by decide +kernel
theorem dX5_all_25 : decode cX5_all 25 = .ok (.iaload, 1) := by decide +kernel
theorem dX5_all_26 : decode cX5_all 26 = .ok (.iadd, 1) := by decide +kernel
theorem dX5_all_27 : decode cX5_all 27 = .ok (.aload_n 0, 1) := by decide +kernel
theorem dX5_all_28 : decode cX5_all 28 = .ok (.getfield 13, 3) := by decide +kernel
theorem dX5_all_31 : decode cX5_all 31 = .ok (.iconst 5, 1) := by decide +kernel
theorem dX5_all_32 : decode cX5_all 32 = .ok (.iaload, 1) := by decide +kernel
theorem dX5_all_33 : decode cX5_all 33 = .ok (.iadd, 1) := by decide +kernel
theorem dX5_all_34 : decode cX5_all 34 = .ok (.ireturn, 1) := by decide +kernel
theorem dX5_temper_0 : decode cX5_temper 0 = .ok (.aload_n 0, 1) := by decide +kernel
theorem dX5_temper_1 : decode cX5_temper 1 = .ok (.getfield 13, 3) := by decide +kernel
theorem dX5_temper_4 : decode cX5_temper 4 = .ok (.iconst 4, 1) := by decide +kernel
theorem dX5_temper_5 : decode cX5_temper 5 = .ok (.iaload, 1) := by decide +kernel
theorem dX5_temper_6 : decode cX5_temper 6 = .ok (.iconst 2, 1) := by decide +kernel
theorem dX5_temper_7 : decode cX5_temper 7 = .ok (.aload_n 0, 1) := by decide +kernel
theorem dX5_temper_8 : decode cX5_temper 8 = .ok (.getfield 13, 3) := by decide +kernel
theorem dX5_temper_11 : decode cX5_temper 11 = .ok (.iconst 5, 1) := by decide +kernel
theorem dX5_temper_12 : decode cX5_temper 12 = .ok (.iaload, 1) := by decide +kernel
theorem dX5_temper_13 : decode cX5_temper 13 = .ok (.imul, 1) := by decide +kernel
theorem dX5_temper_14 : decode cX5_temper 14 = .ok (.iadd, 1) := by decide +kernel
theorem dX5_temper_15 : decode cX5_temper 15 = .ok (.aload_n 0, 1) := by decide +kernel
theorem dX5_temper_16 : decode cX5_temper 16 = .ok (.getfield 13, 3) := by decide +kernel
theorem dX5_temper_19 : decode cX5_temper 19 = .ok (.iconst 1, 1) := by decide +kernel
theorem dX5_temper_20 : decode cX5_temper 20 = .ok (.iaload, 1) := by decide +kernel
theorem dX5_temper_21 : decode cX5_temper 21 = .ok (.isub, 1) := by decide +kernel
theorem dX5_temper_22 : decode cX5_temper 22 = .ok (.aload_n 0, 1) := by decide +kernel
theorem dX5_temper_23 : decode cX5_temper 23 = .ok (.getfield 13, 3) := by decide +kernel
theorem dX5_temper_26 : decode cX5_temper 26 = .ok (.iconst 2, 1) := by decide +kernel
theorem dX5_temper_27 : decode cX5_temper 27 = .ok (.iaload, 1) := by decide +kernel
theorem dX5_temper_28 : decode cX5_temper 28 = .ok (.isub, 1) := by decide +kernel
theorem dX5_temper_29 : decode cX5_temper 29 = .ok (.aload_n 0, 1) := by decide +kernel
theorem dX5_temper_30 : decode cX5_temper 30 = .ok (.getfield 13, 3) := by decide +kernel
theorem dX5_temper_33 : decode cX5_temper 33 = .ok (.iconst 3, 1) := by decide +kernel
theorem dX5_temper_34 : decode cX5_temper 34 = .ok (.iaload, 1) := by decide +kernel
theorem dX5_temper_35 : decode cX5_temper 35 = .ok (.isub, 1) := by decide +kernel
theorem dX5_temper_36 : decode cX5_temper 36 = .ok (.istore_n 1, 1) := by decide +kernel
theorem dX5_temper_37 : decode cX5_temper 37 = .ok (.iload_n 1, 1) := by decide +kernel
theorem dX5_temper_38 : decode cX5_temper 38 = .ok (.ifCond .ge 7, 3) := by decide +kernel
theorem dX5_temper_41 : decode cX5_temper 41 = .ok (.iconst 0, 1) := by decide +kernel
theorem dX5_temper_42 : decode cX5_temper 42 = .ok (.goto 15, 3) := by decide +kernel
theorem dX5_temper_45 : decode cX5_temper 45 = .ok (.iload_n 1, 1) := by decide +kernel
theorem dX5_temper_46 : decode cX5_temper 46 = .ok (.bipush 100, 2) := by decide +kernel
theorem dX5_temper_48 : decode cX5_temper 48 = .ok (.if_icmp .le 8, 3) := by decide +kernel
theorem dX5_temper_51 : decode cX5_temper 51 = .ok (.bipush 100, 2) := by decide +kernel
theorem dX5_temper_53 : decode cX5_temper 53 = .ok (.goto 4, 3) := by decide +kernel
theorem dX5_temper_56 : decode cX5_temper 56 = .ok (.iload_n 1, 1) := by decide +kernel
theorem dX5_temper_57 : decode cX5_temper 57 = .ok (.ireturn, 1) := by decide +kernel
theorem dX5_kept_0 : decode cX5_kept 0 = .ok (.aload_n 0, 1) := by decide +kernel
theorem dX5_kept_1 : decode cX5_kept 1 = .ok (.iload_n 1, 1) := by decide +kernel
theorem dX5_kept_2 : decode cX5_kept 2 = .ok (.putfield 7, 3) := by decide +kernel
theorem dX5_kept_5 : decode cX5_kept 5 = .ok (.iconst 0, 1) := by decide +kernel
theorem dX5_kept_6 : decode cX5_kept 6 = .ok (.istore_n 3, 1) := by decide +kernel
theorem dX5_kept_7 : decode cX5_kept 7 = .ok (.iload_n 3, 1) := by decide +kernel
theorem dX5_kept_8 : decode cX5_kept 8 = .ok (.iload_n 2, 1) := by decide +kernel
theorem dX5_kept_9 : decode cX5_kept 9 = .ok (.if_icmp .ge 127, 3) := by decide +kernel
theorem dX5_kept_12 : decode cX5_kept 12 = .ok (.iconst 0, 1) := by decide +kernel
theorem dX5_kept_13 : decode cX5_kept 13 = .ok (.istore 4, 2) := by decide +kernel
theorem dX5_kept_15 : decode cX5_kept 15 = .ok (.iconst 5, 1) := by decide +kernel
theorem dX5_kept_16 : decode cX5_kept 16 = .ok (.istore 5, 2) := by decide +kernel
theorem dX5_kept_18 : decode cX5_kept 18 = .ok (.iload 5, 2) := by decide +kernel
theorem dX5_kept_20 : decode cX5_kept 20 = .ok (.ifCond .le 57, 3) := by decide +kernel
theorem dX5_kept_23 : decode cX5_kept 23 = .ok (.iconst 4, 1) := by decide +kernel
theorem dX5_kept_24 : decode cX5_kept 24 = .ok (.iload 5, 2) := by decide +kernel
theorem dX5_kept_26 : decode cX5_kept 26 = .ok (.imul, 1) := by decide +kernel
theorem dX5_kept_27 : decode cX5_kept 27 = .ok (.bipush 15, 2) := by decide +kernel
theorem dX5_kept_29 : decode cX5_kept 29 = .ok (.iadd, 1) := by decide +kernel
theorem dX5_kept_30 : decode cX5_kept 30 = .ok (.istore 6, 2) := by decide +kernel
theorem dX5_kept_32 : decode cX5_kept 32 = .ok (.iload 6, 2) := by decide +kernel
theorem dX5_kept_34 : decode cX5_kept 34 = .ok (.iload_n 1, 1) := by decide +kernel
theorem dX5_kept_35 : decode cX5_kept 35 = .ok (.if_icmp .gt 24, 3) := by decide +kernel
theorem dX5_kept_38 : decode cX5_kept 38 = .ok (.aload_n 0, 1) := by decide +kernel
theorem dX5_kept_39 : decode cX5_kept 39 = .ok (.getfield 13, 3) := by decide +kernel
theorem dX5_kept_42 : decode cX5_kept 42 = .ok (.iload 5, 2) := by decide +kernel
theorem dX5_kept_44 : decode cX5_kept 44 = .ok (.dup2, 1) := by decide +kernel
theorem dX5_kept_45 : decode cX5_kept 45 = .ok (.iaload, 1) := by decide +kernel
theorem dX5_kept_46 : decode cX5_kept 46 = .ok (.aload_n 0, 1) := by decide +kernel
theorem dX5_kept_47 : decode cX5_kept 47 = .ok (.getfield 13, 3) := by decide +kernel
theorem dX5_kept_50 : decode cX5_kept 50 = .ok (.iload 5, 2) := by decide +kernel
theorem dX5_kept_52 : decode cX5_kept 52 = .ok (.iaload, 1) := by decide +kernel
theorem dX5_kept_53 : decode cX5_kept 53 = .ok (.iconst 1, 1) := by decide +kernel
theorem dX5_kept_54 : decode cX5_kept 54 = .ok (.iadd, 1) := by decide +kernel
theorem dX5_kept_55 : decode cX5_kept 55 = .ok (.iconst 2, 1) := by decide +kernel
theorem dX5_kept_56 : decode cX5_kept 56 = .ok (.idiv, 1) := by decide +kernel
theorem dX5_kept_57 : decode cX5_kept 57 = .ok (.isub, 1) := by decide +kernel
theorem dX5_kept_58 : decode cX5_kept 58 = .ok (.iastore, 1) := by decide +kernel
theorem dX5_kept_59 : decode cX5_kept 59 = .ok (.iload 6, 2) := by decide +kernel
theorem dX5_kept_61 : decode cX5_kept 61 = .ok (.iload_n 1, 1) := by decide +kernel
theorem dX5_kept_62 : decode cX5_kept 62 = .ok (.iconst 3, 1) := by decide +kernel
theorem dX5_kept_63 : decode cX5_kept 63 = .ok (.iadd, 1) := by decide +kernel
theorem dX5_kept_64 : decode cX5_kept 64 = .ok (.if_icmp .le 7, 3) := by decide +kernel
theorem dX5_kept_67 : decode cX5_kept 67 = .ok (.iload 5, 2) := by decide +kernel
theorem dX5_kept_69 : decode cX5_kept 69 = .ok (.istore 4, 2) := by decide +kernel
theorem dX5_kept_71 : decode cX5_kept 71 = .ok (.iinc 5 (-1), 3) := by decide +kernel
theorem dX5_kept_74 : decode cX5_kept 74 = .ok (.goto (-56), 3) := by decide +kernel
theorem dX5_kept_77 : decode cX5_kept 77 = .ok (.iload_n 1, 1) := by decide +kernel
theorem dX5_kept_78 : decode cX5_kept 78 = .ok (.bipush 33, 2) := by decide +kernel
theorem dX5_kept_80 : decode cX5_kept 80 = .ok (.if_icmp .le 6, 3) := by decide +kernel
theorem dX5_kept_83 : decode cX5_kept 83 = .ok (.goto 47, 3) := by decide +kernel
theorem dX5_kept_86 : decode cX5_kept 86 = .ok (.iload 4, 2) := by decide +kernel
theorem dX5_kept_88 : decode cX5_kept 88 = .ok (.ifCond .ne 6, 3) := by decide +kernel
theorem dX5_kept_91 : decode cX5_kept 91 = .ok (.iconst 5, 1) := by decide +kernel
theorem dX5_kept_92 : decode cX5_kept 92 = .ok (.istore 4, 2) := by decide +kernel
theorem dX5_kept_94 : decode cX5_kept 94 = .ok (.aload_n 0, 1) := by decide +kernel
theorem dX5_kept_95 : decode cX5_kept 95 = .ok (.getfield 13, 3) := by decide +kernel
theorem dX5_kept_98 : decode cX5_kept 98 = .ok (.iload 4, 2) := by decide +kernel
theorem dX5_kept_100 : decode cX5_kept 100 = .ok (.dup2, 1) := by decide +kernel
theorem dX5_kept_101 : decode cX5_kept 101 = .ok (.iaload, 1) := by decide +kernel
theorem dX5_kept_102 : decode cX5_kept 102 = .ok (.iconst 0, 1) := by decide +kernel
theorem dX5_kept_103 : decode cX5_kept 103 = .ok (.aload_n 0, 1) := by decide +kernel
theorem dX5_kept_104 : decode cX5_kept 104 = .ok (.getfield 13, 3) := by decide +kernel
theorem dX5_kept_107 : decode cX5_kept 107 = .ok (.iload 4, 2) := by decide +kernel
theorem dX5_kept_109 : decode cX5_kept 109 = .ok (.iaload, 1) := by decide +kernel
theorem dX5_kept_110 : decode cX5_kept 110 = .ok (.iconst 4, 1) := by decide +kernel
theorem dX5_kept_111 : decode cX5_kept 111 = .ok (.idiv, 1) := by decide +kernel
theorem dX5_kept_112 : decode cX5_kept 112 = .ok (.bipush 8, 2) := by decide +kernel
theorem dX5_kept_114 : decode cX5_kept 114 = .ok (.iadd, 1) := by decide +kernel
theorem dX5_kept_115 : decode cX5_kept 115 = .ok (.bipush 100, 2) := by decide +kernel
theorem dX5_kept_117 : decode cX5_kept 117 = .ok (.aload_n 0, 1) := by decide +kernel
theorem dX5_kept_118 : decode cX5_kept 118 = .ok (.invokevirtual 21, 3) := by decide +kernel
theorem dX5_kept_121 : decode cX5_kept 121 = .ok (.isub, 1) := by decide +kernel
theorem dX5_kept_122 : decode cX5_kept 122 = .ok (.invokestatic 25, 3) := by decide +kernel
theorem dX5_kept_125 : decode cX5_kept 125 = .ok (.invokestatic 31, 3) := by decide +kernel
theorem dX5_kept_128 : decode cX5_kept 128 = .ok (.iadd, 1) := by decide +kernel
theorem dX5_kept_129 : decode cX5_kept 129 = .ok (.iastore, 1) := by decide +kernel
theorem dX5_kept_130 : decode cX5_kept 130 = .ok (.iinc 3 1, 3) := by decide +kernel
theorem dX5_kept_133 : decode cX5_kept 133 = .ok (.goto (-126), 3) := by decide +kernel
theorem dX5_kept_136 : decode cX5_kept 136 = .ok (.aload_n 0, 1) := by decide +kernel
theorem dX5_kept_137 : decode cX5_kept 137 = .ok (.areturn, 1) := by decide +kernel
theorem dX6_init_0 : decode cX6_init 0 = .ok (.aload_n 0, 1) := by decide +kernel
theorem dX6_init_1 : decode cX6_init 1 = .ok (.invokespecial 1, 3) := by decide +kernel
theorem dX6_init_4 : decode cX6_init 4 = .ok (.aload_n 0, 1) := by decide +kernel
theorem dX6_init_5 : decode cX6_init 5 = .ok (.iconst 0, 1) := by decide +kernel
theorem dX6_init_6 : decode cX6_init 6 = .ok (.anewarray 7, 3) := by decide +kernel
theorem dX6_init_9 : decode cX6_init 9 = .ok (.putfield 9, 3) := by decide +kernel
theorem dX6_init_12 : decode cX6_init 12 = .ok (.aload_n 0, 1) := by decide +kernel
theorem dX6_init_13 : decode cX6_init 13 = .ok (.iconst 0, 1) := by decide +kernel
theorem dX6_init_14 : decode cX6_init 14 = .ok (.anewarray 15, 3) := by decide +kernel
theorem dX6_init_17 : decode cX6_init 17 = .ok (.putfield 17, 3) := by decide +kernel
theorem dX6_init_20 : decode cX6_init 20 = .ok (.aload_n 0, 1) := by decide +kernel
theorem dX6_init_21 : decode cX6_init 21 = .ok (.iconst 0, 1) := by decide +kernel
theorem dX6_init_22 : decode cX6_init 22 = .ok (.anewarray 15, 3) := by decide +kernel
theorem dX6_init_25 : decode cX6_init 25 = .ok (.putfield 21, 3) := by decide +kernel
theorem dX6_init_28 : decode cX6_init 28 = .ok (.return_, 1) := by decide +kernel
theorem dX6_with_0 : decode cX6_with 0 = .ok (.aload_n 0, 1) := by decide +kernel
theorem dX6_with_1 : decode cX6_with 1 = .ok (.arraylength, 1) := by decide +kernel
theorem dX6_with_2 : decode cX6_with 2 = .ok (.iconst 1, 1) := by decide +kernel
theorem dX6_with_3 : decode cX6_with 3 = .ok (.iadd, 1) := by decide +kernel
theorem dX6_with_4 : decode cX6_with 4 = .ok (.anewarray 15, 3) := by decide +kernel
theorem dX6_with_7 : decode cX6_with 7 = .ok (.astore_n 2, 1) := by decide +kernel
theorem dX6_with_8 : decode cX6_with 8 = .ok (.iconst 0, 1) := by decide +kernel
theorem dX6_with_9 : decode cX6_with 9 = .ok (.istore_n 3, 1) := by decide +kernel
theorem dX6_with_10 : decode cX6_with 10 = .ok (.iload_n 3, 1) := by decide +kernel
theorem dX6_with_11 : decode cX6_with 11 = .ok (.aload_n 0, 1) := by decide +kernel
theorem dX6_with_12 : decode cX6_with 12 = .ok (.arraylength, 1) := by decide +kernel
theorem dX6_with_13 : decode cX6_with 13 = .ok (.if_icmp .ge 15, 3) := by decide +kernel
theorem dX6_with_16 : decode cX6_with 16 = .ok (.aload_n 2, 1) := by decide +kernel
theorem dX6_with_17 : decode cX6_with 17 = .ok (.iload_n 3, 1) := by decide +kernel
theorem dX6_with_18 : decode cX6_with 18 = .ok (.aload_n 0, 1) := by decide +kernel
theorem dX6_with_19 : decode cX6_with 19 = .ok (.iload_n 3, 1) := by decide +kernel
theorem dX6_with_20 : decode cX6_with 20 = .ok (.aaload, 1) := by decide +kernel
theorem dX6_with_21 : decode cX6_with 21 = .ok (.aastore, 1) := by decide +kernel
theorem dX6_with_22 : decode cX6_with 22 = .ok (.iinc 3 1, 3) := by decide +kernel
theorem dX6_with_25 : decode cX6_with 25 = .ok (.goto (-15), 3) := by decide +kernel
theorem dX6_with_28 : decode cX6_with 28 = .ok (.aload_n 2, 1) := by decide +kernel
theorem dX6_with_29 : decode cX6_with 29 = .ok (.aload_n 0, 1) := by decide +kernel
theorem dX6_with_30 : decode cX6_with 30 = .ok (.arraylength, 1) := by decide +kernel
theorem dX6_with_31 : decode cX6_with 31 = .ok (.aload_n 1, 1) := by decide +kernel
theorem dX6_with_32 : decode cX6_with 32 = .ok (.aastore, 1) := by decide +kernel
theorem dX6_with_33 : decode cX6_with 33 = .ok (.aload_n 2, 1) := by decide +kernel
theorem dX6_with_34 : decode cX6_with 34 = .ok (.areturn, 1) := by decide +kernel
theorem dX6_without_0 : decode cX6_without 0 = .ok (.aload_n 0, 1) := by decide +kernel
theorem dX6_without_1 : decode cX6_without 1 = .ok (.arraylength, 1) := by decide +kernel
theorem dX6_without_2 : decode cX6_without 2 = .ok (.iconst 1, 1) := by decide +kernel
theorem dX6_without_3 : decode cX6_without 3 = .ok (.isub, 1) := by decide +kernel
theorem dX6_without_4 : decode cX6_without 4 = .ok (.anewarray 15, 3) := by decide +kernel
theorem dX6_without_7 : decode cX6_without 7 = .ok (.astore_n 2, 1) := by decide +kernel
theorem dX6_without_8 : decode cX6_without 8 = .ok (.iconst 0, 1) := by decide +kernel
theorem dX6_without_9 : decode cX6_without 9 = .ok (.istore_n 3, 1) := by decide +kernel
theorem dX6_without_10 : decode cX6_without 10 = .ok (.iload_n 3, 1) := by decide +kernel
theorem dX6_without_11 : decode cX6_without 11 = .ok (.aload_n 2, 1) := by decide +kernel
theorem dX6_without_12 : decode cX6_without 12 = .ok (.arraylength, 1) := by decide +kernel
theorem dX6_without_13 : decode cX6_without 13 = .ok (.if_icmp .ge 26, 3) := by decide +kernel
theorem dX6_without_16 : decode cX6_without 16 = .ok (.aload_n 2, 1) := by decide +kernel
theorem dX6_without_17 : decode cX6_without 17 = .ok (.iload_n 3, 1) := by decide +kernel
theorem dX6_without_18 : decode cX6_without 18 = .ok (.aload_n 0, 1) := by decide +kernel
theorem dX6_without_19 : decode cX6_without 19 = .ok (.iload_n 3, 1) := by decide +kernel
theorem dX6_without_20 : decode cX6_without 20 = .ok (.iload_n 1, 1) := by decide +kernel
theorem dX6_without_21 : decode cX6_without 21 = .ok (.if_icmp .ge 7, 3) := by decide +kernel
theorem dX6_without_24 : decode cX6_without 24 = .ok (.iload_n 3, 1) := by decide +kernel
theorem dX6_without_25 : decode cX6_without 25 = .ok (.goto 6, 3) := by decide +kernel
theorem dX6_without_28 : decode cX6_without 28 = .ok (.iload_n 3, 1) := by decide +kernel
theorem dX6_without_29 : decode cX6_without 29 = .ok (.iconst 1, 1) := by decide +kernel
theorem dX6_without_30 : decode cX6_without 30 = .ok (.iadd, 1) := by decide +kernel
theorem dX6_without_31 : decode cX6_without 31 = .ok (.aaload, 1) := by decide +kernel
theorem dX6_without_32 : decode cX6_without 32 = .ok (.aastore, 1) := by decide +kernel
theorem dX6_without_33 : decode cX6_without 33 = .ok (.iinc 3 1, 3) := by decide +kernel
theorem dX6_without_36 : decode cX6_without 36 = .ok (.goto (-26), 3) := by decide +kernel
theorem dX6_without_39 : decode cX6_without 39 = .ok (.aload_n 2, 1) := by decide +kernel
theorem dX6_without_40 : decode cX6_without 40 = .ok (.areturn, 1) := by decide +kernel
theorem dX6_fits_0 : decode cX6_fits 0 = .ok (.aload_n 1, 1) := by decide +kernel
theorem dX6_fits_1 : decode cX6_fits 1 = .ok (.iconst 2, 1) := by decide +kernel
theorem dX6_fits_2 : decode cX6_fits 2 = .ok (.iaload, 1) := by decide +kernel
theorem dX6_fits_3 : decode cX6_fits 3 = .ok (.ifCond .ne 37, 3) := by decide +kernel
theorem dX6_fits_6 : decode cX6_fits 6 = .ok (.aload_n 0, 1) := by decide +kernel
theorem dX6_fits_7 : decode cX6_fits 7 = .ok (.iconst 0, 1) := by decide +kernel
theorem dX6_fits_8 : decode cX6_fits 8 = .ok (.iaload, 1) := by decide +kernel
theorem dX6_fits_9 : decode cX6_fits 9 = .ok (.aload_n 0, 1) := by decide +kernel
theorem dX6_fits_10 : decode cX6_fits 10 = .ok (.iconst 1, 1) := by decide +kernel
theorem dX6_fits_11 : decode cX6_fits 11 = .ok (.iaload, 1) := by decide +kernel
theorem dX6_fits_12 : decode cX6_fits 12 = .ok (.imul, 1) := by decide +kernel
theorem dX6_fits_13 : decode cX6_fits 13 = .ok (.aload_n 1, 1) := by decide +kernel
theorem dX6_fits_14 : decode cX6_fits 14 = .ok (.iconst 0, 1) := by decide +kernel
theorem dX6_fits_15 : decode cX6_fits 15 = .ok (.iaload, 1) := by decide +kernel
theorem dX6_fits_16 : decode cX6_fits 16 = .ok (.if_icmp .ne 24, 3) := by decide +kernel
theorem dX6_fits_19 : decode cX6_fits 19 = .ok (.aload_n 0, 1) := by decide +kernel
theorem dX6_fits_20 : decode cX6_fits 20 = .ok (.iconst 2, 1) := by decide +kernel
theorem dX6_fits_21 : decode cX6_fits 21 = .ok (.iaload, 1) := by decide +kernel
theorem dX6_fits_22 : decode cX6_fits 22 = .ok (.aload_n 1, 1) := by decide +kernel
theorem dX6_fits_23 : decode cX6_fits 23 = .ok (.iconst 1, 1) := by decide +kernel
theorem dX6_fits_24 : decode cX6_fits 24 = .ok (.iaload, 1) := by decide +kernel
theorem dX6_fits_25 : decode cX6_fits 25 = .ok (.if_icmp .lt 15, 3) := by decide +kernel
theorem dX6_fits_28 : decode cX6_fits 28 = .ok (.aload_n 0, 1) := by decide +kernel
theorem dX6_fits_29 : decode cX6_fits 29 = .ok (.iconst 3, 1) := by decide +kernel
theorem dX6_fits_30 : decode cX6_fits 30 = .ok (.iaload, 1) := by decide +kernel
theorem dX6_fits_31 : decode cX6_fits 31 = .ok (.bipush 21, 2) := by decide +kernel
theorem dX6_fits_33 : decode cX6_fits 33 = .ok (.if_icmp .ge 7, 3) := by decide +kernel
theorem dX6_fits_36 : decode cX6_fits 36 = .ok (.iconst 1, 1) := by decide +kernel
theorem dX6_fits_37 : decode cX6_fits 37 = .ok (.goto 4, 3) := by decide +kernel
theorem dX6_fits_40 : decode cX6_fits 40 = .ok (.iconst 0, 1) := by decide +kernel
theorem dX6_fits_41 : decode cX6_fits 41 = .ok (.ireturn, 1) := by decide +kernel
theorem dX6_fill_0 : decode cX6_fill 0 = .ok (.iconst 0, 1) := by decide +kernel
theorem dX6_fill_1 : decode cX6_fill 1 = .ok (.istore_n 1, 1) := by decide +kernel
theorem dX6_fill_2 : decode cX6_fill 2 = .ok (.aload_n 0, 1) := by decide +kernel
theorem dX6_fill_3 : decode cX6_fill 3 = .ok (.getfield 21, 3) := by decide +kernel
theorem dX6_fill_6 : decode cX6_fill 6 = .ok (.astore_n 2, 1) := by decide +kernel
theorem dX6_fill_7 : decode cX6_fill 7 = .ok (.aload_n 2, 1) := by decide +kernel
theorem dX6_fill_8 : decode cX6_fill 8 = .ok (.arraylength, 1) := by decide +kernel
theorem dX6_fill_9 : decode cX6_fill 9 = .ok (.istore_n 3, 1) := by decide +kernel
theorem dX6_fill_10 : decode cX6_fill 10 = .ok (.iconst 0, 1) := by decide +kernel
theorem dX6_fill_11 : decode cX6_fill 11 = .ok (.istore 4, 2) := by decide +kernel
theorem dX6_fill_13 : decode cX6_fill 13 = .ok (.iload 4, 2) := by decide +kernel
theorem dX6_fill_15 : decode cX6_fill 15 = .ok (.iload_n 3, 1) := by decide +kernel
theorem dX6_fill_16 : decode cX6_fill 16 = .ok (.if_icmp .ge 102, 3) := by decide +kernel
theorem dX6_fill_19 : decode cX6_fill 19 = .ok (.aload_n 2, 1) := by decide +kernel
theorem dX6_fill_20 : decode cX6_fill 20 = .ok (.iload 4, 2) := by decide +kernel
theorem dX6_fill_22 : decode cX6_fill 22 = .ok (.aaload, 1) := by decide +kernel
theorem dX6_fill_23 : decode cX6_fill 23 = .ok (.astore 5, 2) := by decide +kernel
theorem dX6_fill_25 : decode cX6_fill 25 = .ok (.iconst 0, 1) := by decide +kernel
theorem dX6_fill_26 : decode cX6_fill 26 = .ok (.istore 6, 2) := by decide +kernel
theorem dX6_fill_28 : decode cX6_fill 28 = .ok (.iload 6, 2) := by decide +kernel
theorem dX6_fill_30 : decode cX6_fill 30 = .ok (.aload_n 0, 1) := by decide +kernel
theorem dX6_fill_31 : decode cX6_fill 31 = .ok (.getfield 17, 3) := by decide +kernel
theorem dX6_fill_34 : decode cX6_fill 34 = .ok (.arraylength, 1) := by decide +kernel
theorem dX6_fill_35 : decode cX6_fill 35 = .ok (.if_icmp .ge 77, 3) := by decide +kernel
theorem dX6_fill_38 : decode cX6_fill 38 = .ok (.aload_n 0, 1) := by decide +kernel
theorem dX6_fill_39 : decode cX6_fill 39 = .ok (.getfield 17, 3) := by decide +kernel
theorem dX6_fill_42 : decode cX6_fill 42 = .ok (.iload 6, 2) := by decide +kernel
theorem dX6_fill_44 : decode cX6_fill 44 = .ok (.aaload, 1) := by decide +kernel
theorem dX6_fill_45 : decode cX6_fill 45 = .ok (.aload 5, 2) := by decide +kernel
theorem dX6_fill_47 : decode cX6_fill 47 = .ok (.invokestatic 24, 3) := by decide +kernel
theorem dX6_fill_50 : decode cX6_fill 50 = .ok (.ifCond .ne 6, 3) := by decide +kernel
theorem dX6_fill_53 : decode cX6_fill 53 = .ok (.goto 53, 3) := by decide +kernel
theorem dX6_fill_56 : decode cX6_fill 56 = .ok (.aload 5, 2) := by decide +kernel
theorem dX6_fill_58 : decode cX6_fill 58 = .ok (.iconst 2, 1) := by decide +kernel
theorem dX6_fill_59 : decode cX6_fill 59 = .ok (.iconst 1, 1) := by decide +kernel
theorem dX6_fill_60 : decode cX6_fill 60 = .ok (.iastore, 1) := by decide +kernel
theorem dX6_fill_61 : decode cX6_fill 61 = .ok (.aload 5, 2) := by decide +kernel
theorem dX6_fill_63 : decode cX6_fill 63 = .ok (.iconst 3, 1) := by decide +kernel
theorem dX6_fill_64 : decode cX6_fill 64 = .ok (.aload_n 0, 1) := by decide +kernel
theorem dX6_fill_65 : decode cX6_fill 65 = .ok (.getfield 17, 3) := by decide +kernel
theorem dX6_fill_68 : decode cX6_fill 68 = .ok (.iload 6, 2) := by decide +kernel
theorem dX6_fill_70 : decode cX6_fill 70 = .ok (.aaload, 1) := by decide +kernel
theorem dX6_fill_71 : decode cX6_fill 71 = .ok (.iconst 2, 1) := by decide +kernel
theorem dX6_fill_72 : decode cX6_fill 72 = .ok (.iaload, 1) := by decide +kernel
theorem dX6_fill_73 : decode cX6_fill 73 = .ok (.iastore, 1) := by decide +kernel
theorem dX6_fill_74 : decode cX6_fill 74 = .ok (.aload 5, 2) := by decide +kernel
theorem dX6_fill_76 : decode cX6_fill 76 = .ok (.iconst 4, 1) := by decide +kernel
theorem dX6_fill_77 : decode cX6_fill 77 = .ok (.aload_n 0, 1) := by decide +kernel
theorem dX6_fill_78 : decode cX6_fill 78 = .ok (.getfield 17, 3) := by decide +kernel
theorem dX6_fill_81 : decode cX6_fill 81 = .ok (.iload 6, 2) := by decide +kernel
theorem dX6_fill_83 : decode cX6_fill 83 = .ok (.aaload, 1) := by decide +kernel
theorem dX6_fill_84 : decode cX6_fill 84 = .ok (.iconst 3, 1) := by decide +kernel
theorem dX6_fill_85 : decode cX6_fill 85 = .ok (.iaload, 1) := by decide +kernel
theorem dX6_fill_86 : decode cX6_fill 86 = .ok (.iastore, 1) := by decide +kernel
theorem dX6_fill_87 : decode cX6_fill 87 = .ok (.aload_n 0, 1) := by decide +kernel
theorem dX6_fill_88 : decode cX6_fill 88 = .ok (.aload_n 0, 1) := by decide +kernel
theorem dX6_fill_89 : decode cX6_fill 89 = .ok (.getfield 17, 3) := by decide +kernel
theorem dX6_fill_92 : decode cX6_fill 92 = .ok (.iload 6, 2) := by decide +kernel
theorem dX6_fill_94 : decode cX6_fill 94 = .ok (.invokestatic 28, 3) := by decide +kernel
theorem dX6_fill_97 : decode cX6_fill 97 = .ok (.putfield 17, 3) := by decide +kernel
theorem dX6_fill_100 : decode cX6_fill 100 = .ok (.iinc 1 1, 3) := by decide +kernel
theorem dX6_fill_103 : decode cX6_fill 103 = .ok (.goto 9, 3) := by decide +kernel
theorem dX6_fill_106 : decode cX6_fill 106 = .ok (.iinc 6 1, 3) := by decide +kernel
theorem dX6_fill_109 : decode cX6_fill 109 = .ok (.goto (-81), 3) := by decide +kernel
theorem dX6_fill_112 : decode cX6_fill 112 = .ok (.iinc 4 1, 3) := by decide +kernel
theorem dX6_fill_115 : decode cX6_fill 115 = .ok (.goto (-102), 3) := by decide +kernel
theorem dX6_fill_118 : decode cX6_fill 118 = .ok (.iload_n 1, 1) := by decide +kernel
theorem dX6_fill_119 : decode cX6_fill 119 = .ok (.ireturn, 1) := by decide +kernel
theorem dX6_pass_0 : decode cX6_pass 0 = .ok (.aload_n 0, 1) := by decide +kernel
theorem dX6_pass_1 : decode cX6_pass 1 = .ok (.getfield 17, 3) := by decide +kernel
theorem dX6_pass_4 : decode cX6_pass 4 = .ok (.astore_n 2, 1) := by decide +kernel
theorem dX6_pass_5 : decode cX6_pass 5 = .ok (.aload_n 2, 1) := by decide +kernel
theorem dX6_pass_6 : decode cX6_pass 6 = .ok (.arraylength, 1) := by decide +kernel
theorem dX6_pass_7 : decode cX6_pass 7 = .ok (.istore_n 3, 1) := by decide +kernel
theorem dX6_pass_8 : decode cX6_pass 8 = .ok (.iconst 0, 1) := by decide +kernel
theorem dX6_pass_9 : decode cX6_pass 9 = .ok (.istore 4, 2) := by decide +kernel
theorem dX6_pass_11 : decode cX6_pass 11 = .ok (.iload 4, 2) := by decide +kernel
theorem dX6_pass_13 : decode cX6_pass 13 = .ok (.iload_n 3, 1) := by decide +kernel
theorem dX6_pass_14 : decode cX6_pass 14 = .ok (.if_icmp .ge 80, 3) := by decide +kernel
theorem dX6_pass_17 : decode cX6_pass 17 = .ok (.aload_n 2, 1) := by decide +kernel
theorem dX6_pass_18 : decode cX6_pass 18 = .ok (.iload 4, 2) := by decide +kernel
theorem dX6_pass_20 : decode cX6_pass 20 = .ok (.aaload, 1) := by decide +kernel
theorem dX6_pass_21 : decode cX6_pass 21 = .ok (.astore 5, 2) := by decide +kernel
theorem dX6_pass_23 : decode cX6_pass 23 = .ok (.bipush 100, 2) := by decide +kernel
theorem dX6_pass_25 : decode cX6_pass 25 = .ok (.aload 5, 2) := by decide +kernel
theorem dX6_pass_27 : decode cX6_pass 27 = .ok (.iconst 2, 1) := by decide +kernel
theorem dX6_pass_28 : decode cX6_pass 28 = .ok (.iaload, 1) := by decide +kernel
theorem dX6_pass_29 : decode cX6_pass 29 = .ok (.isub, 1) := by decide +kernel
theorem dX6_pass_30 : decode cX6_pass 30 = .ok (.bipush 10, 2) := by decide +kernel
theorem dX6_pass_32 : decode cX6_pass 32 = .ok (.idiv, 1) := by decide +kernel
theorem dX6_pass_33 : decode cX6_pass 33 = .ok (.iload_n 1, 1) := by decide +kernel
theorem dX6_pass_34 : decode cX6_pass 34 = .ok (.bipush 24, 2) := by decide +kernel
theorem dX6_pass_36 : decode cX6_pass 36 = .ok (.if_icmp .le 10, 3) := by decide +kernel
theorem dX6_pass_39 : decode cX6_pass 39 = .ok (.iload_n 1, 1) := by decide +kernel
theorem dX6_pass_40 : decode cX6_pass 40 = .ok (.bipush 24, 2) := by decide +kernel
theorem dX6_pass_42 : decode cX6_pass 42 = .ok (.isub, 1) := by decide +kernel
theorem dX6_pass_43 : decode cX6_pass 43 = .ok (.goto 4, 3) := by decide +kernel
theorem dX6_pass_46 : decode cX6_pass 46 = .ok (.iconst 0, 1) := by decide +kernel
theorem dX6_pass_47 : decode cX6_pass 47 = .ok (.iconst 2, 1) := by decide +kernel
theorem dX6_pass_48 : decode cX6_pass 48 = .ok (.imul, 1) := by decide +kernel
theorem dX6_pass_49 : decode cX6_pass 49 = .ok (.iadd, 1) := by decide +kernel
theorem dX6_pass_50 : decode cX6_pass 50 = .ok (.istore 6, 2) := by decide +kernel
theorem dX6_pass_52 : decode cX6_pass 52 = .ok (.aload 5, 2) := by decide +kernel
theorem dX6_pass_54 : decode cX6_pass 54 = .ok (.iconst 3, 1) := by decide +kernel
theorem dX6_pass_55 : decode cX6_pass 55 = .ok (.aload 5, 2) := by decide +kernel
theorem dX6_pass_57 : decode cX6_pass 57 = .ok (.iconst 3, 1) := by decide +kernel
theorem dX6_pass_58 : decode cX6_pass 58 = .ok (.iaload, 1) := by decide +kernel
theorem dX6_pass_59 : decode cX6_pass 59 = .ok (.iload 6, 2) := by decide +kernel
theorem dX6_pass_61 : decode cX6_pass 61 = .ok (.iadd, 1) := by decide +kernel
theorem dX6_pass_62 : decode cX6_pass 62 = .ok (.bipush 100, 2) := by decide +kernel
theorem dX6_pass_64 : decode cX6_pass 64 = .ok (.if_icmp .le 8, 3) := by decide +kernel
theorem dX6_pass_67 : decode cX6_pass 67 = .ok (.bipush 100, 2) := by decide +kernel
theorem dX6_pass_69 : decode cX6_pass 69 = .ok (.goto 10, 3) := by decide +kernel
theorem dX6_pass_72 : decode cX6_pass 72 = .ok (.aload 5, 2) := by decide +kernel
theorem dX6_pass_74 : decode cX6_pass 74 = .ok (.iconst 3, 1) := by decide +kernel
theorem dX6_pass_75 : decode cX6_pass 75 = .ok (.iaload, 1) := by decide +kernel
theorem dX6_pass_76 : decode cX6_pass 76 = .ok (.iload 6, 2) := by decide +kernel
theorem dX6_pass_78 : decode cX6_pass 78 = .ok (.iadd, 1) := by decide +kernel
theorem dX6_pass_79 : decode cX6_pass 79 = .ok (.iastore, 1) := by decide +kernel
theorem dX6_pass_80 : decode cX6_pass 80 = .ok (.aload 5, 2) := by decide +kernel
theorem dX6_pass_82 : decode cX6_pass 82 = .ok (.iconst 4, 1) := by decide +kernel
theorem dX6_pass_83 : decode cX6_pass 83 = .ok (.dup2, 1) := by decide +kernel
theorem dX6_pass_84 : decode cX6_pass 84 = .ok (.iaload, 1) := by decide +kernel
theorem dX6_pass_85 : decode cX6_pass 85 = .ok (.iconst 1, 1) := by decide +kernel
theorem dX6_pass_86 : decode cX6_pass 86 = .ok (.iadd, 1) := by decide +kernel
theorem dX6_pass_87 : decode cX6_pass 87 = .ok (.iastore, 1) := by decide +kernel
theorem dX6_pass_88 : decode cX6_pass 88 = .ok (.iinc 4 1, 3) := by decide +kernel
theorem dX6_pass_91 : decode cX6_pass 91 = .ok (.goto (-80), 3) := by decide +kernel
theorem dX6_pass_94 : decode cX6_pass 94 = .ok (.aload_n 0, 1) := by decide +kernel
theorem dX6_pass_95 : decode cX6_pass 95 = .ok (.dup, 1) := by decide +kernel
theorem dX6_pass_96 : decode cX6_pass 96 = .ok (.getfield 33, 3) := by decide +kernel
theorem dX6_pass_99 : decode cX6_pass 99 = .ok (.iconst 1, 1) := by decide +kernel
theorem dX6_pass_100 : decode cX6_pass 100 = .ok (.iadd, 1) := by decide +kernel
theorem dX6_pass_101 : decode cX6_pass 101 = .ok (.putfield 33, 3) := by decide +kernel
theorem dX6_pass_104 : decode cX6_pass 104 = .ok (.return_, 1) := by decide +kernel
theorem dX6_bloomed_0 : decode cX6_bloomed 0 = .ok (.iconst 0, 1) := by decide +kernel
theorem dX6_bloomed_1 : decode cX6_bloomed 1 = .ok (.istore_n 1, 1) := by decide +kernel
theorem dX6_bloomed_2 : decode cX6_bloomed 2 = .ok (.aload_n 0, 1) := by decide +kernel
theorem dX6_bloomed_3 : decode cX6_bloomed 3 = .ok (.getfield 17, 3) := by decide +kernel
theorem dX6_bloomed_6 : decode cX6_bloomed 6 = .ok (.astore_n 2, 1) := by decide +kernel
theorem dX6_bloomed_7 : decode cX6_bloomed 7 = .ok (.aload_n 2, 1) := by decide +kernel
theorem dX6_bloomed_8 : decode cX6_bloomed 8 = .ok (.arraylength, 1) := by decide +kernel
theorem dX6_bloomed_9 : decode cX6_bloomed 9 = .ok (.istore_n 3, 1) := by decide +kernel
theorem dX6_bloomed_10 : decode cX6_bloomed 10 = .ok (.iconst 0, 1) := by decide +kernel
theorem dX6_bloomed_11 : decode cX6_bloomed 11 = .ok (.istore 4, 2) := by decide +kernel
theorem dX6_bloomed_13 : decode cX6_bloomed 13 = .ok (.iload 4, 2) := by decide +kernel
theorem dX6_bloomed_15 : decode cX6_bloomed 15 = .ok (.iload_n 3, 1) := by decide +kernel
theorem dX6_bloomed_16 : decode cX6_bloomed 16 = .ok (.if_icmp .ge 32, 3) := by decide +kernel
theorem dX6_bloomed_19 : decode cX6_bloomed 19 = .ok (.aload_n 2, 1) := by decide +kernel
theorem dX6_bloomed_20 : decode cX6_bloomed 20 = .ok (.iload 4, 2) := by decide +kernel
theorem dX6_bloomed_22 : decode cX6_bloomed 22 = .ok (.aaload, 1) := by decide +kernel
theorem dX6_bloomed_23 : decode cX6_bloomed 23 = .ok (.astore 5, 2) := by decide +kernel
theorem dX6_bloomed_25 : decode cX6_bloomed 25 = .ok (.iload_n 1, 1) := by decide +kernel
theorem dX6_bloomed_26 : decode cX6_bloomed 26 = .ok (.aload 5, 2) := by decide +kernel
theorem dX6_bloomed_28 : decode cX6_bloomed 28 = .ok (.iconst 3, 1) := by decide +kernel
theorem dX6_bloomed_29 : decode cX6_bloomed 29 = .ok (.iaload, 1) := by decide +kernel
theorem dX6_bloomed_30 : decode cX6_bloomed 30 = .ok (.bipush 20, 2) := by decide +kernel
theorem dX6_bloomed_32 : decode cX6_bloomed 32 = .ok (.if_icmp .le 7, 3) := by decide +kernel
theorem dX6_bloomed_35 : decode cX6_bloomed 35 = .ok (.iconst 1, 1) := by decide +kernel
theorem dX6_bloomed_36 : decode cX6_bloomed 36 = .ok (.goto 4, 3) := by decide +kernel
theorem dX6_bloomed_39 : decode cX6_bloomed 39 = .ok (.iconst 0, 1) := by decide +kernel
theorem dX6_bloomed_40 : decode cX6_bloomed 40 = .ok (.iadd, 1) := by decide +kernel
theorem dX6_bloomed_41 : decode cX6_bloomed 41 = .ok (.istore_n 1, 1) := by decide +kernel
theorem dX6_bloomed_42 : decode cX6_bloomed 42 = .ok (.iinc 4 1, 3) := by decide +kernel
theorem dX6_bloomed_45 : decode cX6_bloomed 45 = .ok (.goto (-32), 3) := by decide +kernel
theorem dX6_bloomed_48 : decode cX6_bloomed 48 = .ok (.iload_n 1, 1) := by decide +kernel
theorem dX6_bloomed_49 : decode cX6_bloomed 49 = .ok (.ireturn, 1) := by decide +kernel
theorem dX6_isSame_0 : decode cX6_isSame 0 = .ok (.bipush 8, 2) := by decide +kernel
theorem dX6_isSame_2 : decode cX6_isSame 2 = .ok (.newarray .int, 2) := by decide +kernel
theorem dX6_isSame_4 : decode cX6_isSame 4 = .ok (.dup, 1) := by decide +kernel
theorem dX6_isSame_5 : decode cX6_isSame 5 = .ok (.iconst 0, 1) := by decide +kernel
theorem dX6_isSame_6 : decode cX6_isSame 6 = .ok (.aload_n 0, 1) := by decide +kernel
theorem dX6_isSame_7 : decode cX6_isSame 7 = .ok (.getfield 33, 3) := by decide +kernel
theorem dX6_isSame_10 : decode cX6_isSame 10 = .ok (.iastore, 1) := by decide +kernel
theorem dX6_isSame_11 : decode cX6_isSame 11 = .ok (.dup, 1) := by decide +kernel
theorem dX6_isSame_12 : decode cX6_isSame 12 = .ok (.iconst 1, 1) := by decide +kernel
theorem dX6_isSame_13 : decode cX6_isSame 13 = .ok (.aload_n 0, 1) := by decide +kernel
theorem dX6_isSame_14 : decode cX6_isSame 14 = .ok (.getfield 9, 3) := by decide +kernel
theorem dX6_isSame_17 : decode cX6_isSame 17 = .ok (.arraylength, 1) := by decide +kernel
theorem dX6_isSame_18 : decode cX6_isSame 18 = .ok (.iastore, 1) := by decide +kernel
theorem dX6_isSame_19 : decode cX6_isSame 19 = .ok (.dup, 1) := by decide +kernel
theorem dX6_isSame_20 : decode cX6_isSame 20 = .ok (.iconst 2, 1) := by decide +kernel
theorem dX6_isSame_21 : decode cX6_isSame 21 = .ok (.aload_n 0, 1) := by decide +kernel
theorem dX6_isSame_22 : decode cX6_isSame 22 = .ok (.getfield 17, 3) := by decide +kernel
theorem dX6_isSame_25 : decode cX6_isSame 25 = .ok (.arraylength, 1) := by decide +kernel
theorem dX6_isSame_26 : decode cX6_isSame 26 = .ok (.iastore, 1) := by decide +kernel
theorem dX6_isSame_27 : decode cX6_isSame 27 = .ok (.dup, 1) := by decide +kernel
theorem dX6_isSame_28 : decode cX6_isSame 28 = .ok (.iconst 3, 1) := by decide +kernel
theorem dX6_isSame_29 : decode cX6_isSame 29 = .ok (.aload_n 0, 1) := by decide +kernel
theorem dX6_isSame_30 : decode cX6_isSame 30 = .ok (.getfield 21, 3) := by decide +kernel
theorem dX6_isSame_33 : decode cX6_isSame 33 = .ok (.arraylength, 1) := by decide +kernel
theorem dX6_isSame_34 : decode cX6_isSame 34 = .ok (.iastore, 1) := by decide +kernel
theorem dX6_isSame_35 : decode cX6_isSame 35 = .ok (.dup, 1) := by decide +kernel
theorem dX6_isSame_36 : decode cX6_isSame 36 = .ok (.iconst 4, 1) := by decide +kernel
theorem dX6_isSame_37 : decode cX6_isSame 37 = .ok (.iconst 0, 1) := by decide +kernel
theorem dX6_isSame_38 : decode cX6_isSame 38 = .ok (.iastore, 1) := by decide +kernel
theorem dX6_isSame_39 : decode cX6_isSame 39 = .ok (.dup, 1) := by decide +kernel
theorem dX6_isSame_40 : decode cX6_isSame 40 = .ok (.iconst 5, 1) := by decide +kernel
theorem dX6_isSame_41 : decode cX6_isSame 41 = .ok (.iconst 0, 1) := by decide +kernel
theorem dX6_isSame_42 : decode cX6_isSame 42 = .ok (.iastore, 1) := by decide +kernel
theorem dX6_isSame_43 : decode cX6_isSame 43 = .ok (.dup, 1) := by decide +kernel
theorem dX6_isSame_44 : decode cX6_isSame 44 = .ok (.bipush 6, 2) := by decide +kernel
theorem dX6_isSame_46 : decode cX6_isSame 46 = .ok (.iconst 0, 1) := by decide +kernel
theorem dX6_isSame_47 : decode cX6_isSame 47 = .ok (.iastore, 1) := by decide +kernel
theorem dX6_isSame_48 : decode cX6_isSame 48 = .ok (.dup, 1) := by decide +kernel
theorem dX6_isSame_49 : decode cX6_isSame 49 = .ok (.bipush 7, 2) := by decide +kernel
theorem dX6_isSame_51 : decode cX6_isSame 51 = .ok (.aload_n 0, 1) := by decide +kernel
theorem dX6_isSame_52 : decode cX6_isSame 52 = .ok (.invokevirtual 49, 3) := by decide +kernel
theorem dX6_isSame_55 : decode cX6_isSame 55 = .ok (.iastore, 1) := by decide +kernel
theorem dX6_isSame_56 : decode cX6_isSame 56 = .ok (.astore_n 2, 1) := by decide +kernel
theorem dX6_isSame_57 : decode cX6_isSame 57 = .ok (.iconst 0, 1) := by decide +kernel
theorem dX6_isSame_58 : decode cX6_isSame 58 = .ok (.istore_n 3, 1) := by decide +kernel
theorem dX6_isSame_59 : decode cX6_isSame 59 = .ok (.iconst 0, 1) := by decide +kernel
theorem dX6_isSame_60 : decode cX6_isSame 60 = .ok (.istore 4, 2) := by decide +kernel
theorem dX6_isSame_62 : decode cX6_isSame 62 = .ok (.iload 4, 2) := by decide +kernel
theorem dX6_isSame_64 : decode cX6_isSame 64 = .ok (.aload_n 0, 1) := by decide +kernel
theorem dX6_isSame_65 : decode cX6_isSame 65 = .ok (.getfield 9, 3) := by decide +kernel
theorem dX6_isSame_68 : decode cX6_isSame 68 = .ok (.arraylength, 1) := by decide +kernel
theorem dX6_isSame_69 : decode cX6_isSame 69 = .ok (.if_icmp .ge 145, 3) := by decide +kernel
theorem dX6_isSame_72 : decode cX6_isSame 72 = .ok (.aload_n 0, 1) := by decide +kernel
theorem dX6_isSame_73 : decode cX6_isSame 73 = .ok (.getfield 9, 3) := by decide +kernel
theorem dX6_isSame_76 : decode cX6_isSame 76 = .ok (.iload 4, 2) := by decide +kernel
theorem dX6_isSame_78 : decode cX6_isSame 78 = .ok (.aaload, 1) := by decide +kernel
theorem dX6_isSame_79 : decode cX6_isSame 79 = .ok (.astore 5, 2) := by decide +kernel
theorem dX6_isSame_81 : decode cX6_isSame 81 = .ok (.bipush 8, 2) := by decide +kernel
theorem dX6_isSame_83 : decode cX6_isSame 83 = .ok (.newarray .int, 2) := by decide +kernel
theorem dX6_isSame_85 : decode cX6_isSame 85 = .ok (.dup, 1) := by decide +kernel
theorem dX6_isSame_86 : decode cX6_isSame 86 = .ok (.iconst 0, 1) := by decide +kernel
theorem dX6_isSame_87 : decode cX6_isSame 87 = .ok (.aload 5, 2) := by decide +kernel
theorem dX6_isSame_89 : decode cX6_isSame 89 = .ok (.getfield 53, 3) := by decide +kernel
theorem dX6_isSame_92 : decode cX6_isSame 92 = .ok (.iastore, 1) := by decide +kernel
theorem dX6_isSame_93 : decode cX6_isSame 93 = .ok (.dup, 1) := by decide +kernel
theorem dX6_isSame_94 : decode cX6_isSame 94 = .ok (.iconst 1, 1) := by decide +kernel
theorem dX6_isSame_95 : decode cX6_isSame 95 = .ok (.aload 5, 2) := by decide +kernel
theorem dX6_isSame_97 : decode cX6_isSame 97 = .ok (.getfield 56, 3) := by decide +kernel
theorem dX6_isSame_100 : decode cX6_isSame 100 = .ok (.iconst 1, 1) := by decide +kernel
theorem dX6_isSame_101 : decode cX6_isSame 101 = .ok (.iaload, 1) := by decide +kernel
theorem dX6_isSame_102 : decode cX6_isSame 102 = .ok (.iastore, 1) := by decide +kernel
theorem dX6_isSame_103 : decode cX6_isSame 103 = .ok (.dup, 1) := by decide +kernel
theorem dX6_isSame_104 : decode cX6_isSame 104 = .ok (.iconst 2, 1) := by decide +kernel
theorem dX6_isSame_105 : decode cX6_isSame 105 = .ok (.aload 5, 2) := by decide +kernel
theorem dX6_isSame_107 : decode cX6_isSame 107 = .ok (.getfield 56, 3) := by decide +kernel
theorem dX6_isSame_110 : decode cX6_isSame 110 = .ok (.iconst 2, 1) := by decide +kernel
theorem dX6_isSame_111 : decode cX6_isSame 111 = .ok (.iaload, 1) := by decide +kernel
theorem dX6_isSame_112 : decode cX6_isSame 112 = .ok (.iastore, 1) := by decide +kernel
theorem dX6_isSame_113 : decode cX6_isSame 113 = .ok (.dup, 1) := by decide +kernel
theorem dX6_isSame_114 : decode cX6_isSame 114 = .ok (.iconst 3, 1) := by decide +kernel
theorem dX6_isSame_115 : decode cX6_isSame 115 = .ok (.aload 5, 2) := by decide +kernel
theorem dX6_isSame_117 : decode cX6_isSame 117 = .ok (.getfield 56, 3) := by decide +kernel
theorem dX6_isSame_120 : decode cX6_isSame 120 = .ok (.iconst 3, 1) := by decide +kernel
theorem dX6_isSame_121 : decode cX6_isSame 121 = .ok (.iaload, 1) := by decide +kernel
theorem dX6_isSame_122 : decode cX6_isSame 122 = .ok (.iastore, 1) := by decide +kernel
theorem dX6_isSame_123 : decode cX6_isSame 123 = .ok (.dup, 1) := by decide +kernel
theorem dX6_isSame_124 : decode cX6_isSame 124 = .ok (.iconst 4, 1) := by decide +kernel
theorem dX6_isSame_125 : decode cX6_isSame 125 = .ok (.aload 5, 2) := by decide +kernel
theorem dX6_isSame_127 : decode cX6_isSame 127 = .ok (.getfield 56, 3) := by decide +kernel
theorem dX6_isSame_130 : decode cX6_isSame 130 = .ok (.iconst 4, 1) := by decide +kernel
theorem dX6_isSame_131 : decode cX6_isSame 131 = .ok (.iaload, 1) := by decide +kernel
theorem dX6_isSame_132 : decode cX6_isSame 132 = .ok (.iastore, 1) := by decide +kernel
theorem dX6_isSame_133 : decode cX6_isSame 133 = .ok (.dup, 1) := by decide +kernel
theorem dX6_isSame_134 : decode cX6_isSame 134 = .ok (.iconst 5, 1) := by decide +kernel
theorem dX6_isSame_135 : decode cX6_isSame 135 = .ok (.aload 5, 2) := by decide +kernel
theorem dX6_isSame_137 : decode cX6_isSame 137 = .ok (.getfield 56, 3) := by decide +kernel
theorem dX6_isSame_140 : decode cX6_isSame 140 = .ok (.iconst 5, 1) := by decide +kernel
theorem dX6_isSame_141 : decode cX6_isSame 141 = .ok (.iaload, 1) := by decide +kernel
theorem dX6_isSame_142 : decode cX6_isSame 142 = .ok (.iastore, 1) := by decide +kernel
theorem dX6_isSame_143 : decode cX6_isSame 143 = .ok (.dup, 1) := by decide +kernel
theorem dX6_isSame_144 : decode cX6_isSame 144 = .ok (.bipush 6, 2) := by decide +kernel
theorem dX6_isSame_146 : decode cX6_isSame 146 = .ok (.aload 5, 2) := by decide +kernel
theorem dX6_isSame_148 : decode cX6_isSame 148 = .ok (.getfield 59, 3) := by decide +kernel
theorem dX6_isSame_151 : decode cX6_isSame 151 = .ok (.iastore, 1) := by decide +kernel
theorem dX6_isSame_152 : decode cX6_isSame 152 = .ok (.dup, 1) := by decide +kernel
theorem dX6_isSame_153 : decode cX6_isSame 153 = .ok (.bipush 7, 2) := by decide +kernel
theorem dX6_isSame_155 : decode cX6_isSame 155 = .ok (.aload 5, 2) := by decide +kernel
theorem dX6_isSame_157 : decode cX6_isSame 157 = .ok (.invokevirtual 62, 3) := by decide +kernel
theorem dX6_isSame_160 : decode cX6_isSame 160 = .ok (.iastore, 1) := by decide +kernel
theorem dX6_isSame_161 : decode cX6_isSame 161 = .ok (.astore 6, 2) := by decide +kernel
theorem dX6_isSame_163 : decode cX6_isSame 163 = .ok (.iconst 0, 1) := by decide +kernel
theorem dX6_isSame_164 : decode cX6_isSame 164 = .ok (.istore 7, 2) := by decide +kernel
theorem dX6_isSame_166 : decode cX6_isSame 166 = .ok (.iload 7, 2) := by decide +kernel
theorem dX6_isSame_168 : decode cX6_isSame 168 = .ok (.bipush 8, 2) := by decide +kernel
theorem dX6_isSame_170 : decode cX6_isSame 170 = .ok (.if_icmp .ge 27, 3) := by decide +kernel
theorem dX6_isSame_173 : decode cX6_isSame 173 = .ok (.aload_n 1, 1) := by decide +kernel
theorem dX6_isSame_174 : decode cX6_isSame 174 = .ok (.iload 4, 2) := by decide +kernel
theorem dX6_isSame_176 : decode cX6_isSame 176 = .ok (.iload 7, 2) := by decide +kernel
theorem dX6_isSame_178 : decode cX6_isSame 178 = .ok (.invokevirtual 65, 3) := by decide +kernel
theorem dX6_isSame_181 : decode cX6_isSame 181 = .ok (.aload 6, 2) := by decide +kernel
theorem dX6_isSame_183 : decode cX6_isSame 183 = .ok (.iload 7, 2) := by decide +kernel
theorem dX6_isSame_185 : decode cX6_isSame 185 = .ok (.iaload, 1) := by decide +kernel
theorem dX6_isSame_186 : decode cX6_isSame 186 = .ok (.if_icmp .eq 5, 3) := by decide +kernel
theorem dX6_isSame_189 : decode cX6_isSame 189 = .ok (.iconst 0, 1) := by decide +kernel
theorem dX6_isSame_190 : decode cX6_isSame 190 = .ok (.ireturn, 1) := by decide +kernel
theorem dX6_isSame_191 : decode cX6_isSame 191 = .ok (.iinc 7 1, 3) := by decide +kernel
theorem dX6_isSame_194 : decode cX6_isSame 194 = .ok (.goto (-28), 3) := by decide +kernel
theorem dX6_isSame_197 : decode cX6_isSame 197 = .ok (.aload_n 2, 1) := by decide +kernel
theorem dX6_isSame_198 : decode cX6_isSame 198 = .ok (.iconst 5, 1) := by decide +kernel
theorem dX6_isSame_199 : decode cX6_isSame 199 = .ok (.dup2, 1) := by decide +kernel
theorem dX6_isSame_200 : decode cX6_isSame 200 = .ok (.iaload, 1) := by decide +kernel
theorem dX6_isSame_201 : decode cX6_isSame 201 = .ok (.aload 5, 2) := by decide +kernel
theorem dX6_isSame_203 : decode cX6_isSame 203 = .ok (.getfield 53, 3) := by decide +kernel
theorem dX6_isSame_206 : decode cX6_isSame 206 = .ok (.iadd, 1) := by decide +kernel
theorem dX6_isSame_207 : decode cX6_isSame 207 = .ok (.iastore, 1) := by decide +kernel
theorem dX6_isSame_208 : decode cX6_isSame 208 = .ok (.iinc 4 1, 3) := by decide +kernel
theorem dX6_isSame_211 : decode cX6_isSame 211 = .ok (.goto (-149), 3) := by decide +kernel
theorem dX6_isSame_214 : decode cX6_isSame 214 = .ok (.iconst 0, 1) := by decide +kernel
theorem dX6_isSame_215 : decode cX6_isSame 215 = .ok (.istore 4, 2) := by decide +kernel
theorem dX6_isSame_217 : decode cX6_isSame 217 = .ok (.iload 4, 2) := by decide +kernel
theorem dX6_isSame_219 : decode cX6_isSame 219 = .ok (.aload_n 0, 1) := by decide +kernel
theorem dX6_isSame_220 : decode cX6_isSame 220 = .ok (.getfield 17, 3) := by decide +kernel
theorem dX6_isSame_223 : decode cX6_isSame 223 = .ok (.arraylength, 1) := by decide +kernel
theorem dX6_isSame_224 : decode cX6_isSame 224 = .ok (.if_icmp .ge 150, 3) := by decide +kernel
theorem dX6_isSame_227 : decode cX6_isSame 227 = .ok (.aload_n 0, 1) := by decide +kernel
theorem dX6_isSame_228 : decode cX6_isSame 228 = .ok (.getfield 17, 3) := by decide +kernel
theorem dX6_isSame_231 : decode cX6_isSame 231 = .ok (.iload 4, 2) := by decide +kernel
theorem dX6_isSame_233 : decode cX6_isSame 233 = .ok (.aaload, 1) := by decide +kernel
theorem dX6_isSame_234 : decode cX6_isSame 234 = .ok (.astore 5, 2) := by decide +kernel
theorem dX6_isSame_236 : decode cX6_isSame 236 = .ok (.iconst (-1), 1) := by decide +kernel
theorem dX6_isSame_237 : decode cX6_isSame 237 = .ok (.istore 6, 2) := by decide +kernel
theorem dX6_isSame_239 : decode cX6_isSame 239 = .ok (.aload_n 0, 1) := by decide +kernel
theorem dX6_isSame_240 : decode cX6_isSame 240 = .ok (.getfield 21, 3) := by decide +kernel
theorem dX6_isSame_243 : decode cX6_isSame 243 = .ok (.arraylength, 1) := by decide +kernel
theorem dX6_isSame_244 : decode cX6_isSame 244 = .ok (.iconst 1, 1) := by decide +kernel
theorem dX6_isSame_245 : decode cX6_isSame 245 = .ok (.isub, 1) := by decide +kernel
theorem dX6_isSame_246 : decode cX6_isSame 246 = .ok (.istore 7, 2) := by decide +kernel
theorem dX6_isSame_248 : decode cX6_isSame 248 = .ok (.iload 7, 2) := by decide +kernel
theorem dX6_isSame_250 : decode cX6_isSame 250 = .ok (.ifCond .lt 28, 3) := by decide +kernel
theorem dX6_isSame_253 : decode cX6_isSame 253 = .ok (.aload 5, 2) := by decide +kernel
theorem dX6_isSame_255 : decode cX6_isSame 255 = .ok (.aload_n 0, 1) := by decide +kernel
theorem dX6_isSame_256 : decode cX6_isSame 256 = .ok (.getfield 21, 3) := by decide +kernel
theorem dX6_isSame_259 : decode cX6_isSame 259 = .ok (.iload 7, 2) := by decide +kernel
theorem dX6_isSame_261 : decode cX6_isSame 261 = .ok (.aaload, 1) := by decide +kernel
theorem dX6_isSame_262 : decode cX6_isSame 262 = .ok (.invokestatic 24, 3) := by decide +kernel
theorem dX6_isSame_265 : decode cX6_isSame 265 = .ok (.ifCond .eq 7, 3) := by decide +kernel
theorem dX6_isSame_268 : decode cX6_isSame 268 = .ok (.iload 7, 2) := by decide +kernel
theorem dX6_isSame_270 : decode cX6_isSame 270 = .ok (.istore 6, 2) := by decide +kernel
theorem dX6_isSame_272 : decode cX6_isSame 272 = .ok (.iinc 7 (-1), 3) := by decide +kernel
theorem dX6_isSame_275 : decode cX6_isSame 275 = .ok (.goto (-27), 3) := by decide +kernel
theorem dX6_isSame_278 : decode cX6_isSame 278 = .ok (.iconst 0, 1) := by decide +kernel
theorem dX6_isSame_279 : decode cX6_isSame 279 = .ok (.istore 7, 2) := by decide +kernel
theorem dX6_isSame_281 : decode cX6_isSame 281 = .ok (.iload 7, 2) := by decide +kernel
theorem dX6_isSame_283 : decode cX6_isSame 283 = .ok (.iconst 5, 1) := by decide +kernel
theorem dX6_isSame_284 : decode cX6_isSame 284 = .ok (.if_icmp .ge 27, 3) := by decide +kernel
theorem dX6_isSame_287 : decode cX6_isSame 287 = .ok (.aload_n 1, 1) := by decide +kernel
theorem dX6_isSame_288 : decode cX6_isSame 288 = .ok (.iload 4, 2) := by decide +kernel
theorem dX6_isSame_290 : decode cX6_isSame 290 = .ok (.iload 7, 2) := by decide +kernel
theorem dX6_isSame_292 : decode cX6_isSame 292 = .ok (.invokevirtual 71, 3) := by decide +kernel
theorem dX6_isSame_295 : decode cX6_isSame 295 = .ok (.aload 5, 2) := by decide +kernel
theorem dX6_isSame_297 : decode cX6_isSame 297 = .ok (.iload 7, 2) := by decide +kernel
theorem dX6_isSame_299 : decode cX6_isSame 299 = .ok (.iaload, 1) := by decide +kernel
theorem dX6_isSame_300 : decode cX6_isSame 300 = .ok (.if_icmp .eq 5, 3) := by decide +kernel
theorem dX6_isSame_303 : decode cX6_isSame 303 = .ok (.iconst 0, 1) := by decide +kernel
theorem dX6_isSame_304 : decode cX6_isSame 304 = .ok (.ireturn, 1) := by decide +kernel
theorem dX6_isSame_305 : decode cX6_isSame 305 = .ok (.iinc 7 1, 3) := by decide +kernel
theorem dX6_isSame_308 : decode cX6_isSame 308 = .ok (.goto (-27), 3) := by decide +kernel
theorem dX6_isSame_311 : decode cX6_isSame 311 = .ok (.aload_n 1, 1) := by decide +kernel
theorem dX6_isSame_312 : decode cX6_isSame 312 = .ok (.iload 4, 2) := by decide +kernel
theorem dX6_isSame_314 : decode cX6_isSame 314 = .ok (.iconst 5, 1) := by decide +kernel
theorem dX6_isSame_315 : decode cX6_isSame 315 = .ok (.invokevirtual 71, 3) := by decide +kernel
theorem dX6_isSame_318 : decode cX6_isSame 318 = .ok (.aload 5, 2) := by decide +kernel
theorem dX6_isSame_320 : decode cX6_isSame 320 = .ok (.iconst 0, 1) := by decide +kernel
theorem dX6_isSame_321 : decode cX6_isSame 321 = .ok (.iaload, 1) := by decide +kernel
theorem dX6_isSame_322 : decode cX6_isSame 322 = .ok (.aload 5, 2) := by decide +kernel
theorem dX6_isSame_324 : decode cX6_isSame 324 = .ok (.iconst 1, 1) := by decide +kernel
theorem dX6_isSame_325 : decode cX6_isSame 325 = .ok (.iaload, 1) := by decide +kernel
theorem dX6_isSame_326 : decode cX6_isSame 326 = .ok (.imul, 1) := by decide +kernel
theorem dX6_isSame_327 : decode cX6_isSame 327 = .ok (.if_icmp .ne 16, 3) := by decide +kernel
theorem dX6_isSame_330 : decode cX6_isSame 330 = .ok (.aload_n 1, 1) := by decide +kernel
theorem dX6_isSame_331 : decode cX6_isSame 331 = .ok (.iload 4, 2) := by decide +kernel
theorem dX6_isSame_333 : decode cX6_isSame 333 = .ok (.bipush 6, 2) := by decide +kernel
theorem dX6_isSame_335 : decode cX6_isSame 335 = .ok (.invokevirtual 71, 3) := by decide +kernel
theorem dX6_isSame_338 : decode cX6_isSame 338 = .ok (.iload 6, 2) := by decide +kernel
theorem dX6_isSame_340 : decode cX6_isSame 340 = .ok (.if_icmp .eq 5, 3) := by decide +kernel
theorem dX6_isSame_343 : decode cX6_isSame 343 = .ok (.iconst 0, 1) := by decide +kernel
theorem dX6_isSame_344 : decode cX6_isSame 344 = .ok (.ireturn, 1) := by decide +kernel
theorem dX6_isSame_345 : decode cX6_isSame 345 = .ok (.aload_n 2, 1) := by decide +kernel
theorem dX6_isSame_346 : decode cX6_isSame 346 = .ok (.bipush 6, 2) := by decide +kernel
theorem dX6_isSame_348 : decode cX6_isSame 348 = .ok (.dup2, 1) := by decide +kernel
theorem dX6_isSame_349 : decode cX6_isSame 349 = .ok (.iaload, 1) := by decide +kernel
theorem dX6_isSame_350 : decode cX6_isSame 350 = .ok (.aload 5, 2) := by decide +kernel
theorem dX6_isSame_352 : decode cX6_isSame 352 = .ok (.iconst 0, 1) := by decide +kernel
theorem dX6_isSame_353 : decode cX6_isSame 353 = .ok (.iaload, 1) := by decide +kernel
theorem dX6_isSame_354 : decode cX6_isSame 354 = .ok (.aload 5, 2) := by decide +kernel
theorem dX6_isSame_356 : decode cX6_isSame 356 = .ok (.iconst 1, 1) := by decide +kernel
theorem dX6_isSame_357 : decode cX6_isSame 357 = .ok (.iaload, 1) := by decide +kernel
theorem dX6_isSame_358 : decode cX6_isSame 358 = .ok (.imul, 1) := by decide +kernel
theorem dX6_isSame_359 : decode cX6_isSame 359 = .ok (.iadd, 1) := by decide +kernel
theorem dX6_isSame_360 : decode cX6_isSame 360 = .ok (.iastore, 1) := by decide +kernel
theorem dX6_isSame_361 : decode cX6_isSame 361 = .ok (.iload_n 3, 1) := by decide +kernel
theorem dX6_isSame_362 : decode cX6_isSame 362 = .ok (.aload 5, 2) := by decide +kernel
theorem dX6_isSame_364 : decode cX6_isSame 364 = .ok (.iconst 3, 1) := by decide +kernel
theorem dX6_isSame_365 : decode cX6_isSame 365 = .ok (.iaload, 1) := by decide +kernel
theorem dX6_isSame_366 : decode cX6_isSame 366 = .ok (.iadd, 1) := by decide +kernel
theorem dX6_isSame_367 : decode cX6_isSame 367 = .ok (.istore_n 3, 1) := by decide +kernel
theorem dX6_isSame_368 : decode cX6_isSame 368 = .ok (.iinc 4 1, 3) := by decide +kernel
theorem dX6_isSame_371 : decode cX6_isSame 371 = .ok (.goto (-154), 3) := by decide +kernel
theorem dX6_isSame_374 : decode cX6_isSame 374 = .ok (.iconst 0, 1) := by decide +kernel
theorem dX6_isSame_375 : decode cX6_isSame 375 = .ok (.istore 4, 2) := by decide +kernel
theorem dX6_isSame_377 : decode cX6_isSame 377 = .ok (.iload 4, 2) := by decide +kernel
theorem dX6_isSame_379 : decode cX6_isSame 379 = .ok (.aload_n 0, 1) := by decide +kernel
theorem dX6_isSame_380 : decode cX6_isSame 380 = .ok (.getfield 21, 3) := by decide +kernel
theorem dX6_isSame_383 : decode cX6_isSame 383 = .ok (.arraylength, 1) := by decide +kernel
theorem dX6_isSame_384 : decode cX6_isSame 384 = .ok (.if_icmp .ge 62, 3) := by decide +kernel
theorem dX6_isSame_387 : decode cX6_isSame 387 = .ok (.iconst 0, 1) := by decide +kernel
theorem dX6_isSame_388 : decode cX6_isSame 388 = .ok (.istore 5, 2) := by decide +kernel
theorem dX6_isSame_390 : decode cX6_isSame 390 = .ok (.iload 5, 2) := by decide +kernel
theorem dX6_isSame_392 : decode cX6_isSame 392 = .ok (.iconst 5, 1) := by decide +kernel
theorem dX6_isSame_393 : decode cX6_isSame 393 = .ok (.if_icmp .ge 32, 3) := by decide +kernel
theorem dX6_isSame_396 : decode cX6_isSame 396 = .ok (.aload_n 1, 1) := by decide +kernel
theorem dX6_isSame_397 : decode cX6_isSame 397 = .ok (.iload 4, 2) := by decide +kernel
theorem dX6_isSame_399 : decode cX6_isSame 399 = .ok (.iload 5, 2) := by decide +kernel
theorem dX6_isSame_401 : decode cX6_isSame 401 = .ok (.invokevirtual 74, 3) := by decide +kernel
theorem dX6_isSame_404 : decode cX6_isSame 404 = .ok (.aload_n 0, 1) := by decide +kernel
theorem dX6_isSame_405 : decode cX6_isSame 405 = .ok (.getfield 21, 3) := by decide +kernel
theorem dX6_isSame_408 : decode cX6_isSame 408 = .ok (.iload 4, 2) := by decide +kernel
theorem dX6_isSame_410 : decode cX6_isSame 410 = .ok (.aaload, 1) := by decide +kernel
theorem dX6_isSame_411 : decode cX6_isSame 411 = .ok (.iload 5, 2) := by decide +kernel
theorem dX6_isSame_413 : decode cX6_isSame 413 = .ok (.iaload, 1) := by decide +kernel
theorem dX6_isSame_414 : decode cX6_isSame 414 = .ok (.if_icmp .eq 5, 3) := by decide +kernel
theorem dX6_isSame_417 : decode cX6_isSame 417 = .ok (.iconst 0, 1) := by decide +kernel
theorem dX6_isSame_418 : decode cX6_isSame 418 = .ok (.ireturn, 1) := by decide +kernel
theorem dX6_isSame_419 : decode cX6_isSame 419 = .ok (.iinc 5 1, 3) := by decide +kernel
theorem dX6_isSame_422 : decode cX6_isSame 422 = .ok (.goto (-32), 3) := by decide +kernel
theorem dX6_isSame_425 : decode cX6_isSame 425 = .ok (.aload_n 2, 1) := by decide +kernel
theorem dX6_isSame_426 : decode cX6_isSame 426 = .ok (.iconst 4, 1) := by decide +kernel
theorem dX6_isSame_427 : decode cX6_isSame 427 = .ok (.dup2, 1) := by decide +kernel
theorem dX6_isSame_428 : decode cX6_isSame 428 = .ok (.iaload, 1) := by decide +kernel
theorem dX6_isSame_429 : decode cX6_isSame 429 = .ok (.aload_n 0, 1) := by decide +kernel
theorem dX6_isSame_430 : decode cX6_isSame 430 = .ok (.getfield 21, 3) := by decide +kernel
theorem dX6_isSame_433 : decode cX6_isSame 433 = .ok (.iload 4, 2) := by decide +kernel
theorem dX6_isSame_435 : decode cX6_isSame 435 = .ok (.aaload, 1) := by decide +kernel
theorem dX6_isSame_436 : decode cX6_isSame 436 = .ok (.iconst 2, 1) := by decide +kernel
theorem dX6_isSame_437 : decode cX6_isSame 437 = .ok (.iaload, 1) := by decide +kernel
theorem dX6_isSame_438 : decode cX6_isSame 438 = .ok (.iadd, 1) := by decide +kernel
theorem dX6_isSame_439 : decode cX6_isSame 439 = .ok (.iastore, 1) := by decide +kernel
theorem dX6_isSame_440 : decode cX6_isSame 440 = .ok (.iinc 4 1, 3) := by decide +kernel
theorem dX6_isSame_443 : decode cX6_isSame 443 = .ok (.goto (-66), 3) := by decide +kernel
theorem dX6_isSame_446 : decode cX6_isSame 446 = .ok (.iconst 0, 1) := by decide +kernel
theorem dX6_isSame_447 : decode cX6_isSame 447 = .ok (.istore 4, 2) := by decide +kernel
theorem dX6_isSame_449 : decode cX6_isSame 449 = .ok (.iload 4, 2) := by decide +kernel
theorem dX6_isSame_451 : decode cX6_isSame 451 = .ok (.bipush 8, 2) := by decide +kernel
theorem dX6_isSame_453 : decode cX6_isSame 453 = .ok (.if_icmp .ge 24, 3) := by decide +kernel
theorem dX6_isSame_456 : decode cX6_isSame 456 = .ok (.aload_n 1, 1) := by decide +kernel
theorem dX6_isSame_457 : decode cX6_isSame 457 = .ok (.iload 4, 2) := by decide +kernel
theorem dX6_isSame_459 : decode cX6_isSame 459 = .ok (.invokevirtual 77, 3) := by decide +kernel
theorem dX6_isSame_462 : decode cX6_isSame 462 = .ok (.aload_n 2, 1) := by decide +kernel
theorem dX6_isSame_463 : decode cX6_isSame 463 = .ok (.iload 4, 2) := by decide +kernel
theorem dX6_isSame_465 : decode cX6_isSame 465 = .ok (.iaload, 1) := by decide +kernel
theorem dX6_isSame_466 : decode cX6_isSame 466 = .ok (.if_icmp .eq 5, 3) := by decide +kernel
theorem dX6_isSame_469 : decode cX6_isSame 469 = .ok (.iconst 0, 1) := by decide +kernel
theorem dX6_isSame_470 : decode cX6_isSame 470 = .ok (.ireturn, 1) := by decide +kernel
theorem dX6_isSame_471 : decode cX6_isSame 471 = .ok (.iinc 4 1, 3) := by decide +kernel
theorem dX6_isSame_474 : decode cX6_isSame 474 = .ok (.goto (-25), 3) := by decide +kernel
theorem dX6_isSame_477 : decode cX6_isSame 477 = .ok (.aload_n 1, 1) := by decide +kernel
theorem dX6_isSame_478 : decode cX6_isSame 478 = .ok (.invokevirtual 81, 3) := by decide +kernel
theorem dX6_isSame_481 : decode cX6_isSame 481 = .ok (.aload_n 0, 1) := by decide +kernel
theorem dX6_isSame_482 : decode cX6_isSame 482 = .ok (.getfield 17, 3) := by decide +kernel
theorem dX6_isSame_485 : decode cX6_isSame 485 = .ok (.arraylength, 1) := by decide +kernel
theorem dX6_isSame_486 : decode cX6_isSame 486 = .ok (.ifCond .ne 7, 3) := by decide +kernel
theorem dX6_isSame_489 : decode cX6_isSame 489 = .ok (.dconst 0, 1) := by decide +kernel
theorem dX6_isSame_490 : decode cX6_isSame 490 = .ok (.goto 12, 3) := by decide +kernel
theorem dX6_isSame_493 : decode cX6_isSame 493 = .ok (.iload_n 3, 1) := by decide +kernel
theorem dX6_isSame_494 : decode cX6_isSame 494 = .ok (.i2d, 1) := by decide +kernel
theorem dX6_isSame_495 : decode cX6_isSame 495 = .ok (.aload_n 0, 1) := by decide +kernel
theorem dX6_isSame_496 : decode cX6_isSame 496 = .ok (.getfield 17, 3) := by decide +kernel
theorem dX6_isSame_499 : decode cX6_isSame 499 = .ok (.arraylength, 1) := by decide +kernel
theorem dX6_isSame_500 : decode cX6_isSame 500 = .ok (.i2d, 1) := by decide +kernel
theorem dX6_isSame_501 : decode cX6_isSame 501 = .ok (.ddiv, 1) := by decide +kernel
theorem dX6_isSame_502 : decode cX6_isSame 502 = .ok (.dcmp .l, 1) := by decide +kernel
theorem dX6_isSame_503 : decode cX6_isSame 503 = .ok (.ifCond .ne 7, 3) := by decide +kernel
theorem dX6_isSame_506 : decode cX6_isSame 506 = .ok (.iconst 1, 1) := by decide +kernel
theorem dX6_isSame_507 : decode cX6_isSame 507 = .ok (.goto 4, 3) := by decide +kernel
theorem dX6_isSame_510 : decode cX6_isSame 510 = .ok (.iconst 0, 1) := by decide +kernel
theorem dX6_isSame_511 : decode cX6_isSame 511 = .ok (.ireturn, 1) := by decide +kernel
theorem dJ9_max_7cf53_0 : decode cJ9_max_7cf53 0 = .ok (.iload_n 0, 1) := by decide +kernel
theorem dJ9_max_7cf53_1 : decode cJ9_max_7cf53 1 = .ok (.iload_n 1, 1) := by decide +kernel
theorem dJ9_max_7cf53_2 : decode cJ9_max_7cf53 2 = .ok (.if_icmp .lt 7, 3) := by decide +kernel
theorem dJ9_max_7cf53_5 : decode cJ9_max_7cf53 5 = .ok (.iload_n 0, 1) := by decide +kernel
theorem dJ9_max_7cf53_6 : decode cJ9_max_7cf53 6 = .ok (.goto 4, 3) := by decide +kernel
theorem dJ9_max_7cf53_9 : decode cJ9_max_7cf53 9 = .ok (.iload_n 1, 1) := by decide +kernel
theorem dJ9_max_7cf53_10 : decode cJ9_max_7cf53 10 = .ok (.ireturn, 1) := by decide +kernel
theorem dJ9_min_7cf53_0 : decode cJ9_min_7cf53 0 = .ok (.iload_n 0, 1) := by decide +kernel
theorem dJ9_min_7cf53_1 : decode cJ9_min_7cf53 1 = .ok (.iload_n 1, 1) := by decide +kernel
theorem dJ9_min_7cf53_2 : decode cJ9_min_7cf53 2 = .ok (.if_icmp .gt 7, 3) := by decide +kernel
theorem dJ9_min_7cf53_5 : decode cJ9_min_7cf53 5 = .ok (.iload_n 0, 1) := by decide +kernel
theorem dJ9_min_7cf53_6 : decode cJ9_min_7cf53 6 = .ok (.goto 4, 3) := by decide +kernel
theorem dJ9_min_7cf53_9 : decode cJ9_min_7cf53 9 = .ok (.iload_n 1, 1) := by decide +kernel
theorem dJ9_min_7cf53_10 : decode cJ9_min_7cf53 10 = .ok (.ireturn, 1) := by decide +kernel
theorem dL_below_0 : decode cL_below 0 = .ok (.iload_n 0, 1) := by decide +kernel
theorem dL_below_1 : decode cL_below 1 = .ok (.ldc 7, 2) := by decide +kernel
theorem dL_below_3 : decode cL_below 3 = .ok (.iand, 1) := by decide +kernel
theorem dL_below_4 : decode cL_below 4 = .ok (.iload_n 1, 1) := by decide +kernel
theorem dL_below_5 : decode cL_below 5 = .ok (.irem, 1) := by decide +kernel
theorem dL_below_6 : decode cL_below 6 = .ok (.ireturn, 1) := by decide +kernel
theorem dL_cell_0 : decode cL_cell 0 = .ok (.iload_n 1, 1) := by decide +kernel
theorem dL_cell_1 : decode cL_cell 1 = .ok (.aload_n 0, 1) := by decide +kernel
theorem dL_cell_2 : decode cL_cell 2 = .ok (.arraylength, 1) := by decide +kernel
theorem dL_cell_3 : decode cL_cell 3 = .ok (.if_icmp .ge 9, 3) := by decide +kernel
theorem dL_cell_6 : decode cL_cell 6 = .ok (.aload_n 0, 1) := by decide +kernel
theorem dL_cell_7 : decode cL_cell 7 = .ok (.iload_n 1, 1) := by decide +kernel
theorem dL_cell_8 : decode cL_cell 8 = .ok (.iaload, 1) := by decide +kernel
theorem dL_cell_9 : decode cL_cell 9 = .ok (.goto 9, 3) := by decide +kernel
theorem dL_cell_12 : decode cL_cell 12 = .ok (.ldc 8, 2) := by decide +kernel
theorem dL_cell_14 : decode cL_cell 14 = .ok (.iload_n 1, 1) := by decide +kernel
theorem dL_cell_15 : decode cL_cell 15 = .ok (.iconst 3, 1) := by decide +kernel
theorem dL_cell_16 : decode cL_cell 16 = .ok (.iadd, 1) := by decide +kernel
theorem dL_cell_17 : decode cL_cell 17 = .ok (.imul, 1) := by decide +kernel
theorem dL_cell_18 : decode cL_cell 18 = .ok (.ireturn, 1) := by decide +kernel
theorem dL_act_0 : decode cL_act 0 = .ok (.aload_n 1, 1) := by decide +kernel
theorem dL_act_1 : decode cL_act 1 = .ok (.getfield 9, 3) := by decide +kernel
theorem dL_act_4 : decode cL_act 4 = .ok (.arraylength, 1) := by decide +kernel
theorem dL_act_5 : decode cL_act 5 = .ok (.istore_n 3, 1) := by decide +kernel
theorem dL_act_6 : decode cL_act 6 = .ok (.aload_n 1, 1) := by decide +kernel
theorem dL_act_7 : decode cL_act 7 = .ok (.getfield 15, 3) := by decide +kernel
theorem dL_act_10 : decode cL_act 10 = .ok (.arraylength, 1) := by decide +kernel
theorem dL_act_11 : decode cL_act 11 = .ok (.istore 4, 2) := by decide +kernel
theorem dL_act_13 : decode cL_act 13 = .ok (.iload_n 3, 1) := by decide +kernel
theorem dL_act_14 : decode cL_act 14 = .ok (.ifCond .ne 7, 3) := by decide +kernel
theorem dL_act_17 : decode cL_act 17 = .ok (.iconst 0, 1) := by decide +kernel
theorem dL_act_18 : decode cL_act 18 = .ok (.goto 10, 3) := by decide +kernel
theorem dL_act_21 : decode cL_act 21 = .ok (.iload_n 2, 1) := by decide +kernel
theorem dL_act_22 : decode cL_act 22 = .ok (.iconst 1, 1) := by decide +kernel
theorem dL_act_23 : decode cL_act 23 = .ok (.ishr, 1) := by decide +kernel
theorem dL_act_24 : decode cL_act 24 = .ok (.iload_n 3, 1) := by decide +kernel
theorem dL_act_25 : decode cL_act 25 = .ok (.invokestatic 19, 3) := by decide +kernel
theorem dL_act_28 : decode cL_act 28 = .ok (.istore 5, 2) := by decide +kernel
theorem dL_act_30 : decode cL_act 30 = .ok (.iload 4, 2) := by decide +kernel
theorem dL_act_32 : decode cL_act 32 = .ok (.ifCond .ne 7, 3) := by decide +kernel
theorem dL_act_35 : decode cL_act 35 = .ok (.iconst 0, 1) := by decide +kernel
theorem dL_act_36 : decode cL_act 36 = .ok (.goto 11, 3) := by decide +kernel
theorem dL_act_39 : decode cL_act 39 = .ok (.iload_n 2, 1) := by decide +kernel
theorem dL_act_40 : decode cL_act 40 = .ok (.iconst 2, 1) := by decide +kernel
theorem dL_act_41 : decode cL_act 41 = .ok (.ishr, 1) := by decide +kernel
theorem dL_act_42 : decode cL_act 42 = .ok (.iload 4, 2) := by decide +kernel
theorem dL_act_44 : decode cL_act 44 = .ok (.invokestatic 19, 3) := by decide +kernel
theorem dL_act_47 : decode cL_act 47 = .ok (.istore 6, 2) := by decide +kernel
theorem dL_act_49 : decode cL_act 49 = .ok (.iload_n 2, 1) := by decide +kernel
theorem dL_act_50 : decode cL_act 50 = .ok (.bipush 9, 2) := by decide +kernel
theorem dL_act_52 : decode cL_act 52 = .ok (.ishr, 1) := by decide +kernel
theorem dL_act_53 : decode cL_act 53 = .ok (.bipush 22, 2) := by decide +kernel
theorem dL_act_55 : decode cL_act 55 = .ok (.invokestatic 19, 3) := by decide +kernel
theorem dL_act_58 : decode cL_act 58 = .ok (.istore 7, 2) := by decide +kernel
theorem dL_act_60 : decode cL_act 60 = .ok (.iload_n 3, 1) := by decide +kernel
theorem dL_act_61 : decode cL_act 61 = .ok (.ifCond .eq 8, 3) := by decide +kernel
theorem dL_act_64 : decode cL_act 64 = .ok (.iload 7, 2) := by decide +kernel
theorem dL_act_66 : decode cL_act 66 = .ok (.ifCond .ne 99, 3) := by decide +kernel
theorem dL_act_69 : decode cL_act 69 = .ok (.iload_n 3, 1) := by decide +kernel
theorem dL_act_70 : decode cL_act 70 = .ok (.iconst 5, 1) := by decide +kernel
theorem dL_act_71 : decode cL_act 71 = .ok (.if_icmp .ne 5, 3) := by decide +kernel
theorem dL_act_74 : decode cL_act 74 = .ok (.iconst 1, 1) := by decide +kernel
theorem dL_act_75 : decode cL_act 75 = .ok (.ireturn, 1) := by decide +kernel
theorem dL_act_76 : decode cL_act 76 = .ok (.iload_n 3, 1) := by decide +kernel
theorem dL_act_77 : decode cL_act 77 = .ok (.iconst 1, 1) := by decide +kernel
theorem dL_act_78 : decode cL_act 78 = .ok (.iadd, 1) := by decide +kernel
theorem dL_act_79 : decode cL_act 79 = .ok (.anewarray 25, 3) := by decide +kernel
theorem dL_act_82 : decode cL_act 82 = .ok (.astore 8, 2) := by decide +kernel
theorem dL_act_84 : decode cL_act 84 = .ok (.iconst 0, 1) := by decide +kernel
theorem dL_act_85 : decode cL_act 85 = .ok (.istore 9, 2) := by decide +kernel
theorem dL_act_87 : decode cL_act 87 = .ok (.iload 9, 2) := by decide +kernel
theorem dL_act_89 : decode cL_act 89 = .ok (.iload_n 3, 1) := by decide +kernel
theorem dL_act_90 : decode cL_act 90 = .ok (.if_icmp .ge 21, 3) := by decide +kernel
theorem dL_act_93 : decode cL_act 93 = .ok (.aload 8, 2) := by decide +kernel
theorem dL_act_95 : decode cL_act 95 = .ok (.iload 9, 2) := by decide +kernel
theorem dL_act_97 : decode cL_act 97 = .ok (.aload_n 1, 1) := by decide +kernel
theorem dL_act_98 : decode cL_act 98 = .ok (.getfield 9, 3) := by decide +kernel
theorem dL_act_101 : decode cL_act 101 = .ok (.iload 9, 2) := by decide +kernel
theorem dL_act_103 : decode cL_act 103 = .ok (.aaload, 1) := by decide +kernel
theorem dL_act_104 : decode cL_act 104 = .ok (.aastore, 1) := by decide +kernel
theorem dL_act_105 : decode cL_act 105 = .ok (.iinc 9 1, 3) := by decide +kernel
theorem dL_act_108 : decode cL_act 108 = .ok (.goto (-21), 3) := by decide +kernel
theorem dL_act_111 : decode cL_act 111 = .ok (.aload 8, 2) := by decide +kernel
theorem dL_act_113 : decode cL_act 113 = .ok (.iload_n 3, 1) := by decide +kernel
theorem dL_act_114 : decode cL_act 114 = .ok (.new 25, 3) := by decide +kernel
theorem dL_act_117 : decode cL_act 117 = .ok (.dup, 1) := by decide +kernel
theorem dL_act_118 : decode cL_act 118 = .ok (.invokespecial 27, 3) := by decide +kernel
theorem dL_act_121 : decode cL_act 121 = .ok (.aastore, 1) := by decide +kernel
theorem dL_act_122 : decode cL_act 122 = .ok (.aload 8, 2) := by decide +kernel
theorem dL_act_124 : decode cL_act 124 = .ok (.iload_n 3, 1) := by decide +kernel
theorem dL_act_125 : decode cL_act 125 = .ok (.aaload, 1) := by decide +kernel
theorem dL_act_126 : decode cL_act 126 = .ok (.iload_n 2, 1) := by decide +kernel
theorem dL_act_127 : decode cL_act 127 = .ok (.iconst 1, 1) := by decide +kernel
theorem dL_act_128 : decode cL_act 128 = .ok (.ishr, 1) := by decide +kernel
theorem dL_act_129 : decode cL_act 129 = .ok (.sipush 2001, 3) := by decide +kernel
theorem dL_act_132 : decode cL_act 132 = .ok (.invokestatic 19, 3) := by decide +kernel
theorem dL_act_135 : decode cL_act 135 = .ok (.putfield 28, 3) := by decide +kernel
theorem dL_act_138 : decode cL_act 138 = .ok (.aload_n 1, 1) := by decide +kernel
theorem dL_act_139 : decode cL_act 139 = .ok (.aload 8, 2) := by decide +kernel
theorem dL_act_141 : decode cL_act 141 = .ok (.putfield 9, 3) := by decide +kernel
theorem dL_act_144 : decode cL_act 144 = .ok (.aload_n 0, 1) := by decide +kernel
theorem dL_act_145 : decode cL_act 145 = .ok (.aload 8, 2) := by decide +kernel
theorem dL_act_147 : decode cL_act 147 = .ok (.iload_n 3, 1) := by decide +kernel
theorem dL_act_148 : decode cL_act 148 = .ok (.aaload, 1) := by decide +kernel
theorem dL_act_149 : decode cL_act 149 = .ok (.getfield 28, 3) := by decide +kernel
theorem dL_act_152 : decode cL_act 152 = .ok (.invokevirtual 32, 3) := by decide +kernel
theorem dL_act_155 : decode cL_act 155 = .ok (.iload_n 3, 1) := by decide +kernel
theorem dL_act_156 : decode cL_act 156 = .ok (.if_icmp .ne 7, 3) := by decide +kernel
theorem dL_act_159 : decode cL_act 159 = .ok (.iconst 1, 1) := by decide +kernel
theorem dL_act_160 : decode cL_act 160 = .ok (.goto 4, 3) := by decide +kernel
theorem dL_act_163 : decode cL_act 163 = .ok (.iconst 0, 1) := by decide +kernel
theorem dL_act_164 : decode cL_act 164 = .ok (.ireturn, 1) := by decide +kernel
theorem dL_act_165 : decode cL_act 165 = .ok (.aload_n 1, 1) := by decide +kernel
theorem dL_act_166 : decode cL_act 166 = .ok (.getfield 9, 3) := by decide +kernel
theorem dL_act_169 : decode cL_act 169 = .ok (.iload 5, 2) := by decide +kernel
theorem dL_act_171 : decode cL_act 171 = .ok (.aaload, 1) := by decide +kernel
theorem dL_act_172 : decode cL_act 172 = .ok (.astore 8, 2) := by decide +kernel
theorem dL_act_174 : decode cL_act 174 = .ok (.iload 7, 2) := by decide +kernel
theorem dL_act_176 : decode cL_act 176 = .ok (.iconst 5, 1) := by decide +kernel
theorem dL_act_177 : decode cL_act 177 = .ok (.if_icmp .ge 92, 3) := by decide +kernel
theorem dL_act_180 : decode cL_act 180 = .ok (.iload 7, 2) := by decide +kernel
theorem dL_act_182 : decode cL_act 182 = .ok (.iconst 1, 1) := by decide +kernel
theorem dL_act_183 : decode cL_act 183 = .ok (.if_icmp .ne 17, 3) := by decide +kernel
theorem dL_act_186 : decode cL_act 186 = .ok (.bipush 15, 2) := by decide +kernel
theorem dL_act_188 : decode cL_act 188 = .ok (.iload_n 2, 1) := by decide +kernel
theorem dL_act_189 : decode cL_act 189 = .ok (.iconst 3, 1) := by decide +kernel
theorem dL_act_190 : decode cL_act 190 = .ok (.ishr, 1) := by decide +kernel
theorem dL_act_191 : decode cL_act 191 = .ok (.bipush 36, 2) := by decide +kernel
theorem dL_act_193 : decode cL_act 193 = .ok (.invokestatic 19, 3) := by decide +kernel
theorem dL_act_196 : decode cL_act 196 = .ok (.iadd, 1) := by decide +kernel
theorem dL_act_197 : decode cL_act 197 = .ok (.goto 14, 3) := by decide +kernel
theorem dL_act_200 : decode cL_act 200 = .ok (.bipush 24, 2) := by decide +kernel
theorem dL_act_202 : decode cL_act 202 = .ok (.iload_n 2, 1) := by decide +kernel
theorem dL_act_203 : decode cL_act 203 = .ok (.iconst 3, 1) := by decide +kernel
theorem dL_act_204 : decode cL_act 204 = .ok (.ishr, 1) := by decide +kernel
theorem dL_act_205 : decode cL_act 205 = .ok (.bipush 11, 2) := by decide +kernel
theorem dL_act_207 : decode cL_act 207 = .ok (.invokestatic 19, 3) := by decide +kernel
theorem dL_act_210 : decode cL_act 210 = .ok (.iadd, 1) := by decide +kernel
theorem dL_act_211 : decode cL_act 211 = .ok (.istore 9, 2) := by decide +kernel
theorem dL_act_213 : decode cL_act 213 = .ok (.iconst 1, 1) := by decide +kernel
theorem dL_act_214 : decode cL_act 214 = .ok (.iload_n 2, 1) := by decide +kernel
theorem dL_act_215 : decode cL_act 215 = .ok (.iconst 5, 1) := by decide +kernel
theorem dL_act_216 : decode cL_act 216 = .ok (.ishr, 1) := by decide +kernel
theorem dL_act_217 : decode cL_act 217 = .ok (.iload_n 2, 1) := by decide +kernel
theorem dL_act_218 : decode cL_act 218 = .ok (.iconst 3, 1) := by decide +kernel
theorem dL_act_219 : decode cL_act 219 = .ok (.invokestatic 19, 3) := by decide +kernel
theorem dL_act_222 : decode cL_act 222 = .ok (.ifCond .ne 8, 3) := by decide +kernel
theorem dL_act_225 : decode cL_act 225 = .ok (.bipush 40, 2) := by decide +kernel
theorem dL_act_227 : decode cL_act 227 = .ok (.goto 5, 3) := by decide +kernel
theorem dL_act_230 : decode cL_act 230 = .ok (.bipush 9, 2) := by decide +kernel
theorem dL_act_232 : decode cL_act 232 = .ok (.invokestatic 19, 3) := by decide +kernel
theorem dL_act_235 : decode cL_act 235 = .ok (.iadd, 1) := by decide +kernel
theorem dL_act_236 : decode cL_act 236 = .ok (.istore 10, 2) := by decide +kernel
theorem dL_act_238 : decode cL_act 238 = .ok (.aload_n 0, 1) := by decide +kernel
theorem dL_act_239 : decode cL_act 239 = .ok (.iload 5, 2) := by decide +kernel
theorem dL_act_241 : decode cL_act 241 = .ok (.iload 9, 2) := by decide +kernel
theorem dL_act_243 : decode cL_act 243 = .ok (.iload 10, 2) := by decide +kernel
theorem dL_act_245 : decode cL_act 245 = .ok (.invokevirtual 38, 3) := by decide +kernel
theorem dL_act_248 : decode cL_act 248 = .ok (.aload 8, 2) := by decide +kernel
theorem dL_act_250 : decode cL_act 250 = .ok (.iload 9, 2) := by decide +kernel
theorem dL_act_252 : decode cL_act 252 = .ok (.iload 10, 2) := by decide +kernel
theorem dL_act_254 : decode cL_act 254 = .ok (.invokevirtual 42, 3) := by decide +kernel
theorem dL_act_257 : decode cL_act 257 = .ok (.invokevirtual 46, 3) := by decide +kernel
theorem dL_act_260 : decode cL_act 260 = .ok (.if_icmp .ne 7, 3) := by decide +kernel
theorem dL_act_263 : decode cL_act 263 = .ok (.iconst 1, 1) := by decide +kernel
theorem dL_act_264 : decode cL_act 264 = .ok (.goto 4, 3) := by decide +kernel
theorem dL_act_267 : decode cL_act 267 = .ok (.iconst 0, 1) := by decide +kernel
theorem dL_act_268 : decode cL_act 268 = .ok (.ireturn, 1) := by decide +kernel
theorem dL_act_269 : decode cL_act 269 = .ok (.iload 7, 2) := by decide +kernel
theorem dL_act_271 : decode cL_act 271 = .ok (.bipush 7, 2) := by decide +kernel
theorem dL_act_273 : decode cL_act 273 = .ok (.if_icmp .ge 62, 3) := by decide +kernel
theorem dL_act_276 : decode cL_act 276 = .ok (.iconst 1, 1) := by decide +kernel
theorem dL_act_277 : decode cL_act 277 = .ok (.iload_n 2, 1) := by decide +kernel
theorem dL_act_278 : decode cL_act 278 = .ok (.iconst 3, 1) := by decide +kernel
theorem dL_act_279 : decode cL_act 279 = .ok (.ishr, 1) := by decide +kernel
theorem dL_act_280 : decode cL_act 280 = .ok (.bipush 30, 2) := by decide +kernel
theorem dL_act_282 : decode cL_act 282 = .ok (.invokestatic 19, 3) := by decide +kernel
theorem dL_act_285 : decode cL_act 285 = .ok (.iadd, 1) := by decide +kernel
theorem dL_act_286 : decode cL_act 286 = .ok (.istore 9, 2) := by decide +kernel
theorem dL_act_288 : decode cL_act 288 = .ok (.aload 8, 2) := by decide +kernel
theorem dL_act_290 : decode cL_act 290 = .ok (.getfield 50, 3) := by decide +kernel
theorem dL_act_293 : decode cL_act 293 = .ok (.iconst 5, 1) := by decide +kernel
theorem dL_act_294 : decode cL_act 294 = .ok (.dup2, 1) := by decide +kernel
theorem dL_act_295 : decode cL_act 295 = .ok (.iaload, 1) := by decide +kernel
theorem dL_act_296 : decode cL_act 296 = .ok (.iload 9, 2) := by decide +kernel
theorem dL_act_298 : decode cL_act 298 = .ok (.bipush 100, 2) := by decide +kernel
theorem dL_act_300 : decode cL_act 300 = .ok (.aload 8, 2) := by decide +kernel
theorem dL_act_302 : decode cL_act 302 = .ok (.invokevirtual 54, 3) := by decide +kernel
theorem dL_act_305 : decode cL_act 305 = .ok (.isub, 1) := by decide +kernel
theorem dL_act_306 : decode cL_act 306 = .ok (.invokestatic 57, 3) := by decide +kernel
theorem dL_act_309 : decode cL_act 309 = .ok (.iadd, 1) := by decide +kernel
theorem dL_act_310 : decode cL_act 310 = .ok (.iastore, 1) := by decide +kernel
theorem dL_act_311 : decode cL_act 311 = .ok (.aload_n 0, 1) := by decide +kernel
theorem dL_act_312 : decode cL_act 312 = .ok (.iload 5, 2) := by decide +kernel
theorem dL_act_314 : decode cL_act 314 = .ok (.iload 9, 2) := by decide +kernel
theorem dL_act_316 : decode cL_act 316 = .ok (.invokevirtual 62, 3) := by decide +kernel
theorem dL_act_319 : decode cL_act 319 = .ok (.aload 8, 2) := by decide +kernel
theorem dL_act_321 : decode cL_act 321 = .ok (.getfield 50, 3) := by decide +kernel
theorem dL_act_324 : decode cL_act 324 = .ok (.iconst 5, 1) := by decide +kernel
theorem dL_act_325 : decode cL_act 325 = .ok (.iaload, 1) := by decide +kernel
theorem dL_act_326 : decode cL_act 326 = .ok (.if_icmp .ne 7, 3) := by decide +kernel
theorem dL_act_329 : decode cL_act 329 = .ok (.iconst 1, 1) := by decide +kernel
theorem dL_act_330 : decode cL_act 330 = .ok (.goto 4, 3) := by decide +kernel
theorem dL_act_333 : decode cL_act 333 = .ok (.iconst 0, 1) := by decide +kernel
theorem dL_act_334 : decode cL_act 334 = .ok (.ireturn, 1) := by decide +kernel
theorem dL_act_335 : decode cL_act 335 = .ok (.iload 7, 2) := by decide +kernel
theorem dL_act_337 : decode cL_act 337 = .ok (.bipush 7, 2) := by decide +kernel
theorem dL_act_339 : decode cL_act 339 = .ok (.if_icmp .ne 200, 3) := by decide +kernel
theorem dL_act_342 : decode cL_act 342 = .ok (.iload_n 2, 1) := by decide +kernel
theorem dL_act_343 : decode cL_act 343 = .ok (.iconst 4, 1) := by decide +kernel
theorem dL_act_344 : decode cL_act 344 = .ok (.ishr, 1) := by decide +kernel
theorem dL_act_345 : decode cL_act 345 = .ok (.iload_n 3, 1) := by decide +kernel
theorem dL_act_346 : decode cL_act 346 = .ok (.invokestatic 19, 3) := by decide +kernel
theorem dL_act_349 : decode cL_act 349 = .ok (.istore 9, 2) := by decide +kernel
theorem dL_act_351 : decode cL_act 351 = .ok (.aload_n 1, 1) := by decide +kernel
theorem dL_act_352 : decode cL_act 352 = .ok (.getfield 9, 3) := by decide +kernel
theorem dL_act_355 : decode cL_act 355 = .ok (.iload 9, 2) := by decide +kernel
theorem dL_act_357 : decode cL_act 357 = .ok (.aaload, 1) := by decide +kernel
theorem dL_act_358 : decode cL_act 358 = .ok (.astore 10, 2) := by decide +kernel
theorem dL_act_360 : decode cL_act 360 = .ok (.aload 8, 2) := by decide +kernel
theorem dL_act_362 : decode cL_act 362 = .ok (.getfield 28, 3) := by decide +kernel
theorem dL_act_365 : decode cL_act 365 = .ok (.aload 10, 2) := by decide +kernel
theorem dL_act_367 : decode cL_act 367 = .ok (.getfield 28, 3) := by decide +kernel
theorem dL_act_370 : decode cL_act 370 = .ok (.iadd, 1) := by decide +kernel
theorem dL_act_371 : decode cL_act 371 = .ok (.istore 11, 2) := by decide +kernel
theorem dL_act_373 : decode cL_act 373 = .ok (.iload 9, 2) := by decide +kernel
theorem dL_act_375 : decode cL_act 375 = .ok (.iload 5, 2) := by decide +kernel
theorem dL_act_377 : decode cL_act 377 = .ok (.if_icmp .eq 16, 3) := by decide +kernel
theorem dL_act_380 : decode cL_act 380 = .ok (.iload 11, 2) := by decide +kernel
theorem dL_act_382 : decode cL_act 382 = .ok (.ifCond .eq 11, 3) := by decide +kernel
theorem dL_act_385 : decode cL_act 385 = .ok (.iload 11, 2) := by decide +kernel
theorem dL_act_387 : decode cL_act 387 = .ok (.sipush 2000, 3) := by decide +kernel
theorem dL_act_390 : decode cL_act 390 = .ok (.if_icmp .le 5, 3) := by decide +kernel
theorem dL_act_393 : decode cL_act 393 = .ok (.iconst 1, 1) := by decide +kernel
theorem dL_act_394 : decode cL_act 394 = .ok (.ireturn, 1) := by decide +kernel
theorem dL_act_395 : decode cL_act 395 = .ok (.iconst 1, 1) := by decide +kernel
theorem dL_act_396 : decode cL_act 396 = .ok (.istore 12, 2) := by decide +kernel
theorem dL_act_398 : decode cL_act 398 = .ok (.iload 12, 2) := by decide +kernel
theorem dL_act_400 : decode cL_act 400 = .ok (.bipush 6, 2) := by decide +kernel
theorem dL_act_402 : decode cL_act 402 = .ok (.if_icmp .ge 49, 3) := by decide +kernel
theorem dL_act_405 : decode cL_act 405 = .ok (.aload 8, 2) := by decide +kernel
theorem dL_act_407 : decode cL_act 407 = .ok (.getfield 50, 3) := by decide +kernel
theorem dL_act_410 : decode cL_act 410 = .ok (.iload 12, 2) := by decide +kernel
theorem dL_act_412 : decode cL_act 412 = .ok (.aload 8, 2) := by decide +kernel
theorem dL_act_414 : decode cL_act 414 = .ok (.getfield 50, 3) := by decide +kernel
theorem dL_act_417 : decode cL_act 417 = .ok (.iload 12, 2) := by decide +kernel
theorem dL_act_419 : decode cL_act 419 = .ok (.iaload, 1) := by decide +kernel
theorem dL_act_420 : decode cL_act 420 = .ok (.aload 8, 2) := by decide +kernel
theorem dL_act_422 : decode cL_act 422 = .ok (.getfield 28, 3) := by decide +kernel
theorem dL_act_425 : decode cL_act 425 = .ok (.imul, 1) := by decide +kernel
theorem dL_act_426 : decode cL_act 426 = .ok (.aload 10, 2) := by decide +kernel
theorem dL_act_428 : decode cL_act 428 = .ok (.getfield 50, 3) := by decide +kernel
theorem dL_act_431 : decode cL_act 431 = .ok (.iload 12, 2) := by decide +kernel
theorem dL_act_433 : decode cL_act 433 = .ok (.iaload, 1) := by decide +kernel
theorem dL_act_434 : decode cL_act 434 = .ok (.aload 10, 2) := by decide +kernel
theorem dL_act_436 : decode cL_act 436 = .ok (.getfield 28, 3) := by decide +kernel
theorem dL_act_439 : decode cL_act 439 = .ok (.imul, 1) := by decide +kernel
theorem dL_act_440 : decode cL_act 440 = .ok (.iadd, 1) := by decide +kernel
theorem dL_act_441 : decode cL_act 441 = .ok (.iload 11, 2) := by decide +kernel
theorem dL_act_443 : decode cL_act 443 = .ok (.idiv, 1) := by decide +kernel
theorem dL_act_444 : decode cL_act 444 = .ok (.iastore, 1) := by decide +kernel
theorem dL_act_445 : decode cL_act 445 = .ok (.iinc 12 1, 3) := by decide +kernel
theorem dL_act_448 : decode cL_act 448 = .ok (.goto (-50), 3) := by decide +kernel
theorem dL_act_451 : decode cL_act 451 = .ok (.aload 8, 2) := by decide +kernel
theorem dL_act_453 : decode cL_act 453 = .ok (.aload 8, 2) := by decide +kernel
theorem dL_act_455 : decode cL_act 455 = .ok (.getfield 65, 3) := by decide +kernel
theorem dL_act_458 : decode cL_act 458 = .ok (.aload 8, 2) := by decide +kernel
theorem dL_act_460 : decode cL_act 460 = .ok (.getfield 28, 3) := by decide +kernel
theorem dL_act_463 : decode cL_act 463 = .ok (.imul, 1) := by decide +kernel
theorem dL_act_464 : decode cL_act 464 = .ok (.aload 10, 2) := by decide +kernel
theorem dL_act_466 : decode cL_act 466 = .ok (.getfield 65, 3) := by decide +kernel
theorem dL_act_469 : decode cL_act 469 = .ok (.aload 10, 2) := by decide +kernel
theorem dL_act_471 : decode cL_act 471 = .ok (.getfield 28, 3) := by decide +kernel
theorem dL_act_474 : decode cL_act 474 = .ok (.imul, 1) := by decide +kernel
theorem dL_act_475 : decode cL_act 475 = .ok (.iadd, 1) := by decide +kernel
theorem dL_act_476 : decode cL_act 476 = .ok (.iload 11, 2) := by decide +kernel
theorem dL_act_478 : decode cL_act 478 = .ok (.idiv, 1) := by decide +kernel
theorem dL_act_479 : decode cL_act 479 = .ok (.putfield 65, 3) := by decide +kernel
theorem dL_act_482 : decode cL_act 482 = .ok (.aload 8, 2) := by decide +kernel
theorem dL_act_484 : decode cL_act 484 = .ok (.iload 11, 2) := by decide +kernel
theorem dL_act_486 : decode cL_act 486 = .ok (.putfield 28, 3) := by decide +kernel
theorem dL_act_489 : decode cL_act 489 = .ok (.aload 10, 2) := by decide +kernel
theorem dL_act_491 : decode cL_act 491 = .ok (.iconst 0, 1) := by decide +kernel
theorem dL_act_492 : decode cL_act 492 = .ok (.putfield 28, 3) := by decide +kernel
theorem dL_act_495 : decode cL_act 495 = .ok (.iconst 1, 1) := by decide +kernel
theorem dL_act_496 : decode cL_act 496 = .ok (.istore 12, 2) := by decide +kernel
theorem dL_act_498 : decode cL_act 498 = .ok (.iload 12, 2) := by decide +kernel
theorem dL_act_500 : decode cL_act 500 = .ok (.bipush 6, 2) := by decide +kernel
theorem dL_act_502 : decode cL_act 502 = .ok (.if_icmp .ge 18, 3) := by decide +kernel
theorem dL_act_505 : decode cL_act 505 = .ok (.aload 10, 2) := by decide +kernel
theorem dL_act_507 : decode cL_act 507 = .ok (.getfield 50, 3) := by decide +kernel
theorem dL_act_510 : decode cL_act 510 = .ok (.iload 12, 2) := by decide +kernel
theorem dL_act_512 : decode cL_act 512 = .ok (.iconst 0, 1) := by decide +kernel
theorem dL_act_513 : decode cL_act 513 = .ok (.iastore, 1) := by decide +kernel
theorem dL_act_514 : decode cL_act 514 = .ok (.iinc 12 1, 3) := by decide +kernel
theorem dL_act_517 : decode cL_act 517 = .ok (.goto (-19), 3) := by decide +kernel
theorem dL_act_520 : decode cL_act 520 = .ok (.aload_n 0, 1) := by decide +kernel
theorem dL_act_521 : decode cL_act 521 = .ok (.iload 9, 2) := by decide +kernel
theorem dL_act_523 : decode cL_act 523 = .ok (.iload 5, 2) := by decide +kernel
theorem dL_act_525 : decode cL_act 525 = .ok (.invokevirtual 68, 3) := by decide +kernel
theorem dL_act_528 : decode cL_act 528 = .ok (.iload 11, 2) := by decide +kernel
theorem dL_act_530 : decode cL_act 530 = .ok (.if_icmp .ne 7, 3) := by decide +kernel
theorem dL_act_533 : decode cL_act 533 = .ok (.iconst 1, 1) := by decide +kernel
theorem dL_act_534 : decode cL_act 534 = .ok (.goto 4, 3) := by decide +kernel
theorem dL_act_537 : decode cL_act 537 = .ok (.iconst 0, 1) := by decide +kernel
theorem dL_act_538 : decode cL_act 538 = .ok (.ireturn, 1) := by decide +kernel
theorem dL_act_539 : decode cL_act 539 = .ok (.iload 7, 2) := by decide +kernel
theorem dL_act_541 : decode cL_act 541 = .ok (.bipush 12, 2) := by decide +kernel
theorem dL_act_543 : decode cL_act 543 = .ok (.if_icmp .ge 132, 3) := by decide +kernel
theorem dL_act_546 : decode cL_act 546 = .ok (.iconst 1, 1) := by decide +kernel
theorem dL_act_547 : decode cL_act 547 = .ok (.iload_n 2, 1) := by decide +kernel
theorem dL_act_548 : decode cL_act 548 = .ok (.iconst 3, 1) := by decide +kernel
theorem dL_act_549 : decode cL_act 549 = .ok (.ishr, 1) := by decide +kernel
theorem dL_act_550 : decode cL_act 550 = .ok (.bipush 6, 2) := by decide +kernel
theorem dL_act_552 : decode cL_act 552 = .ok (.invokestatic 19, 3) := by decide +kernel
theorem dL_act_555 : decode cL_act 555 = .ok (.iadd, 1) := by decide +kernel
theorem dL_act_556 : decode cL_act 556 = .ok (.istore 9, 2) := by decide +kernel
theorem dL_act_558 : decode cL_act 558 = .ok (.iconst 1, 1) := by decide +kernel
theorem dL_act_559 : decode cL_act 559 = .ok (.iload_n 2, 1) := by decide +kernel
theorem dL_act_560 : decode cL_act 560 = .ok (.bipush 6, 2) := by decide +kernel
theorem dL_act_562 : decode cL_act 562 = .ok (.ishr, 1) := by decide +kernel
theorem dL_act_563 : decode cL_act 563 = .ok (.bipush 6, 2) := by decide +kernel
theorem dL_act_565 : decode cL_act 565 = .ok (.invokestatic 19, 3) := by decide +kernel
theorem dL_act_568 : decode cL_act 568 = .ok (.iadd, 1) := by decide +kernel
theorem dL_act_569 : decode cL_act 569 = .ok (.istore 10, 2) := by decide +kernel
theorem dL_act_571 : decode cL_act 571 = .ok (.iload 4, 2) := by decide +kernel
theorem dL_act_573 : decode cL_act 573 = .ok (.bipush 8, 2) := by decide +kernel
theorem dL_act_575 : decode cL_act 575 = .ok (.if_icmp .eq 19, 3) := by decide +kernel
theorem dL_act_578 : decode cL_act 578 = .ok (.aload 8, 2) := by decide +kernel
theorem dL_act_580 : decode cL_act 580 = .ok (.getfield 28, 3) := by decide +kernel
theorem dL_act_583 : decode cL_act 583 = .ok (.bipush 10, 2) := by decide +kernel
theorem dL_act_585 : decode cL_act 585 = .ok (.iload 9, 2) := by decide +kernel
theorem dL_act_587 : decode cL_act 587 = .ok (.imul, 1) := by decide +kernel
theorem dL_act_588 : decode cL_act 588 = .ok (.iload 10, 2) := by decide +kernel
theorem dL_act_590 : decode cL_act 590 = .ok (.imul, 1) := by decide +kernel
theorem dL_act_591 : decode cL_act 591 = .ok (.if_icmp .ge 5, 3) := by decide +kernel
theorem dL_act_594 : decode cL_act 594 = .ok (.iconst 1, 1) := by decide +kernel
theorem dL_act_595 : decode cL_act 595 = .ok (.ireturn, 1) := by decide +kernel
theorem dL_act_596 : decode cL_act 596 = .ok (.aload 8, 2) := by decide +kernel
theorem dL_act_598 : decode cL_act 598 = .ok (.dup, 1) := by decide +kernel
theorem dL_act_599 : decode cL_act 599 = .ok (.getfield 28, 3) := by decide +kernel
theorem dL_act_602 : decode cL_act 602 = .ok (.bipush 10, 2) := by decide +kernel
theorem dL_act_604 : decode cL_act 604 = .ok (.iload 9, 2) := by decide +kernel
theorem dL_act_606 : decode cL_act 606 = .ok (.imul, 1) := by decide +kernel
theorem dL_act_607 : decode cL_act 607 = .ok (.iload 10, 2) := by decide +kernel
theorem dL_act_609 : decode cL_act 609 = .ok (.imul, 1) := by decide +kernel
theorem dL_act_610 : decode cL_act 610 = .ok (.isub, 1) := by decide +kernel
theorem dL_act_611 : decode cL_act 611 = .ok (.putfield 28, 3) := by decide +kernel
theorem dL_act_614 : decode cL_act 614 = .ok (.aload_n 1, 1) := by decide +kernel
theorem dL_act_615 : decode cL_act 615 = .ok (.aload_n 1, 1) := by decide +kernel
theorem dL_act_616 : decode cL_act 616 = .ok (.getfield 15, 3) := by decide +kernel
theorem dL_act_619 : decode cL_act 619 = .ok (.iconst 5, 1) := by decide +kernel
theorem dL_act_620 : decode cL_act 620 = .ok (.newarray .int, 2) := by decide +kernel
theorem dL_act_622 : decode cL_act 622 = .ok (.dup, 1) := by decide +kernel
theorem dL_act_623 : decode cL_act 623 = .ok (.iconst 0, 1) := by decide +kernel
theorem dL_act_624 : decode cL_act 624 = .ok (.iload 9, 2) := by decide +kernel
theorem dL_act_626 : decode cL_act 626 = .ok (.iastore, 1) := by decide +kernel
theorem dL_act_627 : decode cL_act 627 = .ok (.dup, 1) := by decide +kernel
theorem dL_act_628 : decode cL_act 628 = .ok (.iconst 1, 1) := by decide +kernel
theorem dL_act_629 : decode cL_act 629 = .ok (.iload 10, 2) := by decide +kernel
theorem dL_act_631 : decode cL_act 631 = .ok (.iastore, 1) := by decide +kernel
theorem dL_act_632 : decode cL_act 632 = .ok (.dup, 1) := by decide +kernel
theorem dL_act_633 : decode cL_act 633 = .ok (.iconst 2, 1) := by decide +kernel
theorem dL_act_634 : decode cL_act 634 = .ok (.aload 8, 2) := by decide +kernel
theorem dL_act_636 : decode cL_act 636 = .ok (.invokevirtual 46, 3) := by decide +kernel
theorem dL_act_639 : decode cL_act 639 = .ok (.iastore, 1) := by decide +kernel
theorem dL_act_640 : decode cL_act 640 = .ok (.dup, 1) := by decide +kernel
theorem dL_act_641 : decode cL_act 641 = .ok (.iconst 3, 1) := by decide +kernel
theorem dL_act_642 : decode cL_act 642 = .ok (.iconst 0, 1) := by decide +kernel
theorem dL_act_643 : decode cL_act 643 = .ok (.iastore, 1) := by decide +kernel
theorem dL_act_644 : decode cL_act 644 = .ok (.dup, 1) := by decide +kernel
theorem dL_act_645 : decode cL_act 645 = .ok (.iconst 4, 1) := by decide +kernel
theorem dL_act_646 : decode cL_act 646 = .ok (.iconst 0, 1) := by decide +kernel
theorem dL_act_647 : decode cL_act 647 = .ok (.iastore, 1) := by decide +kernel
theorem dL_act_648 : decode cL_act 648 = .ok (.invokestatic 71, 3) := by decide +kernel
theorem dL_act_651 : decode cL_act 651 = .ok (.putfield 15, 3) := by decide +kernel
theorem dL_act_654 : decode cL_act 654 = .ok (.aload_n 0, 1) := by decide +kernel
theorem dL_act_655 : decode cL_act 655 = .ok (.iload 5, 2) := by decide +kernel
theorem dL_act_657 : decode cL_act 657 = .ok (.iload 9, 2) := by decide +kernel
theorem dL_act_659 : decode cL_act 659 = .ok (.iload 10, 2) := by decide +kernel
theorem dL_act_661 : decode cL_act 661 = .ok (.invokevirtual 75, 3) := by decide +kernel
theorem dL_act_664 : decode cL_act 664 = .ok (.iload 4, 2) := by decide +kernel
theorem dL_act_666 : decode cL_act 666 = .ok (.if_icmp .ne 7, 3) := by decide +kernel
theorem dL_act_669 : decode cL_act 669 = .ok (.iconst 1, 1) := by decide +kernel
theorem dL_act_670 : decode cL_act 670 = .ok (.goto 4, 3) := by decide +kernel
theorem dL_act_673 : decode cL_act 673 = .ok (.iconst 0, 1) := by decide +kernel
theorem dL_act_674 : decode cL_act 674 = .ok (.ireturn, 1) := by decide +kernel
theorem dL_act_675 : decode cL_act 675 = .ok (.iload 7, 2) := by decide +kernel
theorem dL_act_677 : decode cL_act 677 = .ok (.bipush 12, 2) := by decide +kernel
theorem dL_act_679 : decode cL_act 679 = .ok (.if_icmp .eq 10, 3) := by decide +kernel
theorem dL_act_682 : decode cL_act 682 = .ok (.iload 7, 2) := by decide +kernel
theorem dL_act_684 : decode cL_act 684 = .ok (.bipush 13, 2) := by decide +kernel
theorem dL_act_686 : decode cL_act 686 = .ok (.if_icmp .ne 110, 3) := by decide +kernel
theorem dL_act_689 : decode cL_act 689 = .ok (.aload_n 1, 1) := by decide +kernel
theorem dL_act_690 : decode cL_act 690 = .ok (.getfield 78, 3) := by decide +kernel
theorem dL_act_693 : decode cL_act 693 = .ok (.arraylength, 1) := by decide +kernel
theorem dL_act_694 : decode cL_act 694 = .ok (.bipush 6, 2) := by decide +kernel
theorem dL_act_696 : decode cL_act 696 = .ok (.if_icmp .ne 5, 3) := by decide +kernel
theorem dL_act_699 : decode cL_act 699 = .ok (.iconst 1, 1) := by decide +kernel
theorem dL_act_700 : decode cL_act 700 = .ok (.ireturn, 1) := by decide +kernel
theorem dL_act_701 : decode cL_act 701 = .ok (.iconst 5, 1) := by decide +kernel
theorem dL_act_702 : decode cL_act 702 = .ok (.newarray .int, 2) := by decide +kernel
theorem dL_act_704 : decode cL_act 704 = .ok (.dup, 1) := by decide +kernel
theorem dL_act_705 : decode cL_act 705 = .ok (.iconst 0, 1) := by decide +kernel
theorem dL_act_706 : decode cL_act 706 = .ok (.iconst 1, 1) := by decide +kernel
theorem dL_act_707 : decode cL_act 707 = .ok (.iload_n 2, 1) := by decide +kernel
theorem dL_act_708 : decode cL_act 708 = .ok (.iconst 3, 1) := by decide +kernel
theorem dL_act_709 : decode cL_act 709 = .ok (.ishr, 1) := by decide +kernel
theorem dL_act_710 : decode cL_act 710 = .ok (.iload_n 2, 1) := by decide +kernel
theorem dL_act_711 : decode cL_act 711 = .ok (.iconst 2, 1) := by decide +kernel
theorem dL_act_712 : decode cL_act 712 = .ok (.invokestatic 19, 3) := by decide +kernel
theorem dL_act_715 : decode cL_act 715 = .ok (.ifCond .ne 8, 3) := by decide +kernel
theorem dL_act_718 : decode cL_act 718 = .ok (.bipush 36, 2) := by decide +kernel
theorem dL_act_720 : decode cL_act 720 = .ok (.goto 5, 3) := by decide +kernel
theorem dL_act_723 : decode cL_act 723 = .ok (.bipush 9, 2) := by decide +kernel
theorem dL_act_725 : decode cL_act 725 = .ok (.invokestatic 19, 3) := by decide +kernel
theorem dL_act_728 : decode cL_act 728 = .ok (.iadd, 1) := by decide +kernel
theorem dL_act_729 : decode cL_act 729 = .ok (.iastore, 1) := by decide +kernel
theorem dL_act_730 : decode cL_act 730 = .ok (.dup, 1) := by decide +kernel
theorem dL_act_731 : decode cL_act 731 = .ok (.iconst 1, 1) := by decide +kernel
theorem dL_act_732 : decode cL_act 732 = .ok (.iload_n 2, 1) := by decide +kernel
theorem dL_act_733 : decode cL_act 733 = .ok (.iconst 4, 1) := by decide +kernel
theorem dL_act_734 : decode cL_act 734 = .ok (.ishr, 1) := by decide +kernel
theorem dL_act_735 : decode cL_act 735 = .ok (.bipush 101, 2) := by decide +kernel
theorem dL_act_737 : decode cL_act 737 = .ok (.invokestatic 19, 3) := by decide +kernel
theorem dL_act_740 : decode cL_act 740 = .ok (.iastore, 1) := by decide +kernel
theorem dL_act_741 : decode cL_act 741 = .ok (.dup, 1) := by decide +kernel
theorem dL_act_742 : decode cL_act 742 = .ok (.iconst 2, 1) := by decide +kernel
theorem dL_act_743 : decode cL_act 743 = .ok (.iconst 0, 1) := by decide +kernel
theorem dL_act_744 : decode cL_act 744 = .ok (.iastore, 1) := by decide +kernel
theorem dL_act_745 : decode cL_act 745 = .ok (.dup, 1) := by decide +kernel
theorem dL_act_746 : decode cL_act 746 = .ok (.iconst 3, 1) := by decide +kernel
theorem dL_act_747 : decode cL_act 747 = .ok (.iconst (-1), 1) := by decide +kernel
theorem dL_act_748 : decode cL_act 748 = .ok (.iastore, 1) := by decide +kernel
theorem dL_act_749 : decode cL_act 749 = .ok (.dup, 1) := by decide +kernel
theorem dL_act_750 : decode cL_act 750 = .ok (.iconst 4, 1) := by decide +kernel
theorem dL_act_751 : decode cL_act 751 = .ok (.iconst (-1), 1) := by decide +kernel
theorem dL_act_752 : decode cL_act 752 = .ok (.iastore, 1) := by decide +kernel
theorem dL_act_753 : decode cL_act 753 = .ok (.astore 9, 2) := by decide +kernel
theorem dL_act_755 : decode cL_act 755 = .ok (.aload_n 1, 1) := by decide +kernel
theorem dL_act_756 : decode cL_act 756 = .ok (.aload_n 1, 1) := by decide +kernel
theorem dL_act_757 : decode cL_act 757 = .ok (.getfield 78, 3) := by decide +kernel
theorem dL_act_760 : decode cL_act 760 = .ok (.aload 9, 2) := by decide +kernel
theorem dL_act_762 : decode cL_act 762 = .ok (.invokestatic 71, 3) := by decide +kernel
theorem dL_act_765 : decode cL_act 765 = .ok (.putfield 78, 3) := by decide +kernel
theorem dL_act_768 : decode cL_act 768 = .ok (.aload_n 0, 1) := by decide +kernel
theorem dL_act_769 : decode cL_act 769 = .ok (.aload 9, 2) := by decide +kernel
theorem dL_act_771 : decode cL_act 771 = .ok (.iconst 0, 1) := by decide +kernel
theorem dL_act_772 : decode cL_act 772 = .ok (.iaload, 1) := by decide +kernel
theorem dL_act_773 : decode cL_act 773 = .ok (.aload 9, 2) := by decide +kernel
theorem dL_act_775 : decode cL_act 775 = .ok (.iconst 1, 1) := by decide +kernel
theorem dL_act_776 : decode cL_act 776 = .ok (.iaload, 1) := by decide +kernel
theorem dL_act_777 : decode cL_act 777 = .ok (.invokevirtual 81, 3) := by decide +kernel
theorem dL_act_780 : decode cL_act 780 = .ok (.aload_n 1, 1) := by decide +kernel
theorem dL_act_781 : decode cL_act 781 = .ok (.getfield 78, 3) := by decide +kernel
theorem dL_act_784 : decode cL_act 784 = .ok (.arraylength, 1) := by decide +kernel
theorem dL_act_785 : decode cL_act 785 = .ok (.iconst 1, 1) := by decide +kernel
theorem dL_act_786 : decode cL_act 786 = .ok (.isub, 1) := by decide +kernel
theorem dL_act_787 : decode cL_act 787 = .ok (.if_icmp .ne 7, 3) := by decide +kernel
theorem dL_act_790 : decode cL_act 790 = .ok (.iconst 1, 1) := by decide +kernel
theorem dL_act_791 : decode cL_act 791 = .ok (.goto 4, 3) := by decide +kernel
theorem dL_act_794 : decode cL_act 794 = .ok (.iconst 0, 1) := by decide +kernel
theorem dL_act_795 : decode cL_act 795 = .ok (.ireturn, 1) := by decide +kernel
theorem dL_act_796 : decode cL_act 796 = .ok (.iload 7, 2) := by decide +kernel
theorem dL_act_798 : decode cL_act 798 = .ok (.bipush 14, 2) := by decide +kernel
theorem dL_act_800 : decode cL_act 800 = .ok (.if_icmp .ne 20, 3) := by decide +kernel
theorem dL_act_803 : decode cL_act 803 = .ok (.aload_n 0, 1) := by decide +kernel
theorem dL_act_804 : decode cL_act 804 = .ok (.invokevirtual 84, 3) := by decide +kernel
theorem dL_act_807 : decode cL_act 807 = .ok (.aload_n 1, 1) := by decide +kernel
theorem dL_act_808 : decode cL_act 808 = .ok (.invokevirtual 87, 3) := by decide +kernel
theorem dL_act_811 : decode cL_act 811 = .ok (.if_icmp .ne 7, 3) := by decide +kernel
theorem dL_act_814 : decode cL_act 814 = .ok (.iconst 1, 1) := by decide +kernel
theorem dL_act_815 : decode cL_act 815 = .ok (.goto 4, 3) := by decide +kernel
theorem dL_act_818 : decode cL_act 818 = .ok (.iconst 0, 1) := by decide +kernel
theorem dL_act_819 : decode cL_act 819 = .ok (.ireturn, 1) := by decide +kernel
theorem dL_act_820 : decode cL_act 820 = .ok (.iload 7, 2) := by decide +kernel
theorem dL_act_822 : decode cL_act 822 = .ok (.bipush 15, 2) := by decide +kernel
theorem dL_act_824 : decode cL_act 824 = .ok (.if_icmp .ne 70, 3) := by decide +kernel
theorem dL_act_827 : decode cL_act 827 = .ok (.bipush 10, 2) := by decide +kernel
theorem dL_act_829 : decode cL_act 829 = .ok (.iload_n 2, 1) := by decide +kernel
theorem dL_act_830 : decode cL_act 830 = .ok (.iconst 3, 1) := by decide +kernel
theorem dL_act_831 : decode cL_act 831 = .ok (.ishr, 1) := by decide +kernel
theorem dL_act_832 : decode cL_act 832 = .ok (.bipush 31, 2) := by decide +kernel
theorem dL_act_834 : decode cL_act 834 = .ok (.invokestatic 19, 3) := by decide +kernel
theorem dL_act_837 : decode cL_act 837 = .ok (.iadd, 1) := by decide +kernel
theorem dL_act_838 : decode cL_act 838 = .ok (.istore 9, 2) := by decide +kernel
theorem dL_act_840 : decode cL_act 840 = .ok (.iconst 1, 1) := by decide +kernel
theorem dL_act_841 : decode cL_act 841 = .ok (.iload_n 2, 1) := by decide +kernel
theorem dL_act_842 : decode cL_act 842 = .ok (.iconst 5, 1) := by decide +kernel
theorem dL_act_843 : decode cL_act 843 = .ok (.ishr, 1) := by decide +kernel
theorem dL_act_844 : decode cL_act 844 = .ok (.iconst 5, 1) := by decide +kernel
theorem dL_act_845 : decode cL_act 845 = .ok (.invokestatic 19, 3) := by decide +kernel
theorem dL_act_848 : decode cL_act 848 = .ok (.iadd, 1) := by decide +kernel
theorem dL_act_849 : decode cL_act 849 = .ok (.istore 10, 2) := by decide +kernel
theorem dL_act_851 : decode cL_act 851 = .ok (.iconst 0, 1) := by decide +kernel
theorem dL_act_852 : decode cL_act 852 = .ok (.istore 11, 2) := by decide +kernel
theorem dL_act_854 : decode cL_act 854 = .ok (.iload 11, 2) := by decide +kernel
theorem dL_act_856 : decode cL_act 856 = .ok (.iload 10, 2) := by decide +kernel
theorem dL_act_858 : decode cL_act 858 = .ok (.if_icmp .ge 15, 3) := by decide +kernel
theorem dL_act_861 : decode cL_act 861 = .ok (.aload_n 1, 1) := by decide +kernel
theorem dL_act_862 : decode cL_act 862 = .ok (.iload 9, 2) := by decide +kernel
theorem dL_act_864 : decode cL_act 864 = .ok (.invokevirtual 88, 3) := by decide +kernel
theorem dL_act_867 : decode cL_act 867 = .ok (.iinc 11 1, 3) := by decide +kernel
theorem dL_act_870 : decode cL_act 870 = .ok (.goto (-16), 3) := by decide +kernel
theorem dL_act_873 : decode cL_act 873 = .ok (.aload_n 0, 1) := by decide +kernel
theorem dL_act_874 : decode cL_act 874 = .ok (.iload 9, 2) := by decide +kernel
theorem dL_act_876 : decode cL_act 876 = .ok (.iload 10, 2) := by decide +kernel
theorem dL_act_878 : decode cL_act 878 = .ok (.invokevirtual 92, 3) := by decide +kernel
theorem dL_act_881 : decode cL_act 881 = .ok (.aload_n 1, 1) := by decide +kernel
theorem dL_act_882 : decode cL_act 882 = .ok (.invokevirtual 94, 3) := by decide +kernel
theorem dL_act_885 : decode cL_act 885 = .ok (.if_icmp .ne 7, 3) := by decide +kernel
theorem dL_act_888 : decode cL_act 888 = .ok (.iconst 1, 1) := by decide +kernel
theorem dL_act_889 : decode cL_act 889 = .ok (.goto 4, 3) := by decide +kernel
theorem dL_act_892 : decode cL_act 892 = .ok (.iconst 0, 1) := by decide +kernel
theorem dL_act_893 : decode cL_act 893 = .ok (.ireturn, 1) := by decide +kernel
theorem dL_act_894 : decode cL_act 894 = .ok (.iload 4, 2) := by decide +kernel
theorem dL_act_896 : decode cL_act 896 = .ok (.ifCond .ne 5, 3) := by decide +kernel
theorem dL_act_899 : decode cL_act 899 = .ok (.iconst 1, 1) := by decide +kernel
theorem dL_act_900 : decode cL_act 900 = .ok (.ireturn, 1) := by decide +kernel
theorem dL_act_901 : decode cL_act 901 = .ok (.aload_n 1, 1) := by decide +kernel
theorem dL_act_902 : decode cL_act 902 = .ok (.getfield 15, 3) := by decide +kernel
theorem dL_act_905 : decode cL_act 905 = .ok (.iload 6, 2) := by decide +kernel
theorem dL_act_907 : decode cL_act 907 = .ok (.aaload, 1) := by decide +kernel
theorem dL_act_908 : decode cL_act 908 = .ok (.astore 9, 2) := by decide +kernel
theorem dL_act_910 : decode cL_act 910 = .ok (.iload 7, 2) := by decide +kernel
theorem dL_act_912 : decode cL_act 912 = .ok (.bipush 16, 2) := by decide +kernel
theorem dL_act_914 : decode cL_act 914 = .ok (.if_icmp .ne 46, 3) := by decide +kernel
theorem dL_act_917 : decode cL_act 917 = .ok (.aload 9, 2) := by decide +kernel
theorem dL_act_919 : decode cL_act 919 = .ok (.iconst 3, 1) := by decide +kernel
theorem dL_act_920 : decode cL_act 920 = .ok (.aload 9, 2) := by decide +kernel
theorem dL_act_922 : decode cL_act 922 = .ok (.iconst 3, 1) := by decide +kernel
theorem dL_act_923 : decode cL_act 923 = .ok (.iaload, 1) := by decide +kernel
theorem dL_act_924 : decode cL_act 924 = .ok (.bipush 15, 2) := by decide +kernel
theorem dL_act_926 : decode cL_act 926 = .ok (.if_icmp .ge 7, 3) := by decide +kernel
theorem dL_act_929 : decode cL_act 929 = .ok (.iconst 0, 1) := by decide +kernel
theorem dL_act_930 : decode cL_act 930 = .ok (.goto 10, 3) := by decide +kernel
theorem dL_act_933 : decode cL_act 933 = .ok (.aload 9, 2) := by decide +kernel
theorem dL_act_935 : decode cL_act 935 = .ok (.iconst 3, 1) := by decide +kernel
theorem dL_act_936 : decode cL_act 936 = .ok (.iaload, 1) := by decide +kernel
theorem dL_act_937 : decode cL_act 937 = .ok (.bipush 15, 2) := by decide +kernel
theorem dL_act_939 : decode cL_act 939 = .ok (.isub, 1) := by decide +kernel
theorem dL_act_940 : decode cL_act 940 = .ok (.iastore, 1) := by decide +kernel
theorem dL_act_941 : decode cL_act 941 = .ok (.aload_n 0, 1) := by decide +kernel
theorem dL_act_942 : decode cL_act 942 = .ok (.iload 6, 2) := by decide +kernel
theorem dL_act_944 : decode cL_act 944 = .ok (.invokevirtual 97, 3) := by decide +kernel
theorem dL_act_947 : decode cL_act 947 = .ok (.aload 9, 2) := by decide +kernel
theorem dL_act_949 : decode cL_act 949 = .ok (.iconst 3, 1) := by decide +kernel
theorem dL_act_950 : decode cL_act 950 = .ok (.iaload, 1) := by decide +kernel
theorem dL_act_951 : decode cL_act 951 = .ok (.if_icmp .ne 7, 3) := by decide +kernel
theorem dL_act_954 : decode cL_act 954 = .ok (.iconst 1, 1) := by decide +kernel
theorem dL_act_955 : decode cL_act 955 = .ok (.goto 4, 3) := by decide +kernel
theorem dL_act_958 : decode cL_act 958 = .ok (.iconst 0, 1) := by decide +kernel
theorem dL_act_959 : decode cL_act 959 = .ok (.ireturn, 1) := by decide +kernel
theorem dL_act_960 : decode cL_act 960 = .ok (.iload 7, 2) := by decide +kernel
theorem dL_act_962 : decode cL_act 962 = .ok (.bipush 17, 2) := by decide +kernel
theorem dL_act_964 : decode cL_act 964 = .ok (.if_icmp .ne 86, 3) := by decide +kernel
theorem dL_act_967 : decode cL_act 967 = .ok (.aload 8, 2) := by decide +kernel
theorem dL_act_969 : decode cL_act 969 = .ok (.getfield 28, 3) := by decide +kernel
theorem dL_act_972 : decode cL_act 972 = .ok (.bipush 10, 2) := by decide +kernel
theorem dL_act_974 : decode cL_act 974 = .ok (.aload 9, 2) := by decide +kernel
theorem dL_act_976 : decode cL_act 976 = .ok (.iconst 0, 1) := by decide +kernel
theorem dL_act_977 : decode cL_act 977 = .ok (.iaload, 1) := by decide +kernel
theorem dL_act_978 : decode cL_act 978 = .ok (.imul, 1) := by decide +kernel
theorem dL_act_979 : decode cL_act 979 = .ok (.aload 9, 2) := by decide +kernel
theorem dL_act_981 : decode cL_act 981 = .ok (.iconst 1, 1) := by decide +kernel
theorem dL_act_982 : decode cL_act 982 = .ok (.iaload, 1) := by decide +kernel
theorem dL_act_983 : decode cL_act 983 = .ok (.imul, 1) := by decide +kernel
theorem dL_act_984 : decode cL_act 984 = .ok (.iadd, 1) := by decide +kernel
theorem dL_act_985 : decode cL_act 985 = .ok (.sipush 2000, 3) := by decide +kernel
theorem dL_act_988 : decode cL_act 988 = .ok (.if_icmp .le 5, 3) := by decide +kernel
theorem dL_act_991 : decode cL_act 991 = .ok (.iconst 1, 1) := by decide +kernel
theorem dL_act_992 : decode cL_act 992 = .ok (.ireturn, 1) := by decide +kernel
theorem dL_act_993 : decode cL_act 993 = .ok (.aload 8, 2) := by decide +kernel
theorem dL_act_995 : decode cL_act 995 = .ok (.dup, 1) := by decide +kernel
theorem dL_act_996 : decode cL_act 996 = .ok (.getfield 28, 3) := by decide +kernel
theorem dL_act_999 : decode cL_act 999 = .ok (.bipush 10, 2) := by decide +kernel
theorem dL_act_1001 : decode cL_act 1001 = .ok (.aload 9, 2) := by decide +kernel
theorem dL_act_1003 : decode cL_act 1003 = .ok (.iconst 0, 1) := by decide +kernel
theorem dL_act_1004 : decode cL_act 1004 = .ok (.iaload, 1) := by decide +kernel
theorem dL_act_1005 : decode cL_act 1005 = .ok (.imul, 1) := by decide +kernel
theorem dL_act_1006 : decode cL_act 1006 = .ok (.aload 9, 2) := by decide +kernel
theorem dL_act_1008 : decode cL_act 1008 = .ok (.iconst 1, 1) := by decide +kernel
theorem dL_act_1009 : decode cL_act 1009 = .ok (.iaload, 1) := by decide +kernel
theorem dL_act_1010 : decode cL_act 1010 = .ok (.imul, 1) := by decide +kernel
theorem dL_act_1011 : decode cL_act 1011 = .ok (.iadd, 1) := by decide +kernel
theorem dL_act_1012 : decode cL_act 1012 = .ok (.putfield 28, 3) := by decide +kernel
theorem dL_act_1015 : decode cL_act 1015 = .ok (.aload_n 1, 1) := by decide +kernel
theorem dL_act_1016 : decode cL_act 1016 = .ok (.aload_n 1, 1) := by decide +kernel
theorem dL_act_1017 : decode cL_act 1017 = .ok (.getfield 15, 3) := by decide +kernel
theorem dL_act_1020 : decode cL_act 1020 = .ok (.iload 6, 2) := by decide +kernel
theorem dL_act_1022 : decode cL_act 1022 = .ok (.invokestatic 100, 3) := by decide +kernel
theorem dL_act_1025 : decode cL_act 1025 = .ok (.putfield 15, 3) := by decide +kernel
theorem dL_act_1028 : decode cL_act 1028 = .ok (.aload_n 0, 1) := by decide +kernel
theorem dL_act_1029 : decode cL_act 1029 = .ok (.iload 6, 2) := by decide +kernel
theorem dL_act_1031 : decode cL_act 1031 = .ok (.iload 5, 2) := by decide +kernel
theorem dL_act_1033 : decode cL_act 1033 = .ok (.invokevirtual 104, 3) := by decide +kernel
theorem dL_act_1036 : decode cL_act 1036 = .ok (.aload 8, 2) := by decide +kernel
theorem dL_act_1038 : decode cL_act 1038 = .ok (.getfield 28, 3) := by decide +kernel
theorem dL_act_1041 : decode cL_act 1041 = .ok (.if_icmp .ne 7, 3) := by decide +kernel
theorem dL_act_1044 : decode cL_act 1044 = .ok (.iconst 1, 1) := by decide +kernel
theorem dL_act_1045 : decode cL_act 1045 = .ok (.goto 4, 3) := by decide +kernel
theorem dL_act_1048 : decode cL_act 1048 = .ok (.iconst 0, 1) := by decide +kernel
theorem dL_act_1049 : decode cL_act 1049 = .ok (.ireturn, 1) := by decide +kernel
theorem dL_act_1050 : decode cL_act 1050 = .ok (.iload_n 2, 1) := by decide +kernel
theorem dL_act_1051 : decode cL_act 1051 = .ok (.iconst 3, 1) := by decide +kernel
theorem dL_act_1052 : decode cL_act 1052 = .ok (.ishr, 1) := by decide +kernel
theorem dL_act_1053 : decode cL_act 1053 = .ok (.iconst 2, 1) := by decide +kernel
theorem dL_act_1054 : decode cL_act 1054 = .ok (.invokestatic 19, 3) := by decide +kernel
theorem dL_act_1057 : decode cL_act 1057 = .ok (.ifCond .ne 7, 3) := by decide +kernel
theorem dL_act_1060 : decode cL_act 1060 = .ok (.iconst 1, 1) := by decide +kernel
theorem dL_act_1061 : decode cL_act 1061 = .ok (.goto 4, 3) := by decide +kernel
theorem dL_act_1064 : decode cL_act 1064 = .ok (.iconst 0, 1) := by decide +kernel
theorem dL_act_1065 : decode cL_act 1065 = .ok (.istore 10, 2) := by decide +kernel
theorem dL_act_1067 : decode cL_act 1067 = .ok (.iload 10, 2) := by decide +kernel
theorem dL_act_1069 : decode cL_act 1069 = .ok (.ifCond .eq 7, 3) := by decide +kernel
theorem dL_act_1072 : decode cL_act 1072 = .ok (.iconst 1, 1) := by decide +kernel
theorem dL_act_1073 : decode cL_act 1073 = .ok (.goto 4, 3) := by decide +kernel
theorem dL_act_1076 : decode cL_act 1076 = .ok (.iconst 0, 1) := by decide +kernel
theorem dL_act_1077 : decode cL_act 1077 = .ok (.istore 11, 2) := by decide +kernel
theorem dL_act_1079 : decode cL_act 1079 = .ok (.aload 9, 2) := by decide +kernel
theorem dL_act_1081 : decode cL_act 1081 = .ok (.iload 11, 2) := by decide +kernel
theorem dL_act_1083 : decode cL_act 1083 = .ok (.iaload, 1) := by decide +kernel
theorem dL_act_1084 : decode cL_act 1084 = .ok (.iconst 1, 1) := by decide +kernel
theorem dL_act_1085 : decode cL_act 1085 = .ok (.if_icmp .eq 10, 3) := by decide +kernel
theorem dL_act_1088 : decode cL_act 1088 = .ok (.iload 4, 2) := by decide +kernel
theorem dL_act_1090 : decode cL_act 1090 = .ok (.bipush 8, 2) := by decide +kernel
theorem dL_act_1092 : decode cL_act 1092 = .ok (.if_icmp .ne 5, 3) := by decide +kernel
theorem dL_act_1095 : decode cL_act 1095 = .ok (.iconst 1, 1) := by decide +kernel
theorem dL_act_1096 : decode cL_act 1096 = .ok (.ireturn, 1) := by decide +kernel
theorem dL_act_1097 : decode cL_act 1097 = .ok (.iconst 1, 1) := by decide +kernel
theorem dL_act_1098 : decode cL_act 1098 = .ok (.iload_n 2, 1) := by decide +kernel
theorem dL_act_1099 : decode cL_act 1099 = .ok (.iconst 4, 1) := by decide +kernel
theorem dL_act_1100 : decode cL_act 1100 = .ok (.ishr, 1) := by decide +kernel
theorem dL_act_1101 : decode cL_act 1101 = .ok (.aload 9, 2) := by decide +kernel
theorem dL_act_1103 : decode cL_act 1103 = .ok (.iload 11, 2) := by decide +kernel
theorem dL_act_1105 : decode cL_act 1105 = .ok (.iaload, 1) := by decide +kernel
theorem dL_act_1106 : decode cL_act 1106 = .ok (.iconst 1, 1) := by decide +kernel
theorem dL_act_1107 : decode cL_act 1107 = .ok (.isub, 1) := by decide +kernel
theorem dL_act_1108 : decode cL_act 1108 = .ok (.invokestatic 19, 3) := by decide +kernel
theorem dL_act_1111 : decode cL_act 1111 = .ok (.iadd, 1) := by decide +kernel
theorem dL_act_1112 : decode cL_act 1112 = .ok (.istore 12, 2) := by decide +kernel
theorem dL_act_1114 : decode cL_act 1114 = .ok (.aload 9, 2) := by decide +kernel
theorem dL_act_1116 : decode cL_act 1116 = .ok (.invokevirtual 107, 3) := by decide +kernel
theorem dL_act_1119 : decode cL_act 1119 = .ok (.checkcast 108, 3) := by decide +kernel
theorem dL_act_1122 : decode cL_act 1122 = .ok (.astore 13, 2) := by decide +kernel
theorem dL_act_1124 : decode cL_act 1124 = .ok (.aload 13, 2) := by decide +kernel
theorem dL_act_1126 : decode cL_act 1126 = .ok (.iload 11, 2) := by decide +kernel
theorem dL_act_1128 : decode cL_act 1128 = .ok (.dup2, 1) := by decide +kernel
theorem dL_act_1129 : decode cL_act 1129 = .ok (.iaload, 1) := by decide +kernel
theorem dL_act_1130 : decode cL_act 1130 = .ok (.iload 12, 2) := by decide +kernel
theorem dL_act_1132 : decode cL_act 1132 = .ok (.isub, 1) := by decide +kernel
theorem dL_act_1133 : decode cL_act 1133 = .ok (.iastore, 1) := by decide +kernel
theorem dL_act_1134 : decode cL_act 1134 = .ok (.aload 9, 2) := by decide +kernel
theorem dL_act_1136 : decode cL_act 1136 = .ok (.iload 11, 2) := by decide +kernel
theorem dL_act_1138 : decode cL_act 1138 = .ok (.iload 12, 2) := by decide +kernel
theorem dL_act_1140 : decode cL_act 1140 = .ok (.iastore, 1) := by decide +kernel
theorem dL_act_1141 : decode cL_act 1141 = .ok (.aload_n 1, 1) := by decide +kernel
theorem dL_act_1142 : decode cL_act 1142 = .ok (.aload_n 1, 1) := by decide +kernel
theorem dL_act_1143 : decode cL_act 1143 = .ok (.getfield 15, 3) := by decide +kernel
theorem dL_act_1146 : decode cL_act 1146 = .ok (.aload 13, 2) := by decide +kernel
theorem dL_act_1148 : decode cL_act 1148 = .ok (.invokestatic 71, 3) := by decide +kernel
theorem dL_act_1151 : decode cL_act 1151 = .ok (.putfield 15, 3) := by decide +kernel
theorem dL_act_1154 : decode cL_act 1154 = .ok (.aload_n 0, 1) := by decide +kernel
theorem dL_act_1155 : decode cL_act 1155 = .ok (.iload 6, 2) := by decide +kernel
theorem dL_act_1157 : decode cL_act 1157 = .ok (.iload 12, 2) := by decide +kernel
theorem dL_act_1159 : decode cL_act 1159 = .ok (.iload 10, 2) := by decide +kernel
theorem dL_act_1161 : decode cL_act 1161 = .ok (.invokevirtual 112, 3) := by decide +kernel
theorem dL_act_1164 : decode cL_act 1164 = .ok (.iload 4, 2) := by decide +kernel
theorem dL_act_1166 : decode cL_act 1166 = .ok (.if_icmp .ne 7, 3) := by decide +kernel
theorem dL_act_1169 : decode cL_act 1169 = .ok (.iconst 1, 1) := by decide +kernel
theorem dL_act_1170 : decode cL_act 1170 = .ok (.goto 4, 3) := by decide +kernel
theorem dL_act_1173 : decode cL_act 1173 = .ok (.iconst 0, 1) := by decide +kernel
theorem dL_act_1174 : decode cL_act 1174 = .ok (.ireturn, 1) := by decide +kernel
theorem dL_build_0 : decode cL_build 0 = .ok (.new 10, 3) := by decide +kernel
theorem dL_build_3 : decode cL_build 3 = .ok (.dup, 1) := by decide +kernel
theorem dL_build_4 : decode cL_build 4 = .ok (.invokespecial 116, 3) := by decide +kernel
theorem dL_build_7 : decode cL_build 7 = .ok (.astore_n 2, 1) := by decide +kernel
theorem dL_build_8 : decode cL_build 8 = .ok (.bipush 20, 2) := by decide +kernel
theorem dL_build_10 : decode cL_build 10 = .ok (.aload_n 1, 1) := by decide +kernel
theorem dL_build_11 : decode cL_build 11 = .ok (.iconst 0, 1) := by decide +kernel
theorem dL_build_12 : decode cL_build 12 = .ok (.invokestatic 117, 3) := by decide +kernel
theorem dL_build_15 : decode cL_build 15 = .ok (.bipush 40, 2) := by decide +kernel
theorem dL_build_17 : decode cL_build 17 = .ok (.invokestatic 19, 3) := by decide +kernel
theorem dL_build_20 : decode cL_build 20 = .ok (.iadd, 1) := by decide +kernel
theorem dL_build_21 : decode cL_build 21 = .ok (.istore_n 3, 1) := by decide +kernel
theorem dL_build_22 : decode cL_build 22 = .ok (.iconst 0, 1) := by decide +kernel
theorem dL_build_23 : decode cL_build 23 = .ok (.istore 4, 2) := by decide +kernel
theorem dL_build_25 : decode cL_build 25 = .ok (.iload 4, 2) := by decide +kernel
theorem dL_build_27 : decode cL_build 27 = .ok (.iload_n 3, 1) := by decide +kernel
theorem dL_build_28 : decode cL_build 28 = .ok (.if_icmp .ge 43, 3) := by decide +kernel
theorem dL_build_31 : decode cL_build 31 = .ok (.aload_n 0, 1) := by decide +kernel
theorem dL_build_32 : decode cL_build 32 = .ok (.aload_n 2, 1) := by decide +kernel
theorem dL_build_33 : decode cL_build 33 = .ok (.aload_n 1, 1) := by decide +kernel
theorem dL_build_34 : decode cL_build 34 = .ok (.iload 4, 2) := by decide +kernel
theorem dL_build_36 : decode cL_build 36 = .ok (.bipush 16, 2) := by decide +kernel
theorem dL_build_38 : decode cL_build 38 = .ok (.irem, 1) := by decide +kernel
theorem dL_build_39 : decode cL_build 39 = .ok (.invokestatic 117, 3) := by decide +kernel
theorem dL_build_42 : decode cL_build 42 = .ok (.iload 4, 2) := by decide +kernel
theorem dL_build_44 : decode cL_build 44 = .ok (.bipush 16, 2) := by decide +kernel
theorem dL_build_46 : decode cL_build 46 = .ok (.idiv, 1) := by decide +kernel
theorem dL_build_47 : decode cL_build 47 = .ok (.iconst 3, 1) := by decide +kernel
theorem dL_build_48 : decode cL_build 48 = .ok (.imul, 1) := by decide +kernel
theorem dL_build_49 : decode cL_build 49 = .ok (.ishr, 1) := by decide +kernel
theorem dL_build_50 : decode cL_build 50 = .ok (.sipush 467, 3) := by decide +kernel
theorem dL_build_53 : decode cL_build 53 = .ok (.iload 4, 2) := by decide +kernel
theorem dL_build_55 : decode cL_build 55 = .ok (.imul, 1) := by decide +kernel
theorem dL_build_56 : decode cL_build 56 = .ok (.iadd, 1) := by decide +kernel
theorem dL_build_57 : decode cL_build 57 = .ok (.invokestatic 121, 3) := by decide +kernel
theorem dL_build_60 : decode cL_build 60 = .ok (.ifCond .ne 5, 3) := by decide +kernel
theorem dL_build_63 : decode cL_build 63 = .ok (.aconst_null, 1) := by decide +kernel
theorem dL_build_64 : decode cL_build 64 = .ok (.areturn, 1) := by decide +kernel
theorem dL_build_65 : decode cL_build 65 = .ok (.iinc 4 1, 3) := by decide +kernel
theorem dL_build_68 : decode cL_build 68 = .ok (.goto (-43), 3) := by decide +kernel
theorem dL_build_71 : decode cL_build 71 = .ok (.aload_n 2, 1) := by decide +kernel
theorem dL_build_72 : decode cL_build 72 = .ok (.areturn, 1) := by decide +kernel
theorem dL_law_0 : decode cL_law 0 = .ok (.new 33, 3) := by decide +kernel
theorem dL_law_3 : decode cL_law 3 = .ok (.dup, 1) := by decide +kernel
theorem dL_law_4 : decode cL_law 4 = .ok (.invokespecial 125, 3) := by decide +kernel
theorem dL_law_7 : decode cL_law 7 = .ok (.astore_n 1, 1) := by decide +kernel
theorem dL_law_8 : decode cL_law 8 = .ok (.aload_n 1, 1) := by decide +kernel
theorem dL_law_9 : decode cL_law 9 = .ok (.aload_n 0, 1) := by decide +kernel
theorem dL_law_10 : decode cL_law 10 = .ok (.invokestatic 126, 3) := by decide +kernel
theorem dL_law_13 : decode cL_law 13 = .ok (.astore_n 2, 1) := by decide +kernel
theorem dL_law_14 : decode cL_law 14 = .ok (.aload_n 2, 1) := by decide +kernel
theorem dL_law_15 : decode cL_law 15 = .ok (.ifnonnull 5, 3) := by decide +kernel
theorem dL_law_18 : decode cL_law 18 = .ok (.iconst 0, 1) := by decide +kernel
theorem dL_law_19 : decode cL_law 19 = .ok (.ireturn, 1) := by decide +kernel
theorem dL_law_20 : decode cL_law 20 = .ok (.iconst 0, 1) := by decide +kernel
theorem dL_law_21 : decode cL_law 21 = .ok (.istore_n 3, 1) := by decide +kernel
theorem dL_law_22 : decode cL_law 22 = .ok (.iload_n 3, 1) := by decide +kernel
theorem dL_law_23 : decode cL_law 23 = .ok (.bipush 40, 2) := by decide +kernel
theorem dL_law_25 : decode cL_law 25 = .ok (.if_icmp .ge 923, 3) := by decide +kernel
theorem dL_law_28 : decode cL_law 28 = .ok (.aload_n 0, 1) := by decide +kernel
theorem dL_law_29 : decode cL_law 29 = .ok (.iload_n 3, 1) := by decide +kernel
theorem dL_law_30 : decode cL_law 30 = .ok (.bipush 16, 2) := by decide +kernel
theorem dL_law_32 : decode cL_law 32 = .ok (.irem, 1) := by decide +kernel
theorem dL_law_33 : decode cL_law 33 = .ok (.invokestatic 117, 3) := by decide +kernel
theorem dL_law_36 : decode cL_law 36 = .ok (.iload_n 3, 1) := by decide +kernel
theorem dL_law_37 : decode cL_law 37 = .ok (.bipush 16, 2) := by decide +kernel
theorem dL_law_39 : decode cL_law 39 = .ok (.idiv, 1) := by decide +kernel
theorem dL_law_40 : decode cL_law 40 = .ok (.iconst 3, 1) := by decide +kernel
theorem dL_law_41 : decode cL_law 41 = .ok (.imul, 1) := by decide +kernel
theorem dL_law_42 : decode cL_law 42 = .ok (.ishr, 1) := by decide +kernel
theorem dL_law_43 : decode cL_law 43 = .ok (.sipush 467, 3) := by decide +kernel
theorem dL_law_46 : decode cL_law 46 = .ok (.iload_n 3, 1) := by decide +kernel
theorem dL_law_47 : decode cL_law 47 = .ok (.imul, 1) := by decide +kernel
theorem dL_law_48 : decode cL_law 48 = .ok (.iadd, 1) := by decide +kernel
theorem dL_law_49 : decode cL_law 49 = .ok (.istore 4, 2) := by decide +kernel
theorem dL_law_51 : decode cL_law 51 = .ok (.aload_n 1, 1) := by decide +kernel
theorem dL_law_52 : decode cL_law 52 = .ok (.iconst 1, 1) := by decide +kernel
theorem dL_law_53 : decode cL_law 53 = .ok (.invokevirtual 130, 3) := by decide +kernel
theorem dL_law_56 : decode cL_law 56 = .ok (.istore 5, 2) := by decide +kernel
theorem dL_law_58 : decode cL_law 58 = .ok (.iconst 0, 1) := by decide +kernel
theorem dL_law_59 : decode cL_law 59 = .ok (.istore 6, 2) := by decide +kernel
theorem dL_law_61 : decode cL_law 61 = .ok (.iconst 0, 1) := by decide +kernel
theorem dL_law_62 : decode cL_law 62 = .ok (.istore 7, 2) := by decide +kernel
theorem dL_law_64 : decode cL_law 64 = .ok (.iload 7, 2) := by decide +kernel
theorem dL_law_66 : decode cL_law 66 = .ok (.aload_n 1, 1) := by decide +kernel
theorem dL_law_67 : decode cL_law 67 = .ok (.iconst 3, 1) := by decide +kernel
theorem dL_law_68 : decode cL_law 68 = .ok (.invokevirtual 130, 3) := by decide +kernel
theorem dL_law_71 : decode cL_law 71 = .ok (.if_icmp .ge 29, 3) := by decide +kernel
theorem dL_law_74 : decode cL_law 74 = .ok (.iload 6, 2) := by decide +kernel
theorem dL_law_76 : decode cL_law 76 = .ok (.aload_n 1, 1) := by decide +kernel
theorem dL_law_77 : decode cL_law 77 = .ok (.iload 7, 2) := by decide +kernel
theorem dL_law_79 : decode cL_law 79 = .ok (.iconst 2, 1) := by decide +kernel
theorem dL_law_80 : decode cL_law 80 = .ok (.invokevirtual 133, 3) := by decide +kernel
theorem dL_law_83 : decode cL_law 83 = .ok (.aload_n 1, 1) := by decide +kernel
theorem dL_law_84 : decode cL_law 84 = .ok (.iload 7, 2) := by decide +kernel
theorem dL_law_86 : decode cL_law 86 = .ok (.iconst 0, 1) := by decide +kernel
theorem dL_law_87 : decode cL_law 87 = .ok (.invokevirtual 133, 3) := by decide +kernel
theorem dL_law_90 : decode cL_law 90 = .ok (.imul, 1) := by decide +kernel
theorem dL_law_91 : decode cL_law 91 = .ok (.iadd, 1) := by decide +kernel
theorem dL_law_92 : decode cL_law 92 = .ok (.istore 6, 2) := by decide +kernel
theorem dL_law_94 : decode cL_law 94 = .ok (.iinc 7 1, 3) := by decide +kernel
theorem dL_law_97 : decode cL_law 97 = .ok (.goto (-33), 3) := by decide +kernel
theorem dL_law_100 : decode cL_law 100 = .ok (.aload_n 1, 1) := by decide +kernel
theorem dL_law_101 : decode cL_law 101 = .ok (.iconst 5, 1) := by decide +kernel
theorem dL_law_102 : decode cL_law 102 = .ok (.invokevirtual 130, 3) := by decide +kernel
theorem dL_law_105 : decode cL_law 105 = .ok (.bipush 10, 2) := by decide +kernel
theorem dL_law_107 : decode cL_law 107 = .ok (.aload_n 1, 1) := by decide +kernel
theorem dL_law_108 : decode cL_law 108 = .ok (.bipush 6, 2) := by decide +kernel
theorem dL_law_110 : decode cL_law 110 = .ok (.invokevirtual 130, 3) := by decide +kernel
theorem dL_law_113 : decode cL_law 113 = .ok (.imul, 1) := by decide +kernel
theorem dL_law_114 : decode cL_law 114 = .ok (.iadd, 1) := by decide +kernel
theorem dL_law_115 : decode cL_law 115 = .ok (.bipush 10, 2) := by decide +kernel
theorem dL_law_117 : decode cL_law 117 = .ok (.iload 6, 2) := by decide +kernel
theorem dL_law_119 : decode cL_law 119 = .ok (.imul, 1) := by decide +kernel
theorem dL_law_120 : decode cL_law 120 = .ok (.iadd, 1) := by decide +kernel
theorem dL_law_121 : decode cL_law 121 = .ok (.istore 7, 2) := by decide +kernel
theorem dL_law_123 : decode cL_law 123 = .ok (.aload_n 1, 1) := by decide +kernel
theorem dL_law_124 : decode cL_law 124 = .ok (.iconst 4, 1) := by decide +kernel
theorem dL_law_125 : decode cL_law 125 = .ok (.invokevirtual 130, 3) := by decide +kernel
theorem dL_law_128 : decode cL_law 128 = .ok (.istore 8, 2) := by decide +kernel
theorem dL_law_130 : decode cL_law 130 = .ok (.aload_n 1, 1) := by decide +kernel
theorem dL_law_131 : decode cL_law 131 = .ok (.aload_n 2, 1) := by decide +kernel
theorem dL_law_132 : decode cL_law 132 = .ok (.iload 4, 2) := by decide +kernel
theorem dL_law_134 : decode cL_law 134 = .ok (.invokestatic 121, 3) := by decide +kernel
theorem dL_law_137 : decode cL_law 137 = .ok (.ifCond .ne 5, 3) := by decide +kernel
theorem dL_law_140 : decode cL_law 140 = .ok (.iconst 0, 1) := by decide +kernel
theorem dL_law_141 : decode cL_law 141 = .ok (.ireturn, 1) := by decide +kernel
theorem dL_law_142 : decode cL_law 142 = .ok (.aload_n 1, 1) := by decide +kernel
theorem dL_law_143 : decode cL_law 143 = .ok (.iconst 1, 1) := by decide +kernel
theorem dL_law_144 : decode cL_law 144 = .ok (.invokevirtual 130, 3) := by decide +kernel
theorem dL_law_147 : decode cL_law 147 = .ok (.iload 5, 2) := by decide +kernel
theorem dL_law_149 : decode cL_law 149 = .ok (.if_icmp .le 15, 3) := by decide +kernel
theorem dL_law_152 : decode cL_law 152 = .ok (.iload 7, 2) := by decide +kernel
theorem dL_law_154 : decode cL_law 154 = .ok (.aload_n 1, 1) := by decide +kernel
theorem dL_law_155 : decode cL_law 155 = .ok (.iload 5, 2) := by decide +kernel
theorem dL_law_157 : decode cL_law 157 = .ok (.iconst 0, 1) := by decide +kernel
theorem dL_law_158 : decode cL_law 158 = .ok (.invokevirtual 136, 3) := by decide +kernel
theorem dL_law_161 : decode cL_law 161 = .ok (.iadd, 1) := by decide +kernel
theorem dL_law_162 : decode cL_law 162 = .ok (.istore 7, 2) := by decide +kernel
theorem dL_law_164 : decode cL_law 164 = .ok (.iconst 0, 1) := by decide +kernel
theorem dL_law_165 : decode cL_law 165 = .ok (.istore 9, 2) := by decide +kernel
theorem dL_law_167 : decode cL_law 167 = .ok (.iconst 0, 1) := by decide +kernel
theorem dL_law_168 : decode cL_law 168 = .ok (.istore 10, 2) := by decide +kernel
theorem dL_law_170 : decode cL_law 170 = .ok (.iload 10, 2) := by decide +kernel
theorem dL_law_172 : decode cL_law 172 = .ok (.aload_n 1, 1) := by decide +kernel
theorem dL_law_173 : decode cL_law 173 = .ok (.iconst 1, 1) := by decide +kernel
theorem dL_law_174 : decode cL_law 174 = .ok (.invokevirtual 130, 3) := by decide +kernel
theorem dL_law_177 : decode cL_law 177 = .ok (.if_icmp .ge 189, 3) := by decide +kernel
theorem dL_law_180 : decode cL_law 180 = .ok (.iconst 0, 1) := by decide +kernel
theorem dL_law_181 : decode cL_law 181 = .ok (.istore 11, 2) := by decide +kernel
theorem dL_law_183 : decode cL_law 183 = .ok (.iconst 1, 1) := by decide +kernel
theorem dL_law_184 : decode cL_law 184 = .ok (.istore 12, 2) := by decide +kernel
theorem dL_law_186 : decode cL_law 186 = .ok (.iload 12, 2) := by decide +kernel
theorem dL_law_188 : decode cL_law 188 = .ok (.bipush 6, 2) := by decide +kernel
theorem dL_law_190 : decode cL_law 190 = .ok (.if_icmp .ge 35, 3) := by decide +kernel
theorem dL_law_193 : decode cL_law 193 = .ok (.aload_n 1, 1) := by decide +kernel
theorem dL_law_194 : decode cL_law 194 = .ok (.iload 10, 2) := by decide +kernel
theorem dL_law_196 : decode cL_law 196 = .ok (.iload 12, 2) := by decide +kernel
theorem dL_law_198 : decode cL_law 198 = .ok (.invokevirtual 136, 3) := by decide +kernel
theorem dL_law_201 : decode cL_law 201 = .ok (.ifCond .ge 5, 3) := by decide +kernel
theorem dL_law_204 : decode cL_law 204 = .ok (.iconst 0, 1) := by decide +kernel
theorem dL_law_205 : decode cL_law 205 = .ok (.ireturn, 1) := by decide +kernel
theorem dL_law_206 : decode cL_law 206 = .ok (.iload 11, 2) := by decide +kernel
theorem dL_law_208 : decode cL_law 208 = .ok (.aload_n 1, 1) := by decide +kernel
theorem dL_law_209 : decode cL_law 209 = .ok (.iload 10, 2) := by decide +kernel
theorem dL_law_211 : decode cL_law 211 = .ok (.iload 12, 2) := by decide +kernel
theorem dL_law_213 : decode cL_law 213 = .ok (.invokevirtual 136, 3) := by decide +kernel
theorem dL_law_216 : decode cL_law 216 = .ok (.iadd, 1) := by decide +kernel
theorem dL_law_217 : decode cL_law 217 = .ok (.istore 11, 2) := by decide +kernel
theorem dL_law_219 : decode cL_law 219 = .ok (.iinc 12 1, 3) := by decide +kernel
theorem dL_law_222 : decode cL_law 222 = .ok (.goto (-36), 3) := by decide +kernel
theorem dL_law_225 : decode cL_law 225 = .ok (.iconst 2, 1) := by decide +kernel
theorem dL_law_226 : decode cL_law 226 = .ok (.aload_n 1, 1) := by decide +kernel
theorem dL_law_227 : decode cL_law 227 = .ok (.iload 10, 2) := by decide +kernel
theorem dL_law_229 : decode cL_law 229 = .ok (.iconst 5, 1) := by decide +kernel
theorem dL_law_230 : decode cL_law 230 = .ok (.invokevirtual 136, 3) := by decide +kernel
theorem dL_law_233 : decode cL_law 233 = .ok (.imul, 1) := by decide +kernel
theorem dL_law_234 : decode cL_law 234 = .ok (.aload_n 1, 1) := by decide +kernel
theorem dL_law_235 : decode cL_law 235 = .ok (.iload 10, 2) := by decide +kernel
theorem dL_law_237 : decode cL_law 237 = .ok (.iconst 4, 1) := by decide +kernel
theorem dL_law_238 : decode cL_law 238 = .ok (.invokevirtual 136, 3) := by decide +kernel
theorem dL_law_241 : decode cL_law 241 = .ok (.iadd, 1) := by decide +kernel
theorem dL_law_242 : decode cL_law 242 = .ok (.aload_n 1, 1) := by decide +kernel
theorem dL_law_243 : decode cL_law 243 = .ok (.iload 10, 2) := by decide +kernel
theorem dL_law_245 : decode cL_law 245 = .ok (.iconst 3, 1) := by decide +kernel
theorem dL_law_246 : decode cL_law 246 = .ok (.invokevirtual 136, 3) := by decide +kernel
theorem dL_law_249 : decode cL_law 249 = .ok (.isub, 1) := by decide +kernel
theorem dL_law_250 : decode cL_law 250 = .ok (.aload_n 1, 1) := by decide +kernel
theorem dL_law_251 : decode cL_law 251 = .ok (.iload 10, 2) := by decide +kernel
theorem dL_law_253 : decode cL_law 253 = .ok (.iconst 2, 1) := by decide +kernel
theorem dL_law_254 : decode cL_law 254 = .ok (.invokevirtual 136, 3) := by decide +kernel
theorem dL_law_257 : decode cL_law 257 = .ok (.isub, 1) := by decide +kernel
theorem dL_law_258 : decode cL_law 258 = .ok (.aload_n 1, 1) := by decide +kernel
theorem dL_law_259 : decode cL_law 259 = .ok (.iload 10, 2) := by decide +kernel
theorem dL_law_261 : decode cL_law 261 = .ok (.iconst 1, 1) := by decide +kernel
theorem dL_law_262 : decode cL_law 262 = .ok (.invokevirtual 136, 3) := by decide +kernel
theorem dL_law_265 : decode cL_law 265 = .ok (.isub, 1) := by decide +kernel
theorem dL_law_266 : decode cL_law 266 = .ok (.istore 12, 2) := by decide +kernel
theorem dL_law_268 : decode cL_law 268 = .ok (.iload 11, 2) := by decide +kernel
theorem dL_law_270 : decode cL_law 270 = .ok (.bipush 100, 2) := by decide +kernel
theorem dL_law_272 : decode cL_law 272 = .ok (.if_icmp .gt 74, 3) := by decide +kernel
theorem dL_law_275 : decode cL_law 275 = .ok (.aload_n 1, 1) := by decide +kernel
theorem dL_law_276 : decode cL_law 276 = .ok (.iload 10, 2) := by decide +kernel
theorem dL_law_278 : decode cL_law 278 = .ok (.bipush 7, 2) := by decide +kernel
theorem dL_law_280 : decode cL_law 280 = .ok (.invokevirtual 136, 3) := by decide +kernel
theorem dL_law_283 : decode cL_law 283 = .ok (.iconst 0, 1) := by decide +kernel
theorem dL_law_284 : decode cL_law 284 = .ok (.bipush 100, 2) := by decide +kernel
theorem dL_law_286 : decode cL_law 286 = .ok (.iload 12, 2) := by decide +kernel
theorem dL_law_288 : decode cL_law 288 = .ok (.invokestatic 57, 3) := by decide +kernel
theorem dL_law_291 : decode cL_law 291 = .ok (.invokestatic 139, 3) := by decide +kernel
theorem dL_law_294 : decode cL_law 294 = .ok (.if_icmp .ne 52, 3) := by decide +kernel
theorem dL_law_297 : decode cL_law 297 = .ok (.aload_n 1, 1) := by decide +kernel
theorem dL_law_298 : decode cL_law 298 = .ok (.iload 10, 2) := by decide +kernel
theorem dL_law_300 : decode cL_law 300 = .ok (.bipush 6, 2) := by decide +kernel
theorem dL_law_302 : decode cL_law 302 = .ok (.invokevirtual 136, 3) := by decide +kernel
theorem dL_law_305 : decode cL_law 305 = .ok (.bipush 15, 2) := by decide +kernel
theorem dL_law_307 : decode cL_law 307 = .ok (.if_icmp .lt 39, 3) := by decide +kernel
theorem dL_law_310 : decode cL_law 310 = .ok (.aload_n 1, 1) := by decide +kernel
theorem dL_law_311 : decode cL_law 311 = .ok (.iload 10, 2) := by decide +kernel
theorem dL_law_313 : decode cL_law 313 = .ok (.bipush 6, 2) := by decide +kernel
theorem dL_law_315 : decode cL_law 315 = .ok (.invokevirtual 136, 3) := by decide +kernel
theorem dL_law_318 : decode cL_law 318 = .ok (.bipush 50, 2) := by decide +kernel
theorem dL_law_320 : decode cL_law 320 = .ok (.if_icmp .gt 26, 3) := by decide +kernel
theorem dL_law_323 : decode cL_law 323 = .ok (.aload_n 1, 1) := by decide +kernel
theorem dL_law_324 : decode cL_law 324 = .ok (.iload 10, 2) := by decide +kernel
theorem dL_law_326 : decode cL_law 326 = .ok (.iconst 0, 1) := by decide +kernel
theorem dL_law_327 : decode cL_law 327 = .ok (.invokevirtual 136, 3) := by decide +kernel
theorem dL_law_330 : decode cL_law 330 = .ok (.ifCond .lt 16, 3) := by decide +kernel
theorem dL_law_333 : decode cL_law 333 = .ok (.aload_n 1, 1) := by decide +kernel
theorem dL_law_334 : decode cL_law 334 = .ok (.iload 10, 2) := by decide +kernel
theorem dL_law_336 : decode cL_law 336 = .ok (.iconst 0, 1) := by decide +kernel
theorem dL_law_337 : decode cL_law 337 = .ok (.invokevirtual 136, 3) := by decide +kernel
theorem dL_law_340 : decode cL_law 340 = .ok (.sipush 2000, 3) := by decide +kernel
theorem dL_law_343 : decode cL_law 343 = .ok (.if_icmp .le 5, 3) := by decide +kernel
theorem dL_law_346 : decode cL_law 346 = .ok (.iconst 0, 1) := by decide +kernel
theorem dL_law_347 : decode cL_law 347 = .ok (.ireturn, 1) := by decide +kernel
theorem dL_law_348 : decode cL_law 348 = .ok (.iload 9, 2) := by decide +kernel
theorem dL_law_350 : decode cL_law 350 = .ok (.aload_n 1, 1) := by decide +kernel
theorem dL_law_351 : decode cL_law 351 = .ok (.iload 10, 2) := by decide +kernel
theorem dL_law_353 : decode cL_law 353 = .ok (.iconst 0, 1) := by decide +kernel
theorem dL_law_354 : decode cL_law 354 = .ok (.invokevirtual 136, 3) := by decide +kernel
theorem dL_law_357 : decode cL_law 357 = .ok (.iadd, 1) := by decide +kernel
theorem dL_law_358 : decode cL_law 358 = .ok (.istore 9, 2) := by decide +kernel
theorem dL_law_360 : decode cL_law 360 = .ok (.iinc 10 1, 3) := by decide +kernel
theorem dL_law_363 : decode cL_law 363 = .ok (.goto (-193), 3) := by decide +kernel
theorem dL_law_366 : decode cL_law 366 = .ok (.iconst 0, 1) := by decide +kernel
theorem dL_law_367 : decode cL_law 367 = .ok (.istore 10, 2) := by decide +kernel
theorem dL_law_369 : decode cL_law 369 = .ok (.iconst 0, 1) := by decide +kernel
theorem dL_law_370 : decode cL_law 370 = .ok (.istore 11, 2) := by decide +kernel
theorem dL_law_372 : decode cL_law 372 = .ok (.iconst 0, 1) := by decide +kernel
theorem dL_law_373 : decode cL_law 373 = .ok (.istore 12, 2) := by decide +kernel
theorem dL_law_375 : decode cL_law 375 = .ok (.iload 12, 2) := by decide +kernel
theorem dL_law_377 : decode cL_law 377 = .ok (.aload_n 1, 1) := by decide +kernel
theorem dL_law_378 : decode cL_law 378 = .ok (.iconst 2, 1) := by decide +kernel
theorem dL_law_379 : decode cL_law 379 = .ok (.invokevirtual 130, 3) := by decide +kernel
theorem dL_law_382 : decode cL_law 382 = .ok (.if_icmp .ge 252, 3) := by decide +kernel
theorem dL_law_385 : decode cL_law 385 = .ok (.aload_n 1, 1) := by decide +kernel
theorem dL_law_386 : decode cL_law 386 = .ok (.iload 12, 2) := by decide +kernel
theorem dL_law_388 : decode cL_law 388 = .ok (.bipush 6, 2) := by decide +kernel
theorem dL_law_390 : decode cL_law 390 = .ok (.invokevirtual 142, 3) := by decide +kernel
theorem dL_law_393 : decode cL_law 393 = .ok (.istore 13, 2) := by decide +kernel
theorem dL_law_395 : decode cL_law 395 = .ok (.aload_n 1, 1) := by decide +kernel
theorem dL_law_396 : decode cL_law 396 = .ok (.iload 12, 2) := by decide +kernel
theorem dL_law_398 : decode cL_law 398 = .ok (.iconst 5, 1) := by decide +kernel
theorem dL_law_399 : decode cL_law 399 = .ok (.invokevirtual 142, 3) := by decide +kernel
theorem dL_law_402 : decode cL_law 402 = .ok (.istore 14, 2) := by decide +kernel
theorem dL_law_404 : decode cL_law 404 = .ok (.aload_n 1, 1) := by decide +kernel
theorem dL_law_405 : decode cL_law 405 = .ok (.iload 12, 2) := by decide +kernel
theorem dL_law_407 : decode cL_law 407 = .ok (.iconst 0, 1) := by decide +kernel
theorem dL_law_408 : decode cL_law 408 = .ok (.invokevirtual 142, 3) := by decide +kernel
theorem dL_law_411 : decode cL_law 411 = .ok (.iconst 1, 1) := by decide +kernel
theorem dL_law_412 : decode cL_law 412 = .ok (.if_icmp .lt 127, 3) := by decide +kernel
theorem dL_law_415 : decode cL_law 415 = .ok (.aload_n 1, 1) := by decide +kernel
theorem dL_law_416 : decode cL_law 416 = .ok (.iload 12, 2) := by decide +kernel
theorem dL_law_418 : decode cL_law 418 = .ok (.iconst 0, 1) := by decide +kernel
theorem dL_law_419 : decode cL_law 419 = .ok (.invokevirtual 142, 3) := by decide +kernel
theorem dL_law_422 : decode cL_law 422 = .ok (.bipush 6, 2) := by decide +kernel
theorem dL_law_424 : decode cL_law 424 = .ok (.if_icmp .gt 115, 3) := by decide +kernel
theorem dL_law_427 : decode cL_law 427 = .ok (.aload_n 1, 1) := by decide +kernel
theorem dL_law_428 : decode cL_law 428 = .ok (.iload 12, 2) := by decide +kernel
theorem dL_law_430 : decode cL_law 430 = .ok (.iconst 1, 1) := by decide +kernel
theorem dL_law_431 : decode cL_law 431 = .ok (.invokevirtual 142, 3) := by decide +kernel
theorem dL_law_434 : decode cL_law 434 = .ok (.iconst 1, 1) := by decide +kernel
theorem dL_law_435 : decode cL_law 435 = .ok (.if_icmp .lt 104, 3) := by decide +kernel
theorem dL_law_438 : decode cL_law 438 = .ok (.aload_n 1, 1) := by decide +kernel
theorem dL_law_439 : decode cL_law 439 = .ok (.iload 12, 2) := by decide +kernel
theorem dL_law_441 : decode cL_law 441 = .ok (.iconst 1, 1) := by decide +kernel
theorem dL_law_442 : decode cL_law 442 = .ok (.invokevirtual 142, 3) := by decide +kernel
theorem dL_law_445 : decode cL_law 445 = .ok (.bipush 6, 2) := by decide +kernel
theorem dL_law_447 : decode cL_law 447 = .ok (.if_icmp .gt 92, 3) := by decide +kernel
theorem dL_law_450 : decode cL_law 450 = .ok (.iload 14, 2) := by decide +kernel
theorem dL_law_452 : decode cL_law 452 = .ok (.aload_n 1, 1) := by decide +kernel
theorem dL_law_453 : decode cL_law 453 = .ok (.iload 12, 2) := by decide +kernel
theorem dL_law_455 : decode cL_law 455 = .ok (.iconst 0, 1) := by decide +kernel
theorem dL_law_456 : decode cL_law 456 = .ok (.invokevirtual 142, 3) := by decide +kernel
theorem dL_law_459 : decode cL_law 459 = .ok (.aload_n 1, 1) := by decide +kernel
theorem dL_law_460 : decode cL_law 460 = .ok (.iload 12, 2) := by decide +kernel
theorem dL_law_462 : decode cL_law 462 = .ok (.iconst 1, 1) := by decide +kernel
theorem dL_law_463 : decode cL_law 463 = .ok (.invokevirtual 142, 3) := by decide +kernel
theorem dL_law_466 : decode cL_law 466 = .ok (.imul, 1) := by decide +kernel
theorem dL_law_467 : decode cL_law 467 = .ok (.if_icmp .ne 72, 3) := by decide +kernel
theorem dL_law_470 : decode cL_law 470 = .ok (.aload_n 1, 1) := by decide +kernel
theorem dL_law_471 : decode cL_law 471 = .ok (.iload 12, 2) := by decide +kernel
theorem dL_law_473 : decode cL_law 473 = .ok (.iconst 2, 1) := by decide +kernel
theorem dL_law_474 : decode cL_law 474 = .ok (.invokevirtual 142, 3) := by decide +kernel
theorem dL_law_477 : decode cL_law 477 = .ok (.ifCond .lt 62, 3) := by decide +kernel
theorem dL_law_480 : decode cL_law 480 = .ok (.aload_n 1, 1) := by decide +kernel
theorem dL_law_481 : decode cL_law 481 = .ok (.iload 12, 2) := by decide +kernel
theorem dL_law_483 : decode cL_law 483 = .ok (.iconst 2, 1) := by decide +kernel
theorem dL_law_484 : decode cL_law 484 = .ok (.invokevirtual 142, 3) := by decide +kernel
theorem dL_law_487 : decode cL_law 487 = .ok (.bipush 100, 2) := by decide +kernel
theorem dL_law_489 : decode cL_law 489 = .ok (.if_icmp .gt 50, 3) := by decide +kernel
theorem dL_law_492 : decode cL_law 492 = .ok (.aload_n 1, 1) := by decide +kernel
theorem dL_law_493 : decode cL_law 493 = .ok (.iload 12, 2) := by decide +kernel
theorem dL_law_495 : decode cL_law 495 = .ok (.iconst 3, 1) := by decide +kernel
theorem dL_law_496 : decode cL_law 496 = .ok (.invokevirtual 142, 3) := by decide +kernel
theorem dL_law_499 : decode cL_law 499 = .ok (.ifCond .lt 40, 3) := by decide +kernel
theorem dL_law_502 : decode cL_law 502 = .ok (.aload_n 1, 1) := by decide +kernel
theorem dL_law_503 : decode cL_law 503 = .ok (.iload 12, 2) := by decide +kernel
theorem dL_law_505 : decode cL_law 505 = .ok (.iconst 3, 1) := by decide +kernel
theorem dL_law_506 : decode cL_law 506 = .ok (.invokevirtual 142, 3) := by decide +kernel
theorem dL_law_509 : decode cL_law 509 = .ok (.bipush 100, 2) := by decide +kernel
theorem dL_law_511 : decode cL_law 511 = .ok (.if_icmp .gt 28, 3) := by decide +kernel
theorem dL_law_514 : decode cL_law 514 = .ok (.aload_n 1, 1) := by decide +kernel
theorem dL_law_515 : decode cL_law 515 = .ok (.iload 12, 2) := by decide +kernel
theorem dL_law_517 : decode cL_law 517 = .ok (.iconst 4, 1) := by decide +kernel
theorem dL_law_518 : decode cL_law 518 = .ok (.invokevirtual 142, 3) := by decide +kernel
theorem dL_law_521 : decode cL_law 521 = .ok (.ifCond .lt 18, 3) := by decide +kernel
theorem dL_law_524 : decode cL_law 524 = .ok (.aload_n 1, 1) := by decide +kernel
theorem dL_law_525 : decode cL_law 525 = .ok (.iload 12, 2) := by decide +kernel
theorem dL_law_527 : decode cL_law 527 = .ok (.iconst 4, 1) := by decide +kernel
theorem dL_law_528 : decode cL_law 528 = .ok (.invokevirtual 142, 3) := by decide +kernel
theorem dL_law_531 : decode cL_law 531 = .ok (.aload_n 1, 1) := by decide +kernel
theorem dL_law_532 : decode cL_law 532 = .ok (.iconst 0, 1) := by decide +kernel
theorem dL_law_533 : decode cL_law 533 = .ok (.invokevirtual 130, 3) := by decide +kernel
theorem dL_law_536 : decode cL_law 536 = .ok (.if_icmp .le 5, 3) := by decide +kernel
theorem dL_law_539 : decode cL_law 539 = .ok (.iconst 0, 1) := by decide +kernel
theorem dL_law_540 : decode cL_law 540 = .ok (.ireturn, 1) := by decide +kernel
theorem dL_law_541 : decode cL_law 541 = .ok (.iload 13, 2) := by decide +kernel
theorem dL_law_543 : decode cL_law 543 = .ok (.ifCond .lt 56, 3) := by decide +kernel
theorem dL_law_546 : decode cL_law 546 = .ok (.aload_n 1, 1) := by decide +kernel
theorem dL_law_547 : decode cL_law 547 = .ok (.iload 13, 2) := by decide +kernel
theorem dL_law_549 : decode cL_law 549 = .ok (.iconst 0, 1) := by decide +kernel
theorem dL_law_550 : decode cL_law 550 = .ok (.invokevirtual 133, 3) := by decide +kernel
theorem dL_law_553 : decode cL_law 553 = .ok (.iload 14, 2) := by decide +kernel
theorem dL_law_555 : decode cL_law 555 = .ok (.if_icmp .ne 42, 3) := by decide +kernel
theorem dL_law_558 : decode cL_law 558 = .ok (.aload_n 1, 1) := by decide +kernel
theorem dL_law_559 : decode cL_law 559 = .ok (.iload 13, 2) := by decide +kernel
theorem dL_law_561 : decode cL_law 561 = .ok (.iconst 2, 1) := by decide +kernel
theorem dL_law_562 : decode cL_law 562 = .ok (.invokevirtual 133, 3) := by decide +kernel
theorem dL_law_565 : decode cL_law 565 = .ok (.ifCond .ne 32, 3) := by decide +kernel
theorem dL_law_568 : decode cL_law 568 = .ok (.aload_n 1, 1) := by decide +kernel
theorem dL_law_569 : decode cL_law 569 = .ok (.iload 13, 2) := by decide +kernel
theorem dL_law_571 : decode cL_law 571 = .ok (.iconst 1, 1) := by decide +kernel
theorem dL_law_572 : decode cL_law 572 = .ok (.invokevirtual 133, 3) := by decide +kernel
theorem dL_law_575 : decode cL_law 575 = .ok (.aload_n 1, 1) := by decide +kernel
theorem dL_law_576 : decode cL_law 576 = .ok (.iload 12, 2) := by decide +kernel
theorem dL_law_578 : decode cL_law 578 = .ok (.iconst 2, 1) := by decide +kernel
theorem dL_law_579 : decode cL_law 579 = .ok (.invokevirtual 142, 3) := by decide +kernel
theorem dL_law_582 : decode cL_law 582 = .ok (.if_icmp .gt 15, 3) := by decide +kernel
theorem dL_law_585 : decode cL_law 585 = .ok (.aload_n 1, 1) := by decide +kernel
theorem dL_law_586 : decode cL_law 586 = .ok (.iload 12, 2) := by decide +kernel
theorem dL_law_588 : decode cL_law 588 = .ok (.iconst 3, 1) := by decide +kernel
theorem dL_law_589 : decode cL_law 589 = .ok (.invokevirtual 142, 3) := by decide +kernel
theorem dL_law_592 : decode cL_law 592 = .ok (.bipush 20, 2) := by decide +kernel
theorem dL_law_594 : decode cL_law 594 = .ok (.if_icmp .le 5, 3) := by decide +kernel
theorem dL_law_597 : decode cL_law 597 = .ok (.iconst 0, 1) := by decide +kernel
theorem dL_law_598 : decode cL_law 598 = .ok (.ireturn, 1) := by decide +kernel
theorem dL_law_599 : decode cL_law 599 = .ok (.iload 10, 2) := by decide +kernel
theorem dL_law_601 : decode cL_law 601 = .ok (.iload 14, 2) := by decide +kernel
theorem dL_law_603 : decode cL_law 603 = .ok (.iadd, 1) := by decide +kernel
theorem dL_law_604 : decode cL_law 604 = .ok (.istore 10, 2) := by decide +kernel
theorem dL_law_606 : decode cL_law 606 = .ok (.iload 11, 2) := by decide +kernel
theorem dL_law_608 : decode cL_law 608 = .ok (.aload_n 1, 1) := by decide +kernel
theorem dL_law_609 : decode cL_law 609 = .ok (.iload 12, 2) := by decide +kernel
theorem dL_law_611 : decode cL_law 611 = .ok (.iconst 3, 1) := by decide +kernel
theorem dL_law_612 : decode cL_law 612 = .ok (.invokevirtual 142, 3) := by decide +kernel
theorem dL_law_615 : decode cL_law 615 = .ok (.bipush 20, 2) := by decide +kernel
theorem dL_law_617 : decode cL_law 617 = .ok (.if_icmp .le 7, 3) := by decide +kernel
theorem dL_law_620 : decode cL_law 620 = .ok (.iconst 1, 1) := by decide +kernel
theorem dL_law_621 : decode cL_law 621 = .ok (.goto 4, 3) := by decide +kernel
theorem dL_law_624 : decode cL_law 624 = .ok (.iconst 0, 1) := by decide +kernel
theorem dL_law_625 : decode cL_law 625 = .ok (.iadd, 1) := by decide +kernel
theorem dL_law_626 : decode cL_law 626 = .ok (.istore 11, 2) := by decide +kernel
theorem dL_law_628 : decode cL_law 628 = .ok (.iinc 12 1, 3) := by decide +kernel
theorem dL_law_631 : decode cL_law 631 = .ok (.goto (-256), 3) := by decide +kernel
theorem dL_law_634 : decode cL_law 634 = .ok (.iconst 0, 1) := by decide +kernel
theorem dL_law_635 : decode cL_law 635 = .ok (.istore 6, 2) := by decide +kernel
theorem dL_law_637 : decode cL_law 637 = .ok (.iconst 0, 1) := by decide +kernel
theorem dL_law_638 : decode cL_law 638 = .ok (.istore 12, 2) := by decide +kernel
theorem dL_law_640 : decode cL_law 640 = .ok (.iconst 0, 1) := by decide +kernel
theorem dL_law_641 : decode cL_law 641 = .ok (.istore 13, 2) := by decide +kernel
theorem dL_law_643 : decode cL_law 643 = .ok (.iload 13, 2) := by decide +kernel
theorem dL_law_645 : decode cL_law 645 = .ok (.aload_n 1, 1) := by decide +kernel
theorem dL_law_646 : decode cL_law 646 = .ok (.iconst 3, 1) := by decide +kernel
theorem dL_law_647 : decode cL_law 647 = .ok (.invokevirtual 130, 3) := by decide +kernel
theorem dL_law_650 : decode cL_law 650 = .ok (.if_icmp .ge 134, 3) := by decide +kernel
theorem dL_law_653 : decode cL_law 653 = .ok (.aload_n 1, 1) := by decide +kernel
theorem dL_law_654 : decode cL_law 654 = .ok (.iload 13, 2) := by decide +kernel
theorem dL_law_656 : decode cL_law 656 = .ok (.iconst 2, 1) := by decide +kernel
theorem dL_law_657 : decode cL_law 657 = .ok (.invokevirtual 133, 3) := by decide +kernel
theorem dL_law_660 : decode cL_law 660 = .ok (.iconst 1, 1) := by decide +kernel
theorem dL_law_661 : decode cL_law 661 = .ok (.if_icmp .ne 7, 3) := by decide +kernel
theorem dL_law_664 : decode cL_law 664 = .ok (.iconst 1, 1) := by decide +kernel
theorem dL_law_665 : decode cL_law 665 = .ok (.goto 4, 3) := by decide +kernel
theorem dL_law_668 : decode cL_law 668 = .ok (.iconst 0, 1) := by decide +kernel
theorem dL_law_669 : decode cL_law 669 = .ok (.istore 14, 2) := by decide +kernel
theorem dL_law_671 : decode cL_law 671 = .ok (.iload 14, 2) := by decide +kernel
theorem dL_law_673 : decode cL_law 673 = .ok (.ifCond .eq 45, 3) := by decide +kernel
theorem dL_law_676 : decode cL_law 676 = .ok (.aload_n 1, 1) := by decide +kernel
theorem dL_law_677 : decode cL_law 677 = .ok (.iload 13, 2) := by decide +kernel
theorem dL_law_679 : decode cL_law 679 = .ok (.iconst 3, 1) := by decide +kernel
theorem dL_law_680 : decode cL_law 680 = .ok (.invokevirtual 133, 3) := by decide +kernel
theorem dL_law_683 : decode cL_law 683 = .ok (.aload_n 1, 1) := by decide +kernel
theorem dL_law_684 : decode cL_law 684 = .ok (.iload 13, 2) := by decide +kernel
theorem dL_law_686 : decode cL_law 686 = .ok (.iconst 1, 1) := by decide +kernel
theorem dL_law_687 : decode cL_law 687 = .ok (.invokevirtual 133, 3) := by decide +kernel
theorem dL_law_690 : decode cL_law 690 = .ok (.if_icmp .lt 50, 3) := by decide +kernel
theorem dL_law_693 : decode cL_law 693 = .ok (.aload_n 1, 1) := by decide +kernel
theorem dL_law_694 : decode cL_law 694 = .ok (.iload 13, 2) := by decide +kernel
theorem dL_law_696 : decode cL_law 696 = .ok (.iconst 4, 1) := by decide +kernel
theorem dL_law_697 : decode cL_law 697 = .ok (.invokevirtual 133, 3) := by decide +kernel
theorem dL_law_700 : decode cL_law 700 = .ok (.ifCond .lt 40, 3) := by decide +kernel
theorem dL_law_703 : decode cL_law 703 = .ok (.aload_n 1, 1) := by decide +kernel
theorem dL_law_704 : decode cL_law 704 = .ok (.iload 13, 2) := by decide +kernel
theorem dL_law_706 : decode cL_law 706 = .ok (.iconst 4, 1) := by decide +kernel
theorem dL_law_707 : decode cL_law 707 = .ok (.invokevirtual 133, 3) := by decide +kernel
theorem dL_law_710 : decode cL_law 710 = .ok (.bipush 20, 2) := by decide +kernel
theorem dL_law_712 : decode cL_law 712 = .ok (.if_icmp .le 30, 3) := by decide +kernel
theorem dL_law_715 : decode cL_law 715 = .ok (.goto 25, 3) := by decide +kernel
theorem dL_law_718 : decode cL_law 718 = .ok (.aload_n 1, 1) := by decide +kernel
theorem dL_law_719 : decode cL_law 719 = .ok (.iload 13, 2) := by decide +kernel
theorem dL_law_721 : decode cL_law 721 = .ok (.iconst 3, 1) := by decide +kernel
theorem dL_law_722 : decode cL_law 722 = .ok (.invokevirtual 133, 3) := by decide +kernel
theorem dL_law_725 : decode cL_law 725 = .ok (.iconst (-1), 1) := by decide +kernel
theorem dL_law_726 : decode cL_law 726 = .ok (.if_icmp .ne 14, 3) := by decide +kernel
theorem dL_law_729 : decode cL_law 729 = .ok (.aload_n 1, 1) := by decide +kernel
theorem dL_law_730 : decode cL_law 730 = .ok (.iload 13, 2) := by decide +kernel
theorem dL_law_732 : decode cL_law 732 = .ok (.iconst 4, 1) := by decide +kernel
theorem dL_law_733 : decode cL_law 733 = .ok (.invokevirtual 133, 3) := by decide +kernel
theorem dL_law_736 : decode cL_law 736 = .ok (.iconst (-1), 1) := by decide +kernel
theorem dL_law_737 : decode cL_law 737 = .ok (.if_icmp .eq 5, 3) := by decide +kernel
theorem dL_law_740 : decode cL_law 740 = .ok (.iconst 0, 1) := by decide +kernel
theorem dL_law_741 : decode cL_law 741 = .ok (.ireturn, 1) := by decide +kernel
theorem dL_law_742 : decode cL_law 742 = .ok (.iload 6, 2) := by decide +kernel
theorem dL_law_744 : decode cL_law 744 = .ok (.iload 14, 2) := by decide +kernel
theorem dL_law_746 : decode cL_law 746 = .ok (.ifCond .eq 13, 3) := by decide +kernel
theorem dL_law_749 : decode cL_law 749 = .ok (.aload_n 1, 1) := by decide +kernel
theorem dL_law_750 : decode cL_law 750 = .ok (.iload 13, 2) := by decide +kernel
theorem dL_law_752 : decode cL_law 752 = .ok (.iconst 0, 1) := by decide +kernel
theorem dL_law_753 : decode cL_law 753 = .ok (.invokevirtual 133, 3) := by decide +kernel
theorem dL_law_756 : decode cL_law 756 = .ok (.goto 4, 3) := by decide +kernel
theorem dL_law_759 : decode cL_law 759 = .ok (.iconst 0, 1) := by decide +kernel
theorem dL_law_760 : decode cL_law 760 = .ok (.iadd, 1) := by decide +kernel
theorem dL_law_761 : decode cL_law 761 = .ok (.istore 6, 2) := by decide +kernel
theorem dL_law_763 : decode cL_law 763 = .ok (.iload 12, 2) := by decide +kernel
theorem dL_law_765 : decode cL_law 765 = .ok (.iload 14, 2) := by decide +kernel
theorem dL_law_767 : decode cL_law 767 = .ok (.ifCond .eq 7, 3) := by decide +kernel
theorem dL_law_770 : decode cL_law 770 = .ok (.iconst 1, 1) := by decide +kernel
theorem dL_law_771 : decode cL_law 771 = .ok (.goto 4, 3) := by decide +kernel
theorem dL_law_774 : decode cL_law 774 = .ok (.iconst 0, 1) := by decide +kernel
theorem dL_law_775 : decode cL_law 775 = .ok (.iadd, 1) := by decide +kernel
theorem dL_law_776 : decode cL_law 776 = .ok (.istore 12, 2) := by decide +kernel
theorem dL_law_778 : decode cL_law 778 = .ok (.iinc 13 1, 3) := by decide +kernel
theorem dL_law_781 : decode cL_law 781 = .ok (.goto (-138), 3) := by decide +kernel
theorem dL_law_784 : decode cL_law 784 = .ok (.iload 9, 2) := by decide +kernel
theorem dL_law_786 : decode cL_law 786 = .ok (.aload_n 1, 1) := by decide +kernel
theorem dL_law_787 : decode cL_law 787 = .ok (.iconst 5, 1) := by decide +kernel
theorem dL_law_788 : decode cL_law 788 = .ok (.invokevirtual 130, 3) := by decide +kernel
theorem dL_law_791 : decode cL_law 791 = .ok (.if_icmp .ne 61, 3) := by decide +kernel
theorem dL_law_794 : decode cL_law 794 = .ok (.iload 10, 2) := by decide +kernel
theorem dL_law_796 : decode cL_law 796 = .ok (.aload_n 1, 1) := by decide +kernel
theorem dL_law_797 : decode cL_law 797 = .ok (.bipush 6, 2) := by decide +kernel
theorem dL_law_799 : decode cL_law 799 = .ok (.invokevirtual 130, 3) := by decide +kernel
theorem dL_law_802 : decode cL_law 802 = .ok (.if_icmp .ne 50, 3) := by decide +kernel
theorem dL_law_805 : decode cL_law 805 = .ok (.iload 11, 2) := by decide +kernel
theorem dL_law_807 : decode cL_law 807 = .ok (.aload_n 1, 1) := by decide +kernel
theorem dL_law_808 : decode cL_law 808 = .ok (.bipush 7, 2) := by decide +kernel
theorem dL_law_810 : decode cL_law 810 = .ok (.invokevirtual 130, 3) := by decide +kernel
theorem dL_law_813 : decode cL_law 813 = .ok (.if_icmp .ne 39, 3) := by decide +kernel
theorem dL_law_816 : decode cL_law 816 = .ok (.iload 12, 2) := by decide +kernel
theorem dL_law_818 : decode cL_law 818 = .ok (.aload_n 1, 1) := by decide +kernel
theorem dL_law_819 : decode cL_law 819 = .ok (.iconst 4, 1) := by decide +kernel
theorem dL_law_820 : decode cL_law 820 = .ok (.invokevirtual 130, 3) := by decide +kernel
theorem dL_law_823 : decode cL_law 823 = .ok (.if_icmp .ne 29, 3) := by decide +kernel
theorem dL_law_826 : decode cL_law 826 = .ok (.iload 12, 2) := by decide +kernel
theorem dL_law_828 : decode cL_law 828 = .ok (.iload 8, 2) := by decide +kernel
theorem dL_law_830 : decode cL_law 830 = .ok (.if_icmp .lt 22, 3) := by decide +kernel
theorem dL_law_833 : decode cL_law 833 = .ok (.iload 9, 2) := by decide +kernel
theorem dL_law_835 : decode cL_law 835 = .ok (.bipush 10, 2) := by decide +kernel
theorem dL_law_837 : decode cL_law 837 = .ok (.iload 10, 2) := by decide +kernel
theorem dL_law_839 : decode cL_law 839 = .ok (.imul, 1) := by decide +kernel
theorem dL_law_840 : decode cL_law 840 = .ok (.iadd, 1) := by decide +kernel
theorem dL_law_841 : decode cL_law 841 = .ok (.bipush 10, 2) := by decide +kernel
theorem dL_law_843 : decode cL_law 843 = .ok (.iload 6, 2) := by decide +kernel
theorem dL_law_845 : decode cL_law 845 = .ok (.imul, 1) := by decide +kernel
theorem dL_law_846 : decode cL_law 846 = .ok (.iadd, 1) := by decide +kernel
theorem dL_law_847 : decode cL_law 847 = .ok (.iload 7, 2) := by decide +kernel
theorem dL_law_849 : decode cL_law 849 = .ok (.if_icmp .eq 5, 3) := by decide +kernel
theorem dL_law_852 : decode cL_law 852 = .ok (.iconst 0, 1) := by decide +kernel
theorem dL_law_853 : decode cL_law 853 = .ok (.ireturn, 1) := by decide +kernel
theorem dL_law_854 : decode cL_law 854 = .ok (.aload_n 1, 1) := by decide +kernel
theorem dL_law_855 : decode cL_law 855 = .ok (.iconst 2, 1) := by decide +kernel
theorem dL_law_856 : decode cL_law 856 = .ok (.invokevirtual 130, 3) := by decide +kernel
theorem dL_law_859 : decode cL_law 859 = .ok (.ifCond .ne 6, 3) := by decide +kernel
theorem dL_law_862 : decode cL_law 862 = .ok (.goto 80, 3) := by decide +kernel
theorem dL_law_865 : decode cL_law 865 = .ok (.iload 4, 2) := by decide +kernel
theorem dL_law_867 : decode cL_law 867 = .ok (.iconst 1, 1) := by decide +kernel
theorem dL_law_868 : decode cL_law 868 = .ok (.ishr, 1) := by decide +kernel
theorem dL_law_869 : decode cL_law 869 = .ok (.aload_n 1, 1) := by decide +kernel
theorem dL_law_870 : decode cL_law 870 = .ok (.iconst 2, 1) := by decide +kernel
theorem dL_law_871 : decode cL_law 871 = .ok (.invokevirtual 130, 3) := by decide +kernel
theorem dL_law_874 : decode cL_law 874 = .ok (.invokestatic 19, 3) := by decide +kernel
theorem dL_law_877 : decode cL_law 877 = .ok (.istore 13, 2) := by decide +kernel
theorem dL_law_879 : decode cL_law 879 = .ok (.aload_n 1, 1) := by decide +kernel
theorem dL_law_880 : decode cL_law 880 = .ok (.iload 13, 2) := by decide +kernel
theorem dL_law_882 : decode cL_law 882 = .ok (.iconst 3, 1) := by decide +kernel
theorem dL_law_883 : decode cL_law 883 = .ok (.invokevirtual 142, 3) := by decide +kernel
theorem dL_law_886 : decode cL_law 886 = .ok (.istore 14, 2) := by decide +kernel
theorem dL_law_888 : decode cL_law 888 = .ok (.aload_n 1, 1) := by decide +kernel
theorem dL_law_889 : decode cL_law 889 = .ok (.iload 13, 2) := by decide +kernel
theorem dL_law_891 : decode cL_law 891 = .ok (.invokevirtual 97, 3) := by decide +kernel
theorem dL_law_894 : decode cL_law 894 = .ok (.istore 15, 2) := by decide +kernel
theorem dL_law_896 : decode cL_law 896 = .ok (.aload_n 2, 1) := by decide +kernel
theorem dL_law_897 : decode cL_law 897 = .ok (.getfield 15, 3) := by decide +kernel
theorem dL_law_900 : decode cL_law 900 = .ok (.iload 13, 2) := by decide +kernel
theorem dL_law_902 : decode cL_law 902 = .ok (.aaload, 1) := by decide +kernel
theorem dL_law_903 : decode cL_law 903 = .ok (.iconst 3, 1) := by decide +kernel
theorem dL_law_904 : decode cL_law 904 = .ok (.iconst 0, 1) := by decide +kernel
theorem dL_law_905 : decode cL_law 905 = .ok (.iload 14, 2) := by decide +kernel
theorem dL_law_907 : decode cL_law 907 = .ok (.bipush 15, 2) := by decide +kernel
theorem dL_law_909 : decode cL_law 909 = .ok (.isub, 1) := by decide +kernel
theorem dL_law_910 : decode cL_law 910 = .ok (.invokestatic 139, 3) := by decide +kernel
theorem dL_law_913 : decode cL_law 913 = .ok (.iastore, 1) := by decide +kernel
theorem dL_law_914 : decode cL_law 914 = .ok (.iload 15, 2) := by decide +kernel
theorem dL_law_916 : decode cL_law 916 = .ok (.iconst 0, 1) := by decide +kernel
theorem dL_law_917 : decode cL_law 917 = .ok (.iload 14, 2) := by decide +kernel
theorem dL_law_919 : decode cL_law 919 = .ok (.bipush 15, 2) := by decide +kernel
theorem dL_law_921 : decode cL_law 921 = .ok (.isub, 1) := by decide +kernel
theorem dL_law_922 : decode cL_law 922 = .ok (.invokestatic 139, 3) := by decide +kernel
theorem dL_law_925 : decode cL_law 925 = .ok (.if_icmp .ne 15, 3) := by decide +kernel
theorem dL_law_928 : decode cL_law 928 = .ok (.aload_n 1, 1) := by decide +kernel
theorem dL_law_929 : decode cL_law 929 = .ok (.iload 13, 2) := by decide +kernel
theorem dL_law_931 : decode cL_law 931 = .ok (.iconst 3, 1) := by decide +kernel
theorem dL_law_932 : decode cL_law 932 = .ok (.invokevirtual 142, 3) := by decide +kernel
theorem dL_law_935 : decode cL_law 935 = .ok (.iload 15, 2) := by decide +kernel
theorem dL_law_937 : decode cL_law 937 = .ok (.if_icmp .eq 5, 3) := by decide +kernel
theorem dL_law_940 : decode cL_law 940 = .ok (.iconst 0, 1) := by decide +kernel
theorem dL_law_941 : decode cL_law 941 = .ok (.ireturn, 1) := by decide +kernel
theorem dL_law_942 : decode cL_law 942 = .ok (.iinc 3 1, 3) := by decide +kernel
theorem dL_law_945 : decode cL_law 945 = .ok (.goto (-923), 3) := by decide +kernel
theorem dL_law_948 : decode cL_law 948 = .ok (.aload_n 2, 1) := by decide +kernel
theorem dL_law_949 : decode cL_law 949 = .ok (.aload_n 1, 1) := by decide +kernel
theorem dL_law_950 : decode cL_law 950 = .ok (.invokevirtual 145, 3) := by decide +kernel
theorem dL_law_953 : decode cL_law 953 = .ok (.ireturn, 1) := by decide +kernel
