theorem dX0_init_0 : decode cX0_init 0 = .ok (.aload_n 0, 1) := by decide +kernel
theorem dX0_init_1 : decode cX0_init 1 = .ok (.invokespecial 1, 3) := by decide +kernel
theorem dX0_init_4 : decode cX0_init 4 = .ok (.aload_n 0, 1) := by decide +kernel
theorem dX0_init_5 : decode cX0_init 5 = .ok (.new 7, 3) := by decide +kernel
theorem dX0_init_8 : decode cX0_init 8 = .ok (.dup, 1) := by decide +kernel
theorem dX0_init_9 : decode cX0_init 9 = .ok (.invokespecial 9, 3) := by decide +kernel
theorem dX0_init_12 : decode cX0_init 12 = .ok (.putfield 10, 3) := by decide +kernel
theorem dX0_init_15 : decode cX0_init 15 = .ok (.aload_n 0, 1) := by decide +kernel
theorem dX0_init_16 : decode cX0_init 16 = .ok (.iload_n 1, 1) := by decide +kernel
theorem dX0_init_17 : decode cX0_init 17 = .ok (.putfield 16, 3) := by decide +kernel
theorem dX0_init_20 : decode cX0_init 20 = .ok (.aload_n 0, 1) := by decide +kernel
theorem dX0_init_21 : decode cX0_init 21 = .ok (.bipush 20, 2) := by decide +kernel
theorem dX0_init_23 : decode cX0_init 23 = .ok (.putfield 20, 3) := by decide +kernel
theorem dX0_init_26 : decode cX0_init 26 = .ok (.return_, 1) := by decide +kernel
theorem dX0_takeIn_0 : decode cX0_takeIn 0 = .ok (.iconst 1, 1) := by decide +kernel
theorem dX0_takeIn_1 : decode cX0_takeIn 1 = .ok (.istore_n 2, 1) := by decide +kernel
theorem dX0_takeIn_2 : decode cX0_takeIn 2 = .ok (.iload_n 2, 1) := by decide +kernel
theorem dX0_takeIn_3 : decode cX0_takeIn 3 = .ok (.iconst 5, 1) := by decide +kernel
theorem dX0_takeIn_4 : decode cX0_takeIn 4 = .ok (.if_icmp .gt 44, 3) := by decide +kernel
theorem dX0_takeIn_7 : decode cX0_takeIn 7 = .ok (.aload_n 0, 1) := by decide +kernel
theorem dX0_takeIn_8 : decode cX0_takeIn 8 = .ok (.getfield 10, 3) := by decide +kernel
theorem dX0_takeIn_11 : decode cX0_takeIn 11 = .ok (.getfield 23, 3) := by decide +kernel
theorem dX0_takeIn_14 : decode cX0_takeIn 14 = .ok (.iload_n 2, 1) := by decide +kernel
theorem dX0_takeIn_15 : decode cX0_takeIn 15 = .ok (.aload_n 0, 1) := by decide +kernel
theorem dX0_takeIn_16 : decode cX0_takeIn 16 = .ok (.aload_n 0, 1) := by decide +kernel
theorem dX0_takeIn_17 : decode cX0_takeIn 17 = .ok (.getfield 10, 3) := by decide +kernel
theorem dX0_takeIn_20 : decode cX0_takeIn 20 = .ok (.getfield 23, 3) := by decide +kernel
theorem dX0_takeIn_23 : decode cX0_takeIn 23 = .ok (.iload_n 2, 1) := by decide +kernel
theorem dX0_takeIn_24 : decode cX0_takeIn 24 = .ok (.iaload, 1) := by decide +kernel
theorem dX0_takeIn_25 : decode cX0_takeIn 25 = .ok (.aload_n 1, 1) := by decide +kernel
theorem dX0_takeIn_26 : decode cX0_takeIn 26 = .ok (.getfield 10, 3) := by decide +kernel
theorem dX0_takeIn_29 : decode cX0_takeIn 29 = .ok (.getfield 23, 3) := by decide +kernel
theorem dX0_takeIn_32 : decode cX0_takeIn 32 = .ok (.iload_n 2, 1) := by decide +kernel
theorem dX0_takeIn_33 : decode cX0_takeIn 33 = .ok (.iaload, 1) := by decide +kernel
theorem dX0_takeIn_34 : decode cX0_takeIn 34 = .ok (.aload_n 1, 1) := by decide +kernel
theorem dX0_takeIn_35 : decode cX0_takeIn 35 = .ok (.getfield 16, 3) := by decide +kernel
theorem dX0_takeIn_38 : decode cX0_takeIn 38 = .ok (.invokevirtual 27, 3) := by decide +kernel
theorem dX0_takeIn_41 : decode cX0_takeIn 41 = .ok (.iastore, 1) := by decide +kernel
theorem dX0_takeIn_42 : decode cX0_takeIn 42 = .ok (.iinc 2 1, 3) := by decide +kernel
theorem dX0_takeIn_45 : decode cX0_takeIn 45 = .ok (.goto (-43), 3) := by decide +kernel
theorem dX0_takeIn_48 : decode cX0_takeIn 48 = .ok (.aload_n 0, 1) := by decide +kernel
theorem dX0_takeIn_49 : decode cX0_takeIn 49 = .ok (.aload_n 0, 1) := by decide +kernel
theorem dX0_takeIn_50 : decode cX0_takeIn 50 = .ok (.aload_n 0, 1) := by decide +kernel
theorem dX0_takeIn_51 : decode cX0_takeIn 51 = .ok (.getfield 20, 3) := by decide +kernel
theorem dX0_takeIn_54 : decode cX0_takeIn 54 = .ok (.aload_n 1, 1) := by decide +kernel
theorem dX0_takeIn_55 : decode cX0_takeIn 55 = .ok (.getfield 20, 3) := by decide +kernel
theorem dX0_takeIn_58 : decode cX0_takeIn 58 = .ok (.aload_n 1, 1) := by decide +kernel
theorem dX0_takeIn_59 : decode cX0_takeIn 59 = .ok (.getfield 16, 3) := by decide +kernel
theorem dX0_takeIn_62 : decode cX0_takeIn 62 = .ok (.invokevirtual 27, 3) := by decide +kernel
theorem dX0_takeIn_65 : decode cX0_takeIn 65 = .ok (.putfield 20, 3) := by decide +kernel
theorem dX0_takeIn_68 : decode cX0_takeIn 68 = .ok (.aload_n 0, 1) := by decide +kernel
theorem dX0_takeIn_69 : decode cX0_takeIn 69 = .ok (.dup, 1) := by decide +kernel
theorem dX0_takeIn_70 : decode cX0_takeIn 70 = .ok (.getfield 16, 3) := by decide +kernel
theorem dX0_takeIn_73 : decode cX0_takeIn 73 = .ok (.aload_n 1, 1) := by decide +kernel
theorem dX0_takeIn_74 : decode cX0_takeIn 74 = .ok (.getfield 16, 3) := by decide +kernel
theorem dX0_takeIn_77 : decode cX0_takeIn 77 = .ok (.iadd, 1) := by decide +kernel
theorem dX0_takeIn_78 : decode cX0_takeIn 78 = .ok (.putfield 16, 3) := by decide +kernel
theorem dX0_takeIn_81 : decode cX0_takeIn 81 = .ok (.aload_n 1, 1) := by decide +kernel
theorem dX0_takeIn_82 : decode cX0_takeIn 82 = .ok (.iconst 0, 1) := by decide +kernel
theorem dX0_takeIn_83 : decode cX0_takeIn 83 = .ok (.putfield 16, 3) := by decide +kernel
theorem dX0_takeIn_86 : decode cX0_takeIn 86 = .ok (.aload_n 1, 1) := by decide +kernel
theorem dX0_takeIn_87 : decode cX0_takeIn 87 = .ok (.getfield 10, 3) := by decide +kernel
theorem dX0_takeIn_90 : decode cX0_takeIn 90 = .ok (.invokevirtual 31, 3) := by decide +kernel
theorem dX0_takeIn_93 : decode cX0_takeIn 93 = .ok (.return_, 1) := by decide +kernel
theorem dX0_mixed_0 : decode cX0_mixed 0 = .ok (.aload_n 0, 1) := by decide +kernel
theorem dX0_mixed_1 : decode cX0_mixed 1 = .ok (.getfield 16, 3) := by decide +kernel
theorem dX0_mixed_4 : decode cX0_mixed 4 = .ok (.iload_n 3, 1) := by decide +kernel
theorem dX0_mixed_5 : decode cX0_mixed 5 = .ok (.iadd, 1) := by decide +kernel
theorem dX0_mixed_6 : decode cX0_mixed 6 = .ok (.istore 4, 2) := by decide +kernel
theorem dX0_mixed_8 : decode cX0_mixed 8 = .ok (.iload 4, 2) := by decide +kernel
theorem dX0_mixed_10 : decode cX0_mixed 10 = .ok (.ifCond .gt 7, 3) := by decide +kernel
theorem dX0_mixed_13 : decode cX0_mixed 13 = .ok (.iload_n 1, 1) := by decide +kernel
theorem dX0_mixed_14 : decode cX0_mixed 14 = .ok (.goto 16, 3) := by decide +kernel
theorem dX0_mixed_17 : decode cX0_mixed 17 = .ok (.iload_n 1, 1) := by decide +kernel
theorem dX0_mixed_18 : decode cX0_mixed 18 = .ok (.aload_n 0, 1) := by decide +kernel
theorem dX0_mixed_19 : decode cX0_mixed 19 = .ok (.getfield 16, 3) := by decide +kernel
theorem dX0_mixed_22 : decode cX0_mixed 22 = .ok (.imul, 1) := by decide +kernel
theorem dX0_mixed_23 : decode cX0_mixed 23 = .ok (.iload_n 2, 1) := by decide +kernel
theorem dX0_mixed_24 : decode cX0_mixed 24 = .ok (.iload_n 3, 1) := by decide +kernel
theorem dX0_mixed_25 : decode cX0_mixed 25 = .ok (.imul, 1) := by decide +kernel
theorem dX0_mixed_26 : decode cX0_mixed 26 = .ok (.iadd, 1) := by decide +kernel
theorem dX0_mixed_27 : decode cX0_mixed 27 = .ok (.iload 4, 2) := by decide +kernel
theorem dX0_mixed_29 : decode cX0_mixed 29 = .ok (.idiv, 1) := by decide +kernel
theorem dX0_mixed_30 : decode cX0_mixed 30 = .ok (.ireturn, 1) := by decide +kernel
theorem dX1_init_0 : decode cX1_init 0 = .ok (.aload_n 0, 1) := by decide +kernel
theorem dX1_init_1 : decode cX1_init 1 = .ok (.invokespecial 3, 3) := by decide +kernel
theorem dX1_init_4 : decode cX1_init 4 = .ok (.aload_n 0, 1) := by decide +kernel
theorem dX1_init_5 : decode cX1_init 5 = .ok (.iload_n 1, 1) := by decide +kernel
theorem dX1_init_6 : decode cX1_init 6 = .ok (.putfield 9, 3) := by decide +kernel
theorem dX1_init_9 : decode cX1_init 9 = .ok (.aload_n 0, 1) := by decide +kernel
theorem dX1_init_10 : decode cX1_init 10 = .ok (.iload_n 2, 1) := by decide +kernel
theorem dX1_init_11 : decode cX1_init 11 = .ok (.putfield 15, 3) := by decide +kernel
theorem dX1_init_14 : decode cX1_init 14 = .ok (.aload_n 0, 1) := by decide +kernel
theorem dX1_init_15 : decode cX1_init 15 = .ok (.iconst (-1), 1) := by decide +kernel
theorem dX1_init_16 : decode cX1_init 16 = .ok (.putfield 18, 3) := by decide +kernel
theorem dX1_init_19 : decode cX1_init 19 = .ok (.aload_n 0, 1) := by decide +kernel
theorem dX1_init_20 : decode cX1_init 20 = .ok (.iconst (-1), 1) := by decide +kernel
theorem dX1_init_21 : decode cX1_init 21 = .ok (.putfield 21, 3) := by decide +kernel
theorem dX1_init_24 : decode cX1_init 24 = .ok (.return_, 1) := by decide +kernel
theorem dX1_suits_0 : decode cX1_suits 0 = .ok (.aload_n 1, 1) := by decide +kernel
theorem dX1_suits_1 : decode cX1_suits 1 = .ok (.invokevirtual 24, 3) := by decide +kernel
theorem dX1_suits_4 : decode cX1_suits 4 = .ok (.aload_n 0, 1) := by decide +kernel
theorem dX1_suits_5 : decode cX1_suits 5 = .ok (.getfield 9, 3) := by decide +kernel
theorem dX1_suits_8 : decode cX1_suits 8 = .ok (.if_icmp .ne 24, 3) := by decide +kernel
theorem dX1_suits_11 : decode cX1_suits 11 = .ok (.aload_n 1, 1) := by decide +kernel
theorem dX1_suits_12 : decode cX1_suits 12 = .ok (.getfield 29, 3) := by decide +kernel
theorem dX1_suits_15 : decode cX1_suits 15 = .ok (.aload_n 0, 1) := by decide +kernel
theorem dX1_suits_16 : decode cX1_suits 16 = .ok (.getfield 15, 3) := by decide +kernel
theorem dX1_suits_19 : decode cX1_suits 19 = .ok (.if_icmp .lt 13, 3) := by decide +kernel
theorem dX1_suits_22 : decode cX1_suits 22 = .ok (.iload_n 2, 1) := by decide +kernel
theorem dX1_suits_23 : decode cX1_suits 23 = .ok (.bipush 20, 2) := by decide +kernel
theorem dX1_suits_25 : decode cX1_suits 25 = .ok (.if_icmp .gt 7, 3) := by decide +kernel
theorem dX1_suits_28 : decode cX1_suits 28 = .ok (.iconst 1, 1) := by decide +kernel
theorem dX1_suits_29 : decode cX1_suits 29 = .ok (.goto 4, 3) := by decide +kernel
theorem dX1_suits_32 : decode cX1_suits 32 = .ok (.iconst 0, 1) := by decide +kernel
theorem dX1_suits_33 : decode cX1_suits 33 = .ok (.ireturn, 1) := by decide +kernel
theorem dX1_take_0 : decode cX1_take 0 = .ok (.aload_n 0, 1) := by decide +kernel
theorem dX1_take_1 : decode cX1_take 1 = .ok (.iconst 1, 1) := by decide +kernel
theorem dX1_take_2 : decode cX1_take 2 = .ok (.putfield 30, 3) := by decide +kernel
theorem dX1_take_5 : decode cX1_take 5 = .ok (.aload_n 0, 1) := by decide +kernel
theorem dX1_take_6 : decode cX1_take 6 = .ok (.aload_n 1, 1) := by decide +kernel
theorem dX1_take_7 : decode cX1_take 7 = .ok (.getfield 29, 3) := by decide +kernel
theorem dX1_take_10 : decode cX1_take 10 = .ok (.putfield 18, 3) := by decide +kernel
theorem dX1_take_13 : decode cX1_take 13 = .ok (.aload_n 0, 1) := by decide +kernel
theorem dX1_take_14 : decode cX1_take 14 = .ok (.aload_n 1, 1) := by decide +kernel
theorem dX1_take_15 : decode cX1_take 15 = .ok (.getfield 34, 3) := by decide +kernel
theorem dX1_take_18 : decode cX1_take 18 = .ok (.putfield 21, 3) := by decide +kernel
theorem dX1_take_21 : decode cX1_take 21 = .ok (.return_, 1) := by decide +kernel
theorem dX2_init_0 : decode cX2_init 0 = .ok (.aload_n 0, 1) := by decide +kernel
theorem dX2_init_1 : decode cX2_init 1 = .ok (.invokespecial 3, 3) := by decide +kernel
theorem dX2_init_4 : decode cX2_init 4 = .ok (.aload_n 0, 1) := by decide +kernel
theorem dX2_init_5 : decode cX2_init 5 = .ok (.bipush 6, 2) := by decide +kernel
theorem dX2_init_7 : decode cX2_init 7 = .ok (.newarray .int, 2) := by decide +kernel
theorem dX2_init_9 : decode cX2_init 9 = .ok (.putfield 11, 3) := by decide +kernel
theorem dX2_init_12 : decode cX2_init 12 = .ok (.return_, 1) := by decide +kernel
theorem dX2_becomeLike_0 : decode cX2_becomeLike 0 = .ok (.iconst 1, 1) := by decide +kernel
theorem dX2_becomeLike_1 : decode cX2_becomeLike 1 = .ok (.istore_n 2, 1) := by decide +kernel
theorem dX2_becomeLike_2 : decode cX2_becomeLike 2 = .ok (.iload_n 2, 1) := by decide +kernel
theorem dX2_becomeLike_3 : decode cX2_becomeLike 3 = .ok (.iconst 5, 1) := by decide +kernel
theorem dX2_becomeLike_4 : decode cX2_becomeLike 4 = .ok (.if_icmp .gt 21, 3) := by decide +kernel
theorem dX2_becomeLike_7 : decode cX2_becomeLike 7 = .ok (.aload_n 0, 1) := by decide +kernel
theorem dX2_becomeLike_8 : decode cX2_becomeLike 8 = .ok (.getfield 11, 3) := by decide +kernel
theorem dX2_becomeLike_11 : decode cX2_becomeLike 11 = .ok (.iload_n 2, 1) := by decide +kernel
theorem dX2_becomeLike_12 : decode cX2_becomeLike 12 = .ok (.aload_n 1, 1) := by decide +kernel
theorem dX2_becomeLike_13 : decode cX2_becomeLike 13 = .ok (.getfield 11, 3) := by decide +kernel
theorem dX2_becomeLike_16 : decode cX2_becomeLike 16 = .ok (.iload_n 2, 1) := by decide +kernel
theorem dX2_becomeLike_17 : decode cX2_becomeLike 17 = .ok (.iaload, 1) := by decide +kernel
theorem dX2_becomeLike_18 : decode cX2_becomeLike 18 = .ok (.iastore, 1) := by decide +kernel
theorem dX2_becomeLike_19 : decode cX2_becomeLike 19 = .ok (.iinc 2 1, 3) := by decide +kernel
theorem dX2_becomeLike_22 : decode cX2_becomeLike 22 = .ok (.goto (-20), 3) := by decide +kernel
theorem dX2_becomeLike_25 : decode cX2_becomeLike 25 = .ok (.return_, 1) := by decide +kernel
theorem dX2_vanish_0 : decode cX2_vanish 0 = .ok (.iconst 1, 1) := by decide +kernel
theorem dX2_vanish_1 : decode cX2_vanish 1 = .ok (.istore_n 1, 1) := by decide +kernel
theorem dX2_vanish_2 : decode cX2_vanish 2 = .ok (.iload_n 1, 1) := by decide +kernel
theorem dX2_vanish_3 : decode cX2_vanish 3 = .ok (.iconst 5, 1) := by decide +kernel
theorem dX2_vanish_4 : decode cX2_vanish 4 = .ok (.if_icmp .gt 16, 3) := by decide +kernel
theorem dX2_vanish_7 : decode cX2_vanish 7 = .ok (.aload_n 0, 1) := by decide +kernel
theorem dX2_vanish_8 : decode cX2_vanish 8 = .ok (.getfield 11, 3) := by decide +kernel
theorem dX2_vanish_11 : decode cX2_vanish 11 = .ok (.iload_n 1, 1) := by decide +kernel
theorem dX2_vanish_12 : decode cX2_vanish 12 = .ok (.iconst 0, 1) := by decide +kernel
theorem dX2_vanish_13 : decode cX2_vanish 13 = .ok (.iastore, 1) := by decide +kernel
theorem dX2_vanish_14 : decode cX2_vanish 14 = .ok (.iinc 1 1, 3) := by decide +kernel
theorem dX2_vanish_17 : decode cX2_vanish 17 = .ok (.goto (-15), 3) := by decide +kernel
theorem dX2_vanish_20 : decode cX2_vanish 20 = .ok (.return_, 1) := by decide +kernel
theorem dX2_keepAt_0 : decode cX2_keepAt 0 = .ok (.iconst 0, 1) := by decide +kernel
theorem dX2_keepAt_1 : decode cX2_keepAt 1 = .ok (.istore_n 3, 1) := by decide +kernel
theorem dX2_keepAt_2 : decode cX2_keepAt 2 = .ok (.iload_n 3, 1) := by decide +kernel
theorem dX2_keepAt_3 : decode cX2_keepAt 3 = .ok (.iload_n 2, 1) := by decide +kernel
theorem dX2_keepAt_4 : decode cX2_keepAt 4 = .ok (.if_icmp .ge 19, 3) := by decide +kernel
theorem dX2_keepAt_7 : decode cX2_keepAt 7 = .ok (.aload_n 0, 1) := by decide +kernel
theorem dX2_keepAt_8 : decode cX2_keepAt 8 = .ok (.iload_n 1, 1) := by decide +kernel
theorem dX2_keepAt_9 : decode cX2_keepAt 9 = .ok (.invokevirtual 15, 3) := by decide +kernel
theorem dX2_keepAt_12 : decode cX2_keepAt 12 = .ok (.aload_n 0, 1) := by decide +kernel
theorem dX2_keepAt_13 : decode cX2_keepAt 13 = .ok (.iload_n 1, 1) := by decide +kernel
theorem dX2_keepAt_14 : decode cX2_keepAt 14 = .ok (.invokevirtual 19, 3) := by decide +kernel
theorem dX2_keepAt_17 : decode cX2_keepAt 17 = .ok (.iinc 3 1, 3) := by decide +kernel
theorem dX2_keepAt_20 : decode cX2_keepAt 20 = .ok (.goto (-18), 3) := by decide +kernel
theorem dX2_keepAt_23 : decode cX2_keepAt 23 = .ok (.return_, 1) := by decide +kernel
theorem dX2_halveWhatMelts_0 : decode cX2_halveWhatMelts 0 = .ok (.iconst 1, 1) := by decide +kernel
theorem dX2_halveWhatMelts_1 : decode cX2_halveWhatMelts 1 = .ok (.istore_n 2, 1) := by decide +kernel
theorem dX2_halveWhatMelts_2 : decode cX2_halveWhatMelts 2 = .ok (.iload_n 2, 1) := by decide +kernel
theorem dX2_halveWhatMelts_3 : decode cX2_halveWhatMelts 3 = .ok (.iconst 5, 1) := by decide +kernel
theorem dX2_halveWhatMelts_4 : decode cX2_halveWhatMelts 4 = .ok (.if_icmp .gt 27, 3) := by decide +kernel
theorem dX2_halveWhatMelts_7 : decode cX2_halveWhatMelts 7 = .ok (.iload_n 1, 1) := by decide +kernel
theorem dX2_halveWhatMelts_8 : decode cX2_halveWhatMelts 8 = .ok (.iload_n 2, 1) := by decide +kernel
theorem dX2_halveWhatMelts_9 : decode cX2_halveWhatMelts 9 = .ok (.invokestatic 22, 3) := by decide +kernel
theorem dX2_halveWhatMelts_12 : decode cX2_halveWhatMelts 12 = .ok (.if_icmp .lt 13, 3) := by decide +kernel
theorem dX2_halveWhatMelts_15 : decode cX2_halveWhatMelts 15 = .ok (.aload_n 0, 1) := by decide +kernel
theorem dX2_halveWhatMelts_16 : decode cX2_halveWhatMelts 16 = .ok (.getfield 11, 3) := by decide +kernel
theorem dX2_halveWhatMelts_19 : decode cX2_halveWhatMelts 19 = .ok (.iload_n 2, 1) := by decide +kernel
theorem dX2_halveWhatMelts_20 : decode cX2_halveWhatMelts 20 = .ok (.dup2, 1) := by decide +kernel
theorem dX2_halveWhatMelts_21 : decode cX2_halveWhatMelts 21 = .ok (.iaload, 1) := by decide +kernel
theorem dX2_halveWhatMelts_22 : decode cX2_halveWhatMelts 22 = .ok (.iconst 2, 1) := by decide +kernel
theorem dX2_halveWhatMelts_23 : decode cX2_halveWhatMelts 23 = .ok (.idiv, 1) := by decide +kernel
theorem dX2_halveWhatMelts_24 : decode cX2_halveWhatMelts 24 = .ok (.iastore, 1) := by decide +kernel
theorem dX2_halveWhatMelts_25 : decode cX2_halveWhatMelts 25 = .ok (.iinc 2 1, 3) := by decide +kernel
theorem dX2_halveWhatMelts_28 : decode cX2_halveWhatMelts 28 = .ok (.goto (-26), 3) := by decide +kernel
theorem dX2_halveWhatMelts_31 : decode cX2_halveWhatMelts 31 = .ok (.return_, 1) := by decide +kernel
theorem dX2_letGrow_0 : decode cX2_letGrow 0 = .ok (.iload_n 1, 1) := by decide +kernel
theorem dX2_letGrow_1 : decode cX2_letGrow 1 = .ok (.bipush 34, 2) := by decide +kernel
theorem dX2_letGrow_3 : decode cX2_letGrow 3 = .ok (.if_icmp .ge 24, 3) := by decide +kernel
theorem dX2_letGrow_6 : decode cX2_letGrow 6 = .ok (.iload_n 1, 1) := by decide +kernel
theorem dX2_letGrow_7 : decode cX2_letGrow 7 = .ok (.invokestatic 26, 3) := by decide +kernel
theorem dX2_letGrow_10 : decode cX2_letGrow 10 = .ok (.istore_n 2, 1) := by decide +kernel
theorem dX2_letGrow_11 : decode cX2_letGrow 11 = .ok (.aload_n 0, 1) := by decide +kernel
theorem dX2_letGrow_12 : decode cX2_letGrow 12 = .ok (.iload_n 2, 1) := by decide +kernel
theorem dX2_letGrow_13 : decode cX2_letGrow 13 = .ok (.bipush 8, 2) := by decide +kernel
theorem dX2_letGrow_15 : decode cX2_letGrow 15 = .ok (.aload_n 0, 1) := by decide +kernel
theorem dX2_letGrow_16 : decode cX2_letGrow 16 = .ok (.getfield 11, 3) := by decide +kernel
theorem dX2_letGrow_19 : decode cX2_letGrow 19 = .ok (.iload_n 2, 1) := by decide +kernel
theorem dX2_letGrow_20 : decode cX2_letGrow 20 = .ok (.iaload, 1) := by decide +kernel
theorem dX2_letGrow_21 : decode cX2_letGrow 21 = .ok (.iconst 4, 1) := by decide +kernel
theorem dX2_letGrow_22 : decode cX2_letGrow 22 = .ok (.idiv, 1) := by decide +kernel
theorem dX2_letGrow_23 : decode cX2_letGrow 23 = .ok (.iadd, 1) := by decide +kernel
theorem dX2_letGrow_24 : decode cX2_letGrow 24 = .ok (.invokevirtual 29, 3) := by decide +kernel
theorem dX2_letGrow_27 : decode cX2_letGrow 27 = .ok (.return_, 1) := by decide +kernel
theorem dX2_meltingPoint_0 : decode cX2_meltingPoint 0 = .ok (.bipush 15, 2) := by decide +kernel
theorem dX2_meltingPoint_2 : decode cX2_meltingPoint 2 = .ok (.iconst 4, 1) := by decide +kernel
theorem dX2_meltingPoint_3 : decode cX2_meltingPoint 3 = .ok (.iload_n 0, 1) := by decide +kernel
theorem dX2_meltingPoint_4 : decode cX2_meltingPoint 4 = .ok (.imul, 1) := by decide +kernel
theorem dX2_meltingPoint_5 : decode cX2_meltingPoint 5 = .ok (.iadd, 1) := by decide +kernel
theorem dX2_meltingPoint_6 : decode cX2_meltingPoint 6 = .ok (.ireturn, 1) := by decide +kernel
theorem dX2_growingSort_0 : decode cX2_growingSort 0 = .ok (.iconst 1, 1) := by decide +kernel
theorem dX2_growingSort_1 : decode cX2_growingSort 1 = .ok (.istore_n 1, 1) := by decide +kernel
theorem dX2_growingSort_2 : decode cX2_growingSort 2 = .ok (.iload_n 1, 1) := by decide +kernel
theorem dX2_growingSort_3 : decode cX2_growingSort 3 = .ok (.iconst 5, 1) := by decide +kernel
theorem dX2_growingSort_4 : decode cX2_growingSort 4 = .ok (.if_icmp .gt 21, 3) := by decide +kernel
theorem dX2_growingSort_7 : decode cX2_growingSort 7 = .ok (.iload_n 1, 1) := by decide +kernel
theorem dX2_growingSort_8 : decode cX2_growingSort 8 = .ok (.invokestatic 22, 3) := by decide +kernel
theorem dX2_growingSort_11 : decode cX2_growingSort 11 = .ok (.iload_n 0, 1) := by decide +kernel
theorem dX2_growingSort_12 : decode cX2_growingSort 12 = .ok (.iconst 3, 1) := by decide +kernel
theorem dX2_growingSort_13 : decode cX2_growingSort 13 = .ok (.iadd, 1) := by decide +kernel
theorem dX2_growingSort_14 : decode cX2_growingSort 14 = .ok (.if_icmp .le 5, 3) := by decide +kernel
theorem dX2_growingSort_17 : decode cX2_growingSort 17 = .ok (.iload_n 1, 1) := by decide +kernel
theorem dX2_growingSort_18 : decode cX2_growingSort 18 = .ok (.ireturn, 1) := by decide +kernel
theorem dX2_growingSort_19 : decode cX2_growingSort 19 = .ok (.iinc 1 1, 3) := by decide +kernel
theorem dX2_growingSort_22 : decode cX2_growingSort 22 = .ok (.goto (-20), 3) := by decide +kernel
theorem dX2_growingSort_25 : decode cX2_growingSort 25 = .ok (.iconst 5, 1) := by decide +kernel
theorem dX2_growingSort_26 : decode cX2_growingSort 26 = .ok (.ireturn, 1) := by decide +kernel
theorem dX2_increase_0 : decode cX2_increase 0 = .ok (.aload_n 0, 1) := by decide +kernel
theorem dX2_increase_1 : decode cX2_increase 1 = .ok (.getfield 11, 3) := by decide +kernel
theorem dX2_increase_4 : decode cX2_increase 4 = .ok (.iload_n 1, 1) := by decide +kernel
theorem dX2_increase_5 : decode cX2_increase 5 = .ok (.dup2, 1) := by decide +kernel
theorem dX2_increase_6 : decode cX2_increase 6 = .ok (.iaload, 1) := by decide +kernel
theorem dX2_increase_7 : decode cX2_increase 7 = .ok (.iconst 0, 1) := by decide +kernel
theorem dX2_increase_8 : decode cX2_increase 8 = .ok (.iload_n 2, 1) := by decide +kernel
theorem dX2_increase_9 : decode cX2_increase 9 = .ok (.bipush 100, 2) := by decide +kernel
theorem dX2_increase_11 : decode cX2_increase 11 = .ok (.aload_n 0, 1) := by decide +kernel
theorem dX2_increase_12 : decode cX2_increase 12 = .ok (.invokevirtual 33, 3) := by decide +kernel
theorem dX2_increase_15 : decode cX2_increase 15 = .ok (.isub, 1) := by decide +kernel
theorem dX2_increase_16 : decode cX2_increase 16 = .ok (.invokestatic 37, 3) := by decide +kernel
theorem dX2_increase_19 : decode cX2_increase 19 = .ok (.invokestatic 43, 3) := by decide +kernel
theorem dX2_increase_22 : decode cX2_increase 22 = .ok (.iadd, 1) := by decide +kernel
theorem dX2_increase_23 : decode cX2_increase 23 = .ok (.iastore, 1) := by decide +kernel
theorem dX2_increase_24 : decode cX2_increase 24 = .ok (.return_, 1) := by decide +kernel
theorem dX2_total_0 : decode cX2_total 0 = .ok (.iconst 0, 1) := by decide +kernel
theorem dX2_total_1 : decode cX2_total 1 = .ok (.istore_n 1, 1) := by decide +kernel
theorem dX2_total_2 : decode cX2_total 2 = .ok (.iconst 1, 1) := by decide +kernel
theorem dX2_total_3 : decode cX2_total 3 = .ok (.istore_n 2, 1) := by decide +kernel
theorem dX2_total_4 : decode cX2_total 4 = .ok (.iload_n 2, 1) := by decide +kernel
theorem dX2_total_5 : decode cX2_total 5 = .ok (.iconst 5, 1) := by decide +kernel
theorem dX2_total_6 : decode cX2_total 6 = .ok (.if_icmp .gt 18, 3) := by decide +kernel
theorem dX2_total_9 : decode cX2_total 9 = .ok (.iload_n 1, 1) := by decide +kernel
theorem dX2_total_10 : decode cX2_total 10 = .ok (.aload_n 0, 1) := by decide +kernel
theorem dX2_total_11 : decode cX2_total 11 = .ok (.getfield 11, 3) := by decide +kernel
theorem dX2_total_14 : decode cX2_total 14 = .ok (.iload_n 2, 1) := by decide +kernel
theorem dX2_total_15 : decode cX2_total 15 = .ok (.iaload, 1) := by decide +kernel
theorem dX2_total_16 : decode cX2_total 16 = .ok (.iadd, 1) := by decide +kernel
theorem dX2_total_17 : decode cX2_total 17 = .ok (.istore_n 1, 1) := by decide +kernel
theorem dX2_total_18 : decode cX2_total 18 = .ok (.iinc 2 1, 3) := by decide +kernel
theorem dX2_total_21 : decode cX2_total 21 = .ok (.goto (-17), 3) := by decide +kernel
theorem dX2_total_24 : decode cX2_total 24 = .ok (.iload_n 1, 1) := by decide +kernel
theorem dX2_total_25 : decode cX2_total 25 = .ok (.ireturn, 1) := by decide +kernel
theorem dX2_temper_0 : decode cX2_temper 0 = .ok (.iconst 2, 1) := by decide +kernel
theorem dX2_temper_1 : decode cX2_temper 1 = .ok (.aload_n 0, 1) := by decide +kernel
theorem dX2_temper_2 : decode cX2_temper 2 = .ok (.getfield 11, 3) := by decide +kernel
theorem dX2_temper_5 : decode cX2_temper 5 = .ok (.iconst 5, 1) := by decide +kernel
theorem dX2_temper_6 : decode cX2_temper 6 = .ok (.iaload, 1) := by decide +kernel
theorem dX2_temper_7 : decode cX2_temper 7 = .ok (.imul, 1) := by decide +kernel
theorem dX2_temper_8 : decode cX2_temper 8 = .ok (.aload_n 0, 1) := by decide +kernel
theorem dX2_temper_9 : decode cX2_temper 9 = .ok (.getfield 11, 3) := by decide +kernel
theorem dX2_temper_12 : decode cX2_temper 12 = .ok (.iconst 4, 1) := by decide +kernel
theorem dX2_temper_13 : decode cX2_temper 13 = .ok (.iaload, 1) := by decide +kernel
theorem dX2_temper_14 : decode cX2_temper 14 = .ok (.iadd, 1) := by decide +kernel
theorem dX2_temper_15 : decode cX2_temper 15 = .ok (.aload_n 0, 1) := by decide +kernel
theorem dX2_temper_16 : decode cX2_temper 16 = .ok (.getfield 11, 3) := by decide +kernel
theorem dX2_temper_19 : decode cX2_temper 19 = .ok (.iconst 1, 1) := by decide +kernel
theorem dX2_temper_20 : decode cX2_temper 20 = .ok (.iaload, 1) := by decide +kernel
theorem dX2_temper_21 : decode cX2_temper 21 = .ok (.isub, 1) := by decide +kernel
theorem dX2_temper_22 : decode cX2_temper 22 = .ok (.aload_n 0, 1) := by decide +kernel
theorem dX2_temper_23 : decode cX2_temper 23 = .ok (.getfield 11, 3) := by decide +kernel
theorem dX2_temper_26 : decode cX2_temper 26 = .ok (.iconst 2, 1) := by decide +kernel
theorem dX2_temper_27 : decode cX2_temper 27 = .ok (.iaload, 1) := by decide +kernel
theorem dX2_temper_28 : decode cX2_temper 28 = .ok (.isub, 1) := by decide +kernel
theorem dX2_temper_29 : decode cX2_temper 29 = .ok (.aload_n 0, 1) := by decide +kernel
theorem dX2_temper_30 : decode cX2_temper 30 = .ok (.getfield 11, 3) := by decide +kernel
theorem dX2_temper_33 : decode cX2_temper 33 = .ok (.iconst 3, 1) := by decide +kernel
theorem dX2_temper_34 : decode cX2_temper 34 = .ok (.iaload, 1) := by decide +kernel
theorem dX2_temper_35 : decode cX2_temper 35 = .ok (.isub, 1) := by decide +kernel
theorem dX2_temper_36 : decode cX2_temper 36 = .ok (.istore_n 1, 1) := by decide +kernel
theorem dX2_temper_37 : decode cX2_temper 37 = .ok (.iconst 0, 1) := by decide +kernel
theorem dX2_temper_38 : decode cX2_temper 38 = .ok (.iload_n 1, 1) := by decide +kernel
theorem dX2_temper_39 : decode cX2_temper 39 = .ok (.bipush 100, 2) := by decide +kernel
theorem dX2_temper_41 : decode cX2_temper 41 = .ok (.invokestatic 37, 3) := by decide +kernel
theorem dX2_temper_44 : decode cX2_temper 44 = .ok (.invokestatic 43, 3) := by decide +kernel
theorem dX2_temper_47 : decode cX2_temper 47 = .ok (.ireturn, 1) := by decide +kernel
theorem dX3_init_0 : decode cX3_init 0 = .ok (.aload_n 0, 1) := by decide +kernel
theorem dX3_init_1 : decode cX3_init 1 = .ok (.invokespecial 3, 3) := by decide +kernel
theorem dX3_init_4 : decode cX3_init 4 = .ok (.aload_n 0, 1) := by decide +kernel
theorem dX3_init_5 : decode cX3_init 5 = .ok (.iload_n 1, 1) := by decide +kernel
theorem dX3_init_6 : decode cX3_init 6 = .ok (.putfield 9, 3) := by decide +kernel
theorem dX3_init_9 : decode cX3_init 9 = .ok (.aload_n 0, 1) := by decide +kernel
theorem dX3_init_10 : decode cX3_init 10 = .ok (.iload_n 2, 1) := by decide +kernel
theorem dX3_init_11 : decode cX3_init 11 = .ok (.putfield 15, 3) := by decide +kernel
theorem dX3_init_14 : decode cX3_init 14 = .ok (.aload_n 0, 1) := by decide +kernel
theorem dX3_init_15 : decode cX3_init 15 = .ok (.iload_n 3, 1) := by decide +kernel
theorem dX3_init_16 : decode cX3_init 16 = .ok (.putfield 18, 3) := by decide +kernel
theorem dX3_init_19 : decode cX3_init 19 = .ok (.return_, 1) := by decide +kernel
theorem dX3_squares_0 : decode cX3_squares 0 = .ok (.aload_n 0, 1) := by decide +kernel
theorem dX3_squares_1 : decode cX3_squares 1 = .ok (.getfield 9, 3) := by decide +kernel
theorem dX3_squares_4 : decode cX3_squares 4 = .ok (.aload_n 0, 1) := by decide +kernel
theorem dX3_squares_5 : decode cX3_squares 5 = .ok (.getfield 15, 3) := by decide +kernel
theorem dX3_squares_8 : decode cX3_squares 8 = .ok (.imul, 1) := by decide +kernel
theorem dX3_squares_9 : decode cX3_squares 9 = .ok (.ireturn, 1) := by decide +kernel
theorem dX3_grams_0 : decode cX3_grams 0 = .ok (.aload_n 0, 1) := by decide +kernel
theorem dX3_grams_1 : decode cX3_grams 1 = .ok (.invokevirtual 21, 3) := by decide +kernel
theorem dX3_grams_4 : decode cX3_grams 4 = .ok (.bipush 10, 2) := by decide +kernel
theorem dX3_grams_6 : decode cX3_grams 6 = .ok (.imul, 1) := by decide +kernel
theorem dX3_grams_7 : decode cX3_grams 7 = .ok (.ireturn, 1) := by decide +kernel
theorem dX3_isBloomed_0 : decode cX3_isBloomed 0 = .ok (.aload_n 0, 1) := by decide +kernel
theorem dX3_isBloomed_1 : decode cX3_isBloomed 1 = .ok (.getfield 25, 3) := by decide +kernel
theorem dX3_isBloomed_4 : decode cX3_isBloomed 4 = .ok (.bipush 20, 2) := by decide +kernel
theorem dX3_isBloomed_6 : decode cX3_isBloomed 6 = .ok (.if_icmp .le 7, 3) := by decide +kernel
theorem dX3_isBloomed_9 : decode cX3_isBloomed 9 = .ok (.iconst 1, 1) := by decide +kernel
theorem dX3_isBloomed_10 : decode cX3_isBloomed 10 = .ok (.goto 4, 3) := by decide +kernel
theorem dX3_isBloomed_13 : decode cX3_isBloomed 13 = .ok (.iconst 0, 1) := by decide +kernel
theorem dX3_isBloomed_14 : decode cX3_isBloomed 14 = .ok (.ireturn, 1) := by decide +kernel
theorem dX3_bloomBehindPolish_0 : decode cX3_bloomBehindPolish 0 = .ok (.iconst 0, 1) := by decide +kernel
theorem dX3_bloomBehindPolish_1 : decode cX3_bloomBehindPolish 1 = .ok (.aload_n 0, 1) := by decide +kernel
theorem dX3_bloomBehindPolish_2 : decode cX3_bloomBehindPolish 2 = .ok (.getfield 25, 3) := by decide +kernel
theorem dX3_bloomBehindPolish_5 : decode cX3_bloomBehindPolish 5 = .ok (.bipush 15, 2) := by decide +kernel
theorem dX3_bloomBehindPolish_7 : decode cX3_bloomBehindPolish 7 = .ok (.isub, 1) := by decide +kernel
theorem dX3_bloomBehindPolish_8 : decode cX3_bloomBehindPolish 8 = .ok (.invokestatic 28, 3) := by decide +kernel
theorem dX3_bloomBehindPolish_11 : decode cX3_bloomBehindPolish 11 = .ok (.ireturn, 1) := by decide +kernel
theorem dX3_bloomOfADay_0 : decode cX3_bloomOfADay 0 = .ok (.bipush 100, 2) := by decide +kernel
theorem dX3_bloomOfADay_2 : decode cX3_bloomOfADay 2 = .ok (.aload_n 0, 1) := by decide +kernel
theorem dX3_bloomOfADay_3 : decode cX3_bloomOfADay 3 = .ok (.getfield 18, 3) := by decide +kernel
theorem dX3_bloomOfADay_6 : decode cX3_bloomOfADay 6 = .ok (.isub, 1) := by decide +kernel
theorem dX3_bloomOfADay_7 : decode cX3_bloomOfADay 7 = .ok (.bipush 10, 2) := by decide +kernel
theorem dX3_bloomOfADay_9 : decode cX3_bloomOfADay 9 = .ok (.idiv, 1) := by decide +kernel
theorem dX3_bloomOfADay_10 : decode cX3_bloomOfADay 10 = .ok (.iconst 2, 1) := by decide +kernel
theorem dX3_bloomOfADay_11 : decode cX3_bloomOfADay 11 = .ok (.iconst 0, 1) := by decide +kernel
theorem dX3_bloomOfADay_12 : decode cX3_bloomOfADay 12 = .ok (.iload_n 1, 1) := by decide +kernel
theorem dX3_bloomOfADay_13 : decode cX3_bloomOfADay 13 = .ok (.bipush 24, 2) := by decide +kernel
theorem dX3_bloomOfADay_15 : decode cX3_bloomOfADay 15 = .ok (.isub, 1) := by decide +kernel
theorem dX3_bloomOfADay_16 : decode cX3_bloomOfADay 16 = .ok (.invokestatic 28, 3) := by decide +kernel
theorem dX3_bloomOfADay_19 : decode cX3_bloomOfADay 19 = .ok (.imul, 1) := by decide +kernel
theorem dX3_bloomOfADay_20 : decode cX3_bloomOfADay 20 = .ok (.iadd, 1) := by decide +kernel
theorem dX3_bloomOfADay_21 : decode cX3_bloomOfADay 21 = .ok (.ireturn, 1) := by decide +kernel
theorem dX3_standFor_0 : decode cX3_standFor 0 = .ok (.aload_n 0, 1) := by decide +kernel
theorem dX3_standFor_1 : decode cX3_standFor 1 = .ok (.bipush 100, 2) := by decide +kernel
theorem dX3_standFor_3 : decode cX3_standFor 3 = .ok (.aload_n 0, 1) := by decide +kernel
theorem dX3_standFor_4 : decode cX3_standFor 4 = .ok (.getfield 25, 3) := by decide +kernel
theorem dX3_standFor_7 : decode cX3_standFor 7 = .ok (.iload_n 1, 1) := by decide +kernel
theorem dX3_standFor_8 : decode cX3_standFor 8 = .ok (.aload_n 0, 1) := by decide +kernel
theorem dX3_standFor_9 : decode cX3_standFor 9 = .ok (.iload_n 2, 1) := by decide +kernel
theorem dX3_standFor_10 : decode cX3_standFor 10 = .ok (.invokevirtual 34, 3) := by decide +kernel
theorem dX3_standFor_13 : decode cX3_standFor 13 = .ok (.imul, 1) := by decide +kernel
theorem dX3_standFor_14 : decode cX3_standFor 14 = .ok (.iadd, 1) := by decide +kernel
theorem dX3_standFor_15 : decode cX3_standFor 15 = .ok (.invokestatic 38, 3) := by decide +kernel
theorem dX3_standFor_18 : decode cX3_standFor 18 = .ok (.putfield 25, 3) := by decide +kernel
theorem dX3_standFor_21 : decode cX3_standFor 21 = .ok (.aload_n 0, 1) := by decide +kernel
theorem dX3_standFor_22 : decode cX3_standFor 22 = .ok (.dup, 1) := by decide +kernel
theorem dX3_standFor_23 : decode cX3_standFor 23 = .ok (.getfield 41, 3) := by decide +kernel
theorem dX3_standFor_26 : decode cX3_standFor 26 = .ok (.iload_n 1, 1) := by decide +kernel
theorem dX3_standFor_27 : decode cX3_standFor 27 = .ok (.iadd, 1) := by decide +kernel
theorem dX3_standFor_28 : decode cX3_standFor 28 = .ok (.putfield 41, 3) := by decide +kernel
theorem dX3_standFor_31 : decode cX3_standFor 31 = .ok (.return_, 1) := by decide +kernel
theorem dX3_partBehind_0 : decode cX3_partBehind 0 = .ok (.iload_n 2, 1) := by decide +kernel
theorem dX3_partBehind_1 : decode cX3_partBehind 1 = .ok (.ifCond .eq 27, 3) := by decide +kernel
theorem dX3_partBehind_4 : decode cX3_partBehind 4 = .ok (.new 10, 3) := by decide +kernel
theorem dX3_partBehind_7 : decode cX3_partBehind 7 = .ok (.dup, 1) := by decide +kernel
theorem dX3_partBehind_8 : decode cX3_partBehind 8 = .ok (.aload_n 0, 1) := by decide +kernel
theorem dX3_partBehind_9 : decode cX3_partBehind 9 = .ok (.getfield 9, 3) := by decide +kernel
theorem dX3_partBehind_12 : decode cX3_partBehind 12 = .ok (.aload_n 0, 1) := by decide +kernel
theorem dX3_partBehind_13 : decode cX3_partBehind 13 = .ok (.getfield 15, 3) := by decide +kernel
theorem dX3_partBehind_16 : decode cX3_partBehind 16 = .ok (.iload_n 1, 1) := by decide +kernel
theorem dX3_partBehind_17 : decode cX3_partBehind 17 = .ok (.isub, 1) := by decide +kernel
theorem dX3_partBehind_18 : decode cX3_partBehind 18 = .ok (.aload_n 0, 1) := by decide +kernel
theorem dX3_partBehind_19 : decode cX3_partBehind 19 = .ok (.getfield 18, 3) := by decide +kernel
theorem dX3_partBehind_22 : decode cX3_partBehind 22 = .ok (.invokespecial 44, 3) := by decide +kernel
theorem dX3_partBehind_25 : decode cX3_partBehind 25 = .ok (.goto 24, 3) := by decide +kernel
theorem dX3_partBehind_28 : decode cX3_partBehind 28 = .ok (.new 10, 3) := by decide +kernel
theorem dX3_partBehind_31 : decode cX3_partBehind 31 = .ok (.dup, 1) := by decide +kernel
theorem dX3_partBehind_32 : decode cX3_partBehind 32 = .ok (.aload_n 0, 1) := by decide +kernel
theorem dX3_partBehind_33 : decode cX3_partBehind 33 = .ok (.getfield 9, 3) := by decide +kernel
theorem dX3_partBehind_36 : decode cX3_partBehind 36 = .ok (.iload_n 1, 1) := by decide +kernel
theorem dX3_partBehind_37 : decode cX3_partBehind 37 = .ok (.isub, 1) := by decide +kernel
theorem dX3_partBehind_38 : decode cX3_partBehind 38 = .ok (.aload_n 0, 1) := by decide +kernel
theorem dX3_partBehind_39 : decode cX3_partBehind 39 = .ok (.getfield 15, 3) := by decide +kernel
theorem dX3_partBehind_42 : decode cX3_partBehind 42 = .ok (.aload_n 0, 1) := by decide +kernel
theorem dX3_partBehind_43 : decode cX3_partBehind 43 = .ok (.getfield 18, 3) := by decide +kernel
theorem dX3_partBehind_46 : decode cX3_partBehind 46 = .ok (.invokespecial 44, 3) := by decide +kernel
theorem dX3_partBehind_49 : decode cX3_partBehind 49 = .ok (.astore_n 3, 1) := by decide +kernel
theorem dX3_partBehind_50 : decode cX3_partBehind 50 = .ok (.aload_n 3, 1) := by decide +kernel
theorem dX3_partBehind_51 : decode cX3_partBehind 51 = .ok (.aload_n 0, 1) := by decide +kernel
theorem dX3_partBehind_52 : decode cX3_partBehind 52 = .ok (.getfield 25, 3) := by decide +kernel
theorem dX3_partBehind_55 : decode cX3_partBehind 55 = .ok (.putfield 25, 3) := by decide +kernel
theorem dX3_partBehind_58 : decode cX3_partBehind 58 = .ok (.aload_n 3, 1) := by decide +kernel
theorem dX3_partBehind_59 : decode cX3_partBehind 59 = .ok (.aload_n 0, 1) := by decide +kernel
theorem dX3_partBehind_60 : decode cX3_partBehind 60 = .ok (.getfield 41, 3) := by decide +kernel
theorem dX3_partBehind_63 : decode cX3_partBehind 63 = .ok (.putfield 41, 3) := by decide +kernel
theorem dX3_partBehind_66 : decode cX3_partBehind 66 = .ok (.aload_n 3, 1) := by decide +kernel
theorem dX3_partBehind_67 : decode cX3_partBehind 67 = .ok (.areturn, 1) := by decide +kernel
theorem dX3_cutDownTo_0 : decode cX3_cutDownTo 0 = .ok (.iload_n 2, 1) := by decide +kernel
theorem dX3_cutDownTo_1 : decode cX3_cutDownTo 1 = .ok (.ifCond .eq 11, 3) := by decide +kernel
theorem dX3_cutDownTo_4 : decode cX3_cutDownTo 4 = .ok (.aload_n 0, 1) := by decide +kernel
theorem dX3_cutDownTo_5 : decode cX3_cutDownTo 5 = .ok (.iload_n 1, 1) := by decide +kernel
theorem dX3_cutDownTo_6 : decode cX3_cutDownTo 6 = .ok (.putfield 15, 3) := by decide +kernel
theorem dX3_cutDownTo_9 : decode cX3_cutDownTo 9 = .ok (.goto 8, 3) := by decide +kernel
theorem dX3_cutDownTo_12 : decode cX3_cutDownTo 12 = .ok (.aload_n 0, 1) := by decide +kernel
theorem dX3_cutDownTo_13 : decode cX3_cutDownTo 13 = .ok (.iload_n 1, 1) := by decide +kernel
theorem dX3_cutDownTo_14 : decode cX3_cutDownTo 14 = .ok (.putfield 9, 3) := by decide +kernel
theorem dX3_cutDownTo_17 : decode cX3_cutDownTo 17 = .ok (.return_, 1) := by decide +kernel
theorem dX4_init_0 : decode cX4_init 0 = .ok (.aload_n 0, 1) := by decide +kernel
theorem dX4_init_1 : decode cX4_init 1 = .ok (.invokespecial 3, 3) := by decide +kernel
theorem dX4_init_4 : decode cX4_init 4 = .ok (.aload_n 0, 1) := by decide +kernel
theorem dX4_init_5 : decode cX4_init 5 = .ok (.iconst 5, 1) := by decide +kernel
theorem dX4_init_6 : decode cX4_init 6 = .ok (.anewarray 9, 3) := by decide +kernel
theorem dX4_init_9 : decode cX4_init 9 = .ok (.putfield 11, 3) := by decide +kernel
theorem dX4_init_12 : decode cX4_init 12 = .ok (.aload_n 0, 1) := by decide +kernel
theorem dX4_init_13 : decode cX4_init 13 = .ok (.bipush 8, 2) := by decide +kernel
theorem dX4_init_15 : decode cX4_init 15 = .ok (.anewarray 15, 3) := by decide +kernel
theorem dX4_init_18 : decode cX4_init 18 = .ok (.putfield 17, 3) := by decide +kernel
theorem dX4_init_21 : decode cX4_init 21 = .ok (.aload_n 0, 1) := by decide +kernel
theorem dX4_init_22 : decode cX4_init 22 = .ok (.bipush 6, 2) := by decide +kernel
theorem dX4_init_24 : decode cX4_init 24 = .ok (.anewarray 21, 3) := by decide +kernel
theorem dX4_init_27 : decode cX4_init 27 = .ok (.putfield 23, 3) := by decide +kernel
theorem dX4_init_30 : decode cX4_init 30 = .ok (.aload_n 0, 1) := by decide +kernel
theorem dX4_init_31 : decode cX4_init 31 = .ok (.new 27, 3) := by decide +kernel
theorem dX4_init_34 : decode cX4_init 34 = .ok (.dup, 1) := by decide +kernel
theorem dX4_init_35 : decode cX4_init 35 = .ok (.invokespecial 29, 3) := by decide +kernel
theorem dX4_init_38 : decode cX4_init 38 = .ok (.putfield 30, 3) := by decide +kernel
theorem dX4_init_41 : decode cX4_init 41 = .ok (.aload_n 0, 1) := by decide +kernel
theorem dX4_init_42 : decode cX4_init 42 = .ok (.new 27, 3) := by decide +kernel
theorem dX4_init_45 : decode cX4_init 45 = .ok (.dup, 1) := by decide +kernel
theorem dX4_init_46 : decode cX4_init 46 = .ok (.invokespecial 29, 3) := by decide +kernel
theorem dX4_init_49 : decode cX4_init 49 = .ok (.putfield 34, 3) := by decide +kernel
theorem dX4_init_52 : decode cX4_init 52 = .ok (.aload_n 0, 1) := by decide +kernel
theorem dX4_init_53 : decode cX4_init 53 = .ok (.bipush 6, 2) := by decide +kernel
theorem dX4_init_55 : decode cX4_init 55 = .ok (.newarray .int, 2) := by decide +kernel
theorem dX4_init_57 : decode cX4_init 57 = .ok (.putfield 37, 3) := by decide +kernel
theorem dX4_init_60 : decode cX4_init 60 = .ok (.aload_n 0, 1) := by decide +kernel
theorem dX4_init_61 : decode cX4_init 61 = .ok (.bipush 8, 2) := by decide +kernel
theorem dX4_init_63 : decode cX4_init 63 = .ok (.newarray .boolean, 2) := by decide +kernel
theorem dX4_init_65 : decode cX4_init 65 = .ok (.putfield 41, 3) := by decide +kernel
theorem dX4_init_68 : decode cX4_init 68 = .ok (.return_, 1) := by decide +kernel
theorem dX4_bowl_0 : decode cX4_bowl 0 = .ok (.iload_n 1, 1) := by decide +kernel
theorem dX4_bowl_1 : decode cX4_bowl 1 = .ok (.ifCond .lt 10, 3) := by decide +kernel
theorem dX4_bowl_4 : decode cX4_bowl 4 = .ok (.iload_n 1, 1) := by decide +kernel
theorem dX4_bowl_5 : decode cX4_bowl 5 = .ok (.sipush 2000, 3) := by decide +kernel
theorem dX4_bowl_8 : decode cX4_bowl 8 = .ok (.if_icmp .le 13, 3) := by decide +kernel
theorem dX4_bowl_11 : decode cX4_bowl 11 = .ok (.new 45, 3) := by decide +kernel
theorem dX4_bowl_14 : decode cX4_bowl 14 = .ok (.dup, 1) := by decide +kernel
theorem dX4_bowl_15 : decode cX4_bowl 15 = .ok (.ldc 47, 2) := by decide +kernel
theorem dX4_bowl_17 : decode cX4_bowl 17 = .ok (.invokespecial 49, 3) := by decide +kernel
theorem dX4_bowl_20 : decode cX4_bowl 20 = .ok (.athrow, 1) := by decide +kernel
theorem dX4_bowl_21 : decode cX4_bowl 21 = .ok (.aload_n 0, 1) := by decide +kernel
theorem dX4_bowl_22 : decode cX4_bowl 22 = .ok (.getfield 52, 3) := by decide +kernel
theorem dX4_bowl_25 : decode cX4_bowl 25 = .ok (.istore_n 2, 1) := by decide +kernel
theorem dX4_bowl_26 : decode cX4_bowl 26 = .ok (.iload_n 2, 1) := by decide +kernel
theorem dX4_bowl_27 : decode cX4_bowl 27 = .ok (.iconst 5, 1) := by decide +kernel
theorem dX4_bowl_28 : decode cX4_bowl 28 = .ok (.if_icmp .lt 13, 3) := by decide +kernel
theorem dX4_bowl_31 : decode cX4_bowl 31 = .ok (.new 56, 3) := by decide +kernel
theorem dX4_bowl_34 : decode cX4_bowl 34 = .ok (.dup, 1) := by decide +kernel
theorem dX4_bowl_35 : decode cX4_bowl 35 = .ok (.ldc 58, 2) := by decide +kernel
theorem dX4_bowl_37 : decode cX4_bowl 37 = .ok (.invokespecial 60, 3) := by decide +kernel
theorem dX4_bowl_40 : decode cX4_bowl 40 = .ok (.athrow, 1) := by decide +kernel
theorem dX4_bowl_41 : decode cX4_bowl 41 = .ok (.aload_n 0, 1) := by decide +kernel
theorem dX4_bowl_42 : decode cX4_bowl 42 = .ok (.getfield 11, 3) := by decide +kernel
theorem dX4_bowl_45 : decode cX4_bowl 45 = .ok (.iload_n 2, 1) := by decide +kernel
theorem dX4_bowl_46 : decode cX4_bowl 46 = .ok (.new 9, 3) := by decide +kernel
theorem dX4_bowl_49 : decode cX4_bowl 49 = .ok (.dup, 1) := by decide +kernel
theorem dX4_bowl_50 : decode cX4_bowl 50 = .ok (.iload_n 1, 1) := by decide +kernel
theorem dX4_bowl_51 : decode cX4_bowl 51 = .ok (.invokespecial 61, 3) := by decide +kernel
theorem dX4_bowl_54 : decode cX4_bowl 54 = .ok (.aastore, 1) := by decide +kernel
theorem dX4_bowl_55 : decode cX4_bowl 55 = .ok (.aload_n 0, 1) := by decide +kernel
theorem dX4_bowl_56 : decode cX4_bowl 56 = .ok (.iload_n 2, 1) := by decide +kernel
theorem dX4_bowl_57 : decode cX4_bowl 57 = .ok (.iconst 1, 1) := by decide +kernel
theorem dX4_bowl_58 : decode cX4_bowl 58 = .ok (.iadd, 1) := by decide +kernel
theorem dX4_bowl_59 : decode cX4_bowl 59 = .ok (.putfield 52, 3) := by decide +kernel
theorem dX4_bowl_62 : decode cX4_bowl 62 = .ok (.iload_n 2, 1) := by decide +kernel
theorem dX4_bowl_63 : decode cX4_bowl 63 = .ok (.ireturn, 1) := by decide +kernel
theorem dX4_warm_0 : decode cX4_warm 0 = .ok (.aload_n 0, 1) := by decide +kernel
theorem dX4_warm_1 : decode cX4_warm 1 = .ok (.iload_n 1, 1) := by decide +kernel
theorem dX4_warm_2 : decode cX4_warm 2 = .ok (.invokevirtual 64, 3) := by decide +kernel
theorem dX4_warm_5 : decode cX4_warm 5 = .ok (.astore 4, 2) := by decide +kernel
theorem dX4_warm_7 : decode cX4_warm 7 = .ok (.iload_n 2, 1) := by decide +kernel
theorem dX4_warm_8 : decode cX4_warm 8 = .ok (.iload_n 3, 1) := by decide +kernel
theorem dX4_warm_9 : decode cX4_warm 9 = .ok (.invokestatic 68, 3) := by decide +kernel
theorem dX4_warm_12 : decode cX4_warm 12 = .ok (.aload 4, 2) := by decide +kernel
theorem dX4_warm_14 : decode cX4_warm 14 = .ok (.iload_n 2, 1) := by decide +kernel
theorem dX4_warm_15 : decode cX4_warm 15 = .ok (.putfield 72, 3) := by decide +kernel
theorem dX4_warm_18 : decode cX4_warm 18 = .ok (.aload 4, 2) := by decide +kernel
theorem dX4_warm_20 : decode cX4_warm 20 = .ok (.getfield 75, 3) := by decide +kernel
theorem dX4_warm_23 : decode cX4_warm 23 = .ok (.iload_n 2, 1) := by decide +kernel
theorem dX4_warm_24 : decode cX4_warm 24 = .ok (.iload_n 3, 1) := by decide +kernel
theorem dX4_warm_25 : decode cX4_warm 25 = .ok (.invokevirtual 78, 3) := by decide +kernel
theorem dX4_warm_28 : decode cX4_warm 28 = .ok (.aload 4, 2) := by decide +kernel
theorem dX4_warm_30 : decode cX4_warm 30 = .ok (.getfield 75, 3) := by decide +kernel
theorem dX4_warm_33 : decode cX4_warm 33 = .ok (.invokevirtual 81, 3) := by decide +kernel
theorem dX4_warm_36 : decode cX4_warm 36 = .ok (.ireturn, 1) := by decide +kernel
theorem dX4_seed_0 : decode cX4_seed 0 = .ok (.aload_n 0, 1) := by decide +kernel
theorem dX4_seed_1 : decode cX4_seed 1 = .ok (.iload_n 1, 1) := by decide +kernel
theorem dX4_seed_2 : decode cX4_seed 2 = .ok (.invokevirtual 64, 3) := by decide +kernel
theorem dX4_seed_5 : decode cX4_seed 5 = .ok (.astore_n 3, 1) := by decide +kernel
theorem dX4_seed_6 : decode cX4_seed 6 = .ok (.iload_n 2, 1) := by decide +kernel
theorem dX4_seed_7 : decode cX4_seed 7 = .ok (.iconst 1, 1) := by decide +kernel
theorem dX4_seed_8 : decode cX4_seed 8 = .ok (.if_icmp .lt 9, 3) := by decide +kernel
theorem dX4_seed_11 : decode cX4_seed 11 = .ok (.iload_n 2, 1) := by decide +kernel
theorem dX4_seed_12 : decode cX4_seed 12 = .ok (.bipush 30, 2) := by decide +kernel
theorem dX4_seed_14 : decode cX4_seed 14 = .ok (.if_icmp .le 13, 3) := by decide +kernel
theorem dX4_seed_17 : decode cX4_seed 17 = .ok (.new 45, 3) := by decide +kernel
theorem dX4_seed_20 : decode cX4_seed 20 = .ok (.dup, 1) := by decide +kernel
theorem dX4_seed_21 : decode cX4_seed 21 = .ok (.ldc 85, 2) := by decide +kernel
theorem dX4_seed_23 : decode cX4_seed 23 = .ok (.invokespecial 49, 3) := by decide +kernel
theorem dX4_seed_26 : decode cX4_seed 26 = .ok (.athrow, 1) := by decide +kernel
theorem dX4_seed_27 : decode cX4_seed 27 = .ok (.aload_n 3, 1) := by decide +kernel
theorem dX4_seed_28 : decode cX4_seed 28 = .ok (.getfield 75, 3) := by decide +kernel
theorem dX4_seed_31 : decode cX4_seed 31 = .ok (.iconst 5, 1) := by decide +kernel
theorem dX4_seed_32 : decode cX4_seed 32 = .ok (.iload_n 2, 1) := by decide +kernel
theorem dX4_seed_33 : decode cX4_seed 33 = .ok (.invokevirtual 87, 3) := by decide +kernel
theorem dX4_seed_36 : decode cX4_seed 36 = .ok (.aload_n 3, 1) := by decide +kernel
theorem dX4_seed_37 : decode cX4_seed 37 = .ok (.getfield 75, 3) := by decide +kernel
theorem dX4_seed_40 : decode cX4_seed 40 = .ok (.getfield 90, 3) := by decide +kernel
theorem dX4_seed_43 : decode cX4_seed 43 = .ok (.iconst 5, 1) := by decide +kernel
theorem dX4_seed_44 : decode cX4_seed 44 = .ok (.iaload, 1) := by decide +kernel
theorem dX4_seed_45 : decode cX4_seed 45 = .ok (.ireturn, 1) := by decide +kernel
theorem dX4_pour_0 : decode cX4_pour 0 = .ok (.aload_n 0, 1) := by decide +kernel
theorem dX4_pour_1 : decode cX4_pour 1 = .ok (.iload_n 1, 1) := by decide +kernel
theorem dX4_pour_2 : decode cX4_pour 2 = .ok (.invokevirtual 64, 3) := by decide +kernel
theorem dX4_pour_5 : decode cX4_pour 5 = .ok (.astore_n 3, 1) := by decide +kernel
theorem dX4_pour_6 : decode cX4_pour 6 = .ok (.aload_n 0, 1) := by decide +kernel
theorem dX4_pour_7 : decode cX4_pour 7 = .ok (.iload_n 2, 1) := by decide +kernel
theorem dX4_pour_8 : decode cX4_pour 8 = .ok (.invokevirtual 64, 3) := by decide +kernel
theorem dX4_pour_11 : decode cX4_pour 11 = .ok (.astore 4, 2) := by decide +kernel
theorem dX4_pour_13 : decode cX4_pour 13 = .ok (.aload_n 3, 1) := by decide +kernel
theorem dX4_pour_14 : decode cX4_pour 14 = .ok (.getfield 93, 3) := by decide +kernel
theorem dX4_pour_17 : decode cX4_pour 17 = .ok (.aload 4, 2) := by decide +kernel
theorem dX4_pour_19 : decode cX4_pour 19 = .ok (.getfield 93, 3) := by decide +kernel
theorem dX4_pour_22 : decode cX4_pour 22 = .ok (.iadd, 1) := by decide +kernel
theorem dX4_pour_23 : decode cX4_pour 23 = .ok (.istore 5, 2) := by decide +kernel
theorem dX4_pour_25 : decode cX4_pour 25 = .ok (.iload_n 1, 1) := by decide +kernel
theorem dX4_pour_26 : decode cX4_pour 26 = .ok (.iload_n 2, 1) := by decide +kernel
theorem dX4_pour_27 : decode cX4_pour 27 = .ok (.if_icmp .eq 16, 3) := by decide +kernel
theorem dX4_pour_30 : decode cX4_pour 30 = .ok (.iload 5, 2) := by decide +kernel
theorem dX4_pour_32 : decode cX4_pour 32 = .ok (.ifCond .eq 11, 3) := by decide +kernel
theorem dX4_pour_35 : decode cX4_pour 35 = .ok (.iload 5, 2) := by decide +kernel
theorem dX4_pour_37 : decode cX4_pour 37 = .ok (.sipush 2000, 3) := by decide +kernel
theorem dX4_pour_40 : decode cX4_pour 40 = .ok (.if_icmp .le 13, 3) := by decide +kernel
theorem dX4_pour_43 : decode cX4_pour 43 = .ok (.new 45, 3) := by decide +kernel
theorem dX4_pour_46 : decode cX4_pour 46 = .ok (.dup, 1) := by decide +kernel
theorem dX4_pour_47 : decode cX4_pour 47 = .ok (.ldc 96, 2) := by decide +kernel
theorem dX4_pour_49 : decode cX4_pour 49 = .ok (.invokespecial 49, 3) := by decide +kernel
theorem dX4_pour_52 : decode cX4_pour 52 = .ok (.athrow, 1) := by decide +kernel
theorem dX4_pour_53 : decode cX4_pour 53 = .ok (.aload 4, 2) := by decide +kernel
theorem dX4_pour_55 : decode cX4_pour 55 = .ok (.aload_n 3, 1) := by decide +kernel
theorem dX4_pour_56 : decode cX4_pour 56 = .ok (.invokevirtual 98, 3) := by decide +kernel
theorem dX4_pour_59 : decode cX4_pour 59 = .ok (.aload 4, 2) := by decide +kernel
theorem dX4_pour_61 : decode cX4_pour 61 = .ok (.getfield 93, 3) := by decide +kernel
theorem dX4_pour_64 : decode cX4_pour 64 = .ok (.ireturn, 1) := by decide +kernel
theorem dX4_cast_0 : decode cX4_cast 0 = .ok (.aload_n 0, 1) := by decide +kernel
theorem dX4_cast_1 : decode cX4_cast 1 = .ok (.iload_n 1, 1) := by decide +kernel
theorem dX4_cast_2 : decode cX4_cast 2 = .ok (.invokevirtual 64, 3) := by decide +kernel
theorem dX4_cast_5 : decode cX4_cast 5 = .ok (.astore 4, 2) := by decide +kernel
theorem dX4_cast_7 : decode cX4_cast 7 = .ok (.iload_n 2, 1) := by decide +kernel
theorem dX4_cast_8 : decode cX4_cast 8 = .ok (.iconst 1, 1) := by decide +kernel
theorem dX4_cast_9 : decode cX4_cast 9 = .ok (.if_icmp .lt 20, 3) := by decide +kernel
theorem dX4_cast_12 : decode cX4_cast 12 = .ok (.iload_n 2, 1) := by decide +kernel
theorem dX4_cast_13 : decode cX4_cast 13 = .ok (.bipush 6, 2) := by decide +kernel
theorem dX4_cast_15 : decode cX4_cast 15 = .ok (.if_icmp .gt 14, 3) := by decide +kernel
theorem dX4_cast_18 : decode cX4_cast 18 = .ok (.iload_n 3, 1) := by decide +kernel
theorem dX4_cast_19 : decode cX4_cast 19 = .ok (.iconst 1, 1) := by decide +kernel
theorem dX4_cast_20 : decode cX4_cast 20 = .ok (.if_icmp .lt 9, 3) := by decide +kernel
theorem dX4_cast_23 : decode cX4_cast 23 = .ok (.iload_n 3, 1) := by decide +kernel
theorem dX4_cast_24 : decode cX4_cast 24 = .ok (.bipush 6, 2) := by decide +kernel
theorem dX4_cast_26 : decode cX4_cast 26 = .ok (.if_icmp .le 13, 3) := by decide +kernel
theorem dX4_cast_29 : decode cX4_cast 29 = .ok (.new 45, 3) := by decide +kernel
theorem dX4_cast_32 : decode cX4_cast 32 = .ok (.dup, 1) := by decide +kernel
theorem dX4_cast_33 : decode cX4_cast 33 = .ok (.ldc 102, 2) := by decide +kernel
theorem dX4_cast_35 : decode cX4_cast 35 = .ok (.invokespecial 49, 3) := by decide +kernel
theorem dX4_cast_38 : decode cX4_cast 38 = .ok (.athrow, 1) := by decide +kernel
theorem dX4_cast_39 : decode cX4_cast 39 = .ok (.new 15, 3) := by decide +kernel
theorem dX4_cast_42 : decode cX4_cast 42 = .ok (.dup, 1) := by decide +kernel
theorem dX4_cast_43 : decode cX4_cast 43 = .ok (.iload_n 2, 1) := by decide +kernel
theorem dX4_cast_44 : decode cX4_cast 44 = .ok (.iload_n 3, 1) := by decide +kernel
theorem dX4_cast_45 : decode cX4_cast 45 = .ok (.aload 4, 2) := by decide +kernel
theorem dX4_cast_47 : decode cX4_cast 47 = .ok (.getfield 75, 3) := by decide +kernel
theorem dX4_cast_50 : decode cX4_cast 50 = .ok (.invokevirtual 81, 3) := by decide +kernel
theorem dX4_cast_53 : decode cX4_cast 53 = .ok (.invokespecial 104, 3) := by decide +kernel
theorem dX4_cast_56 : decode cX4_cast 56 = .ok (.astore 5, 2) := by decide +kernel
theorem dX4_cast_58 : decode cX4_cast 58 = .ok (.aload 4, 2) := by decide +kernel
theorem dX4_cast_60 : decode cX4_cast 60 = .ok (.getfield 93, 3) := by decide +kernel
theorem dX4_cast_63 : decode cX4_cast 63 = .ok (.aload 5, 2) := by decide +kernel
theorem dX4_cast_65 : decode cX4_cast 65 = .ok (.invokevirtual 107, 3) := by decide +kernel
theorem dX4_cast_68 : decode cX4_cast 68 = .ok (.if_icmp .ge 13, 3) := by decide +kernel
theorem dX4_cast_71 : decode cX4_cast 71 = .ok (.new 56, 3) := by decide +kernel
theorem dX4_cast_74 : decode cX4_cast 74 = .ok (.dup, 1) := by decide +kernel
theorem dX4_cast_75 : decode cX4_cast 75 = .ok (.ldc 109, 2) := by decide +kernel
theorem dX4_cast_77 : decode cX4_cast 77 = .ok (.invokespecial 60, 3) := by decide +kernel
theorem dX4_cast_80 : decode cX4_cast 80 = .ok (.athrow, 1) := by decide +kernel
theorem dX4_cast_81 : decode cX4_cast 81 = .ok (.aload_n 0, 1) := by decide +kernel
theorem dX4_cast_82 : decode cX4_cast 82 = .ok (.aload 5, 2) := by decide +kernel
theorem dX4_cast_84 : decode cX4_cast 84 = .ok (.invokevirtual 111, 3) := by decide +kernel
theorem dX4_cast_87 : decode cX4_cast 87 = .ok (.istore 6, 2) := by decide +kernel
theorem dX4_cast_89 : decode cX4_cast 89 = .ok (.aload 4, 2) := by decide +kernel
theorem dX4_cast_91 : decode cX4_cast 91 = .ok (.dup, 1) := by decide +kernel
theorem dX4_cast_92 : decode cX4_cast 92 = .ok (.getfield 93, 3) := by decide +kernel
theorem dX4_cast_95 : decode cX4_cast 95 = .ok (.aload 5, 2) := by decide +kernel
theorem dX4_cast_97 : decode cX4_cast 97 = .ok (.invokevirtual 107, 3) := by decide +kernel
theorem dX4_cast_100 : decode cX4_cast 100 = .ok (.isub, 1) := by decide +kernel
theorem dX4_cast_101 : decode cX4_cast 101 = .ok (.putfield 93, 3) := by decide +kernel
theorem dX4_cast_104 : decode cX4_cast 104 = .ok (.iload 6, 2) := by decide +kernel
theorem dX4_cast_106 : decode cX4_cast 106 = .ok (.ireturn, 1) := by decide +kernel
theorem dX4_polish_0 : decode cX4_polish 0 = .ok (.aload_n 0, 1) := by decide +kernel
theorem dX4_polish_1 : decode cX4_polish 1 = .ok (.iload_n 1, 1) := by decide +kernel
theorem dX4_polish_2 : decode cX4_polish 2 = .ok (.invokevirtual 115, 3) := by decide +kernel
theorem dX4_polish_5 : decode cX4_polish 5 = .ok (.astore_n 2, 1) := by decide +kernel
theorem dX4_polish_6 : decode cX4_polish 6 = .ok (.aload_n 2, 1) := by decide +kernel
theorem dX4_polish_7 : decode cX4_polish 7 = .ok (.aload_n 2, 1) := by decide +kernel
theorem dX4_polish_8 : decode cX4_polish 8 = .ok (.invokevirtual 119, 3) := by decide +kernel
theorem dX4_polish_11 : decode cX4_polish 11 = .ok (.putfield 122, 3) := by decide +kernel
theorem dX4_polish_14 : decode cX4_polish 14 = .ok (.aload_n 2, 1) := by decide +kernel
theorem dX4_polish_15 : decode cX4_polish 15 = .ok (.getfield 122, 3) := by decide +kernel
theorem dX4_polish_18 : decode cX4_polish 18 = .ok (.ireturn, 1) := by decide +kernel
theorem dX4_split_0 : decode cX4_split 0 = .ok (.aload_n 0, 1) := by decide +kernel
theorem dX4_split_1 : decode cX4_split 1 = .ok (.iload_n 1, 1) := by decide +kernel
theorem dX4_split_2 : decode cX4_split 2 = .ok (.invokevirtual 115, 3) := by decide +kernel
theorem dX4_split_5 : decode cX4_split 5 = .ok (.astore 4, 2) := by decide +kernel
theorem dX4_split_7 : decode cX4_split 7 = .ok (.iload_n 3, 1) := by decide +kernel
theorem dX4_split_8 : decode cX4_split 8 = .ok (.ifCond .eq 11, 3) := by decide +kernel
theorem dX4_split_11 : decode cX4_split 11 = .ok (.aload 4, 2) := by decide +kernel
theorem dX4_split_13 : decode cX4_split 13 = .ok (.getfield 125, 3) := by decide +kernel
theorem dX4_split_16 : decode cX4_split 16 = .ok (.goto 8, 3) := by decide +kernel
theorem dX4_split_19 : decode cX4_split 19 = .ok (.aload 4, 2) := by decide +kernel
theorem dX4_split_21 : decode cX4_split 21 = .ok (.getfield 128, 3) := by decide +kernel
theorem dX4_split_24 : decode cX4_split 24 = .ok (.istore 5, 2) := by decide +kernel
theorem dX4_split_26 : decode cX4_split 26 = .ok (.iload_n 2, 1) := by decide +kernel
theorem dX4_split_27 : decode cX4_split 27 = .ok (.iconst 1, 1) := by decide +kernel
theorem dX4_split_28 : decode cX4_split 28 = .ok (.if_icmp .lt 9, 3) := by decide +kernel
theorem dX4_split_31 : decode cX4_split 31 = .ok (.iload_n 2, 1) := by decide +kernel
theorem dX4_split_32 : decode cX4_split 32 = .ok (.iload 5, 2) := by decide +kernel
theorem dX4_split_34 : decode cX4_split 34 = .ok (.if_icmp .lt 13, 3) := by decide +kernel
theorem dX4_split_37 : decode cX4_split 37 = .ok (.new 131, 3) := by decide +kernel
theorem dX4_split_40 : decode cX4_split 40 = .ok (.dup, 1) := by decide +kernel
theorem dX4_split_41 : decode cX4_split 41 = .ok (.ldc 133, 2) := by decide +kernel
theorem dX4_split_43 : decode cX4_split 43 = .ok (.invokespecial 135, 3) := by decide +kernel
theorem dX4_split_46 : decode cX4_split 46 = .ok (.athrow, 1) := by decide +kernel
theorem dX4_split_47 : decode cX4_split 47 = .ok (.aload_n 0, 1) := by decide +kernel
theorem dX4_split_48 : decode cX4_split 48 = .ok (.aload 4, 2) := by decide +kernel
theorem dX4_split_50 : decode cX4_split 50 = .ok (.iload_n 2, 1) := by decide +kernel
theorem dX4_split_51 : decode cX4_split 51 = .ok (.iload_n 3, 1) := by decide +kernel
theorem dX4_split_52 : decode cX4_split 52 = .ok (.invokevirtual 136, 3) := by decide +kernel
theorem dX4_split_55 : decode cX4_split 55 = .ok (.invokevirtual 111, 3) := by decide +kernel
theorem dX4_split_58 : decode cX4_split 58 = .ok (.istore 6, 2) := by decide +kernel
theorem dX4_split_60 : decode cX4_split 60 = .ok (.aload 4, 2) := by decide +kernel
theorem dX4_split_62 : decode cX4_split 62 = .ok (.iload_n 2, 1) := by decide +kernel
theorem dX4_split_63 : decode cX4_split 63 = .ok (.iload_n 3, 1) := by decide +kernel
theorem dX4_split_64 : decode cX4_split 64 = .ok (.invokevirtual 140, 3) := by decide +kernel
theorem dX4_split_67 : decode cX4_split 67 = .ok (.iload 6, 2) := by decide +kernel
theorem dX4_split_69 : decode cX4_split 69 = .ok (.ireturn, 1) := by decide +kernel
theorem dX4_melt_0 : decode cX4_melt 0 = .ok (.aload_n 0, 1) := by decide +kernel
theorem dX4_melt_1 : decode cX4_melt 1 = .ok (.iload_n 1, 1) := by decide +kernel
theorem dX4_melt_2 : decode cX4_melt 2 = .ok (.invokevirtual 115, 3) := by decide +kernel
theorem dX4_melt_5 : decode cX4_melt 5 = .ok (.invokevirtual 107, 3) := by decide +kernel
theorem dX4_melt_8 : decode cX4_melt 8 = .ok (.istore_n 3, 1) := by decide +kernel
theorem dX4_melt_9 : decode cX4_melt 9 = .ok (.aload_n 0, 1) := by decide +kernel
theorem dX4_melt_10 : decode cX4_melt 10 = .ok (.iload_n 2, 1) := by decide +kernel
theorem dX4_melt_11 : decode cX4_melt 11 = .ok (.invokevirtual 64, 3) := by decide +kernel
theorem dX4_melt_14 : decode cX4_melt 14 = .ok (.astore 4, 2) := by decide +kernel
theorem dX4_melt_16 : decode cX4_melt 16 = .ok (.aload 4, 2) := by decide +kernel
theorem dX4_melt_18 : decode cX4_melt 18 = .ok (.getfield 93, 3) := by decide +kernel
theorem dX4_melt_21 : decode cX4_melt 21 = .ok (.iload_n 3, 1) := by decide +kernel
theorem dX4_melt_22 : decode cX4_melt 22 = .ok (.iadd, 1) := by decide +kernel
theorem dX4_melt_23 : decode cX4_melt 23 = .ok (.sipush 2000, 3) := by decide +kernel
theorem dX4_melt_26 : decode cX4_melt 26 = .ok (.if_icmp .le 13, 3) := by decide +kernel
theorem dX4_melt_29 : decode cX4_melt 29 = .ok (.new 45, 3) := by decide +kernel
theorem dX4_melt_32 : decode cX4_melt 32 = .ok (.dup, 1) := by decide +kernel
theorem dX4_melt_33 : decode cX4_melt 33 = .ok (.ldc 144, 2) := by decide +kernel
theorem dX4_melt_35 : decode cX4_melt 35 = .ok (.invokespecial 49, 3) := by decide +kernel
theorem dX4_melt_38 : decode cX4_melt 38 = .ok (.athrow, 1) := by decide +kernel
theorem dX4_melt_39 : decode cX4_melt 39 = .ok (.aload 4, 2) := by decide +kernel
theorem dX4_melt_41 : decode cX4_melt 41 = .ok (.dup, 1) := by decide +kernel
theorem dX4_melt_42 : decode cX4_melt 42 = .ok (.getfield 93, 3) := by decide +kernel
theorem dX4_melt_45 : decode cX4_melt 45 = .ok (.iload_n 3, 1) := by decide +kernel
theorem dX4_melt_46 : decode cX4_melt 46 = .ok (.iadd, 1) := by decide +kernel
theorem dX4_melt_47 : decode cX4_melt 47 = .ok (.putfield 93, 3) := by decide +kernel
theorem dX4_melt_50 : decode cX4_melt 50 = .ok (.aload_n 0, 1) := by decide +kernel
theorem dX4_melt_51 : decode cX4_melt 51 = .ok (.getfield 17, 3) := by decide +kernel
theorem dX4_melt_54 : decode cX4_melt 54 = .ok (.iload_n 1, 1) := by decide +kernel
theorem dX4_melt_55 : decode cX4_melt 55 = .ok (.aconst_null, 1) := by decide +kernel
theorem dX4_melt_56 : decode cX4_melt 56 = .ok (.aastore, 1) := by decide +kernel
theorem dX4_melt_57 : decode cX4_melt 57 = .ok (.aload_n 0, 1) := by decide +kernel
theorem dX4_melt_58 : decode cX4_melt 58 = .ok (.invokevirtual 146, 3) := by decide +kernel
theorem dX4_melt_61 : decode cX4_melt 61 = .ok (.aload 4, 2) := by decide +kernel
theorem dX4_melt_63 : decode cX4_melt 63 = .ok (.getfield 93, 3) := by decide +kernel
theorem dX4_melt_66 : decode cX4_melt 66 = .ok (.ireturn, 1) := by decide +kernel
theorem dX4_box_0 : decode cX4_box 0 = .ok (.iload_n 1, 1) := by decide +kernel
theorem dX4_box_1 : decode cX4_box 1 = .ok (.iconst 1, 1) := by decide +kernel
theorem dX4_box_2 : decode cX4_box 2 = .ok (.if_icmp .lt 19, 3) := by decide +kernel
theorem dX4_box_5 : decode cX4_box 5 = .ok (.iload_n 1, 1) := by decide +kernel
theorem dX4_box_6 : decode cX4_box 6 = .ok (.bipush 36, 2) := by decide +kernel
theorem dX4_box_8 : decode cX4_box 8 = .ok (.if_icmp .gt 13, 3) := by decide +kernel
theorem dX4_box_11 : decode cX4_box 11 = .ok (.iload_n 2, 1) := by decide +kernel
theorem dX4_box_12 : decode cX4_box 12 = .ok (.ifCond .lt 9, 3) := by decide +kernel
theorem dX4_box_15 : decode cX4_box 15 = .ok (.iload_n 2, 1) := by decide +kernel
theorem dX4_box_16 : decode cX4_box 16 = .ok (.bipush 100, 2) := by decide +kernel
theorem dX4_box_18 : decode cX4_box 18 = .ok (.if_icmp .le 13, 3) := by decide +kernel
theorem dX4_box_21 : decode cX4_box 21 = .ok (.new 45, 3) := by decide +kernel
theorem dX4_box_24 : decode cX4_box 24 = .ok (.dup, 1) := by decide +kernel
theorem dX4_box_25 : decode cX4_box 25 = .ok (.ldc 149, 2) := by decide +kernel
theorem dX4_box_27 : decode cX4_box 27 = .ok (.invokespecial 49, 3) := by decide +kernel
theorem dX4_box_30 : decode cX4_box 30 = .ok (.athrow, 1) := by decide +kernel
theorem dX4_box_31 : decode cX4_box 31 = .ok (.aload_n 0, 1) := by decide +kernel
theorem dX4_box_32 : decode cX4_box 32 = .ok (.getfield 151, 3) := by decide +kernel
theorem dX4_box_35 : decode cX4_box 35 = .ok (.istore_n 3, 1) := by decide +kernel
theorem dX4_box_36 : decode cX4_box 36 = .ok (.iload_n 3, 1) := by decide +kernel
theorem dX4_box_37 : decode cX4_box 37 = .ok (.bipush 6, 2) := by decide +kernel
theorem dX4_box_39 : decode cX4_box 39 = .ok (.if_icmp .lt 13, 3) := by decide +kernel
theorem dX4_box_42 : decode cX4_box 42 = .ok (.new 56, 3) := by decide +kernel
theorem dX4_box_45 : decode cX4_box 45 = .ok (.dup, 1) := by decide +kernel
theorem dX4_box_46 : decode cX4_box 46 = .ok (.ldc 154, 2) := by decide +kernel
theorem dX4_box_48 : decode cX4_box 48 = .ok (.invokespecial 60, 3) := by decide +kernel
theorem dX4_box_51 : decode cX4_box 51 = .ok (.athrow, 1) := by decide +kernel
theorem dX4_box_52 : decode cX4_box 52 = .ok (.aload_n 0, 1) := by decide +kernel
theorem dX4_box_53 : decode cX4_box 53 = .ok (.getfield 23, 3) := by decide +kernel
theorem dX4_box_56 : decode cX4_box 56 = .ok (.iload_n 3, 1) := by decide +kernel
theorem dX4_box_57 : decode cX4_box 57 = .ok (.new 21, 3) := by decide +kernel
theorem dX4_box_60 : decode cX4_box 60 = .ok (.dup, 1) := by decide +kernel
theorem dX4_box_61 : decode cX4_box 61 = .ok (.iload_n 1, 1) := by decide +kernel
theorem dX4_box_62 : decode cX4_box 62 = .ok (.iload_n 2, 1) := by decide +kernel
theorem dX4_box_63 : decode cX4_box 63 = .ok (.invokespecial 156, 3) := by decide +kernel
theorem dX4_box_66 : decode cX4_box 66 = .ok (.aastore, 1) := by decide +kernel
theorem dX4_box_67 : decode cX4_box 67 = .ok (.aload_n 0, 1) := by decide +kernel
theorem dX4_box_68 : decode cX4_box 68 = .ok (.iload_n 3, 1) := by decide +kernel
theorem dX4_box_69 : decode cX4_box 69 = .ok (.iconst 1, 1) := by decide +kernel
theorem dX4_box_70 : decode cX4_box 70 = .ok (.iadd, 1) := by decide +kernel
theorem dX4_box_71 : decode cX4_box 71 = .ok (.putfield 151, 3) := by decide +kernel
theorem dX4_box_74 : decode cX4_box 74 = .ok (.iload_n 3, 1) := by decide +kernel
theorem dX4_box_75 : decode cX4_box 75 = .ok (.ireturn, 1) := by decide +kernel
theorem dX4_fill_0 : decode cX4_fill 0 = .ok (.aload_n 0, 1) := by decide +kernel
theorem dX4_fill_1 : decode cX4_fill 1 = .ok (.iconst (-1), 1) := by decide +kernel
theorem dX4_fill_2 : decode cX4_fill 2 = .ok (.invokevirtual 158, 3) := by decide +kernel
theorem dX4_fill_5 : decode cX4_fill 5 = .ok (.istore_n 1, 1) := by decide +kernel
theorem dX4_fill_6 : decode cX4_fill 6 = .ok (.iconst 0, 1) := by decide +kernel
theorem dX4_fill_7 : decode cX4_fill 7 = .ok (.istore_n 2, 1) := by decide +kernel
theorem dX4_fill_8 : decode cX4_fill 8 = .ok (.iload_n 2, 1) := by decide +kernel
theorem dX4_fill_9 : decode cX4_fill 9 = .ok (.bipush 6, 2) := by decide +kernel
theorem dX4_fill_11 : decode cX4_fill 11 = .ok (.if_icmp .ge 25, 3) := by decide +kernel
theorem dX4_fill_14 : decode cX4_fill 14 = .ok (.aload_n 0, 1) := by decide +kernel
theorem dX4_fill_15 : decode cX4_fill 15 = .ok (.aload_n 0, 1) := by decide +kernel
theorem dX4_fill_16 : decode cX4_fill 16 = .ok (.getfield 37, 3) := by decide +kernel
theorem dX4_fill_19 : decode cX4_fill 19 = .ok (.iload_n 2, 1) := by decide +kernel
theorem dX4_fill_20 : decode cX4_fill 20 = .ok (.iaload, 1) := by decide +kernel
theorem dX4_fill_21 : decode cX4_fill 21 = .ok (.aload_n 0, 1) := by decide +kernel
theorem dX4_fill_22 : decode cX4_fill 22 = .ok (.getfield 23, 3) := by decide +kernel
theorem dX4_fill_25 : decode cX4_fill 25 = .ok (.iload_n 2, 1) := by decide +kernel
theorem dX4_fill_26 : decode cX4_fill 26 = .ok (.aaload, 1) := by decide +kernel
theorem dX4_fill_27 : decode cX4_fill 27 = .ok (.invokevirtual 162, 3) := by decide +kernel
theorem dX4_fill_30 : decode cX4_fill 30 = .ok (.iinc 2 1, 3) := by decide +kernel
theorem dX4_fill_33 : decode cX4_fill 33 = .ok (.goto (-25), 3) := by decide +kernel
theorem dX4_fill_36 : decode cX4_fill 36 = .ok (.aload_n 0, 1) := by decide +kernel
theorem dX4_fill_37 : decode cX4_fill 37 = .ok (.invokevirtual 146, 3) := by decide +kernel
theorem dX4_fill_40 : decode cX4_fill 40 = .ok (.iload_n 1, 1) := by decide +kernel
theorem dX4_fill_41 : decode cX4_fill 41 = .ok (.ireturn, 1) := by decide +kernel
theorem dX4_pass_0 : decode cX4_pass 0 = .ok (.iload_n 1, 1) := by decide +kernel
theorem dX4_pass_1 : decode cX4_pass 1 = .ok (.invokestatic 166, 3) := by decide +kernel
theorem dX4_pass_4 : decode cX4_pass 4 = .ok (.iload_n 2, 1) := by decide +kernel
theorem dX4_pass_5 : decode cX4_pass 5 = .ok (.iconst 1, 1) := by decide +kernel
theorem dX4_pass_6 : decode cX4_pass 6 = .ok (.if_icmp .lt 9, 3) := by decide +kernel
theorem dX4_pass_9 : decode cX4_pass 9 = .ok (.iload_n 2, 1) := by decide +kernel
theorem dX4_pass_10 : decode cX4_pass 10 = .ok (.bipush 60, 2) := by decide +kernel
theorem dX4_pass_12 : decode cX4_pass 12 = .ok (.if_icmp .le 13, 3) := by decide +kernel
theorem dX4_pass_15 : decode cX4_pass 15 = .ok (.new 45, 3) := by decide +kernel
theorem dX4_pass_18 : decode cX4_pass 18 = .ok (.dup, 1) := by decide +kernel
theorem dX4_pass_19 : decode cX4_pass 19 = .ok (.ldc 169, 2) := by decide +kernel
theorem dX4_pass_21 : decode cX4_pass 21 = .ok (.invokespecial 49, 3) := by decide +kernel
theorem dX4_pass_24 : decode cX4_pass 24 = .ok (.athrow, 1) := by decide +kernel
theorem dX4_pass_25 : decode cX4_pass 25 = .ok (.aload_n 0, 1) := by decide +kernel
theorem dX4_pass_26 : decode cX4_pass 26 = .ok (.getfield 17, 3) := by decide +kernel
theorem dX4_pass_29 : decode cX4_pass 29 = .ok (.astore_n 3, 1) := by decide +kernel
theorem dX4_pass_30 : decode cX4_pass 30 = .ok (.aload_n 3, 1) := by decide +kernel
theorem dX4_pass_31 : decode cX4_pass 31 = .ok (.arraylength, 1) := by decide +kernel
theorem dX4_pass_32 : decode cX4_pass 32 = .ok (.istore 4, 2) := by decide +kernel
theorem dX4_pass_34 : decode cX4_pass 34 = .ok (.iconst 0, 1) := by decide +kernel
theorem dX4_pass_35 : decode cX4_pass 35 = .ok (.istore 5, 2) := by decide +kernel
theorem dX4_pass_37 : decode cX4_pass 37 = .ok (.iload 5, 2) := by decide +kernel
theorem dX4_pass_39 : decode cX4_pass 39 = .ok (.iload 4, 2) := by decide +kernel
theorem dX4_pass_41 : decode cX4_pass 41 = .ok (.if_icmp .ge 27, 3) := by decide +kernel
theorem dX4_pass_44 : decode cX4_pass 44 = .ok (.aload_n 3, 1) := by decide +kernel
theorem dX4_pass_45 : decode cX4_pass 45 = .ok (.iload 5, 2) := by decide +kernel
theorem dX4_pass_47 : decode cX4_pass 47 = .ok (.aaload, 1) := by decide +kernel
theorem dX4_pass_48 : decode cX4_pass 48 = .ok (.astore 6, 2) := by decide +kernel
theorem dX4_pass_50 : decode cX4_pass 50 = .ok (.aload 6, 2) := by decide +kernel
theorem dX4_pass_52 : decode cX4_pass 52 = .ok (.ifnull 10, 3) := by decide +kernel
theorem dX4_pass_55 : decode cX4_pass 55 = .ok (.aload 6, 2) := by decide +kernel
theorem dX4_pass_57 : decode cX4_pass 57 = .ok (.iload_n 2, 1) := by decide +kernel
theorem dX4_pass_58 : decode cX4_pass 58 = .ok (.iload_n 1, 1) := by decide +kernel
theorem dX4_pass_59 : decode cX4_pass 59 = .ok (.invokevirtual 171, 3) := by decide +kernel
theorem dX4_pass_62 : decode cX4_pass 62 = .ok (.iinc 5 1, 3) := by decide +kernel
theorem dX4_pass_65 : decode cX4_pass 65 = .ok (.goto (-28), 3) := by decide +kernel
theorem dX4_pass_68 : decode cX4_pass 68 = .ok (.aload_n 0, 1) := by decide +kernel
theorem dX4_pass_69 : decode cX4_pass 69 = .ok (.dup, 1) := by decide +kernel
theorem dX4_pass_70 : decode cX4_pass 70 = .ok (.getfield 174, 3) := by decide +kernel
theorem dX4_pass_73 : decode cX4_pass 73 = .ok (.iload_n 2, 1) := by decide +kernel
theorem dX4_pass_74 : decode cX4_pass 74 = .ok (.iadd, 1) := by decide +kernel
theorem dX4_pass_75 : decode cX4_pass 75 = .ok (.putfield 174, 3) := by decide +kernel
theorem dX4_pass_78 : decode cX4_pass 78 = .ok (.aload_n 0, 1) := by decide +kernel
theorem dX4_pass_79 : decode cX4_pass 79 = .ok (.invokevirtual 177, 3) := by decide +kernel
theorem dX4_pass_82 : decode cX4_pass 82 = .ok (.ireturn, 1) := by decide +kernel
theorem dX4_told_0 : decode cX4_told 0 = .ok (.aload_n 0, 1) := by decide +kernel
theorem dX4_told_1 : decode cX4_told 1 = .ok (.iload_n 1, 1) := by decide +kernel
theorem dX4_told_2 : decode cX4_told 2 = .ok (.invokevirtual 64, 3) := by decide +kernel
theorem dX4_told_5 : decode cX4_told 5 = .ok (.astore_n 3, 1) := by decide +kernel
theorem dX4_told_6 : decode cX4_told 6 = .ok (.iload_n 2, 1) := by decide +kernel
theorem dX4_told_7 : decode cX4_told 7 = .ok (.bipush 7, 2) := by decide +kernel
theorem dX4_told_9 : decode cX4_told 9 = .ok (.invokestatic 180, 3) := by decide +kernel
theorem dX4_told_12 : decode cX4_told 12 = .ok (.iload_n 2, 1) := by decide +kernel
theorem dX4_told_13 : decode cX4_told 13 = .ok (.ifCond .ne 8, 3) := by decide +kernel
theorem dX4_told_16 : decode cX4_told 16 = .ok (.aload_n 3, 1) := by decide +kernel
theorem dX4_told_17 : decode cX4_told 17 = .ok (.getfield 93, 3) := by decide +kernel
theorem dX4_told_20 : decode cX4_told 20 = .ok (.ireturn, 1) := by decide +kernel
theorem dX4_told_21 : decode cX4_told 21 = .ok (.iload_n 2, 1) := by decide +kernel
theorem dX4_told_22 : decode cX4_told 22 = .ok (.iconst 5, 1) := by decide +kernel
theorem dX4_told_23 : decode cX4_told 23 = .ok (.if_icmp .gt 13, 3) := by decide +kernel
theorem dX4_told_26 : decode cX4_told 26 = .ok (.aload_n 3, 1) := by decide +kernel
theorem dX4_told_27 : decode cX4_told 27 = .ok (.getfield 75, 3) := by decide +kernel
theorem dX4_told_30 : decode cX4_told 30 = .ok (.getfield 90, 3) := by decide +kernel
theorem dX4_told_33 : decode cX4_told 33 = .ok (.iload_n 2, 1) := by decide +kernel
theorem dX4_told_34 : decode cX4_told 34 = .ok (.iaload, 1) := by decide +kernel
theorem dX4_told_35 : decode cX4_told 35 = .ok (.ireturn, 1) := by decide +kernel
theorem dX4_told_36 : decode cX4_told 36 = .ok (.iload_n 2, 1) := by decide +kernel
theorem dX4_told_37 : decode cX4_told 37 = .ok (.bipush 6, 2) := by decide +kernel
theorem dX4_told_39 : decode cX4_told 39 = .ok (.if_icmp .ne 10, 3) := by decide +kernel
theorem dX4_told_42 : decode cX4_told 42 = .ok (.aload_n 3, 1) := by decide +kernel
theorem dX4_told_43 : decode cX4_told 43 = .ok (.getfield 72, 3) := by decide +kernel
theorem dX4_told_46 : decode cX4_told 46 = .ok (.goto 10, 3) := by decide +kernel
theorem dX4_told_49 : decode cX4_told 49 = .ok (.aload_n 3, 1) := by decide +kernel
theorem dX4_told_50 : decode cX4_told 50 = .ok (.getfield 75, 3) := by decide +kernel
theorem dX4_told_53 : decode cX4_told 53 = .ok (.invokevirtual 81, 3) := by decide +kernel
theorem dX4_told_56 : decode cX4_told 56 = .ok (.ireturn, 1) := by decide +kernel
theorem dX4_about_0 : decode cX4_about 0 = .ok (.aload_n 0, 1) := by decide +kernel
theorem dX4_about_1 : decode cX4_about 1 = .ok (.iload_n 1, 1) := by decide +kernel
theorem dX4_about_2 : decode cX4_about 2 = .ok (.invokevirtual 115, 3) := by decide +kernel
theorem dX4_about_5 : decode cX4_about 5 = .ok (.astore_n 3, 1) := by decide +kernel
theorem dX4_about_6 : decode cX4_about 6 = .ok (.iload_n 2, 1) := by decide +kernel
theorem dX4_about_7 : decode cX4_about 7 = .ok (.bipush 6, 2) := by decide +kernel
theorem dX4_about_9 : decode cX4_about 9 = .ok (.invokestatic 180, 3) := by decide +kernel
theorem dX4_about_12 : decode cX4_about 12 = .ok (.iload_n 2, 1) := by decide +kernel
theorem dX4_about_13 : decode cX4_about 13 = .ok (.tableswitch 69 0 5 #[39, 44, 49, 54, 59, 64], 39) := by decide +kernel
theorem dX4_about_52 : decode cX4_about 52 = .ok (.aload_n 3, 1) := by decide +kernel
theorem dX4_about_53 : decode cX4_about 53 = .ok (.getfield 128, 3) := by decide +kernel
theorem dX4_about_56 : decode cX4_about 56 = .ok (.ireturn, 1) := by decide +kernel
theorem dX4_about_57 : decode cX4_about 57 = .ok (.aload_n 3, 1) := by decide +kernel
theorem dX4_about_58 : decode cX4_about 58 = .ok (.getfield 125, 3) := by decide +kernel
theorem dX4_about_61 : decode cX4_about 61 = .ok (.ireturn, 1) := by decide +kernel
theorem dX4_about_62 : decode cX4_about 62 = .ok (.aload_n 3, 1) := by decide +kernel
theorem dX4_about_63 : decode cX4_about 63 = .ok (.getfield 183, 3) := by decide +kernel
theorem dX4_about_66 : decode cX4_about 66 = .ok (.ireturn, 1) := by decide +kernel
theorem dX4_about_67 : decode cX4_about 67 = .ok (.aload_n 3, 1) := by decide +kernel
theorem dX4_about_68 : decode cX4_about 68 = .ok (.getfield 122, 3) := by decide +kernel
theorem dX4_about_71 : decode cX4_about 71 = .ok (.ireturn, 1) := by decide +kernel
theorem dX4_about_72 : decode cX4_about 72 = .ok (.aload_n 3, 1) := by decide +kernel
theorem dX4_about_73 : decode cX4_about 73 = .ok (.getfield 185, 3) := by decide +kernel
theorem dX4_about_76 : decode cX4_about 76 = .ok (.ireturn, 1) := by decide +kernel
theorem dX4_about_77 : decode cX4_about 77 = .ok (.aload_n 3, 1) := by decide +kernel
theorem dX4_about_78 : decode cX4_about 78 = .ok (.invokevirtual 188, 3) := by decide +kernel
theorem dX4_about_81 : decode cX4_about 81 = .ok (.ireturn, 1) := by decide +kernel
theorem dX4_about_82 : decode cX4_about 82 = .ok (.aload_n 0, 1) := by decide +kernel
theorem dX4_about_83 : decode cX4_about 83 = .ok (.aload_n 3, 1) := by decide +kernel
theorem dX4_about_84 : decode cX4_about 84 = .ok (.invokevirtual 191, 3) := by decide +kernel
theorem dX4_about_87 : decode cX4_about 87 = .ok (.ireturn, 1) := by decide +kernel
theorem dX4_order_0 : decode cX4_order 0 = .ok (.aload_n 0, 1) := by decide +kernel
theorem dX4_order_1 : decode cX4_order 1 = .ok (.iload_n 1, 1) := by decide +kernel
theorem dX4_order_2 : decode cX4_order 2 = .ok (.invokevirtual 194, 3) := by decide +kernel
theorem dX4_order_5 : decode cX4_order 5 = .ok (.astore_n 3, 1) := by decide +kernel
theorem dX4_order_6 : decode cX4_order 6 = .ok (.iload_n 2, 1) := by decide +kernel
theorem dX4_order_7 : decode cX4_order 7 = .ok (.iconst 4, 1) := by decide +kernel
theorem dX4_order_8 : decode cX4_order 8 = .ok (.invokestatic 180, 3) := by decide +kernel
theorem dX4_order_11 : decode cX4_order 11 = .ok (.iload_n 2, 1) := by decide +kernel
theorem dX4_order_12 : decode cX4_order 12 = .ok (.tableswitch 60 0 3 #[32, 37, 42, 55], 32) := by decide +kernel
theorem dX4_order_44 : decode cX4_order 44 = .ok (.aload_n 3, 1) := by decide +kernel
theorem dX4_order_45 : decode cX4_order 45 = .ok (.getfield 198, 3) := by decide +kernel
theorem dX4_order_48 : decode cX4_order 48 = .ok (.ireturn, 1) := by decide +kernel
theorem dX4_order_49 : decode cX4_order 49 = .ok (.aload_n 3, 1) := by decide +kernel
theorem dX4_order_50 : decode cX4_order 50 = .ok (.getfield 200, 3) := by decide +kernel
theorem dX4_order_53 : decode cX4_order 53 = .ok (.ireturn, 1) := by decide +kernel
theorem dX4_order_54 : decode cX4_order 54 = .ok (.aload_n 3, 1) := by decide +kernel
theorem dX4_order_55 : decode cX4_order 55 = .ok (.getfield 201, 3) := by decide +kernel
theorem dX4_order_58 : decode cX4_order 58 = .ok (.ifCond .eq 7, 3) := by decide +kernel
theorem dX4_order_61 : decode cX4_order 61 = .ok (.iconst 1, 1) := by decide +kernel
theorem dX4_order_62 : decode cX4_order 62 = .ok (.goto 4, 3) := by decide +kernel
theorem dX4_order_65 : decode cX4_order 65 = .ok (.iconst 0, 1) := by decide +kernel
theorem dX4_order_66 : decode cX4_order 66 = .ok (.ireturn, 1) := by decide +kernel
theorem dX4_order_67 : decode cX4_order 67 = .ok (.aload_n 3, 1) := by decide +kernel
theorem dX4_order_68 : decode cX4_order 68 = .ok (.getfield 205, 3) := by decide +kernel
theorem dX4_order_71 : decode cX4_order 71 = .ok (.ireturn, 1) := by decide +kernel
theorem dX4_order_72 : decode cX4_order 72 = .ok (.aload_n 3, 1) := by decide +kernel
theorem dX4_order_73 : decode cX4_order 73 = .ok (.getfield 208, 3) := by decide +kernel
theorem dX4_order_76 : decode cX4_order 76 = .ok (.ireturn, 1) := by decide +kernel
theorem dX4_count_0 : decode cX4_count 0 = .ok (.iload_n 1, 1) := by decide +kernel
theorem dX4_count_1 : decode cX4_count 1 = .ok (.bipush 7, 2) := by decide +kernel
theorem dX4_count_3 : decode cX4_count 3 = .ok (.invokestatic 180, 3) := by decide +kernel
theorem dX4_count_6 : decode cX4_count 6 = .ok (.iload_n 1, 1) := by decide +kernel
theorem dX4_count_7 : decode cX4_count 7 = .ok (.tableswitch 76 0 6 #[41, 46, 51, 56, 61, 66, 71], 41) := by decide +kernel
theorem dX4_count_48 : decode cX4_count 48 = .ok (.aload_n 0, 1) := by decide +kernel
theorem dX4_count_49 : decode cX4_count 49 = .ok (.getfield 174, 3) := by decide +kernel
theorem dX4_count_52 : decode cX4_count 52 = .ok (.ireturn, 1) := by decide +kernel
theorem dX4_count_53 : decode cX4_count 53 = .ok (.aload_n 0, 1) := by decide +kernel
theorem dX4_count_54 : decode cX4_count 54 = .ok (.getfield 52, 3) := by decide +kernel
theorem dX4_count_57 : decode cX4_count 57 = .ok (.ireturn, 1) := by decide +kernel
theorem dX4_count_58 : decode cX4_count 58 = .ok (.aload_n 0, 1) := by decide +kernel
theorem dX4_count_59 : decode cX4_count 59 = .ok (.getfield 211, 3) := by decide +kernel
theorem dX4_count_62 : decode cX4_count 62 = .ok (.ireturn, 1) := by decide +kernel
theorem dX4_count_63 : decode cX4_count 63 = .ok (.aload_n 0, 1) := by decide +kernel
theorem dX4_count_64 : decode cX4_count 64 = .ok (.getfield 151, 3) := by decide +kernel
theorem dX4_count_67 : decode cX4_count 67 = .ok (.ireturn, 1) := by decide +kernel
theorem dX4_count_68 : decode cX4_count 68 = .ok (.aload_n 0, 1) := by decide +kernel
theorem dX4_count_69 : decode cX4_count 69 = .ok (.invokevirtual 214, 3) := by decide +kernel
theorem dX4_count_72 : decode cX4_count 72 = .ok (.ireturn, 1) := by decide +kernel
theorem dX4_count_73 : decode cX4_count 73 = .ok (.aload_n 0, 1) := by decide +kernel
theorem dX4_count_74 : decode cX4_count 74 = .ok (.invokevirtual 217, 3) := by decide +kernel
theorem dX4_count_77 : decode cX4_count 77 = .ok (.ireturn, 1) := by decide +kernel
theorem dX4_count_78 : decode cX4_count 78 = .ok (.aload_n 0, 1) := by decide +kernel
theorem dX4_count_79 : decode cX4_count 79 = .ok (.invokevirtual 220, 3) := by decide +kernel
theorem dX4_count_82 : decode cX4_count 82 = .ok (.ireturn, 1) := by decide +kernel
theorem dX4_count_83 : decode cX4_count 83 = .ok (.aload_n 0, 1) := by decide +kernel
theorem dX4_count_84 : decode cX4_count 84 = .ok (.invokevirtual 177, 3) := by decide +kernel
theorem dX4_count_87 : decode cX4_count 87 = .ok (.ireturn, 1) := by decide +kernel
theorem dX4_would_0 : decode cX4_would 0 = .ok (.aload_n 0, 1) := by decide +kernel
theorem dX4_would_1 : decode cX4_would 1 = .ok (.iload_n 1, 1) := by decide +kernel
theorem dX4_would_2 : decode cX4_would 2 = .ok (.invokevirtual 64, 3) := by decide +kernel
theorem dX4_would_5 : decode cX4_would 5 = .ok (.astore 4, 2) := by decide +kernel
theorem dX4_would_7 : decode cX4_would 7 = .ok (.iload_n 2, 1) := by decide +kernel
theorem dX4_would_8 : decode cX4_would 8 = .ok (.iload_n 3, 1) := by decide +kernel
theorem dX4_would_9 : decode cX4_would 9 = .ok (.invokestatic 68, 3) := by decide +kernel
theorem dX4_would_12 : decode cX4_would 12 = .ok (.aload_n 0, 1) := by decide +kernel
theorem dX4_would_13 : decode cX4_would 13 = .ok (.getfield 30, 3) := by decide +kernel
theorem dX4_would_16 : decode cX4_would 16 = .ok (.aload 4, 2) := by decide +kernel
theorem dX4_would_18 : decode cX4_would 18 = .ok (.getfield 75, 3) := by decide +kernel
theorem dX4_would_21 : decode cX4_would 21 = .ok (.invokevirtual 223, 3) := by decide +kernel
theorem dX4_would_24 : decode cX4_would 24 = .ok (.aload_n 0, 1) := by decide +kernel
theorem dX4_would_25 : decode cX4_would 25 = .ok (.getfield 30, 3) := by decide +kernel
theorem dX4_would_28 : decode cX4_would 28 = .ok (.iload_n 2, 1) := by decide +kernel
theorem dX4_would_29 : decode cX4_would 29 = .ok (.iload_n 3, 1) := by decide +kernel
theorem dX4_would_30 : decode cX4_would 30 = .ok (.invokevirtual 78, 3) := by decide +kernel
theorem dX4_would_33 : decode cX4_would 33 = .ok (.aload_n 0, 1) := by decide +kernel
theorem dX4_would_34 : decode cX4_would 34 = .ok (.getfield 30, 3) := by decide +kernel
theorem dX4_would_37 : decode cX4_would 37 = .ok (.invokevirtual 81, 3) := by decide +kernel
theorem dX4_would_40 : decode cX4_would 40 = .ok (.ireturn, 1) := by decide +kernel
theorem dX4_best_0 : decode cX4_best 0 = .ok (.aload_n 0, 1) := by decide +kernel
theorem dX4_best_1 : decode cX4_best 1 = .ok (.iload_n 1, 1) := by decide +kernel
theorem dX4_best_2 : decode cX4_best 2 = .ok (.invokevirtual 64, 3) := by decide +kernel
theorem dX4_best_5 : decode cX4_best 5 = .ok (.astore 4, 2) := by decide +kernel
theorem dX4_best_7 : decode cX4_best 7 = .ok (.iload_n 3, 1) := by decide +kernel
theorem dX4_best_8 : decode cX4_best 8 = .ok (.iconst 2, 1) := by decide +kernel
theorem dX4_best_9 : decode cX4_best 9 = .ok (.invokestatic 180, 3) := by decide +kernel
theorem dX4_best_12 : decode cX4_best 12 = .ok (.iload_n 2, 1) := by decide +kernel
theorem dX4_best_13 : decode cX4_best 13 = .ok (.iconst 1, 1) := by decide +kernel
theorem dX4_best_14 : decode cX4_best 14 = .ok (.if_icmp .lt 9, 3) := by decide +kernel
theorem dX4_best_17 : decode cX4_best 17 = .ok (.iload_n 2, 1) := by decide +kernel
theorem dX4_best_18 : decode cX4_best 18 = .ok (.bipush 10, 2) := by decide +kernel
theorem dX4_best_20 : decode cX4_best 20 = .ok (.if_icmp .le 13, 3) := by decide +kernel
theorem dX4_best_23 : decode cX4_best 23 = .ok (.new 45, 3) := by decide +kernel
theorem dX4_best_26 : decode cX4_best 26 = .ok (.dup, 1) := by decide +kernel
theorem dX4_best_27 : decode cX4_best 27 = .ok (.ldc 227, 2) := by decide +kernel
theorem dX4_best_29 : decode cX4_best 29 = .ok (.invokespecial 49, 3) := by decide +kernel
theorem dX4_best_32 : decode cX4_best 32 = .ok (.athrow, 1) := by decide +kernel
theorem dX4_best_33 : decode cX4_best 33 = .ok (.iconst (-1), 1) := by decide +kernel
theorem dX4_best_34 : decode cX4_best 34 = .ok (.istore 5, 2) := by decide +kernel
theorem dX4_best_36 : decode cX4_best 36 = .ok (.iconst (-1), 1) := by decide +kernel
theorem dX4_best_37 : decode cX4_best 37 = .ok (.istore 6, 2) := by decide +kernel
theorem dX4_best_39 : decode cX4_best 39 = .ok (.iconst (-1), 1) := by decide +kernel
theorem dX4_best_40 : decode cX4_best 40 = .ok (.istore 7, 2) := by decide +kernel
theorem dX4_best_42 : decode cX4_best 42 = .ok (.bipush 15, 2) := by decide +kernel
theorem dX4_best_44 : decode cX4_best 44 = .ok (.istore 8, 2) := by decide +kernel
theorem dX4_best_46 : decode cX4_best 46 = .ok (.iload 8, 2) := by decide +kernel
theorem dX4_best_48 : decode cX4_best 48 = .ok (.bipush 50, 2) := by decide +kernel
theorem dX4_best_50 : decode cX4_best 50 = .ok (.if_icmp .gt 111, 3) := by decide +kernel
theorem dX4_best_53 : decode cX4_best 53 = .ok (.iload 7, 2) := by decide +kernel
theorem dX4_best_55 : decode cX4_best 55 = .ok (.bipush 100, 2) := by decide +kernel
theorem dX4_best_57 : decode cX4_best 57 = .ok (.if_icmp .ge 104, 3) := by decide +kernel
theorem dX4_best_60 : decode cX4_best 60 = .ok (.aload_n 0, 1) := by decide +kernel
theorem dX4_best_61 : decode cX4_best 61 = .ok (.getfield 30, 3) := by decide +kernel
theorem dX4_best_64 : decode cX4_best 64 = .ok (.aload 4, 2) := by decide +kernel
theorem dX4_best_66 : decode cX4_best 66 = .ok (.getfield 75, 3) := by decide +kernel
theorem dX4_best_69 : decode cX4_best 69 = .ok (.invokevirtual 223, 3) := by decide +kernel
theorem dX4_best_72 : decode cX4_best 72 = .ok (.aload_n 0, 1) := by decide +kernel
theorem dX4_best_73 : decode cX4_best 73 = .ok (.getfield 30, 3) := by decide +kernel
theorem dX4_best_76 : decode cX4_best 76 = .ok (.iload 8, 2) := by decide +kernel
theorem dX4_best_78 : decode cX4_best 78 = .ok (.iload_n 2, 1) := by decide +kernel
theorem dX4_best_79 : decode cX4_best 79 = .ok (.invokevirtual 78, 3) := by decide +kernel
theorem dX4_best_82 : decode cX4_best 82 = .ok (.bipush 15, 2) := by decide +kernel
theorem dX4_best_84 : decode cX4_best 84 = .ok (.istore 9, 2) := by decide +kernel
theorem dX4_best_86 : decode cX4_best 86 = .ok (.iload 9, 2) := by decide +kernel
theorem dX4_best_88 : decode cX4_best 88 = .ok (.bipush 50, 2) := by decide +kernel
theorem dX4_best_90 : decode cX4_best 90 = .ok (.if_icmp .gt 65, 3) := by decide +kernel
theorem dX4_best_93 : decode cX4_best 93 = .ok (.iload 7, 2) := by decide +kernel
theorem dX4_best_95 : decode cX4_best 95 = .ok (.bipush 100, 2) := by decide +kernel
theorem dX4_best_97 : decode cX4_best 97 = .ok (.if_icmp .ge 58, 3) := by decide +kernel
theorem dX4_best_100 : decode cX4_best 100 = .ok (.aload_n 0, 1) := by decide +kernel
theorem dX4_best_101 : decode cX4_best 101 = .ok (.getfield 34, 3) := by decide +kernel
theorem dX4_best_104 : decode cX4_best 104 = .ok (.aload_n 0, 1) := by decide +kernel
theorem dX4_best_105 : decode cX4_best 105 = .ok (.getfield 30, 3) := by decide +kernel
theorem dX4_best_108 : decode cX4_best 108 = .ok (.invokevirtual 223, 3) := by decide +kernel
theorem dX4_best_111 : decode cX4_best 111 = .ok (.aload_n 0, 1) := by decide +kernel
theorem dX4_best_112 : decode cX4_best 112 = .ok (.getfield 34, 3) := by decide +kernel
theorem dX4_best_115 : decode cX4_best 115 = .ok (.iload 9, 2) := by decide +kernel
theorem dX4_best_117 : decode cX4_best 117 = .ok (.iload_n 2, 1) := by decide +kernel
theorem dX4_best_118 : decode cX4_best 118 = .ok (.invokevirtual 78, 3) := by decide +kernel
theorem dX4_best_121 : decode cX4_best 121 = .ok (.aload_n 0, 1) := by decide +kernel
theorem dX4_best_122 : decode cX4_best 122 = .ok (.getfield 34, 3) := by decide +kernel
theorem dX4_best_125 : decode cX4_best 125 = .ok (.invokevirtual 81, 3) := by decide +kernel
theorem dX4_best_128 : decode cX4_best 128 = .ok (.istore 10, 2) := by decide +kernel
theorem dX4_best_130 : decode cX4_best 130 = .ok (.iload 10, 2) := by decide +kernel
theorem dX4_best_132 : decode cX4_best 132 = .ok (.iload 7, 2) := by decide +kernel
theorem dX4_best_134 : decode cX4_best 134 = .ok (.if_icmp .le 15, 3) := by decide +kernel
theorem dX4_best_137 : decode cX4_best 137 = .ok (.iload 8, 2) := by decide +kernel
theorem dX4_best_139 : decode cX4_best 139 = .ok (.istore 5, 2) := by decide +kernel
theorem dX4_best_141 : decode cX4_best 141 = .ok (.iload 9, 2) := by decide +kernel
theorem dX4_best_143 : decode cX4_best 143 = .ok (.istore 6, 2) := by decide +kernel
theorem dX4_best_145 : decode cX4_best 145 = .ok (.iload 10, 2) := by decide +kernel
theorem dX4_best_147 : decode cX4_best 147 = .ok (.istore 7, 2) := by decide +kernel
theorem dX4_best_149 : decode cX4_best 149 = .ok (.iinc 9 1, 3) := by decide +kernel
theorem dX4_best_152 : decode cX4_best 152 = .ok (.goto (-66), 3) := by decide +kernel
theorem dX4_best_155 : decode cX4_best 155 = .ok (.iinc 8 1, 3) := by decide +kernel
theorem dX4_best_158 : decode cX4_best 158 = .ok (.goto (-112), 3) := by decide +kernel
theorem dX4_best_161 : decode cX4_best 161 = .ok (.iload_n 3, 1) := by decide +kernel
theorem dX4_best_162 : decode cX4_best 162 = .ok (.ifCond .ne 6, 3) := by decide +kernel
theorem dX4_best_165 : decode cX4_best 165 = .ok (.iload 5, 2) := by decide +kernel
theorem dX4_best_167 : decode cX4_best 167 = .ok (.ireturn, 1) := by decide +kernel
theorem dX4_best_168 : decode cX4_best 168 = .ok (.iload_n 3, 1) := by decide +kernel
theorem dX4_best_169 : decode cX4_best 169 = .ok (.iconst 1, 1) := by decide +kernel
theorem dX4_best_170 : decode cX4_best 170 = .ok (.if_icmp .ne 8, 3) := by decide +kernel
theorem dX4_best_173 : decode cX4_best 173 = .ok (.iload 6, 2) := by decide +kernel
theorem dX4_best_175 : decode cX4_best 175 = .ok (.goto 5, 3) := by decide +kernel
theorem dX4_best_178 : decode cX4_best 178 = .ok (.iload 7, 2) := by decide +kernel
theorem dX4_best_180 : decode cX4_best 180 = .ok (.ireturn, 1) := by decide +kernel
theorem dX4_until_0 : decode cX4_until 0 = .ok (.aload_n 0, 1) := by decide +kernel
theorem dX4_until_1 : decode cX4_until 1 = .ok (.iload_n 1, 1) := by decide +kernel
theorem dX4_until_2 : decode cX4_until 2 = .ok (.invokevirtual 115, 3) := by decide +kernel
theorem dX4_until_5 : decode cX4_until 5 = .ok (.astore_n 3, 1) := by decide +kernel
theorem dX4_until_6 : decode cX4_until 6 = .ok (.iload_n 2, 1) := by decide +kernel
theorem dX4_until_7 : decode cX4_until 7 = .ok (.invokestatic 166, 3) := by decide +kernel
theorem dX4_until_10 : decode cX4_until 10 = .ok (.aload_n 3, 1) := by decide +kernel
theorem dX4_until_11 : decode cX4_until 11 = .ok (.invokevirtual 229, 3) := by decide +kernel
theorem dX4_until_14 : decode cX4_until 14 = .ok (.ifCond .eq 5, 3) := by decide +kernel
theorem dX4_until_17 : decode cX4_until 17 = .ok (.iconst 0, 1) := by decide +kernel
theorem dX4_until_18 : decode cX4_until 18 = .ok (.ireturn, 1) := by decide +kernel
theorem dX4_until_19 : decode cX4_until 19 = .ok (.aload_n 3, 1) := by decide +kernel
theorem dX4_until_20 : decode cX4_until 20 = .ok (.iload_n 2, 1) := by decide +kernel
theorem dX4_until_21 : decode cX4_until 21 = .ok (.invokevirtual 233, 3) := by decide +kernel
theorem dX4_until_24 : decode cX4_until 24 = .ok (.istore 4, 2) := by decide +kernel
theorem dX4_until_26 : decode cX4_until 26 = .ok (.iload 4, 2) := by decide +kernel
theorem dX4_until_28 : decode cX4_until 28 = .ok (.ifCond .gt 5, 3) := by decide +kernel
theorem dX4_until_31 : decode cX4_until 31 = .ok (.iconst (-1), 1) := by decide +kernel
theorem dX4_until_32 : decode cX4_until 32 = .ok (.ireturn, 1) := by decide +kernel
theorem dX4_until_33 : decode cX4_until 33 = .ok (.bipush 20, 2) := by decide +kernel
theorem dX4_until_35 : decode cX4_until 35 = .ok (.aload_n 3, 1) := by decide +kernel
theorem dX4_until_36 : decode cX4_until 36 = .ok (.getfield 122, 3) := by decide +kernel
theorem dX4_until_39 : decode cX4_until 39 = .ok (.isub, 1) := by decide +kernel
theorem dX4_until_40 : decode cX4_until 40 = .ok (.iload 4, 2) := by decide +kernel
theorem dX4_until_42 : decode cX4_until 42 = .ok (.idiv, 1) := by decide +kernel
theorem dX4_until_43 : decode cX4_until 43 = .ok (.iconst 1, 1) := by decide +kernel
theorem dX4_until_44 : decode cX4_until 44 = .ok (.iadd, 1) := by decide +kernel
theorem dX4_until_45 : decode cX4_until 45 = .ok (.ireturn, 1) := by decide +kernel
theorem dX4_advise_0 : decode cX4_advise 0 = .ok (.iconst (-1), 1) := by decide +kernel
theorem dX4_advise_1 : decode cX4_advise 1 = .ok (.istore_n 1, 1) := by decide +kernel
theorem dX4_advise_2 : decode cX4_advise 2 = .ok (.aload_n 0, 1) := by decide +kernel
theorem dX4_advise_3 : decode cX4_advise 3 = .ok (.iconst (-1), 1) := by decide +kernel
theorem dX4_advise_4 : decode cX4_advise 4 = .ok (.invokevirtual 158, 3) := by decide +kernel
theorem dX4_advise_7 : decode cX4_advise 7 = .ok (.istore_n 2, 1) := by decide +kernel
theorem dX4_advise_8 : decode cX4_advise 8 = .ok (.iconst 0, 1) := by decide +kernel
theorem dX4_advise_9 : decode cX4_advise 9 = .ok (.istore_n 3, 1) := by decide +kernel
theorem dX4_advise_10 : decode cX4_advise 10 = .ok (.iload_n 3, 1) := by decide +kernel
theorem dX4_advise_11 : decode cX4_advise 11 = .ok (.aload_n 0, 1) := by decide +kernel
theorem dX4_advise_12 : decode cX4_advise 12 = .ok (.getfield 211, 3) := by decide +kernel
theorem dX4_advise_15 : decode cX4_advise 15 = .ok (.if_icmp .ge 27, 3) := by decide +kernel
theorem dX4_advise_18 : decode cX4_advise 18 = .ok (.aload_n 0, 1) := by decide +kernel
theorem dX4_advise_19 : decode cX4_advise 19 = .ok (.iload_n 3, 1) := by decide +kernel
theorem dX4_advise_20 : decode cX4_advise 20 = .ok (.invokevirtual 158, 3) := by decide +kernel
theorem dX4_advise_23 : decode cX4_advise 23 = .ok (.istore 4, 2) := by decide +kernel
theorem dX4_advise_25 : decode cX4_advise 25 = .ok (.iload 4, 2) := by decide +kernel
theorem dX4_advise_27 : decode cX4_advise 27 = .ok (.iload_n 2, 1) := by decide +kernel
theorem dX4_advise_28 : decode cX4_advise 28 = .ok (.if_icmp .le 8, 3) := by decide +kernel
theorem dX4_advise_31 : decode cX4_advise 31 = .ok (.iload_n 3, 1) := by decide +kernel
theorem dX4_advise_32 : decode cX4_advise 32 = .ok (.istore_n 1, 1) := by decide +kernel
theorem dX4_advise_33 : decode cX4_advise 33 = .ok (.iload 4, 2) := by decide +kernel
theorem dX4_advise_35 : decode cX4_advise 35 = .ok (.istore_n 2, 1) := by decide +kernel
theorem dX4_advise_36 : decode cX4_advise 36 = .ok (.iinc 3 1, 3) := by decide +kernel
theorem dX4_advise_39 : decode cX4_advise 39 = .ok (.goto (-29), 3) := by decide +kernel
theorem dX4_advise_42 : decode cX4_advise 42 = .ok (.iload_n 1, 1) := by decide +kernel
theorem dX4_advise_43 : decode cX4_advise 43 = .ok (.ireturn, 1) := by decide +kernel
theorem dX4_mean_0 : decode cX4_mean 0 = .ok (.iconst 0, 1) := by decide +kernel
theorem dX4_mean_1 : decode cX4_mean 1 = .ok (.istore_n 1, 1) := by decide +kernel
theorem dX4_mean_2 : decode cX4_mean 2 = .ok (.aload_n 0, 1) := by decide +kernel
theorem dX4_mean_3 : decode cX4_mean 3 = .ok (.getfield 17, 3) := by decide +kernel
theorem dX4_mean_6 : decode cX4_mean 6 = .ok (.astore_n 2, 1) := by decide +kernel
theorem dX4_mean_7 : decode cX4_mean 7 = .ok (.aload_n 2, 1) := by decide +kernel
theorem dX4_mean_8 : decode cX4_mean 8 = .ok (.arraylength, 1) := by decide +kernel
theorem dX4_mean_9 : decode cX4_mean 9 = .ok (.istore_n 3, 1) := by decide +kernel
theorem dX4_mean_10 : decode cX4_mean 10 = .ok (.iconst 0, 1) := by decide +kernel
theorem dX4_mean_11 : decode cX4_mean 11 = .ok (.istore 4, 2) := by decide +kernel
theorem dX4_mean_13 : decode cX4_mean 13 = .ok (.iload 4, 2) := by decide +kernel
theorem dX4_mean_15 : decode cX4_mean 15 = .ok (.iload_n 3, 1) := by decide +kernel
theorem dX4_mean_16 : decode cX4_mean 16 = .ok (.if_icmp .ge 28, 3) := by decide +kernel
theorem dX4_mean_19 : decode cX4_mean 19 = .ok (.aload_n 2, 1) := by decide +kernel
theorem dX4_mean_20 : decode cX4_mean 20 = .ok (.iload 4, 2) := by decide +kernel
theorem dX4_mean_22 : decode cX4_mean 22 = .ok (.aaload, 1) := by decide +kernel
theorem dX4_mean_23 : decode cX4_mean 23 = .ok (.astore 5, 2) := by decide +kernel
theorem dX4_mean_25 : decode cX4_mean 25 = .ok (.aload 5, 2) := by decide +kernel
theorem dX4_mean_27 : decode cX4_mean 27 = .ok (.ifnull 11, 3) := by decide +kernel
theorem dX4_mean_30 : decode cX4_mean 30 = .ok (.iload_n 1, 1) := by decide +kernel
theorem dX4_mean_31 : decode cX4_mean 31 = .ok (.aload 5, 2) := by decide +kernel
theorem dX4_mean_33 : decode cX4_mean 33 = .ok (.getfield 122, 3) := by decide +kernel
theorem dX4_mean_36 : decode cX4_mean 36 = .ok (.iadd, 1) := by decide +kernel
theorem dX4_mean_37 : decode cX4_mean 37 = .ok (.istore_n 1, 1) := by decide +kernel
theorem dX4_mean_38 : decode cX4_mean 38 = .ok (.iinc 4 1, 3) := by decide +kernel
theorem dX4_mean_41 : decode cX4_mean 41 = .ok (.goto (-28), 3) := by decide +kernel
theorem dX4_mean_44 : decode cX4_mean 44 = .ok (.aload_n 0, 1) := by decide +kernel
theorem dX4_mean_45 : decode cX4_mean 45 = .ok (.getfield 211, 3) := by decide +kernel
theorem dX4_mean_48 : decode cX4_mean 48 = .ok (.ifCond .gt 7, 3) := by decide +kernel
theorem dX4_mean_51 : decode cX4_mean 51 = .ok (.dconst 0, 1) := by decide +kernel
theorem dX4_mean_52 : decode cX4_mean 52 = .ok (.goto 11, 3) := by decide +kernel
theorem dX4_mean_55 : decode cX4_mean 55 = .ok (.iload_n 1, 1) := by decide +kernel
theorem dX4_mean_56 : decode cX4_mean 56 = .ok (.i2d, 1) := by decide +kernel
theorem dX4_mean_57 : decode cX4_mean 57 = .ok (.aload_n 0, 1) := by decide +kernel
theorem dX4_mean_58 : decode cX4_mean 58 = .ok (.getfield 211, 3) := by decide +kernel
theorem dX4_mean_61 : decode cX4_mean 61 = .ok (.i2d, 1) := by decide +kernel
theorem dX4_mean_62 : decode cX4_mean 62 = .ok (.ddiv, 1) := by decide +kernel
theorem dX4_mean_63 : decode cX4_mean 63 = .ok (.dreturn, 1) := by decide +kernel
theorem dX4_digest_0 : decode cX4_digest 0 = .ok (.ldc2_w 236, 3) := by decide +kernel
theorem dX4_digest_3 : decode cX4_digest 3 = .ok (.lstore_n 1, 1) := by decide +kernel
theorem dX4_digest_4 : decode cX4_digest 4 = .ok (.iconst 0, 1) := by decide +kernel
theorem dX4_digest_5 : decode cX4_digest 5 = .ok (.istore_n 3, 1) := by decide +kernel
theorem dX4_digest_6 : decode cX4_digest 6 = .ok (.iload_n 3, 1) := by decide +kernel
theorem dX4_digest_7 : decode cX4_digest 7 = .ok (.bipush 7, 2) := by decide +kernel
theorem dX4_digest_9 : decode cX4_digest 9 = .ok (.if_icmp .gt 22, 3) := by decide +kernel
theorem dX4_digest_12 : decode cX4_digest 12 = .ok (.lload_n 1, 1) := by decide +kernel
theorem dX4_digest_13 : decode cX4_digest 13 = .ok (.ldc2_w 238, 3) := by decide +kernel
theorem dX4_digest_16 : decode cX4_digest 16 = .ok (.lmul, 1) := by decide +kernel
theorem dX4_digest_17 : decode cX4_digest 17 = .ok (.aload_n 0, 1) := by decide +kernel
theorem dX4_digest_18 : decode cX4_digest 18 = .ok (.iload_n 3, 1) := by decide +kernel
theorem dX4_digest_19 : decode cX4_digest 19 = .ok (.invokevirtual 240, 3) := by decide +kernel
theorem dX4_digest_22 : decode cX4_digest 22 = .ok (.i2l, 1) := by decide +kernel
theorem dX4_digest_23 : decode cX4_digest 23 = .ok (.ladd, 1) := by decide +kernel
theorem dX4_digest_24 : decode cX4_digest 24 = .ok (.lstore_n 1, 1) := by decide +kernel
theorem dX4_digest_25 : decode cX4_digest 25 = .ok (.iinc 3 1, 3) := by decide +kernel
theorem dX4_digest_28 : decode cX4_digest 28 = .ok (.goto (-22), 3) := by decide +kernel
theorem dX4_digest_31 : decode cX4_digest 31 = .ok (.iconst 0, 1) := by decide +kernel
theorem dX4_digest_32 : decode cX4_digest 32 = .ok (.istore_n 3, 1) := by decide +kernel
theorem dX4_digest_33 : decode cX4_digest 33 = .ok (.iload_n 3, 1) := by decide +kernel
theorem dX4_digest_34 : decode cX4_digest 34 = .ok (.aload_n 0, 1) := by decide +kernel
theorem dX4_digest_35 : decode cX4_digest 35 = .ok (.getfield 52, 3) := by decide +kernel
theorem dX4_digest_38 : decode cX4_digest 38 = .ok (.if_icmp .ge 40, 3) := by decide +kernel
theorem dX4_digest_41 : decode cX4_digest 41 = .ok (.iconst 0, 1) := by decide +kernel
theorem dX4_digest_42 : decode cX4_digest 42 = .ok (.istore 4, 2) := by decide +kernel
theorem dX4_digest_44 : decode cX4_digest 44 = .ok (.iload 4, 2) := by decide +kernel
theorem dX4_digest_46 : decode cX4_digest 46 = .ok (.bipush 7, 2) := by decide +kernel
theorem dX4_digest_48 : decode cX4_digest 48 = .ok (.if_icmp .gt 24, 3) := by decide +kernel
theorem dX4_digest_51 : decode cX4_digest 51 = .ok (.lload_n 1, 1) := by decide +kernel
theorem dX4_digest_52 : decode cX4_digest 52 = .ok (.ldc2_w 238, 3) := by decide +kernel
theorem dX4_digest_55 : decode cX4_digest 55 = .ok (.lmul, 1) := by decide +kernel
theorem dX4_digest_56 : decode cX4_digest 56 = .ok (.aload_n 0, 1) := by decide +kernel
theorem dX4_digest_57 : decode cX4_digest 57 = .ok (.iload_n 3, 1) := by decide +kernel
theorem dX4_digest_58 : decode cX4_digest 58 = .ok (.iload 4, 2) := by decide +kernel
theorem dX4_digest_60 : decode cX4_digest 60 = .ok (.invokevirtual 243, 3) := by decide +kernel
theorem dX4_digest_63 : decode cX4_digest 63 = .ok (.i2l, 1) := by decide +kernel
theorem dX4_digest_64 : decode cX4_digest 64 = .ok (.ladd, 1) := by decide +kernel
theorem dX4_digest_65 : decode cX4_digest 65 = .ok (.lstore_n 1, 1) := by decide +kernel
theorem dX4_digest_66 : decode cX4_digest 66 = .ok (.iinc 4 1, 3) := by decide +kernel
theorem dX4_digest_69 : decode cX4_digest 69 = .ok (.goto (-25), 3) := by decide +kernel
theorem dX4_digest_72 : decode cX4_digest 72 = .ok (.iinc 3 1, 3) := by decide +kernel
theorem dX4_digest_75 : decode cX4_digest 75 = .ok (.goto (-42), 3) := by decide +kernel
theorem dX4_digest_78 : decode cX4_digest 78 = .ok (.iconst 0, 1) := by decide +kernel
theorem dX4_digest_79 : decode cX4_digest 79 = .ok (.istore_n 3, 1) := by decide +kernel
theorem dX4_digest_80 : decode cX4_digest 80 = .ok (.iload_n 3, 1) := by decide +kernel
theorem dX4_digest_81 : decode cX4_digest 81 = .ok (.aload_n 0, 1) := by decide +kernel
theorem dX4_digest_82 : decode cX4_digest 82 = .ok (.getfield 211, 3) := by decide +kernel
theorem dX4_digest_85 : decode cX4_digest 85 = .ok (.if_icmp .ge 40, 3) := by decide +kernel
theorem dX4_digest_88 : decode cX4_digest 88 = .ok (.iconst 0, 1) := by decide +kernel
theorem dX4_digest_89 : decode cX4_digest 89 = .ok (.istore 4, 2) := by decide +kernel
theorem dX4_digest_91 : decode cX4_digest 91 = .ok (.iload 4, 2) := by decide +kernel
theorem dX4_digest_93 : decode cX4_digest 93 = .ok (.bipush 6, 2) := by decide +kernel
theorem dX4_digest_95 : decode cX4_digest 95 = .ok (.if_icmp .gt 24, 3) := by decide +kernel
theorem dX4_digest_98 : decode cX4_digest 98 = .ok (.lload_n 1, 1) := by decide +kernel
theorem dX4_digest_99 : decode cX4_digest 99 = .ok (.ldc2_w 238, 3) := by decide +kernel
theorem dX4_digest_102 : decode cX4_digest 102 = .ok (.lmul, 1) := by decide +kernel
theorem dX4_digest_103 : decode cX4_digest 103 = .ok (.aload_n 0, 1) := by decide +kernel
theorem dX4_digest_104 : decode cX4_digest 104 = .ok (.iload_n 3, 1) := by decide +kernel
theorem dX4_digest_105 : decode cX4_digest 105 = .ok (.iload 4, 2) := by decide +kernel
theorem dX4_digest_107 : decode cX4_digest 107 = .ok (.invokevirtual 247, 3) := by decide +kernel
theorem dX4_digest_110 : decode cX4_digest 110 = .ok (.i2l, 1) := by decide +kernel
theorem dX4_digest_111 : decode cX4_digest 111 = .ok (.ladd, 1) := by decide +kernel
theorem dX4_digest_112 : decode cX4_digest 112 = .ok (.lstore_n 1, 1) := by decide +kernel
theorem dX4_digest_113 : decode cX4_digest 113 = .ok (.iinc 4 1, 3) := by decide +kernel
theorem dX4_digest_116 : decode cX4_digest 116 = .ok (.goto (-25), 3) := by decide +kernel
theorem dX4_digest_119 : decode cX4_digest 119 = .ok (.iinc 3 1, 3) := by decide +kernel
theorem dX4_digest_122 : decode cX4_digest 122 = .ok (.goto (-42), 3) := by decide +kernel
theorem dX4_digest_125 : decode cX4_digest 125 = .ok (.iconst 0, 1) := by decide +kernel
theorem dX4_digest_126 : decode cX4_digest 126 = .ok (.istore_n 3, 1) := by decide +kernel
theorem dX4_digest_127 : decode cX4_digest 127 = .ok (.iload_n 3, 1) := by decide +kernel
theorem dX4_digest_128 : decode cX4_digest 128 = .ok (.aload_n 0, 1) := by decide +kernel
theorem dX4_digest_129 : decode cX4_digest 129 = .ok (.getfield 151, 3) := by decide +kernel
theorem dX4_digest_132 : decode cX4_digest 132 = .ok (.if_icmp .ge 39, 3) := by decide +kernel
theorem dX4_digest_135 : decode cX4_digest 135 = .ok (.iconst 0, 1) := by decide +kernel
theorem dX4_digest_136 : decode cX4_digest 136 = .ok (.istore 4, 2) := by decide +kernel
theorem dX4_digest_138 : decode cX4_digest 138 = .ok (.iload 4, 2) := by decide +kernel
theorem dX4_digest_140 : decode cX4_digest 140 = .ok (.iconst 4, 1) := by decide +kernel
theorem dX4_digest_141 : decode cX4_digest 141 = .ok (.if_icmp .gt 24, 3) := by decide +kernel
theorem dX4_digest_144 : decode cX4_digest 144 = .ok (.lload_n 1, 1) := by decide +kernel
theorem dX4_digest_145 : decode cX4_digest 145 = .ok (.ldc2_w 238, 3) := by decide +kernel
theorem dX4_digest_148 : decode cX4_digest 148 = .ok (.lmul, 1) := by decide +kernel
theorem dX4_digest_149 : decode cX4_digest 149 = .ok (.aload_n 0, 1) := by decide +kernel
theorem dX4_digest_150 : decode cX4_digest 150 = .ok (.iload_n 3, 1) := by decide +kernel
theorem dX4_digest_151 : decode cX4_digest 151 = .ok (.iload 4, 2) := by decide +kernel
theorem dX4_digest_153 : decode cX4_digest 153 = .ok (.invokevirtual 250, 3) := by decide +kernel
theorem dX4_digest_156 : decode cX4_digest 156 = .ok (.i2l, 1) := by decide +kernel
theorem dX4_digest_157 : decode cX4_digest 157 = .ok (.ladd, 1) := by decide +kernel
theorem dX4_digest_158 : decode cX4_digest 158 = .ok (.lstore_n 1, 1) := by decide +kernel
theorem dX4_digest_159 : decode cX4_digest 159 = .ok (.iinc 4 1, 3) := by decide +kernel
theorem dX4_digest_162 : decode cX4_digest 162 = .ok (.goto (-24), 3) := by decide +kernel
theorem dX4_digest_165 : decode cX4_digest 165 = .ok (.iinc 3 1, 3) := by decide +kernel
theorem dX4_digest_168 : decode cX4_digest 168 = .ok (.goto (-41), 3) := by decide +kernel
theorem dX4_digest_171 : decode cX4_digest 171 = .ok (.lload_n 1, 1) := by decide +kernel
theorem dX4_digest_172 : decode cX4_digest 172 = .ok (.lreturn, 1) := by decide +kernel
theorem dX4_checkWarming_0 : decode cX4_checkWarming 0 = .ok (.iload_n 0, 1) := by decide +kernel
theorem dX4_checkWarming_1 : decode cX4_checkWarming 1 = .ok (.bipush 15, 2) := by decide +kernel
theorem dX4_checkWarming_3 : decode cX4_checkWarming 3 = .ok (.if_icmp .lt 20, 3) := by decide +kernel
theorem dX4_checkWarming_6 : decode cX4_checkWarming 6 = .ok (.iload_n 0, 1) := by decide +kernel
theorem dX4_checkWarming_7 : decode cX4_checkWarming 7 = .ok (.bipush 50, 2) := by decide +kernel
theorem dX4_checkWarming_9 : decode cX4_checkWarming 9 = .ok (.if_icmp .gt 14, 3) := by decide +kernel
theorem dX4_checkWarming_12 : decode cX4_checkWarming 12 = .ok (.iload_n 1, 1) := by decide +kernel
theorem dX4_checkWarming_13 : decode cX4_checkWarming 13 = .ok (.iconst 1, 1) := by decide +kernel
theorem dX4_checkWarming_14 : decode cX4_checkWarming 14 = .ok (.if_icmp .lt 9, 3) := by decide +kernel
theorem dX4_checkWarming_17 : decode cX4_checkWarming 17 = .ok (.iload_n 1, 1) := by decide +kernel
theorem dX4_checkWarming_18 : decode cX4_checkWarming 18 = .ok (.bipush 40, 2) := by decide +kernel
theorem dX4_checkWarming_20 : decode cX4_checkWarming 20 = .ok (.if_icmp .le 13, 3) := by decide +kernel
theorem dX4_checkWarming_23 : decode cX4_checkWarming 23 = .ok (.new 45, 3) := by decide +kernel
theorem dX4_checkWarming_26 : decode cX4_checkWarming 26 = .ok (.dup, 1) := by decide +kernel
theorem dX4_checkWarming_27 : decode cX4_checkWarming 27 = .ok (.ldc 253, 2) := by decide +kernel
theorem dX4_checkWarming_29 : decode cX4_checkWarming 29 = .ok (.invokespecial 49, 3) := by decide +kernel
theorem dX4_checkWarming_32 : decode cX4_checkWarming 32 = .ok (.athrow, 1) := by decide +kernel
theorem dX4_checkWarming_33 : decode cX4_checkWarming 33 = .ok (.return_, 1) := by decide +kernel
theorem dX4_checkRoom_0 : decode cX4_checkRoom 0 = .ok (.iload_n 0, 1) := by decide +kernel
theorem dX4_checkRoom_1 : decode cX4_checkRoom 1 = .ok (.bipush 10, 2) := by decide +kernel
theorem dX4_checkRoom_3 : decode cX4_checkRoom 3 = .ok (.if_icmp .lt 9, 3) := by decide +kernel
theorem dX4_checkRoom_6 : decode cX4_checkRoom 6 = .ok (.iload_n 0, 1) := by decide +kernel
theorem dX4_checkRoom_7 : decode cX4_checkRoom 7 = .ok (.bipush 40, 2) := by decide +kernel
theorem dX4_checkRoom_9 : decode cX4_checkRoom 9 = .ok (.if_icmp .le 13, 3) := by decide +kernel
theorem dX4_checkRoom_12 : decode cX4_checkRoom 12 = .ok (.new 45, 3) := by decide +kernel
theorem dX4_checkRoom_15 : decode cX4_checkRoom 15 = .ok (.dup, 1) := by decide +kernel
theorem dX4_checkRoom_16 : decode cX4_checkRoom 16 = .ok (.ldc 255, 2) := by decide +kernel
theorem dX4_checkRoom_18 : decode cX4_checkRoom 18 = .ok (.invokespecial 49, 3) := by decide +kernel
theorem dX4_checkRoom_21 : decode cX4_checkRoom 21 = .ok (.athrow, 1) := by decide +kernel
theorem dX4_checkRoom_22 : decode cX4_checkRoom 22 = .ok (.return_, 1) := by decide +kernel
theorem dX4_checkWhat_0 : decode cX4_checkWhat 0 = .ok (.iload_n 0, 1) := by decide +kernel
theorem dX4_checkWhat_1 : decode cX4_checkWhat 1 = .ok (.ifCond .lt 8, 3) := by decide +kernel
theorem dX4_checkWhat_4 : decode cX4_checkWhat 4 = .ok (.iload_n 0, 1) := by decide +kernel
theorem dX4_checkWhat_5 : decode cX4_checkWhat 5 = .ok (.iload_n 1, 1) := by decide +kernel
theorem dX4_checkWhat_6 : decode cX4_checkWhat 6 = .ok (.if_icmp .le 14, 3) := by decide +kernel
theorem dX4_checkWhat_9 : decode cX4_checkWhat 9 = .ok (.new 131, 3) := by decide +kernel
theorem dX4_checkWhat_12 : decode cX4_checkWhat 12 = .ok (.dup, 1) := by decide +kernel
theorem dX4_checkWhat_13 : decode cX4_checkWhat 13 = .ok (.ldc_w 257, 3) := by decide +kernel
theorem dX4_checkWhat_16 : decode cX4_checkWhat 16 = .ok (.invokespecial 135, 3) := by decide +kernel
theorem dX4_checkWhat_19 : decode cX4_checkWhat 19 = .ok (.athrow, 1) := by decide +kernel
theorem dX4_checkWhat_20 : decode cX4_checkWhat 20 = .ok (.return_, 1) := by decide +kernel
theorem dX4_bowlAt_0 : decode cX4_bowlAt 0 = .ok (.iload_n 1, 1) := by decide +kernel
theorem dX4_bowlAt_1 : decode cX4_bowlAt 1 = .ok (.ifCond .lt 8, 3) := by decide +kernel
theorem dX4_bowlAt_4 : decode cX4_bowlAt 4 = .ok (.iload_n 1, 1) := by decide +kernel
theorem dX4_bowlAt_5 : decode cX4_bowlAt 5 = .ok (.iconst 5, 1) := by decide +kernel
theorem dX4_bowlAt_6 : decode cX4_bowlAt 6 = .ok (.if_icmp .lt 7, 3) := by decide +kernel
theorem dX4_bowlAt_9 : decode cX4_bowlAt 9 = .ok (.aconst_null, 1) := by decide +kernel
theorem dX4_bowlAt_10 : decode cX4_bowlAt 10 = .ok (.goto 9, 3) := by decide +kernel
theorem dX4_bowlAt_13 : decode cX4_bowlAt 13 = .ok (.aload_n 0, 1) := by decide +kernel
theorem dX4_bowlAt_14 : decode cX4_bowlAt 14 = .ok (.getfield 11, 3) := by decide +kernel
theorem dX4_bowlAt_17 : decode cX4_bowlAt 17 = .ok (.iload_n 1, 1) := by decide +kernel
theorem dX4_bowlAt_18 : decode cX4_bowlAt 18 = .ok (.aaload, 1) := by decide +kernel
theorem dX4_bowlAt_19 : decode cX4_bowlAt 19 = .ok (.astore_n 2, 1) := by decide +kernel
theorem dX4_bowlAt_20 : decode cX4_bowlAt 20 = .ok (.aload_n 2, 1) := by decide +kernel
theorem dX4_bowlAt_21 : decode cX4_bowlAt 21 = .ok (.ifnonnull 14, 3) := by decide +kernel
theorem dX4_bowlAt_24 : decode cX4_bowlAt 24 = .ok (.new 131, 3) := by decide +kernel
theorem dX4_bowlAt_27 : decode cX4_bowlAt 27 = .ok (.dup, 1) := by decide +kernel
theorem dX4_bowlAt_28 : decode cX4_bowlAt 28 = .ok (.ldc_w 259, 3) := by decide +kernel
theorem dX4_bowlAt_31 : decode cX4_bowlAt 31 = .ok (.invokespecial 135, 3) := by decide +kernel
theorem dX4_bowlAt_34 : decode cX4_bowlAt 34 = .ok (.athrow, 1) := by decide +kernel
theorem dX4_bowlAt_35 : decode cX4_bowlAt 35 = .ok (.aload_n 2, 1) := by decide +kernel
theorem dX4_bowlAt_36 : decode cX4_bowlAt 36 = .ok (.areturn, 1) := by decide +kernel
theorem dX4_slabAt_0 : decode cX4_slabAt 0 = .ok (.aload_n 0, 1) := by decide +kernel
theorem dX4_slabAt_1 : decode cX4_slabAt 1 = .ok (.iload_n 1, 1) := by decide +kernel
theorem dX4_slabAt_2 : decode cX4_slabAt 2 = .ok (.invokevirtual 261, 3) := by decide +kernel
theorem dX4_slabAt_5 : decode cX4_slabAt 5 = .ok (.astore_n 2, 1) := by decide +kernel
theorem dX4_slabAt_6 : decode cX4_slabAt 6 = .ok (.aload_n 2, 1) := by decide +kernel
theorem dX4_slabAt_7 : decode cX4_slabAt 7 = .ok (.ifnonnull 14, 3) := by decide +kernel
theorem dX4_slabAt_10 : decode cX4_slabAt 10 = .ok (.new 131, 3) := by decide +kernel
theorem dX4_slabAt_13 : decode cX4_slabAt 13 = .ok (.dup, 1) := by decide +kernel
theorem dX4_slabAt_14 : decode cX4_slabAt 14 = .ok (.ldc_w 264, 3) := by decide +kernel
theorem dX4_slabAt_17 : decode cX4_slabAt 17 = .ok (.invokespecial 135, 3) := by decide +kernel
theorem dX4_slabAt_20 : decode cX4_slabAt 20 = .ok (.athrow, 1) := by decide +kernel
theorem dX4_slabAt_21 : decode cX4_slabAt 21 = .ok (.aload_n 2, 1) := by decide +kernel
theorem dX4_slabAt_22 : decode cX4_slabAt 22 = .ok (.areturn, 1) := by decide +kernel
theorem dX4_findSlab_0 : decode cX4_findSlab 0 = .ok (.iload_n 1, 1) := by decide +kernel
theorem dX4_findSlab_1 : decode cX4_findSlab 1 = .ok (.ifCond .lt 9, 3) := by decide +kernel
theorem dX4_findSlab_4 : decode cX4_findSlab 4 = .ok (.iload_n 1, 1) := by decide +kernel
theorem dX4_findSlab_5 : decode cX4_findSlab 5 = .ok (.bipush 8, 2) := by decide +kernel
theorem dX4_findSlab_7 : decode cX4_findSlab 7 = .ok (.if_icmp .lt 7, 3) := by decide +kernel
theorem dX4_findSlab_10 : decode cX4_findSlab 10 = .ok (.aconst_null, 1) := by decide +kernel
theorem dX4_findSlab_11 : decode cX4_findSlab 11 = .ok (.goto 9, 3) := by decide +kernel
theorem dX4_findSlab_14 : decode cX4_findSlab 14 = .ok (.aload_n 0, 1) := by decide +kernel
theorem dX4_findSlab_15 : decode cX4_findSlab 15 = .ok (.getfield 17, 3) := by decide +kernel
theorem dX4_findSlab_18 : decode cX4_findSlab 18 = .ok (.iload_n 1, 1) := by decide +kernel
theorem dX4_findSlab_19 : decode cX4_findSlab 19 = .ok (.aaload, 1) := by decide +kernel
theorem dX4_findSlab_20 : decode cX4_findSlab 20 = .ok (.areturn, 1) := by decide +kernel
theorem dX4_boxAt_0 : decode cX4_boxAt 0 = .ok (.iload_n 1, 1) := by decide +kernel
theorem dX4_boxAt_1 : decode cX4_boxAt 1 = .ok (.ifCond .lt 9, 3) := by decide +kernel
theorem dX4_boxAt_4 : decode cX4_boxAt 4 = .ok (.iload_n 1, 1) := by decide +kernel
theorem dX4_boxAt_5 : decode cX4_boxAt 5 = .ok (.bipush 6, 2) := by decide +kernel
theorem dX4_boxAt_7 : decode cX4_boxAt 7 = .ok (.if_icmp .lt 7, 3) := by decide +kernel
theorem dX4_boxAt_10 : decode cX4_boxAt 10 = .ok (.aconst_null, 1) := by decide +kernel
theorem dX4_boxAt_11 : decode cX4_boxAt 11 = .ok (.goto 9, 3) := by decide +kernel
theorem dX4_boxAt_14 : decode cX4_boxAt 14 = .ok (.aload_n 0, 1) := by decide +kernel
theorem dX4_boxAt_15 : decode cX4_boxAt 15 = .ok (.getfield 23, 3) := by decide +kernel
theorem dX4_boxAt_18 : decode cX4_boxAt 18 = .ok (.iload_n 1, 1) := by decide +kernel
theorem dX4_boxAt_19 : decode cX4_boxAt 19 = .ok (.aaload, 1) := by decide +kernel
theorem dX4_boxAt_20 : decode cX4_boxAt 20 = .ok (.astore_n 2, 1) := by decide +kernel
theorem dX4_boxAt_21 : decode cX4_boxAt 21 = .ok (.aload_n 2, 1) := by decide +kernel
theorem dX4_boxAt_22 : decode cX4_boxAt 22 = .ok (.ifnonnull 14, 3) := by decide +kernel
theorem dX4_boxAt_25 : decode cX4_boxAt 25 = .ok (.new 131, 3) := by decide +kernel
theorem dX4_boxAt_28 : decode cX4_boxAt 28 = .ok (.dup, 1) := by decide +kernel
theorem dX4_boxAt_29 : decode cX4_boxAt 29 = .ok (.ldc_w 266, 3) := by decide +kernel
theorem dX4_boxAt_32 : decode cX4_boxAt 32 = .ok (.invokespecial 135, 3) := by decide +kernel
theorem dX4_boxAt_35 : decode cX4_boxAt 35 = .ok (.athrow, 1) := by decide +kernel
theorem dX4_boxAt_36 : decode cX4_boxAt 36 = .ok (.aload_n 2, 1) := by decide +kernel
theorem dX4_boxAt_37 : decode cX4_boxAt 37 = .ok (.areturn, 1) := by decide +kernel
theorem dX4_addSlab_0 : decode cX4_addSlab 0 = .ok (.aload_n 0, 1) := by decide +kernel
theorem dX4_addSlab_1 : decode cX4_addSlab 1 = .ok (.getfield 211, 3) := by decide +kernel
theorem dX4_addSlab_4 : decode cX4_addSlab 4 = .ok (.istore_n 2, 1) := by decide +kernel
theorem dX4_addSlab_5 : decode cX4_addSlab 5 = .ok (.iload_n 2, 1) := by decide +kernel
theorem dX4_addSlab_6 : decode cX4_addSlab 6 = .ok (.bipush 8, 2) := by decide +kernel
theorem dX4_addSlab_8 : decode cX4_addSlab 8 = .ok (.if_icmp .lt 14, 3) := by decide +kernel
theorem dX4_addSlab_11 : decode cX4_addSlab 11 = .ok (.new 56, 3) := by decide +kernel
theorem dX4_addSlab_14 : decode cX4_addSlab 14 = .ok (.dup, 1) := by decide +kernel
theorem dX4_addSlab_15 : decode cX4_addSlab 15 = .ok (.ldc_w 268, 3) := by decide +kernel
theorem dX4_addSlab_18 : decode cX4_addSlab 18 = .ok (.invokespecial 60, 3) := by decide +kernel
theorem dX4_addSlab_21 : decode cX4_addSlab 21 = .ok (.athrow, 1) := by decide +kernel
theorem dX4_addSlab_22 : decode cX4_addSlab 22 = .ok (.aload_n 0, 1) := by decide +kernel
theorem dX4_addSlab_23 : decode cX4_addSlab 23 = .ok (.getfield 17, 3) := by decide +kernel
theorem dX4_addSlab_26 : decode cX4_addSlab 26 = .ok (.iload_n 2, 1) := by decide +kernel
theorem dX4_addSlab_27 : decode cX4_addSlab 27 = .ok (.aload_n 1, 1) := by decide +kernel
theorem dX4_addSlab_28 : decode cX4_addSlab 28 = .ok (.aastore, 1) := by decide +kernel
theorem dX4_addSlab_29 : decode cX4_addSlab 29 = .ok (.aload_n 0, 1) := by decide +kernel
theorem dX4_addSlab_30 : decode cX4_addSlab 30 = .ok (.iload_n 2, 1) := by decide +kernel
theorem dX4_addSlab_31 : decode cX4_addSlab 31 = .ok (.iconst 1, 1) := by decide +kernel
theorem dX4_addSlab_32 : decode cX4_addSlab 32 = .ok (.iadd, 1) := by decide +kernel
theorem dX4_addSlab_33 : decode cX4_addSlab 33 = .ok (.putfield 211, 3) := by decide +kernel
theorem dX4_addSlab_36 : decode cX4_addSlab 36 = .ok (.iload_n 2, 1) := by decide +kernel
theorem dX4_addSlab_37 : decode cX4_addSlab 37 = .ok (.ireturn, 1) := by decide +kernel
theorem dX4_closeGaps_0 : decode cX4_closeGaps 0 = .ok (.iconst 0, 1) := by decide +kernel
theorem dX4_closeGaps_1 : decode cX4_closeGaps 1 = .ok (.istore_n 1, 1) := by decide +kernel
theorem dX4_closeGaps_2 : decode cX4_closeGaps 2 = .ok (.iconst 0, 1) := by decide +kernel
theorem dX4_closeGaps_3 : decode cX4_closeGaps 3 = .ok (.istore_n 2, 1) := by decide +kernel
theorem dX4_closeGaps_4 : decode cX4_closeGaps 4 = .ok (.iload_n 2, 1) := by decide +kernel
theorem dX4_closeGaps_5 : decode cX4_closeGaps 5 = .ok (.bipush 8, 2) := by decide +kernel
theorem dX4_closeGaps_7 : decode cX4_closeGaps 7 = .ok (.if_icmp .ge 37, 3) := by decide +kernel
theorem dX4_closeGaps_10 : decode cX4_closeGaps 10 = .ok (.aload_n 0, 1) := by decide +kernel
theorem dX4_closeGaps_11 : decode cX4_closeGaps 11 = .ok (.getfield 17, 3) := by decide +kernel
theorem dX4_closeGaps_14 : decode cX4_closeGaps 14 = .ok (.iload_n 2, 1) := by decide +kernel
theorem dX4_closeGaps_15 : decode cX4_closeGaps 15 = .ok (.aaload, 1) := by decide +kernel
theorem dX4_closeGaps_16 : decode cX4_closeGaps 16 = .ok (.astore_n 3, 1) := by decide +kernel
theorem dX4_closeGaps_17 : decode cX4_closeGaps 17 = .ok (.aload_n 0, 1) := by decide +kernel
theorem dX4_closeGaps_18 : decode cX4_closeGaps 18 = .ok (.getfield 17, 3) := by decide +kernel
theorem dX4_closeGaps_21 : decode cX4_closeGaps 21 = .ok (.iload_n 2, 1) := by decide +kernel
theorem dX4_closeGaps_22 : decode cX4_closeGaps 22 = .ok (.aconst_null, 1) := by decide +kernel
theorem dX4_closeGaps_23 : decode cX4_closeGaps 23 = .ok (.aastore, 1) := by decide +kernel
theorem dX4_closeGaps_24 : decode cX4_closeGaps 24 = .ok (.aload_n 3, 1) := by decide +kernel
theorem dX4_closeGaps_25 : decode cX4_closeGaps 25 = .ok (.ifnull 13, 3) := by decide +kernel
theorem dX4_closeGaps_28 : decode cX4_closeGaps 28 = .ok (.aload_n 0, 1) := by decide +kernel
theorem dX4_closeGaps_29 : decode cX4_closeGaps 29 = .ok (.getfield 17, 3) := by decide +kernel
theorem dX4_closeGaps_32 : decode cX4_closeGaps 32 = .ok (.iload_n 1, 1) := by decide +kernel
theorem dX4_closeGaps_33 : decode cX4_closeGaps 33 = .ok (.aload_n 3, 1) := by decide +kernel
theorem dX4_closeGaps_34 : decode cX4_closeGaps 34 = .ok (.aastore, 1) := by decide +kernel
theorem dX4_closeGaps_35 : decode cX4_closeGaps 35 = .ok (.iinc 1 1, 3) := by decide +kernel
theorem dX4_closeGaps_38 : decode cX4_closeGaps 38 = .ok (.iinc 2 1, 3) := by decide +kernel
theorem dX4_closeGaps_41 : decode cX4_closeGaps 41 = .ok (.goto (-37), 3) := by decide +kernel
theorem dX4_closeGaps_44 : decode cX4_closeGaps 44 = .ok (.aload_n 0, 1) := by decide +kernel
theorem dX4_closeGaps_45 : decode cX4_closeGaps 45 = .ok (.iload_n 1, 1) := by decide +kernel
theorem dX4_closeGaps_46 : decode cX4_closeGaps 46 = .ok (.putfield 211, 3) := by decide +kernel
theorem dX4_closeGaps_49 : decode cX4_closeGaps 49 = .ok (.return_, 1) := by decide +kernel
theorem dX4_filledBoxes_0 : decode cX4_filledBoxes 0 = .ok (.iconst 0, 1) := by decide +kernel
theorem dX4_filledBoxes_1 : decode cX4_filledBoxes 1 = .ok (.istore_n 1, 1) := by decide +kernel
theorem dX4_filledBoxes_2 : decode cX4_filledBoxes 2 = .ok (.aload_n 0, 1) := by decide +kernel
theorem dX4_filledBoxes_3 : decode cX4_filledBoxes 3 = .ok (.getfield 23, 3) := by decide +kernel
theorem dX4_filledBoxes_6 : decode cX4_filledBoxes 6 = .ok (.astore_n 2, 1) := by decide +kernel
theorem dX4_filledBoxes_7 : decode cX4_filledBoxes 7 = .ok (.aload_n 2, 1) := by decide +kernel
theorem dX4_filledBoxes_8 : decode cX4_filledBoxes 8 = .ok (.arraylength, 1) := by decide +kernel
theorem dX4_filledBoxes_9 : decode cX4_filledBoxes 9 = .ok (.istore_n 3, 1) := by decide +kernel
theorem dX4_filledBoxes_10 : decode cX4_filledBoxes 10 = .ok (.iconst 0, 1) := by decide +kernel
theorem dX4_filledBoxes_11 : decode cX4_filledBoxes 11 = .ok (.istore 4, 2) := by decide +kernel
theorem dX4_filledBoxes_13 : decode cX4_filledBoxes 13 = .ok (.iload 4, 2) := by decide +kernel
theorem dX4_filledBoxes_15 : decode cX4_filledBoxes 15 = .ok (.iload_n 3, 1) := by decide +kernel
theorem dX4_filledBoxes_16 : decode cX4_filledBoxes 16 = .ok (.if_icmp .ge 31, 3) := by decide +kernel
theorem dX4_filledBoxes_19 : decode cX4_filledBoxes 19 = .ok (.aload_n 2, 1) := by decide +kernel
theorem dX4_filledBoxes_20 : decode cX4_filledBoxes 20 = .ok (.iload 4, 2) := by decide +kernel
theorem dX4_filledBoxes_22 : decode cX4_filledBoxes 22 = .ok (.aaload, 1) := by decide +kernel
theorem dX4_filledBoxes_23 : decode cX4_filledBoxes 23 = .ok (.astore 5, 2) := by decide +kernel
theorem dX4_filledBoxes_25 : decode cX4_filledBoxes 25 = .ok (.aload 5, 2) := by decide +kernel
theorem dX4_filledBoxes_27 : decode cX4_filledBoxes 27 = .ok (.ifnull 14, 3) := by decide +kernel
theorem dX4_filledBoxes_30 : decode cX4_filledBoxes 30 = .ok (.aload 5, 2) := by decide +kernel
theorem dX4_filledBoxes_32 : decode cX4_filledBoxes 32 = .ok (.getfield 201, 3) := by decide +kernel
theorem dX4_filledBoxes_35 : decode cX4_filledBoxes 35 = .ok (.ifCond .eq 6, 3) := by decide +kernel
theorem dX4_filledBoxes_38 : decode cX4_filledBoxes 38 = .ok (.iinc 1 1, 3) := by decide +kernel
theorem dX4_filledBoxes_41 : decode cX4_filledBoxes 41 = .ok (.iinc 4 1, 3) := by decide +kernel
theorem dX4_filledBoxes_44 : decode cX4_filledBoxes 44 = .ok (.goto (-31), 3) := by decide +kernel
theorem dX4_filledBoxes_47 : decode cX4_filledBoxes 47 = .ok (.iload_n 1, 1) := by decide +kernel
theorem dX4_filledBoxes_48 : decode cX4_filledBoxes 48 = .ok (.ireturn, 1) := by decide +kernel
theorem dX4_gramsOfBowls_0 : decode cX4_gramsOfBowls 0 = .ok (.iconst 0, 1) := by decide +kernel
theorem dX4_gramsOfBowls_1 : decode cX4_gramsOfBowls 1 = .ok (.istore_n 1, 1) := by decide +kernel
theorem dX4_gramsOfBowls_2 : decode cX4_gramsOfBowls 2 = .ok (.aload_n 0, 1) := by decide +kernel
theorem dX4_gramsOfBowls_3 : decode cX4_gramsOfBowls 3 = .ok (.getfield 11, 3) := by decide +kernel
theorem dX4_gramsOfBowls_6 : decode cX4_gramsOfBowls 6 = .ok (.astore_n 2, 1) := by decide +kernel
theorem dX4_gramsOfBowls_7 : decode cX4_gramsOfBowls 7 = .ok (.aload_n 2, 1) := by decide +kernel
theorem dX4_gramsOfBowls_8 : decode cX4_gramsOfBowls 8 = .ok (.arraylength, 1) := by decide +kernel
theorem dX4_gramsOfBowls_9 : decode cX4_gramsOfBowls 9 = .ok (.istore_n 3, 1) := by decide +kernel
theorem dX4_gramsOfBowls_10 : decode cX4_gramsOfBowls 10 = .ok (.iconst 0, 1) := by decide +kernel
theorem dX4_gramsOfBowls_11 : decode cX4_gramsOfBowls 11 = .ok (.istore 4, 2) := by decide +kernel
theorem dX4_gramsOfBowls_13 : decode cX4_gramsOfBowls 13 = .ok (.iload 4, 2) := by decide +kernel
theorem dX4_gramsOfBowls_15 : decode cX4_gramsOfBowls 15 = .ok (.iload_n 3, 1) := by decide +kernel
theorem dX4_gramsOfBowls_16 : decode cX4_gramsOfBowls 16 = .ok (.if_icmp .ge 28, 3) := by decide +kernel
theorem dX4_gramsOfBowls_19 : decode cX4_gramsOfBowls 19 = .ok (.aload_n 2, 1) := by decide +kernel
theorem dX4_gramsOfBowls_20 : decode cX4_gramsOfBowls 20 = .ok (.iload 4, 2) := by decide +kernel
theorem dX4_gramsOfBowls_22 : decode cX4_gramsOfBowls 22 = .ok (.aaload, 1) := by decide +kernel
theorem dX4_gramsOfBowls_23 : decode cX4_gramsOfBowls 23 = .ok (.astore 5, 2) := by decide +kernel
theorem dX4_gramsOfBowls_25 : decode cX4_gramsOfBowls 25 = .ok (.aload 5, 2) := by decide +kernel
theorem dX4_gramsOfBowls_27 : decode cX4_gramsOfBowls 27 = .ok (.ifnull 11, 3) := by decide +kernel
theorem dX4_gramsOfBowls_30 : decode cX4_gramsOfBowls 30 = .ok (.iload_n 1, 1) := by decide +kernel
theorem dX4_gramsOfBowls_31 : decode cX4_gramsOfBowls 31 = .ok (.aload 5, 2) := by decide +kernel
theorem dX4_gramsOfBowls_33 : decode cX4_gramsOfBowls 33 = .ok (.getfield 93, 3) := by decide +kernel
theorem dX4_gramsOfBowls_36 : decode cX4_gramsOfBowls 36 = .ok (.iadd, 1) := by decide +kernel
theorem dX4_gramsOfBowls_37 : decode cX4_gramsOfBowls 37 = .ok (.istore_n 1, 1) := by decide +kernel
theorem dX4_gramsOfBowls_38 : decode cX4_gramsOfBowls 38 = .ok (.iinc 4 1, 3) := by decide +kernel
theorem dX4_gramsOfBowls_41 : decode cX4_gramsOfBowls 41 = .ok (.goto (-28), 3) := by decide +kernel
theorem dX4_gramsOfBowls_44 : decode cX4_gramsOfBowls 44 = .ok (.iload_n 1, 1) := by decide +kernel
theorem dX4_gramsOfBowls_45 : decode cX4_gramsOfBowls 45 = .ok (.ireturn, 1) := by decide +kernel
theorem dX4_squaresOfSlabs_0 : decode cX4_squaresOfSlabs 0 = .ok (.iconst 0, 1) := by decide +kernel
theorem dX4_squaresOfSlabs_1 : decode cX4_squaresOfSlabs 1 = .ok (.istore_n 1, 1) := by decide +kernel
theorem dX4_squaresOfSlabs_2 : decode cX4_squaresOfSlabs 2 = .ok (.aload_n 0, 1) := by decide +kernel
theorem dX4_squaresOfSlabs_3 : decode cX4_squaresOfSlabs 3 = .ok (.getfield 17, 3) := by decide +kernel
theorem dX4_squaresOfSlabs_6 : decode cX4_squaresOfSlabs 6 = .ok (.astore_n 2, 1) := by decide +kernel
theorem dX4_squaresOfSlabs_7 : decode cX4_squaresOfSlabs 7 = .ok (.aload_n 2, 1) := by decide +kernel
theorem dX4_squaresOfSlabs_8 : decode cX4_squaresOfSlabs 8 = .ok (.arraylength, 1) := by decide +kernel
theorem dX4_squaresOfSlabs_9 : decode cX4_squaresOfSlabs 9 = .ok (.istore_n 3, 1) := by decide +kernel
theorem dX4_squaresOfSlabs_10 : decode cX4_squaresOfSlabs 10 = .ok (.iconst 0, 1) := by decide +kernel
theorem dX4_squaresOfSlabs_11 : decode cX4_squaresOfSlabs 11 = .ok (.istore 4, 2) := by decide +kernel
theorem dX4_squaresOfSlabs_13 : decode cX4_squaresOfSlabs 13 = .ok (.iload 4, 2) := by decide +kernel
theorem dX4_squaresOfSlabs_15 : decode cX4_squaresOfSlabs 15 = .ok (.iload_n 3, 1) := by decide +kernel
theorem dX4_squaresOfSlabs_16 : decode cX4_squaresOfSlabs 16 = .ok (.if_icmp .ge 28, 3) := by decide +kernel
theorem dX4_squaresOfSlabs_19 : decode cX4_squaresOfSlabs 19 = .ok (.aload_n 2, 1) := by decide +kernel
theorem dX4_squaresOfSlabs_20 : decode cX4_squaresOfSlabs 20 = .ok (.iload 4, 2) := by decide +kernel
theorem dX4_squaresOfSlabs_22 : decode cX4_squaresOfSlabs 22 = .ok (.aaload, 1) := by decide +kernel
theorem dX4_squaresOfSlabs_23 : decode cX4_squaresOfSlabs 23 = .ok (.astore 5, 2) := by decide +kernel
theorem dX4_squaresOfSlabs_25 : decode cX4_squaresOfSlabs 25 = .ok (.aload 5, 2) := by decide +kernel
theorem dX4_squaresOfSlabs_27 : decode cX4_squaresOfSlabs 27 = .ok (.ifnull 11, 3) := by decide +kernel
theorem dX4_squaresOfSlabs_30 : decode cX4_squaresOfSlabs 30 = .ok (.iload_n 1, 1) := by decide +kernel
theorem dX4_squaresOfSlabs_31 : decode cX4_squaresOfSlabs 31 = .ok (.aload 5, 2) := by decide +kernel
theorem dX4_squaresOfSlabs_33 : decode cX4_squaresOfSlabs 33 = .ok (.invokevirtual 188, 3) := by decide +kernel
theorem dX4_squaresOfSlabs_36 : decode cX4_squaresOfSlabs 36 = .ok (.iadd, 1) := by decide +kernel
theorem dX4_squaresOfSlabs_37 : decode cX4_squaresOfSlabs 37 = .ok (.istore_n 1, 1) := by decide +kernel
theorem dX4_squaresOfSlabs_38 : decode cX4_squaresOfSlabs 38 = .ok (.iinc 4 1, 3) := by decide +kernel
theorem dX4_squaresOfSlabs_41 : decode cX4_squaresOfSlabs 41 = .ok (.goto (-28), 3) := by decide +kernel
theorem dX4_squaresOfSlabs_44 : decode cX4_squaresOfSlabs 44 = .ok (.iload_n 1, 1) := by decide +kernel
theorem dX4_squaresOfSlabs_45 : decode cX4_squaresOfSlabs 45 = .ok (.ireturn, 1) := by decide +kernel
theorem dX4_bloomedSlabs_0 : decode cX4_bloomedSlabs 0 = .ok (.iconst 0, 1) := by decide +kernel
theorem dX4_bloomedSlabs_1 : decode cX4_bloomedSlabs 1 = .ok (.istore_n 1, 1) := by decide +kernel
theorem dX4_bloomedSlabs_2 : decode cX4_bloomedSlabs 2 = .ok (.aload_n 0, 1) := by decide +kernel
theorem dX4_bloomedSlabs_3 : decode cX4_bloomedSlabs 3 = .ok (.getfield 17, 3) := by decide +kernel
theorem dX4_bloomedSlabs_6 : decode cX4_bloomedSlabs 6 = .ok (.astore_n 2, 1) := by decide +kernel
theorem dX4_bloomedSlabs_7 : decode cX4_bloomedSlabs 7 = .ok (.aload_n 2, 1) := by decide +kernel
theorem dX4_bloomedSlabs_8 : decode cX4_bloomedSlabs 8 = .ok (.arraylength, 1) := by decide +kernel
theorem dX4_bloomedSlabs_9 : decode cX4_bloomedSlabs 9 = .ok (.istore_n 3, 1) := by decide +kernel
theorem dX4_bloomedSlabs_10 : decode cX4_bloomedSlabs 10 = .ok (.iconst 0, 1) := by decide +kernel
theorem dX4_bloomedSlabs_11 : decode cX4_bloomedSlabs 11 = .ok (.istore 4, 2) := by decide +kernel
theorem dX4_bloomedSlabs_13 : decode cX4_bloomedSlabs 13 = .ok (.iload 4, 2) := by decide +kernel
theorem dX4_bloomedSlabs_15 : decode cX4_bloomedSlabs 15 = .ok (.iload_n 3, 1) := by decide +kernel
theorem dX4_bloomedSlabs_16 : decode cX4_bloomedSlabs 16 = .ok (.if_icmp .ge 31, 3) := by decide +kernel
theorem dX4_bloomedSlabs_19 : decode cX4_bloomedSlabs 19 = .ok (.aload_n 2, 1) := by decide +kernel
theorem dX4_bloomedSlabs_20 : decode cX4_bloomedSlabs 20 = .ok (.iload 4, 2) := by decide +kernel
theorem dX4_bloomedSlabs_22 : decode cX4_bloomedSlabs 22 = .ok (.aaload, 1) := by decide +kernel
theorem dX4_bloomedSlabs_23 : decode cX4_bloomedSlabs 23 = .ok (.astore 5, 2) := by decide +kernel
theorem dX4_bloomedSlabs_25 : decode cX4_bloomedSlabs 25 = .ok (.aload 5, 2) := by decide +kernel
theorem dX4_bloomedSlabs_27 : decode cX4_bloomedSlabs 27 = .ok (.ifnull 14, 3) := by decide +kernel
theorem dX4_bloomedSlabs_30 : decode cX4_bloomedSlabs 30 = .ok (.aload 5, 2) := by decide +kernel
theorem dX4_bloomedSlabs_32 : decode cX4_bloomedSlabs 32 = .ok (.invokevirtual 229, 3) := by decide +kernel
theorem dX4_bloomedSlabs_35 : decode cX4_bloomedSlabs 35 = .ok (.ifCond .eq 6, 3) := by decide +kernel
theorem dX4_bloomedSlabs_38 : decode cX4_bloomedSlabs 38 = .ok (.iinc 1 1, 3) := by decide +kernel
theorem dX4_bloomedSlabs_41 : decode cX4_bloomedSlabs 41 = .ok (.iinc 4 1, 3) := by decide +kernel
theorem dX4_bloomedSlabs_44 : decode cX4_bloomedSlabs 44 = .ok (.goto (-31), 3) := by decide +kernel
theorem dX4_bloomedSlabs_47 : decode cX4_bloomedSlabs 47 = .ok (.iload_n 1, 1) := by decide +kernel
theorem dX4_bloomedSlabs_48 : decode cX4_bloomedSlabs 48 = .ok (.ireturn, 1) := by decide +kernel
theorem dX4_firstEmptyBoxFor_0 : decode cX4_firstEmptyBoxFor 0 = .ok (.iconst 0, 1) := by decide +kernel
theorem dX4_firstEmptyBoxFor_1 : decode cX4_firstEmptyBoxFor 1 = .ok (.istore_n 2, 1) := by decide +kernel
theorem dX4_firstEmptyBoxFor_2 : decode cX4_firstEmptyBoxFor 2 = .ok (.iload_n 2, 1) := by decide +kernel
theorem dX4_firstEmptyBoxFor_3 : decode cX4_firstEmptyBoxFor 3 = .ok (.bipush 6, 2) := by decide +kernel
theorem dX4_firstEmptyBoxFor_5 : decode cX4_firstEmptyBoxFor 5 = .ok (.if_icmp .ge 41, 3) := by decide +kernel
theorem dX4_firstEmptyBoxFor_8 : decode cX4_firstEmptyBoxFor 8 = .ok (.aload_n 0, 1) := by decide +kernel
theorem dX4_firstEmptyBoxFor_9 : decode cX4_firstEmptyBoxFor 9 = .ok (.getfield 23, 3) := by decide +kernel
theorem dX4_firstEmptyBoxFor_12 : decode cX4_firstEmptyBoxFor 12 = .ok (.iload_n 2, 1) := by decide +kernel
theorem dX4_firstEmptyBoxFor_13 : decode cX4_firstEmptyBoxFor 13 = .ok (.aaload, 1) := by decide +kernel
theorem dX4_firstEmptyBoxFor_14 : decode cX4_firstEmptyBoxFor 14 = .ok (.astore_n 3, 1) := by decide +kernel
theorem dX4_firstEmptyBoxFor_15 : decode cX4_firstEmptyBoxFor 15 = .ok (.aload_n 3, 1) := by decide +kernel
theorem dX4_firstEmptyBoxFor_16 : decode cX4_firstEmptyBoxFor 16 = .ok (.ifnull 24, 3) := by decide +kernel
theorem dX4_firstEmptyBoxFor_19 : decode cX4_firstEmptyBoxFor 19 = .ok (.aload_n 3, 1) := by decide +kernel
theorem dX4_firstEmptyBoxFor_20 : decode cX4_firstEmptyBoxFor 20 = .ok (.getfield 201, 3) := by decide +kernel
theorem dX4_firstEmptyBoxFor_23 : decode cX4_firstEmptyBoxFor 23 = .ok (.ifCond .ne 17, 3) := by decide +kernel
theorem dX4_firstEmptyBoxFor_26 : decode cX4_firstEmptyBoxFor 26 = .ok (.aload_n 3, 1) := by decide +kernel
theorem dX4_firstEmptyBoxFor_27 : decode cX4_firstEmptyBoxFor 27 = .ok (.aload_n 1, 1) := by decide +kernel
theorem dX4_firstEmptyBoxFor_28 : decode cX4_firstEmptyBoxFor 28 = .ok (.aload_n 1, 1) := by decide +kernel
theorem dX4_firstEmptyBoxFor_29 : decode cX4_firstEmptyBoxFor 29 = .ok (.getfield 122, 3) := by decide +kernel
theorem dX4_firstEmptyBoxFor_32 : decode cX4_firstEmptyBoxFor 32 = .ok (.invokevirtual 270, 3) := by decide +kernel
theorem dX4_firstEmptyBoxFor_35 : decode cX4_firstEmptyBoxFor 35 = .ok (.ifCond .eq 5, 3) := by decide +kernel
theorem dX4_firstEmptyBoxFor_38 : decode cX4_firstEmptyBoxFor 38 = .ok (.iload_n 2, 1) := by decide +kernel
theorem dX4_firstEmptyBoxFor_39 : decode cX4_firstEmptyBoxFor 39 = .ok (.ireturn, 1) := by decide +kernel
theorem dX4_firstEmptyBoxFor_40 : decode cX4_firstEmptyBoxFor 40 = .ok (.iinc 2 1, 3) := by decide +kernel
theorem dX4_firstEmptyBoxFor_43 : decode cX4_firstEmptyBoxFor 43 = .ok (.goto (-41), 3) := by decide +kernel
theorem dX4_firstEmptyBoxFor_46 : decode cX4_firstEmptyBoxFor 46 = .ok (.iconst (-1), 1) := by decide +kernel
theorem dX4_firstEmptyBoxFor_47 : decode cX4_firstEmptyBoxFor 47 = .ok (.ireturn, 1) := by decide +kernel
theorem dX4_planFilling_0 : decode cX4_planFilling 0 = .ok (.iconst 0, 1) := by decide +kernel
theorem dX4_planFilling_1 : decode cX4_planFilling 1 = .ok (.istore_n 2, 1) := by decide +kernel
theorem dX4_planFilling_2 : decode cX4_planFilling 2 = .ok (.iload_n 2, 1) := by decide +kernel
theorem dX4_planFilling_3 : decode cX4_planFilling 3 = .ok (.bipush 8, 2) := by decide +kernel
theorem dX4_planFilling_5 : decode cX4_planFilling 5 = .ok (.if_icmp .ge 16, 3) := by decide +kernel
theorem dX4_planFilling_8 : decode cX4_planFilling 8 = .ok (.aload_n 0, 1) := by decide +kernel
theorem dX4_planFilling_9 : decode cX4_planFilling 9 = .ok (.getfield 41, 3) := by decide +kernel
theorem dX4_planFilling_12 : decode cX4_planFilling 12 = .ok (.iload_n 2, 1) := by decide +kernel
theorem dX4_planFilling_13 : decode cX4_planFilling 13 = .ok (.iconst 0, 1) := by decide +kernel
theorem dX4_planFilling_14 : decode cX4_planFilling 14 = .ok (.bastore, 1) := by decide +kernel
theorem dX4_planFilling_15 : decode cX4_planFilling 15 = .ok (.iinc 2 1, 3) := by decide +kernel
theorem dX4_planFilling_18 : decode cX4_planFilling 18 = .ok (.goto (-16), 3) := by decide +kernel
theorem dX4_planFilling_21 : decode cX4_planFilling 21 = .ok (.iconst 0, 1) := by decide +kernel
theorem dX4_planFilling_22 : decode cX4_planFilling 22 = .ok (.istore_n 2, 1) := by decide +kernel
theorem dX4_planFilling_23 : decode cX4_planFilling 23 = .ok (.iconst 0, 1) := by decide +kernel
theorem dX4_planFilling_24 : decode cX4_planFilling 24 = .ok (.istore_n 3, 1) := by decide +kernel
theorem dX4_planFilling_25 : decode cX4_planFilling 25 = .ok (.iload_n 3, 1) := by decide +kernel
theorem dX4_planFilling_26 : decode cX4_planFilling 26 = .ok (.bipush 6, 2) := by decide +kernel
theorem dX4_planFilling_28 : decode cX4_planFilling 28 = .ok (.if_icmp .ge 60, 3) := by decide +kernel
theorem dX4_planFilling_31 : decode cX4_planFilling 31 = .ok (.aload_n 0, 1) := by decide +kernel
theorem dX4_planFilling_32 : decode cX4_planFilling 32 = .ok (.getfield 23, 3) := by decide +kernel
theorem dX4_planFilling_35 : decode cX4_planFilling 35 = .ok (.iload_n 3, 1) := by decide +kernel
theorem dX4_planFilling_36 : decode cX4_planFilling 36 = .ok (.aaload, 1) := by decide +kernel
theorem dX4_planFilling_37 : decode cX4_planFilling 37 = .ok (.astore 4, 2) := by decide +kernel
theorem dX4_planFilling_39 : decode cX4_planFilling 39 = .ok (.aload_n 0, 1) := by decide +kernel
theorem dX4_planFilling_40 : decode cX4_planFilling 40 = .ok (.getfield 37, 3) := by decide +kernel
theorem dX4_planFilling_43 : decode cX4_planFilling 43 = .ok (.iload_n 3, 1) := by decide +kernel
theorem dX4_planFilling_44 : decode cX4_planFilling 44 = .ok (.aload 4, 2) := by decide +kernel
theorem dX4_planFilling_46 : decode cX4_planFilling 46 = .ok (.ifnull 11, 3) := by decide +kernel
theorem dX4_planFilling_49 : decode cX4_planFilling 49 = .ok (.aload 4, 2) := by decide +kernel
theorem dX4_planFilling_51 : decode cX4_planFilling 51 = .ok (.getfield 201, 3) := by decide +kernel
theorem dX4_planFilling_54 : decode cX4_planFilling 54 = .ok (.ifCond .eq 7, 3) := by decide +kernel
theorem dX4_planFilling_57 : decode cX4_planFilling 57 = .ok (.iconst (-1), 1) := by decide +kernel
theorem dX4_planFilling_58 : decode cX4_planFilling 58 = .ok (.goto 10, 3) := by decide +kernel
theorem dX4_planFilling_61 : decode cX4_planFilling 61 = .ok (.aload_n 0, 1) := by decide +kernel
theorem dX4_planFilling_62 : decode cX4_planFilling 62 = .ok (.aload 4, 2) := by decide +kernel
theorem dX4_planFilling_64 : decode cX4_planFilling 64 = .ok (.iload_n 1, 1) := by decide +kernel
theorem dX4_planFilling_65 : decode cX4_planFilling 65 = .ok (.invokevirtual 274, 3) := by decide +kernel
theorem dX4_planFilling_68 : decode cX4_planFilling 68 = .ok (.iastore, 1) := by decide +kernel
theorem dX4_planFilling_69 : decode cX4_planFilling 69 = .ok (.aload_n 0, 1) := by decide +kernel
theorem dX4_planFilling_70 : decode cX4_planFilling 70 = .ok (.getfield 37, 3) := by decide +kernel
theorem dX4_planFilling_73 : decode cX4_planFilling 73 = .ok (.iload_n 3, 1) := by decide +kernel
theorem dX4_planFilling_74 : decode cX4_planFilling 74 = .ok (.iaload, 1) := by decide +kernel
theorem dX4_planFilling_75 : decode cX4_planFilling 75 = .ok (.iconst (-1), 1) := by decide +kernel
theorem dX4_planFilling_76 : decode cX4_planFilling 76 = .ok (.if_icmp .eq 6, 3) := by decide +kernel
theorem dX4_planFilling_79 : decode cX4_planFilling 79 = .ok (.iinc 2 1, 3) := by decide +kernel
theorem dX4_planFilling_82 : decode cX4_planFilling 82 = .ok (.iinc 3 1, 3) := by decide +kernel
theorem dX4_planFilling_85 : decode cX4_planFilling 85 = .ok (.goto (-60), 3) := by decide +kernel
theorem dX4_planFilling_88 : decode cX4_planFilling 88 = .ok (.iload_n 2, 1) := by decide +kernel
theorem dX4_planFilling_89 : decode cX4_planFilling 89 = .ok (.ireturn, 1) := by decide +kernel
theorem dX4_planSlab_0 : decode cX4_planSlab 0 = .ok (.iconst 0, 1) := by decide +kernel
theorem dX4_planSlab_1 : decode cX4_planSlab 1 = .ok (.istore_n 3, 1) := by decide +kernel
theorem dX4_planSlab_2 : decode cX4_planSlab 2 = .ok (.iload_n 3, 1) := by decide +kernel
theorem dX4_planSlab_3 : decode cX4_planSlab 3 = .ok (.bipush 8, 2) := by decide +kernel
theorem dX4_planSlab_5 : decode cX4_planSlab 5 = .ok (.if_icmp .ge 71, 3) := by decide +kernel
theorem dX4_planSlab_8 : decode cX4_planSlab 8 = .ok (.aload_n 0, 1) := by decide +kernel
theorem dX4_planSlab_9 : decode cX4_planSlab 9 = .ok (.getfield 17, 3) := by decide +kernel
theorem dX4_planSlab_12 : decode cX4_planSlab 12 = .ok (.iload_n 3, 1) := by decide +kernel
theorem dX4_planSlab_13 : decode cX4_planSlab 13 = .ok (.aaload, 1) := by decide +kernel
theorem dX4_planSlab_14 : decode cX4_planSlab 14 = .ok (.astore 4, 2) := by decide +kernel
theorem dX4_planSlab_16 : decode cX4_planSlab 16 = .ok (.aload 4, 2) := by decide +kernel
theorem dX4_planSlab_18 : decode cX4_planSlab 18 = .ok (.ifnull 52, 3) := by decide +kernel
theorem dX4_planSlab_21 : decode cX4_planSlab 21 = .ok (.aload_n 0, 1) := by decide +kernel
theorem dX4_planSlab_22 : decode cX4_planSlab 22 = .ok (.getfield 41, 3) := by decide +kernel
theorem dX4_planSlab_25 : decode cX4_planSlab 25 = .ok (.iload_n 3, 1) := by decide +kernel
theorem dX4_planSlab_26 : decode cX4_planSlab 26 = .ok (.baload, 1) := by decide +kernel
theorem dX4_planSlab_27 : decode cX4_planSlab 27 = .ok (.ifCond .ne 43, 3) := by decide +kernel
theorem dX4_planSlab_30 : decode cX4_planSlab 30 = .ok (.iload_n 3, 1) := by decide +kernel
theorem dX4_planSlab_31 : decode cX4_planSlab 31 = .ok (.iload_n 2, 1) := by decide +kernel
theorem dX4_planSlab_32 : decode cX4_planSlab 32 = .ok (.if_icmp .ne 11, 3) := by decide +kernel
theorem dX4_planSlab_35 : decode cX4_planSlab 35 = .ok (.aload 4, 2) := by decide +kernel
theorem dX4_planSlab_37 : decode cX4_planSlab 37 = .ok (.invokevirtual 119, 3) := by decide +kernel
theorem dX4_planSlab_40 : decode cX4_planSlab 40 = .ok (.goto 8, 3) := by decide +kernel
theorem dX4_planSlab_43 : decode cX4_planSlab 43 = .ok (.aload 4, 2) := by decide +kernel
theorem dX4_planSlab_45 : decode cX4_planSlab 45 = .ok (.getfield 122, 3) := by decide +kernel
theorem dX4_planSlab_48 : decode cX4_planSlab 48 = .ok (.istore 5, 2) := by decide +kernel
theorem dX4_planSlab_50 : decode cX4_planSlab 50 = .ok (.aload_n 1, 1) := by decide +kernel
theorem dX4_planSlab_51 : decode cX4_planSlab 51 = .ok (.aload 4, 2) := by decide +kernel
theorem dX4_planSlab_53 : decode cX4_planSlab 53 = .ok (.iload 5, 2) := by decide +kernel
theorem dX4_planSlab_55 : decode cX4_planSlab 55 = .ok (.invokevirtual 270, 3) := by decide +kernel
theorem dX4_planSlab_58 : decode cX4_planSlab 58 = .ok (.ifCond .eq 12, 3) := by decide +kernel
theorem dX4_planSlab_61 : decode cX4_planSlab 61 = .ok (.aload_n 0, 1) := by decide +kernel
theorem dX4_planSlab_62 : decode cX4_planSlab 62 = .ok (.getfield 41, 3) := by decide +kernel
theorem dX4_planSlab_65 : decode cX4_planSlab 65 = .ok (.iload_n 3, 1) := by decide +kernel
theorem dX4_planSlab_66 : decode cX4_planSlab 66 = .ok (.iconst 1, 1) := by decide +kernel
theorem dX4_planSlab_67 : decode cX4_planSlab 67 = .ok (.bastore, 1) := by decide +kernel
theorem dX4_planSlab_68 : decode cX4_planSlab 68 = .ok (.iload_n 3, 1) := by decide +kernel
theorem dX4_planSlab_69 : decode cX4_planSlab 69 = .ok (.ireturn, 1) := by decide +kernel
theorem dX4_planSlab_70 : decode cX4_planSlab 70 = .ok (.iinc 3 1, 3) := by decide +kernel
theorem dX4_planSlab_73 : decode cX4_planSlab 73 = .ok (.goto (-71), 3) := by decide +kernel
theorem dX4_planSlab_76 : decode cX4_planSlab 76 = .ok (.iconst (-1), 1) := by decide +kernel
theorem dX4_planSlab_77 : decode cX4_planSlab 77 = .ok (.ireturn, 1) := by decide +kernel
theorem dX4_moveIntoBox_0 : decode cX4_moveIntoBox 0 = .ok (.aload_n 0, 1) := by decide +kernel
theorem dX4_moveIntoBox_1 : decode cX4_moveIntoBox 1 = .ok (.iload_n 1, 1) := by decide +kernel
theorem dX4_moveIntoBox_2 : decode cX4_moveIntoBox 2 = .ok (.invokevirtual 261, 3) := by decide +kernel
theorem dX4_moveIntoBox_5 : decode cX4_moveIntoBox 5 = .ok (.astore_n 3, 1) := by decide +kernel
theorem dX4_moveIntoBox_6 : decode cX4_moveIntoBox 6 = .ok (.aload_n 3, 1) := by decide +kernel
theorem dX4_moveIntoBox_7 : decode cX4_moveIntoBox 7 = .ok (.ifnull 19, 3) := by decide +kernel
theorem dX4_moveIntoBox_10 : decode cX4_moveIntoBox 10 = .ok (.aload_n 2, 1) := by decide +kernel
theorem dX4_moveIntoBox_11 : decode cX4_moveIntoBox 11 = .ok (.ifnull 15, 3) := by decide +kernel
theorem dX4_moveIntoBox_14 : decode cX4_moveIntoBox 14 = .ok (.aload_n 2, 1) := by decide +kernel
theorem dX4_moveIntoBox_15 : decode cX4_moveIntoBox 15 = .ok (.aload_n 3, 1) := by decide +kernel
theorem dX4_moveIntoBox_16 : decode cX4_moveIntoBox 16 = .ok (.invokevirtual 278, 3) := by decide +kernel
theorem dX4_moveIntoBox_19 : decode cX4_moveIntoBox 19 = .ok (.aload_n 0, 1) := by decide +kernel
theorem dX4_moveIntoBox_20 : decode cX4_moveIntoBox 20 = .ok (.getfield 17, 3) := by decide +kernel
theorem dX4_moveIntoBox_23 : decode cX4_moveIntoBox 23 = .ok (.iload_n 1, 1) := by decide +kernel
theorem dX4_moveIntoBox_24 : decode cX4_moveIntoBox 24 = .ok (.aconst_null, 1) := by decide +kernel
theorem dX4_moveIntoBox_25 : decode cX4_moveIntoBox 25 = .ok (.aastore, 1) := by decide +kernel
theorem dX4_moveIntoBox_26 : decode cX4_moveIntoBox 26 = .ok (.return_, 1) := by decide +kernel
theorem dX5_init_0 : decode cX5_init 0 = .ok (.aload_n 0, 1) := by decide +kernel
theorem dX5_init_1 : decode cX5_init 1 = .ok (.invokespecial 1, 3) := by decide +kernel
theorem dX5_init_4 : decode cX5_init 4 = .ok (.aload_n 0, 1) := by decide +kernel
theorem dX5_init_5 : decode cX5_init 5 = .ok (.bipush 35, 2) := by decide +kernel
theorem dX5_init_7 : decode cX5_init 7 = .ok (.newarray .int, 2) := by decide +kernel
theorem dX5_init_9 : decode cX5_init 9 = .ok (.putfield 9, 3) := by decide +kernel
theorem dX5_init_12 : decode cX5_init 12 = .ok (.aload_n 0, 1) := by decide +kernel
theorem dX5_init_13 : decode cX5_init 13 = .ok (.bipush 40, 2) := by decide +kernel
theorem dX5_init_15 : decode cX5_init 15 = .ok (.newarray .int, 2) := by decide +kernel
theorem dX5_init_17 : decode cX5_init 17 = .ok (.putfield 13, 3) := by decide +kernel
theorem dX5_init_20 : decode cX5_init 20 = .ok (.aload_n 0, 1) := by decide +kernel
theorem dX5_init_21 : decode cX5_init 21 = .ok (.bipush 30, 2) := by decide +kernel
theorem dX5_init_23 : decode cX5_init 23 = .ok (.newarray .int, 2) := by decide +kernel
theorem dX5_init_25 : decode cX5_init 25 = .ok (.putfield 16, 3) := by decide +kernel
theorem dX5_init_28 : decode cX5_init 28 = .ok (.aload_n 0, 1) := by decide +kernel
theorem dX5_init_29 : decode cX5_init 29 = .ok (.bipush 40, 2) := by decide +kernel
theorem dX5_init_31 : decode cX5_init 31 = .ok (.newarray .int, 2) := by decide +kernel
theorem dX5_init_33 : decode cX5_init 33 = .ok (.putfield 19, 3) := by decide +kernel
theorem dX5_init_36 : decode cX5_init 36 = .ok (.aload_n 0, 1) := by decide +kernel
theorem dX5_init_37 : decode cX5_init 37 = .ok (.bipush 30, 2) := by decide +kernel
theorem dX5_init_39 : decode cX5_init 39 = .ok (.newarray .int, 2) := by decide +kernel
theorem dX5_init_41 : decode cX5_init 41 = .ok (.putfield 22, 3) := by decide +kernel
theorem dX5_init_44 : decode cX5_init 44 = .ok (.aload_n 0, 1) := by decide +kernel
theorem dX5_init_45 : decode cX5_init 45 = .ok (.bipush 6, 2) := by decide +kernel
theorem dX5_init_47 : decode cX5_init 47 = .ok (.newarray .int, 2) := by decide +kernel
theorem dX5_init_49 : decode cX5_init 49 = .ok (.putfield 25, 3) := by decide +kernel
theorem dX5_init_52 : decode cX5_init 52 = .ok (.aload_n 0, 1) := by decide +kernel
theorem dX5_init_53 : decode cX5_init 53 = .ok (.bipush 6, 2) := by decide +kernel
theorem dX5_init_55 : decode cX5_init 55 = .ok (.newarray .int, 2) := by decide +kernel
theorem dX5_init_57 : decode cX5_init 57 = .ok (.putfield 28, 3) := by decide +kernel
theorem dX5_init_60 : decode cX5_init 60 = .ok (.return_, 1) := by decide +kernel
theorem dX5_thrown_0 : decode cX5_thrown 0 = .ok (.aload_n 0, 1) := by decide +kernel
theorem dX5_thrown_1 : decode cX5_thrown 1 = .ok (.getfield 31, 3) := by decide +kernel
theorem dX5_thrown_4 : decode cX5_thrown 4 = .ok (.ireturn, 1) := by decide +kernel
theorem dX5_fail_0 : decode cX5_fail 0 = .ok (.aload_n 0, 1) := by decide +kernel
theorem dX5_fail_1 : decode cX5_fail 1 = .ok (.iload_n 1, 1) := by decide +kernel
theorem dX5_fail_2 : decode cX5_fail 2 = .ok (.putfield 31, 3) := by decide +kernel
theorem dX5_fail_5 : decode cX5_fail 5 = .ok (.iconst 0, 1) := by decide +kernel
theorem dX5_fail_6 : decode cX5_fail 6 = .ok (.ireturn, 1) := by decide +kernel
theorem dX5_isIn_0 : decode cX5_isIn 0 = .ok (.iload_n 0, 1) := by decide +kernel
theorem dX5_isIn_1 : decode cX5_isIn 1 = .ok (.iload_n 1, 1) := by decide +kernel
theorem dX5_isIn_2 : decode cX5_isIn 2 = .ok (.if_icmp .lt 12, 3) := by decide +kernel
theorem dX5_isIn_5 : decode cX5_isIn 5 = .ok (.iload_n 0, 1) := by decide +kernel
theorem dX5_isIn_6 : decode cX5_isIn 6 = .ok (.iload_n 2, 1) := by decide +kernel
theorem dX5_isIn_7 : decode cX5_isIn 7 = .ok (.if_icmp .gt 7, 3) := by decide +kernel
theorem dX5_isIn_10 : decode cX5_isIn 10 = .ok (.iconst 1, 1) := by decide +kernel
theorem dX5_isIn_11 : decode cX5_isIn 11 = .ok (.goto 4, 3) := by decide +kernel
theorem dX5_isIn_14 : decode cX5_isIn 14 = .ok (.iconst 0, 1) := by decide +kernel
theorem dX5_isIn_15 : decode cX5_isIn 15 = .ok (.ireturn, 1) := by decide +kernel
theorem dX5_isBowl_0 : decode cX5_isBowl 0 = .ok (.iload_n 1, 1) := by decide +kernel
theorem dX5_isBowl_1 : decode cX5_isBowl 1 = .ok (.iconst 0, 1) := by decide +kernel
theorem dX5_isBowl_2 : decode cX5_isBowl 2 = .ok (.aload_n 0, 1) := by decide +kernel
theorem dX5_isBowl_3 : decode cX5_isBowl 3 = .ok (.getfield 35, 3) := by decide +kernel
theorem dX5_isBowl_6 : decode cX5_isBowl 6 = .ok (.iconst 1, 1) := by decide +kernel
theorem dX5_isBowl_7 : decode cX5_isBowl 7 = .ok (.isub, 1) := by decide +kernel
theorem dX5_isBowl_8 : decode cX5_isBowl 8 = .ok (.invokestatic 38, 3) := by decide +kernel
theorem dX5_isBowl_11 : decode cX5_isBowl 11 = .ok (.ireturn, 1) := by decide +kernel
theorem dX5_isSlab_0 : decode cX5_isSlab 0 = .ok (.iload_n 1, 1) := by decide +kernel
theorem dX5_isSlab_1 : decode cX5_isSlab 1 = .ok (.iconst 0, 1) := by decide +kernel
theorem dX5_isSlab_2 : decode cX5_isSlab 2 = .ok (.aload_n 0, 1) := by decide +kernel
theorem dX5_isSlab_3 : decode cX5_isSlab 3 = .ok (.getfield 42, 3) := by decide +kernel
theorem dX5_isSlab_6 : decode cX5_isSlab 6 = .ok (.iconst 1, 1) := by decide +kernel
theorem dX5_isSlab_7 : decode cX5_isSlab 7 = .ok (.isub, 1) := by decide +kernel
theorem dX5_isSlab_8 : decode cX5_isSlab 8 = .ok (.invokestatic 38, 3) := by decide +kernel
theorem dX5_isSlab_11 : decode cX5_isSlab 11 = .ok (.ireturn, 1) := by decide +kernel
theorem dX5_bo_0 : decode cX5_bo 0 = .ok (.aload_n 0, 1) := by decide +kernel
theorem dX5_bo_1 : decode cX5_bo 1 = .ok (.getfield 9, 3) := by decide +kernel
theorem dX5_bo_4 : decode cX5_bo 4 = .ok (.bipush 7, 2) := by decide +kernel
theorem dX5_bo_6 : decode cX5_bo 6 = .ok (.iload_n 1, 1) := by decide +kernel
theorem dX5_bo_7 : decode cX5_bo 7 = .ok (.imul, 1) := by decide +kernel
theorem dX5_bo_8 : decode cX5_bo 8 = .ok (.iload_n 2, 1) := by decide +kernel
theorem dX5_bo_9 : decode cX5_bo 9 = .ok (.iadd, 1) := by decide +kernel
theorem dX5_bo_10 : decode cX5_bo 10 = .ok (.iaload, 1) := by decide +kernel
theorem dX5_bo_11 : decode cX5_bo 11 = .ok (.ireturn, 1) := by decide +kernel
theorem dX5_letBowl_0 : decode cX5_letBowl 0 = .ok (.aload_n 0, 1) := by decide +kernel
theorem dX5_letBowl_1 : decode cX5_letBowl 1 = .ok (.getfield 9, 3) := by decide +kernel
theorem dX5_letBowl_4 : decode cX5_letBowl 4 = .ok (.bipush 7, 2) := by decide +kernel
theorem dX5_letBowl_6 : decode cX5_letBowl 6 = .ok (.iload_n 1, 1) := by decide +kernel
theorem dX5_letBowl_7 : decode cX5_letBowl 7 = .ok (.imul, 1) := by decide +kernel
theorem dX5_letBowl_8 : decode cX5_letBowl 8 = .ok (.iload_n 2, 1) := by decide +kernel
theorem dX5_letBowl_9 : decode cX5_letBowl 9 = .ok (.iadd, 1) := by decide +kernel
theorem dX5_letBowl_10 : decode cX5_letBowl 10 = .ok (.iload_n 3, 1) := by decide +kernel
theorem dX5_letBowl_11 : decode cX5_letBowl 11 = .ok (.iastore, 1) := by decide +kernel
theorem dX5_letBowl_12 : decode cX5_letBowl 12 = .ok (.return_, 1) := by decide +kernel
theorem dX5_sl_0 : decode cX5_sl 0 = .ok (.aload_n 0, 1) := by decide +kernel
theorem dX5_sl_1 : decode cX5_sl 1 = .ok (.getfield 13, 3) := by decide +kernel
theorem dX5_sl_4 : decode cX5_sl 4 = .ok (.iconst 5, 1) := by decide +kernel
theorem dX5_sl_5 : decode cX5_sl 5 = .ok (.iload_n 1, 1) := by decide +kernel
theorem dX5_sl_6 : decode cX5_sl 6 = .ok (.imul, 1) := by decide +kernel
theorem dX5_sl_7 : decode cX5_sl 7 = .ok (.iload_n 2, 1) := by decide +kernel
theorem dX5_sl_8 : decode cX5_sl 8 = .ok (.iadd, 1) := by decide +kernel
theorem dX5_sl_9 : decode cX5_sl 9 = .ok (.iaload, 1) := by decide +kernel
theorem dX5_sl_10 : decode cX5_sl 10 = .ok (.ireturn, 1) := by decide +kernel
theorem dX5_letSlab_0 : decode cX5_letSlab 0 = .ok (.aload_n 0, 1) := by decide +kernel
theorem dX5_letSlab_1 : decode cX5_letSlab 1 = .ok (.getfield 13, 3) := by decide +kernel
theorem dX5_letSlab_4 : decode cX5_letSlab 4 = .ok (.iconst 5, 1) := by decide +kernel
theorem dX5_letSlab_5 : decode cX5_letSlab 5 = .ok (.iload_n 1, 1) := by decide +kernel
theorem dX5_letSlab_6 : decode cX5_letSlab 6 = .ok (.imul, 1) := by decide +kernel
theorem dX5_letSlab_7 : decode cX5_letSlab 7 = .ok (.iload_n 2, 1) := by decide +kernel
theorem dX5_letSlab_8 : decode cX5_letSlab 8 = .ok (.iadd, 1) := by decide +kernel
theorem dX5_letSlab_9 : decode cX5_letSlab 9 = .ok (.iload_n 3, 1) := by decide +kernel
theorem dX5_letSlab_10 : decode cX5_letSlab 10 = .ok (.iastore, 1) := by decide +kernel
theorem dX5_letSlab_11 : decode cX5_letSlab 11 = .ok (.return_, 1) := by decide +kernel
theorem dX5_bx_0 : decode cX5_bx 0 = .ok (.aload_n 0, 1) := by decide +kernel
theorem dX5_bx_1 : decode cX5_bx 1 = .ok (.getfield 16, 3) := by decide +kernel
theorem dX5_bx_4 : decode cX5_bx 4 = .ok (.iconst 5, 1) := by decide +kernel
theorem dX5_bx_5 : decode cX5_bx 5 = .ok (.iload_n 1, 1) := by decide +kernel
theorem dX5_bx_6 : decode cX5_bx 6 = .ok (.imul, 1) := by decide +kernel
theorem dX5_bx_7 : decode cX5_bx 7 = .ok (.iload_n 2, 1) := by decide +kernel
theorem dX5_bx_8 : decode cX5_bx 8 = .ok (.iadd, 1) := by decide +kernel
theorem dX5_bx_9 : decode cX5_bx 9 = .ok (.iaload, 1) := by decide +kernel
theorem dX5_bx_10 : decode cX5_bx 10 = .ok (.ireturn, 1) := by decide +kernel
theorem dX5_meltsAt_0 : decode cX5_meltsAt 0 = .ok (.bipush 15, 2) := by decide +kernel
theorem dX5_meltsAt_2 : decode cX5_meltsAt 2 = .ok (.iconst 4, 1) := by decide +kernel
theorem dX5_meltsAt_3 : decode cX5_meltsAt 3 = .ok (.iload_n 0, 1) := by decide +kernel
theorem dX5_meltsAt_4 : decode cX5_meltsAt 4 = .ok (.imul, 1) := by decide +kernel
theorem dX5_meltsAt_5 : decode cX5_meltsAt 5 = .ok (.iadd, 1) := by decide +kernel
theorem dX5_meltsAt_6 : decode cX5_meltsAt 6 = .ok (.ireturn, 1) := by decide +kernel
theorem dX5_sum_0 : decode cX5_sum 0 = .ok (.iconst 0, 1) := by decide +kernel
theorem dX5_sum_1 : decode cX5_sum 1 = .ok (.istore_n 1, 1) := by decide +kernel
theorem dX5_sum_2 : decode cX5_sum 2 = .ok (.iconst 1, 1) := by decide +kernel
theorem dX5_sum_3 : decode cX5_sum 3 = .ok (.istore_n 2, 1) := by decide +kernel
theorem dX5_sum_4 : decode cX5_sum 4 = .ok (.iload_n 2, 1) := by decide +kernel
theorem dX5_sum_5 : decode cX5_sum 5 = .ok (.iconst 5, 1) := by decide +kernel
theorem dX5_sum_6 : decode cX5_sum 6 = .ok (.if_icmp .gt 15, 3) := by decide +kernel
theorem dX5_sum_9 : decode cX5_sum 9 = .ok (.iload_n 1, 1) := by decide +kernel
theorem dX5_sum_10 : decode cX5_sum 10 = .ok (.aload_n 0, 1) := by decide +kernel
theorem dX5_sum_11 : decode cX5_sum 11 = .ok (.iload_n 2, 1) := by decide +kernel
theorem dX5_sum_12 : decode cX5_sum 12 = .ok (.iaload, 1) := by decide +kernel
theorem dX5_sum_13 : decode cX5_sum 13 = .ok (.iadd, 1) := by decide +kernel
theorem dX5_sum_14 : decode cX5_sum 14 = .ok (.istore_n 1, 1) := by decide +kernel
theorem dX5_sum_15 : decode cX5_sum 15 = .ok (.iinc 2 1, 3) := by decide +kernel
theorem dX5_sum_18 : decode cX5_sum 18 = .ok (.goto (-14), 3) := by decide +kernel
theorem dX5_sum_21 : decode cX5_sum 21 = .ok (.iload_n 1, 1) := by decide +kernel
theorem dX5_sum_22 : decode cX5_sum 22 = .ok (.ireturn, 1) := by decide +kernel
theorem dX5_turn_0 : decode cX5_turn 0 = .ok (.iconst 1, 1) := by decide +kernel
theorem dX5_turn_1 : decode cX5_turn 1 = .ok (.istore_n 2, 1) := by decide +kernel
theorem dX5_turn_2 : decode cX5_turn 2 = .ok (.iload_n 2, 1) := by decide +kernel
theorem dX5_turn_3 : decode cX5_turn 3 = .ok (.iconst 5, 1) := by decide +kernel
theorem dX5_turn_4 : decode cX5_turn 4 = .ok (.if_icmp .gt 24, 3) := by decide +kernel
theorem dX5_turn_7 : decode cX5_turn 7 = .ok (.iload_n 1, 1) := by decide +kernel
theorem dX5_turn_8 : decode cX5_turn 8 = .ok (.iload_n 2, 1) := by decide +kernel
theorem dX5_turn_9 : decode cX5_turn 9 = .ok (.invokestatic 45, 3) := by decide +kernel
theorem dX5_turn_12 : decode cX5_turn 12 = .ok (.if_icmp .lt 10, 3) := by decide +kernel
theorem dX5_turn_15 : decode cX5_turn 15 = .ok (.aload_n 0, 1) := by decide +kernel
theorem dX5_turn_16 : decode cX5_turn 16 = .ok (.iload_n 2, 1) := by decide +kernel
theorem dX5_turn_17 : decode cX5_turn 17 = .ok (.dup2, 1) := by decide +kernel
theorem dX5_turn_18 : decode cX5_turn 18 = .ok (.iaload, 1) := by decide +kernel
theorem dX5_turn_19 : decode cX5_turn 19 = .ok (.iconst 2, 1) := by decide +kernel
theorem dX5_turn_20 : decode cX5_turn 20 = .ok (.idiv, 1) := by decide +kernel
theorem dX5_turn_21 : decode cX5_turn 21 = .ok (.iastore, 1) := by decide +kernel
theorem dX5_turn_22 : decode cX5_turn 22 = .ok (.iinc 2 1, 3) := by decide +kernel
theorem dX5_turn_25 : decode cX5_turn 25 = .ok (.goto (-23), 3) := by decide +kernel
theorem dX5_turn_28 : decode cX5_turn 28 = .ok (.iload_n 1, 1) := by decide +kernel
theorem dX5_turn_29 : decode cX5_turn 29 = .ok (.bipush 34, 2) := by decide +kernel
theorem dX5_turn_31 : decode cX5_turn 31 = .ok (.if_icmp .lt 4, 3) := by decide +kernel
theorem dX5_turn_34 : decode cX5_turn 34 = .ok (.return_, 1) := by decide +kernel
theorem dX5_turn_35 : decode cX5_turn 35 = .ok (.iconst 1, 1) := by decide +kernel
theorem dX5_turn_36 : decode cX5_turn 36 = .ok (.istore_n 2, 1) := by decide +kernel
theorem dX5_turn_37 : decode cX5_turn 37 = .ok (.iload_n 2, 1) := by decide +kernel
theorem dX5_turn_38 : decode cX5_turn 38 = .ok (.iconst 5, 1) := by decide +kernel
theorem dX5_turn_39 : decode cX5_turn 39 = .ok (.if_icmp .ge 19, 3) := by decide +kernel
theorem dX5_turn_42 : decode cX5_turn 42 = .ok (.iload_n 2, 1) := by decide +kernel
theorem dX5_turn_43 : decode cX5_turn 43 = .ok (.invokestatic 45, 3) := by decide +kernel
theorem dX5_turn_46 : decode cX5_turn 46 = .ok (.iload_n 1, 1) := by decide +kernel
theorem dX5_turn_47 : decode cX5_turn 47 = .ok (.iconst 3, 1) := by decide +kernel
theorem dX5_turn_48 : decode cX5_turn 48 = .ok (.iadd, 1) := by decide +kernel
theorem dX5_turn_49 : decode cX5_turn 49 = .ok (.if_icmp .gt 9, 3) := by decide +kernel
theorem dX5_turn_52 : decode cX5_turn 52 = .ok (.iinc 2 1, 3) := by decide +kernel
theorem dX5_turn_55 : decode cX5_turn 55 = .ok (.goto (-18), 3) := by decide +kernel
theorem dX5_turn_58 : decode cX5_turn 58 = .ok (.aload_n 0, 1) := by decide +kernel
theorem dX5_turn_59 : decode cX5_turn 59 = .ok (.iload_n 2, 1) := by decide +kernel
theorem dX5_turn_60 : decode cX5_turn 60 = .ok (.dup2, 1) := by decide +kernel
theorem dX5_turn_61 : decode cX5_turn 61 = .ok (.iaload, 1) := by decide +kernel
theorem dX5_turn_62 : decode cX5_turn 62 = .ok (.bipush 100, 2) := by decide +kernel
theorem dX5_turn_64 : decode cX5_turn 64 = .ok (.aload_n 0, 1) := by decide +kernel
theorem dX5_turn_65 : decode cX5_turn 65 = .ok (.invokestatic 49, 3) := by decide +kernel
theorem dX5_turn_68 : decode cX5_turn 68 = .ok (.isub, 1) := by decide +kernel
theorem dX5_turn_69 : decode cX5_turn 69 = .ok (.bipush 8, 2) := by decide +kernel
theorem dX5_turn_71 : decode cX5_turn 71 = .ok (.aload_n 0, 1) := by decide +kernel
theorem dX5_turn_72 : decode cX5_turn 72 = .ok (.iload_n 2, 1) := by decide +kernel
theorem dX5_turn_73 : decode cX5_turn 73 = .ok (.iaload, 1) := by decide +kernel
theorem dX5_turn_74 : decode cX5_turn 74 = .ok (.iconst 4, 1) := by decide +kernel
theorem dX5_turn_75 : decode cX5_turn 75 = .ok (.idiv, 1) := by decide +kernel
theorem dX5_turn_76 : decode cX5_turn 76 = .ok (.iadd, 1) := by decide +kernel
theorem dX5_turn_77 : decode cX5_turn 77 = .ok (.invokestatic 53, 3) := by decide +kernel
theorem dX5_turn_80 : decode cX5_turn 80 = .ok (.iadd, 1) := by decide +kernel
theorem dX5_turn_81 : decode cX5_turn 81 = .ok (.iastore, 1) := by decide +kernel
theorem dX5_turn_82 : decode cX5_turn 82 = .ok (.return_, 1) := by decide +kernel
theorem dX5_turns_0 : decode cX5_turns 0 = .ok (.iconst 0, 1) := by decide +kernel
theorem dX5_turns_1 : decode cX5_turns 1 = .ok (.istore_n 3, 1) := by decide +kernel
theorem dX5_turns_2 : decode cX5_turns 2 = .ok (.iload_n 3, 1) := by decide +kernel
theorem dX5_turns_3 : decode cX5_turns 3 = .ok (.iload_n 2, 1) := by decide +kernel
theorem dX5_turns_4 : decode cX5_turns 4 = .ok (.if_icmp .ge 14, 3) := by decide +kernel
theorem dX5_turns_7 : decode cX5_turns 7 = .ok (.aload_n 0, 1) := by decide +kernel
theorem dX5_turns_8 : decode cX5_turns 8 = .ok (.iload_n 1, 1) := by decide +kernel
theorem dX5_turns_9 : decode cX5_turns 9 = .ok (.invokestatic 59, 3) := by decide +kernel
theorem dX5_turns_12 : decode cX5_turns 12 = .ok (.iinc 3 1, 3) := by decide +kernel
theorem dX5_turns_15 : decode cX5_turns 15 = .ok (.goto (-13), 3) := by decide +kernel
theorem dX5_turns_18 : decode cX5_turns 18 = .ok (.return_, 1) := by decide +kernel
theorem dX5_temper_0 : decode cX5_temper 0 = .ok (.iconst 0, 1) := by decide +kernel
theorem dX5_temper_1 : decode cX5_temper 1 = .ok (.bipush 100, 2) := by decide +kernel
theorem dX5_temper_3 : decode cX5_temper 3 = .ok (.iconst 2, 1) := by decide +kernel
theorem dX5_temper_4 : decode cX5_temper 4 = .ok (.aload_n 0, 1) := by decide +kernel
theorem dX5_temper_5 : decode cX5_temper 5 = .ok (.iconst 5, 1) := by decide +kernel
theorem dX5_temper_6 : decode cX5_temper 6 = .ok (.iaload, 1) := by decide +kernel
theorem dX5_temper_7 : decode cX5_temper 7 = .ok (.imul, 1) := by decide +kernel
theorem dX5_temper_8 : decode cX5_temper 8 = .ok (.aload_n 0, 1) := by decide +kernel
theorem dX5_temper_9 : decode cX5_temper 9 = .ok (.iconst 4, 1) := by decide +kernel
theorem dX5_temper_10 : decode cX5_temper 10 = .ok (.iaload, 1) := by decide +kernel
theorem dX5_temper_11 : decode cX5_temper 11 = .ok (.iadd, 1) := by decide +kernel
theorem dX5_temper_12 : decode cX5_temper 12 = .ok (.aload_n 0, 1) := by decide +kernel
theorem dX5_temper_13 : decode cX5_temper 13 = .ok (.iconst 1, 1) := by decide +kernel
theorem dX5_temper_14 : decode cX5_temper 14 = .ok (.iaload, 1) := by decide +kernel
theorem dX5_temper_15 : decode cX5_temper 15 = .ok (.isub, 1) := by decide +kernel
theorem dX5_temper_16 : decode cX5_temper 16 = .ok (.aload_n 0, 1) := by decide +kernel
theorem dX5_temper_17 : decode cX5_temper 17 = .ok (.iconst 2, 1) := by decide +kernel
theorem dX5_temper_18 : decode cX5_temper 18 = .ok (.iaload, 1) := by decide +kernel
theorem dX5_temper_19 : decode cX5_temper 19 = .ok (.isub, 1) := by decide +kernel
theorem dX5_temper_20 : decode cX5_temper 20 = .ok (.aload_n 0, 1) := by decide +kernel
theorem dX5_temper_21 : decode cX5_temper 21 = .ok (.iconst 3, 1) := by decide +kernel
theorem dX5_temper_22 : decode cX5_temper 22 = .ok (.iaload, 1) := by decide +kernel
theorem dX5_temper_23 : decode cX5_temper 23 = .ok (.isub, 1) := by decide +kernel
theorem dX5_temper_24 : decode cX5_temper 24 = .ok (.invokestatic 53, 3) := by decide +kernel
theorem dX5_temper_27 : decode cX5_temper 27 = .ok (.invokestatic 63, 3) := by decide +kernel
theorem dX5_temper_30 : decode cX5_temper 30 = .ok (.ireturn, 1) := by decide +kernel
theorem dX5_look_0 : decode cX5_look 0 = .ok (.iconst 1, 1) := by decide +kernel
theorem dX5_look_1 : decode cX5_look 1 = .ok (.istore_n 2, 1) := by decide +kernel
theorem dX5_look_2 : decode cX5_look 2 = .ok (.iload_n 2, 1) := by decide +kernel
theorem dX5_look_3 : decode cX5_look 3 = .ok (.iconst 5, 1) := by decide +kernel
theorem dX5_look_4 : decode cX5_look 4 = .ok (.if_icmp .gt 21, 3) := by decide +kernel
theorem dX5_look_7 : decode cX5_look 7 = .ok (.aload_n 0, 1) := by decide +kernel
theorem dX5_look_8 : decode cX5_look 8 = .ok (.getfield 25, 3) := by decide +kernel
theorem dX5_look_11 : decode cX5_look 11 = .ok (.iload_n 2, 1) := by decide +kernel
theorem dX5_look_12 : decode cX5_look 12 = .ok (.aload_n 0, 1) := by decide +kernel
theorem dX5_look_13 : decode cX5_look 13 = .ok (.iload_n 1, 1) := by decide +kernel
theorem dX5_look_14 : decode cX5_look 14 = .ok (.iload_n 2, 1) := by decide +kernel
theorem dX5_look_15 : decode cX5_look 15 = .ok (.invokevirtual 66, 3) := by decide +kernel
theorem dX5_look_18 : decode cX5_look 18 = .ok (.iastore, 1) := by decide +kernel
theorem dX5_look_19 : decode cX5_look 19 = .ok (.iinc 2 1, 3) := by decide +kernel
theorem dX5_look_22 : decode cX5_look 22 = .ok (.goto (-20), 3) := by decide +kernel
theorem dX5_look_25 : decode cX5_look 25 = .ok (.return_, 1) := by decide +kernel
theorem dX5_temperOf_0 : decode cX5_temperOf 0 = .ok (.aload_n 0, 1) := by decide +kernel
theorem dX5_temperOf_1 : decode cX5_temperOf 1 = .ok (.iload_n 1, 1) := by decide +kernel
theorem dX5_temperOf_2 : decode cX5_temperOf 2 = .ok (.invokevirtual 69, 3) := by decide +kernel
theorem dX5_temperOf_5 : decode cX5_temperOf 5 = .ok (.aload_n 0, 1) := by decide +kernel
theorem dX5_temperOf_6 : decode cX5_temperOf 6 = .ok (.getfield 25, 3) := by decide +kernel
theorem dX5_temperOf_9 : decode cX5_temperOf 9 = .ok (.invokestatic 73, 3) := by decide +kernel
theorem dX5_temperOf_12 : decode cX5_temperOf 12 = .ok (.ireturn, 1) := by decide +kernel
theorem dX5_bowl_0 : decode cX5_bowl 0 = .ok (.aload_n 0, 1) := by decide +kernel
theorem dX5_bowl_1 : decode cX5_bowl 1 = .ok (.iconst 0, 1) := by decide +kernel
theorem dX5_bowl_2 : decode cX5_bowl 2 = .ok (.putfield 31, 3) := by decide +kernel
theorem dX5_bowl_5 : decode cX5_bowl 5 = .ok (.iload_n 1, 1) := by decide +kernel
theorem dX5_bowl_6 : decode cX5_bowl 6 = .ok (.iconst 0, 1) := by decide +kernel
theorem dX5_bowl_7 : decode cX5_bowl 7 = .ok (.sipush 2000, 3) := by decide +kernel
theorem dX5_bowl_10 : decode cX5_bowl 10 = .ok (.invokestatic 38, 3) := by decide +kernel
theorem dX5_bowl_13 : decode cX5_bowl 13 = .ok (.ifCond .ne 9, 3) := by decide +kernel
theorem dX5_bowl_16 : decode cX5_bowl 16 = .ok (.aload_n 0, 1) := by decide +kernel
theorem dX5_bowl_17 : decode cX5_bowl 17 = .ok (.iconst 1, 1) := by decide +kernel
theorem dX5_bowl_18 : decode cX5_bowl 18 = .ok (.invokevirtual 76, 3) := by decide +kernel
theorem dX5_bowl_21 : decode cX5_bowl 21 = .ok (.ireturn, 1) := by decide +kernel
theorem dX5_bowl_22 : decode cX5_bowl 22 = .ok (.aload_n 0, 1) := by decide +kernel
theorem dX5_bowl_23 : decode cX5_bowl 23 = .ok (.getfield 35, 3) := by decide +kernel
theorem dX5_bowl_26 : decode cX5_bowl 26 = .ok (.iconst 5, 1) := by decide +kernel
theorem dX5_bowl_27 : decode cX5_bowl 27 = .ok (.if_icmp .ne 9, 3) := by decide +kernel
theorem dX5_bowl_30 : decode cX5_bowl 30 = .ok (.aload_n 0, 1) := by decide +kernel
theorem dX5_bowl_31 : decode cX5_bowl 31 = .ok (.iconst 2, 1) := by decide +kernel
theorem dX5_bowl_32 : decode cX5_bowl 32 = .ok (.invokevirtual 76, 3) := by decide +kernel
theorem dX5_bowl_35 : decode cX5_bowl 35 = .ok (.ireturn, 1) := by decide +kernel
theorem dX5_bowl_36 : decode cX5_bowl 36 = .ok (.aload_n 0, 1) := by decide +kernel
theorem dX5_bowl_37 : decode cX5_bowl 37 = .ok (.aload_n 0, 1) := by decide +kernel
theorem dX5_bowl_38 : decode cX5_bowl 38 = .ok (.getfield 35, 3) := by decide +kernel
theorem dX5_bowl_41 : decode cX5_bowl 41 = .ok (.iconst 0, 1) := by decide +kernel
theorem dX5_bowl_42 : decode cX5_bowl 42 = .ok (.iload_n 1, 1) := by decide +kernel
theorem dX5_bowl_43 : decode cX5_bowl 43 = .ok (.invokevirtual 79, 3) := by decide +kernel
theorem dX5_bowl_46 : decode cX5_bowl 46 = .ok (.aload_n 0, 1) := by decide +kernel
theorem dX5_bowl_47 : decode cX5_bowl 47 = .ok (.aload_n 0, 1) := by decide +kernel
theorem dX5_bowl_48 : decode cX5_bowl 48 = .ok (.getfield 35, 3) := by decide +kernel
theorem dX5_bowl_51 : decode cX5_bowl 51 = .ok (.bipush 6, 2) := by decide +kernel
theorem dX5_bowl_53 : decode cX5_bowl 53 = .ok (.bipush 20, 2) := by decide +kernel
theorem dX5_bowl_55 : decode cX5_bowl 55 = .ok (.invokevirtual 79, 3) := by decide +kernel
theorem dX5_bowl_58 : decode cX5_bowl 58 = .ok (.aload_n 0, 1) := by decide +kernel
theorem dX5_bowl_59 : decode cX5_bowl 59 = .ok (.dup, 1) := by decide +kernel
theorem dX5_bowl_60 : decode cX5_bowl 60 = .ok (.getfield 35, 3) := by decide +kernel
theorem dX5_bowl_63 : decode cX5_bowl 63 = .ok (.iconst 1, 1) := by decide +kernel
theorem dX5_bowl_64 : decode cX5_bowl 64 = .ok (.iadd, 1) := by decide +kernel
theorem dX5_bowl_65 : decode cX5_bowl 65 = .ok (.putfield 35, 3) := by decide +kernel
theorem dX5_bowl_68 : decode cX5_bowl 68 = .ok (.aload_n 0, 1) := by decide +kernel
theorem dX5_bowl_69 : decode cX5_bowl 69 = .ok (.getfield 35, 3) := by decide +kernel
theorem dX5_bowl_72 : decode cX5_bowl 72 = .ok (.iconst 1, 1) := by decide +kernel
theorem dX5_bowl_73 : decode cX5_bowl 73 = .ok (.isub, 1) := by decide +kernel
theorem dX5_bowl_74 : decode cX5_bowl 74 = .ok (.ireturn, 1) := by decide +kernel
theorem dX5_isWarmth_0 : decode cX5_isWarmth 0 = .ok (.iload_n 1, 1) := by decide +kernel
theorem dX5_isWarmth_1 : decode cX5_isWarmth 1 = .ok (.bipush 15, 2) := by decide +kernel
theorem dX5_isWarmth_3 : decode cX5_isWarmth 3 = .ok (.bipush 50, 2) := by decide +kernel
theorem dX5_isWarmth_5 : decode cX5_isWarmth 5 = .ok (.invokestatic 38, 3) := by decide +kernel
theorem dX5_isWarmth_8 : decode cX5_isWarmth 8 = .ok (.ifCond .eq 17, 3) := by decide +kernel
theorem dX5_isWarmth_11 : decode cX5_isWarmth 11 = .ok (.iload_n 2, 1) := by decide +kernel
theorem dX5_isWarmth_12 : decode cX5_isWarmth 12 = .ok (.iconst 1, 1) := by decide +kernel
theorem dX5_isWarmth_13 : decode cX5_isWarmth 13 = .ok (.bipush 40, 2) := by decide +kernel
theorem dX5_isWarmth_15 : decode cX5_isWarmth 15 = .ok (.invokestatic 38, 3) := by decide +kernel
theorem dX5_isWarmth_18 : decode cX5_isWarmth 18 = .ok (.ifCond .eq 7, 3) := by decide +kernel
theorem dX5_isWarmth_21 : decode cX5_isWarmth 21 = .ok (.iconst 1, 1) := by decide +kernel
theorem dX5_isWarmth_22 : decode cX5_isWarmth 22 = .ok (.goto 4, 3) := by decide +kernel
theorem dX5_isWarmth_25 : decode cX5_isWarmth 25 = .ok (.iconst 0, 1) := by decide +kernel
theorem dX5_isWarmth_26 : decode cX5_isWarmth 26 = .ok (.ireturn, 1) := by decide +kernel
theorem dX5_warm_0 : decode cX5_warm 0 = .ok (.aload_n 0, 1) := by decide +kernel
theorem dX5_warm_1 : decode cX5_warm 1 = .ok (.iconst 0, 1) := by decide +kernel
theorem dX5_warm_2 : decode cX5_warm 2 = .ok (.putfield 31, 3) := by decide +kernel
theorem dX5_warm_5 : decode cX5_warm 5 = .ok (.aload_n 0, 1) := by decide +kernel
theorem dX5_warm_6 : decode cX5_warm 6 = .ok (.iload_n 1, 1) := by decide +kernel
theorem dX5_warm_7 : decode cX5_warm 7 = .ok (.invokevirtual 83, 3) := by decide +kernel
theorem dX5_warm_10 : decode cX5_warm 10 = .ok (.ifCond .ne 9, 3) := by decide +kernel
theorem dX5_warm_13 : decode cX5_warm 13 = .ok (.aload_n 0, 1) := by decide +kernel
theorem dX5_warm_14 : decode cX5_warm 14 = .ok (.iconst 1, 1) := by decide +kernel
theorem dX5_warm_15 : decode cX5_warm 15 = .ok (.invokevirtual 76, 3) := by decide +kernel
theorem dX5_warm_18 : decode cX5_warm 18 = .ok (.ireturn, 1) := by decide +kernel
theorem dX5_warm_19 : decode cX5_warm 19 = .ok (.aload_n 0, 1) := by decide +kernel
theorem dX5_warm_20 : decode cX5_warm 20 = .ok (.iload_n 2, 1) := by decide +kernel
theorem dX5_warm_21 : decode cX5_warm 21 = .ok (.iload_n 3, 1) := by decide +kernel
theorem dX5_warm_22 : decode cX5_warm 22 = .ok (.invokevirtual 87, 3) := by decide +kernel
theorem dX5_warm_25 : decode cX5_warm 25 = .ok (.ifCond .ne 9, 3) := by decide +kernel
theorem dX5_warm_28 : decode cX5_warm 28 = .ok (.aload_n 0, 1) := by decide +kernel
theorem dX5_warm_29 : decode cX5_warm 29 = .ok (.iconst 2, 1) := by decide +kernel
theorem dX5_warm_30 : decode cX5_warm 30 = .ok (.invokevirtual 76, 3) := by decide +kernel
theorem dX5_warm_33 : decode cX5_warm 33 = .ok (.ireturn, 1) := by decide +kernel
theorem dX5_warm_34 : decode cX5_warm 34 = .ok (.aload_n 0, 1) := by decide +kernel
theorem dX5_warm_35 : decode cX5_warm 35 = .ok (.iload_n 1, 1) := by decide +kernel
theorem dX5_warm_36 : decode cX5_warm 36 = .ok (.invokevirtual 69, 3) := by decide +kernel
theorem dX5_warm_39 : decode cX5_warm 39 = .ok (.aload_n 0, 1) := by decide +kernel
theorem dX5_warm_40 : decode cX5_warm 40 = .ok (.getfield 25, 3) := by decide +kernel
theorem dX5_warm_43 : decode cX5_warm 43 = .ok (.iload_n 2, 1) := by decide +kernel
theorem dX5_warm_44 : decode cX5_warm 44 = .ok (.iload_n 3, 1) := by decide +kernel
theorem dX5_warm_45 : decode cX5_warm 45 = .ok (.invokestatic 91, 3) := by decide +kernel
theorem dX5_warm_48 : decode cX5_warm 48 = .ok (.iconst 1, 1) := by decide +kernel
theorem dX5_warm_49 : decode cX5_warm 49 = .ok (.istore 4, 2) := by decide +kernel
theorem dX5_warm_51 : decode cX5_warm 51 = .ok (.iload 4, 2) := by decide +kernel
theorem dX5_warm_53 : decode cX5_warm 53 = .ok (.iconst 5, 1) := by decide +kernel
theorem dX5_warm_54 : decode cX5_warm 54 = .ok (.if_icmp .gt 23, 3) := by decide +kernel
theorem dX5_warm_57 : decode cX5_warm 57 = .ok (.aload_n 0, 1) := by decide +kernel
theorem dX5_warm_58 : decode cX5_warm 58 = .ok (.iload_n 1, 1) := by decide +kernel
theorem dX5_warm_59 : decode cX5_warm 59 = .ok (.iload 4, 2) := by decide +kernel
theorem dX5_warm_61 : decode cX5_warm 61 = .ok (.aload_n 0, 1) := by decide +kernel
theorem dX5_warm_62 : decode cX5_warm 62 = .ok (.getfield 25, 3) := by decide +kernel
theorem dX5_warm_65 : decode cX5_warm 65 = .ok (.iload 4, 2) := by decide +kernel
theorem dX5_warm_67 : decode cX5_warm 67 = .ok (.iaload, 1) := by decide +kernel
theorem dX5_warm_68 : decode cX5_warm 68 = .ok (.invokevirtual 79, 3) := by decide +kernel
theorem dX5_warm_71 : decode cX5_warm 71 = .ok (.iinc 4 1, 3) := by decide +kernel
theorem dX5_warm_74 : decode cX5_warm 74 = .ok (.goto (-23), 3) := by decide +kernel
theorem dX5_warm_77 : decode cX5_warm 77 = .ok (.aload_n 0, 1) := by decide +kernel
theorem dX5_warm_78 : decode cX5_warm 78 = .ok (.iload_n 1, 1) := by decide +kernel
theorem dX5_warm_79 : decode cX5_warm 79 = .ok (.bipush 6, 2) := by decide +kernel
theorem dX5_warm_81 : decode cX5_warm 81 = .ok (.iload_n 2, 1) := by decide +kernel
theorem dX5_warm_82 : decode cX5_warm 82 = .ok (.invokevirtual 79, 3) := by decide +kernel
theorem dX5_warm_85 : decode cX5_warm 85 = .ok (.aload_n 0, 1) := by decide +kernel
theorem dX5_warm_86 : decode cX5_warm 86 = .ok (.getfield 25, 3) := by decide +kernel
theorem dX5_warm_89 : decode cX5_warm 89 = .ok (.invokestatic 73, 3) := by decide +kernel
theorem dX5_warm_92 : decode cX5_warm 92 = .ok (.ireturn, 1) := by decide +kernel
theorem dX5_seed_0 : decode cX5_seed 0 = .ok (.aload_n 0, 1) := by decide +kernel
theorem dX5_seed_1 : decode cX5_seed 1 = .ok (.iconst 0, 1) := by decide +kernel
theorem dX5_seed_2 : decode cX5_seed 2 = .ok (.putfield 31, 3) := by decide +kernel
theorem dX5_seed_5 : decode cX5_seed 5 = .ok (.aload_n 0, 1) := by decide +kernel
theorem dX5_seed_6 : decode cX5_seed 6 = .ok (.iload_n 1, 1) := by decide +kernel
theorem dX5_seed_7 : decode cX5_seed 7 = .ok (.invokevirtual 83, 3) := by decide +kernel
theorem dX5_seed_10 : decode cX5_seed 10 = .ok (.ifCond .ne 9, 3) := by decide +kernel
theorem dX5_seed_13 : decode cX5_seed 13 = .ok (.aload_n 0, 1) := by decide +kernel
theorem dX5_seed_14 : decode cX5_seed 14 = .ok (.iconst 1, 1) := by decide +kernel
theorem dX5_seed_15 : decode cX5_seed 15 = .ok (.invokevirtual 76, 3) := by decide +kernel
theorem dX5_seed_18 : decode cX5_seed 18 = .ok (.ireturn, 1) := by decide +kernel
theorem dX5_seed_19 : decode cX5_seed 19 = .ok (.iload_n 2, 1) := by decide +kernel
theorem dX5_seed_20 : decode cX5_seed 20 = .ok (.iconst 1, 1) := by decide +kernel
theorem dX5_seed_21 : decode cX5_seed 21 = .ok (.bipush 30, 2) := by decide +kernel
theorem dX5_seed_23 : decode cX5_seed 23 = .ok (.invokestatic 38, 3) := by decide +kernel
theorem dX5_seed_26 : decode cX5_seed 26 = .ok (.ifCond .ne 9, 3) := by decide +kernel
theorem dX5_seed_29 : decode cX5_seed 29 = .ok (.aload_n 0, 1) := by decide +kernel
theorem dX5_seed_30 : decode cX5_seed 30 = .ok (.iconst 2, 1) := by decide +kernel
theorem dX5_seed_31 : decode cX5_seed 31 = .ok (.invokevirtual 76, 3) := by decide +kernel
theorem dX5_seed_34 : decode cX5_seed 34 = .ok (.ireturn, 1) := by decide +kernel
theorem dX5_seed_35 : decode cX5_seed 35 = .ok (.aload_n 0, 1) := by decide +kernel
theorem dX5_seed_36 : decode cX5_seed 36 = .ok (.iload_n 1, 1) := by decide +kernel
theorem dX5_seed_37 : decode cX5_seed 37 = .ok (.invokevirtual 69, 3) := by decide +kernel
theorem dX5_seed_40 : decode cX5_seed 40 = .ok (.aload_n 0, 1) := by decide +kernel
theorem dX5_seed_41 : decode cX5_seed 41 = .ok (.iload_n 1, 1) := by decide +kernel
theorem dX5_seed_42 : decode cX5_seed 42 = .ok (.iconst 5, 1) := by decide +kernel
theorem dX5_seed_43 : decode cX5_seed 43 = .ok (.aload_n 0, 1) := by decide +kernel
theorem dX5_seed_44 : decode cX5_seed 44 = .ok (.getfield 25, 3) := by decide +kernel
theorem dX5_seed_47 : decode cX5_seed 47 = .ok (.iconst 5, 1) := by decide +kernel
theorem dX5_seed_48 : decode cX5_seed 48 = .ok (.iaload, 1) := by decide +kernel
theorem dX5_seed_49 : decode cX5_seed 49 = .ok (.iload_n 2, 1) := by decide +kernel
theorem dX5_seed_50 : decode cX5_seed 50 = .ok (.bipush 100, 2) := by decide +kernel
theorem dX5_seed_52 : decode cX5_seed 52 = .ok (.aload_n 0, 1) := by decide +kernel
theorem dX5_seed_53 : decode cX5_seed 53 = .ok (.getfield 25, 3) := by decide +kernel
theorem dX5_seed_56 : decode cX5_seed 56 = .ok (.invokestatic 49, 3) := by decide +kernel
theorem dX5_seed_59 : decode cX5_seed 59 = .ok (.isub, 1) := by decide +kernel
theorem dX5_seed_60 : decode cX5_seed 60 = .ok (.invokestatic 53, 3) := by decide +kernel
theorem dX5_seed_63 : decode cX5_seed 63 = .ok (.iadd, 1) := by decide +kernel
theorem dX5_seed_64 : decode cX5_seed 64 = .ok (.invokevirtual 79, 3) := by decide +kernel
theorem dX5_seed_67 : decode cX5_seed 67 = .ok (.aload_n 0, 1) := by decide +kernel
theorem dX5_seed_68 : decode cX5_seed 68 = .ok (.iload_n 1, 1) := by decide +kernel
theorem dX5_seed_69 : decode cX5_seed 69 = .ok (.iconst 5, 1) := by decide +kernel
theorem dX5_seed_70 : decode cX5_seed 70 = .ok (.invokevirtual 66, 3) := by decide +kernel
theorem dX5_seed_73 : decode cX5_seed 73 = .ok (.ireturn, 1) := by decide +kernel
theorem dX5_pour_0 : decode cX5_pour 0 = .ok (.aload_n 0, 1) := by decide +kernel
theorem dX5_pour_1 : decode cX5_pour 1 = .ok (.iconst 0, 1) := by decide +kernel
theorem dX5_pour_2 : decode cX5_pour 2 = .ok (.putfield 31, 3) := by decide +kernel
theorem dX5_pour_5 : decode cX5_pour 5 = .ok (.aload_n 0, 1) := by decide +kernel
theorem dX5_pour_6 : decode cX5_pour 6 = .ok (.iload_n 1, 1) := by decide +kernel
theorem dX5_pour_7 : decode cX5_pour 7 = .ok (.invokevirtual 83, 3) := by decide +kernel
theorem dX5_pour_10 : decode cX5_pour 10 = .ok (.ifCond .eq 11, 3) := by decide +kernel
theorem dX5_pour_13 : decode cX5_pour 13 = .ok (.aload_n 0, 1) := by decide +kernel
theorem dX5_pour_14 : decode cX5_pour 14 = .ok (.iload_n 2, 1) := by decide +kernel
theorem dX5_pour_15 : decode cX5_pour 15 = .ok (.invokevirtual 83, 3) := by decide +kernel
theorem dX5_pour_18 : decode cX5_pour 18 = .ok (.ifCond .ne 9, 3) := by decide +kernel
theorem dX5_pour_21 : decode cX5_pour 21 = .ok (.aload_n 0, 1) := by decide +kernel
theorem dX5_pour_22 : decode cX5_pour 22 = .ok (.iconst 1, 1) := by decide +kernel
theorem dX5_pour_23 : decode cX5_pour 23 = .ok (.invokevirtual 76, 3) := by decide +kernel
theorem dX5_pour_26 : decode cX5_pour 26 = .ok (.ireturn, 1) := by decide +kernel
theorem dX5_pour_27 : decode cX5_pour 27 = .ok (.aload_n 0, 1) := by decide +kernel
theorem dX5_pour_28 : decode cX5_pour 28 = .ok (.iload_n 1, 1) := by decide +kernel
theorem dX5_pour_29 : decode cX5_pour 29 = .ok (.iconst 0, 1) := by decide +kernel
theorem dX5_pour_30 : decode cX5_pour 30 = .ok (.invokevirtual 66, 3) := by decide +kernel
theorem dX5_pour_33 : decode cX5_pour 33 = .ok (.aload_n 0, 1) := by decide +kernel
theorem dX5_pour_34 : decode cX5_pour 34 = .ok (.iload_n 2, 1) := by decide +kernel
theorem dX5_pour_35 : decode cX5_pour 35 = .ok (.iconst 0, 1) := by decide +kernel
theorem dX5_pour_36 : decode cX5_pour 36 = .ok (.invokevirtual 66, 3) := by decide +kernel
theorem dX5_pour_39 : decode cX5_pour 39 = .ok (.iadd, 1) := by decide +kernel
theorem dX5_pour_40 : decode cX5_pour 40 = .ok (.istore_n 3, 1) := by decide +kernel
theorem dX5_pour_41 : decode cX5_pour 41 = .ok (.iload_n 1, 1) := by decide +kernel
theorem dX5_pour_42 : decode cX5_pour 42 = .ok (.iload_n 2, 1) := by decide +kernel
theorem dX5_pour_43 : decode cX5_pour 43 = .ok (.if_icmp .eq 14, 3) := by decide +kernel
theorem dX5_pour_46 : decode cX5_pour 46 = .ok (.iload_n 3, 1) := by decide +kernel
theorem dX5_pour_47 : decode cX5_pour 47 = .ok (.ifCond .eq 10, 3) := by decide +kernel
theorem dX5_pour_50 : decode cX5_pour 50 = .ok (.iload_n 3, 1) := by decide +kernel
theorem dX5_pour_51 : decode cX5_pour 51 = .ok (.sipush 2000, 3) := by decide +kernel
theorem dX5_pour_54 : decode cX5_pour 54 = .ok (.if_icmp .le 9, 3) := by decide +kernel
theorem dX5_pour_57 : decode cX5_pour 57 = .ok (.aload_n 0, 1) := by decide +kernel
theorem dX5_pour_58 : decode cX5_pour 58 = .ok (.iconst 2, 1) := by decide +kernel
theorem dX5_pour_59 : decode cX5_pour 59 = .ok (.invokevirtual 76, 3) := by decide +kernel
theorem dX5_pour_62 : decode cX5_pour 62 = .ok (.ireturn, 1) := by decide +kernel
theorem dX5_pour_63 : decode cX5_pour 63 = .ok (.iconst 1, 1) := by decide +kernel
theorem dX5_pour_64 : decode cX5_pour 64 = .ok (.istore 4, 2) := by decide +kernel
theorem dX5_pour_66 : decode cX5_pour 66 = .ok (.iload 4, 2) := by decide +kernel
theorem dX5_pour_68 : decode cX5_pour 68 = .ok (.bipush 6, 2) := by decide +kernel
theorem dX5_pour_70 : decode cX5_pour 70 = .ok (.if_icmp .gt 47, 3) := by decide +kernel
theorem dX5_pour_73 : decode cX5_pour 73 = .ok (.aload_n 0, 1) := by decide +kernel
theorem dX5_pour_74 : decode cX5_pour 74 = .ok (.iload_n 2, 1) := by decide +kernel
theorem dX5_pour_75 : decode cX5_pour 75 = .ok (.iload 4, 2) := by decide +kernel
theorem dX5_pour_77 : decode cX5_pour 77 = .ok (.aload_n 0, 1) := by decide +kernel
theorem dX5_pour_78 : decode cX5_pour 78 = .ok (.iload_n 2, 1) := by decide +kernel
theorem dX5_pour_79 : decode cX5_pour 79 = .ok (.iload 4, 2) := by decide +kernel
theorem dX5_pour_81 : decode cX5_pour 81 = .ok (.invokevirtual 66, 3) := by decide +kernel
theorem dX5_pour_84 : decode cX5_pour 84 = .ok (.aload_n 0, 1) := by decide +kernel
theorem dX5_pour_85 : decode cX5_pour 85 = .ok (.iload_n 2, 1) := by decide +kernel
theorem dX5_pour_86 : decode cX5_pour 86 = .ok (.iconst 0, 1) := by decide +kernel
theorem dX5_pour_87 : decode cX5_pour 87 = .ok (.invokevirtual 66, 3) := by decide +kernel
theorem dX5_pour_90 : decode cX5_pour 90 = .ok (.imul, 1) := by decide +kernel
theorem dX5_pour_91 : decode cX5_pour 91 = .ok (.aload_n 0, 1) := by decide +kernel
theorem dX5_pour_92 : decode cX5_pour 92 = .ok (.iload_n 1, 1) := by decide +kernel
theorem dX5_pour_93 : decode cX5_pour 93 = .ok (.iload 4, 2) := by decide +kernel
theorem dX5_pour_95 : decode cX5_pour 95 = .ok (.invokevirtual 66, 3) := by decide +kernel
theorem dX5_pour_98 : decode cX5_pour 98 = .ok (.aload_n 0, 1) := by decide +kernel
theorem dX5_pour_99 : decode cX5_pour 99 = .ok (.iload_n 1, 1) := by decide +kernel
theorem dX5_pour_100 : decode cX5_pour 100 = .ok (.iconst 0, 1) := by decide +kernel
theorem dX5_pour_101 : decode cX5_pour 101 = .ok (.invokevirtual 66, 3) := by decide +kernel
theorem dX5_pour_104 : decode cX5_pour 104 = .ok (.imul, 1) := by decide +kernel
theorem dX5_pour_105 : decode cX5_pour 105 = .ok (.iadd, 1) := by decide +kernel
theorem dX5_pour_106 : decode cX5_pour 106 = .ok (.iload_n 3, 1) := by decide +kernel
theorem dX5_pour_107 : decode cX5_pour 107 = .ok (.idiv, 1) := by decide +kernel
theorem dX5_pour_108 : decode cX5_pour 108 = .ok (.invokevirtual 79, 3) := by decide +kernel
theorem dX5_pour_111 : decode cX5_pour 111 = .ok (.iinc 4 1, 3) := by decide +kernel
theorem dX5_pour_114 : decode cX5_pour 114 = .ok (.goto (-48), 3) := by decide +kernel
theorem dX5_pour_117 : decode cX5_pour 117 = .ok (.aload_n 0, 1) := by decide +kernel
theorem dX5_pour_118 : decode cX5_pour 118 = .ok (.iload_n 2, 1) := by decide +kernel
theorem dX5_pour_119 : decode cX5_pour 119 = .ok (.iconst 0, 1) := by decide +kernel
theorem dX5_pour_120 : decode cX5_pour 120 = .ok (.iload_n 3, 1) := by decide +kernel
theorem dX5_pour_121 : decode cX5_pour 121 = .ok (.invokevirtual 79, 3) := by decide +kernel
theorem dX5_pour_124 : decode cX5_pour 124 = .ok (.iconst 0, 1) := by decide +kernel
theorem dX5_pour_125 : decode cX5_pour 125 = .ok (.istore 4, 2) := by decide +kernel
theorem dX5_pour_127 : decode cX5_pour 127 = .ok (.iload 4, 2) := by decide +kernel
theorem dX5_pour_129 : decode cX5_pour 129 = .ok (.bipush 6, 2) := by decide +kernel
theorem dX5_pour_131 : decode cX5_pour 131 = .ok (.if_icmp .ge 17, 3) := by decide +kernel
theorem dX5_pour_134 : decode cX5_pour 134 = .ok (.aload_n 0, 1) := by decide +kernel
theorem dX5_pour_135 : decode cX5_pour 135 = .ok (.iload_n 1, 1) := by decide +kernel
theorem dX5_pour_136 : decode cX5_pour 136 = .ok (.iload 4, 2) := by decide +kernel
theorem dX5_pour_138 : decode cX5_pour 138 = .ok (.iconst 0, 1) := by decide +kernel
theorem dX5_pour_139 : decode cX5_pour 139 = .ok (.invokevirtual 79, 3) := by decide +kernel
theorem dX5_pour_142 : decode cX5_pour 142 = .ok (.iinc 4 1, 3) := by decide +kernel
theorem dX5_pour_145 : decode cX5_pour 145 = .ok (.goto (-18), 3) := by decide +kernel
theorem dX5_pour_148 : decode cX5_pour 148 = .ok (.iload_n 3, 1) := by decide +kernel
theorem dX5_pour_149 : decode cX5_pour 149 = .ok (.ireturn, 1) := by decide +kernel
theorem dX5_put_0 : decode cX5_put 0 = .ok (.aload_n 0, 1) := by decide +kernel
theorem dX5_put_1 : decode cX5_put 1 = .ok (.iload_n 1, 1) := by decide +kernel
theorem dX5_put_2 : decode cX5_put 2 = .ok (.iconst 0, 1) := by decide +kernel
theorem dX5_put_3 : decode cX5_put 3 = .ok (.iload_n 2, 1) := by decide +kernel
theorem dX5_put_4 : decode cX5_put 4 = .ok (.invokevirtual 95, 3) := by decide +kernel
theorem dX5_put_7 : decode cX5_put 7 = .ok (.aload_n 0, 1) := by decide +kernel
theorem dX5_put_8 : decode cX5_put 8 = .ok (.iload_n 1, 1) := by decide +kernel
theorem dX5_put_9 : decode cX5_put 9 = .ok (.iconst 1, 1) := by decide +kernel
theorem dX5_put_10 : decode cX5_put 10 = .ok (.iload_n 3, 1) := by decide +kernel
theorem dX5_put_11 : decode cX5_put 11 = .ok (.invokevirtual 95, 3) := by decide +kernel
theorem dX5_put_14 : decode cX5_put 14 = .ok (.aload_n 0, 1) := by decide +kernel
theorem dX5_put_15 : decode cX5_put 15 = .ok (.iload_n 1, 1) := by decide +kernel
theorem dX5_put_16 : decode cX5_put 16 = .ok (.iconst 2, 1) := by decide +kernel
theorem dX5_put_17 : decode cX5_put 17 = .ok (.iload 4, 2) := by decide +kernel
theorem dX5_put_19 : decode cX5_put 19 = .ok (.invokevirtual 95, 3) := by decide +kernel
theorem dX5_put_22 : decode cX5_put 22 = .ok (.aload_n 0, 1) := by decide +kernel
theorem dX5_put_23 : decode cX5_put 23 = .ok (.iload_n 1, 1) := by decide +kernel
theorem dX5_put_24 : decode cX5_put 24 = .ok (.iconst 3, 1) := by decide +kernel
theorem dX5_put_25 : decode cX5_put 25 = .ok (.iload 5, 2) := by decide +kernel
theorem dX5_put_27 : decode cX5_put 27 = .ok (.invokevirtual 95, 3) := by decide +kernel
theorem dX5_put_30 : decode cX5_put 30 = .ok (.aload_n 0, 1) := by decide +kernel
theorem dX5_put_31 : decode cX5_put 31 = .ok (.iload_n 1, 1) := by decide +kernel
theorem dX5_put_32 : decode cX5_put 32 = .ok (.iconst 4, 1) := by decide +kernel
theorem dX5_put_33 : decode cX5_put 33 = .ok (.iload 6, 2) := by decide +kernel
theorem dX5_put_35 : decode cX5_put 35 = .ok (.invokevirtual 95, 3) := by decide +kernel
theorem dX5_put_38 : decode cX5_put 38 = .ok (.return_, 1) := by decide +kernel
theorem dX5_squares_0 : decode cX5_squares 0 = .ok (.aload_n 0, 1) := by decide +kernel
theorem dX5_squares_1 : decode cX5_squares 1 = .ok (.iload_n 1, 1) := by decide +kernel
theorem dX5_squares_2 : decode cX5_squares 2 = .ok (.iconst 0, 1) := by decide +kernel
theorem dX5_squares_3 : decode cX5_squares 3 = .ok (.invokevirtual 98, 3) := by decide +kernel
theorem dX5_squares_6 : decode cX5_squares 6 = .ok (.aload_n 0, 1) := by decide +kernel
theorem dX5_squares_7 : decode cX5_squares 7 = .ok (.iload_n 1, 1) := by decide +kernel
theorem dX5_squares_8 : decode cX5_squares 8 = .ok (.iconst 1, 1) := by decide +kernel
theorem dX5_squares_9 : decode cX5_squares 9 = .ok (.invokevirtual 98, 3) := by decide +kernel
theorem dX5_squares_12 : decode cX5_squares 12 = .ok (.imul, 1) := by decide +kernel
theorem dX5_squares_13 : decode cX5_squares 13 = .ok (.ireturn, 1) := by decide +kernel
theorem dX5_away_0 : decode cX5_away 0 = .ok (.aload_n 0, 1) := by decide +kernel
theorem dX5_away_1 : decode cX5_away 1 = .ok (.dup, 1) := by decide +kernel
theorem dX5_away_2 : decode cX5_away 2 = .ok (.getfield 42, 3) := by decide +kernel
theorem dX5_away_5 : decode cX5_away 5 = .ok (.iconst 1, 1) := by decide +kernel
theorem dX5_away_6 : decode cX5_away 6 = .ok (.isub, 1) := by decide +kernel
theorem dX5_away_7 : decode cX5_away 7 = .ok (.putfield 42, 3) := by decide +kernel
theorem dX5_away_10 : decode cX5_away 10 = .ok (.aload_n 0, 1) := by decide +kernel
theorem dX5_away_11 : decode cX5_away 11 = .ok (.getfield 13, 3) := by decide +kernel
theorem dX5_away_14 : decode cX5_away 14 = .ok (.iconst 5, 1) := by decide +kernel
theorem dX5_away_15 : decode cX5_away 15 = .ok (.iload_n 1, 1) := by decide +kernel
theorem dX5_away_16 : decode cX5_away 16 = .ok (.iconst 1, 1) := by decide +kernel
theorem dX5_away_17 : decode cX5_away 17 = .ok (.iadd, 1) := by decide +kernel
theorem dX5_away_18 : decode cX5_away 18 = .ok (.imul, 1) := by decide +kernel
theorem dX5_away_19 : decode cX5_away 19 = .ok (.aload_n 0, 1) := by decide +kernel
theorem dX5_away_20 : decode cX5_away 20 = .ok (.getfield 13, 3) := by decide +kernel
theorem dX5_away_23 : decode cX5_away 23 = .ok (.iconst 5, 1) := by decide +kernel
theorem dX5_away_24 : decode cX5_away 24 = .ok (.iload_n 1, 1) := by decide +kernel
theorem dX5_away_25 : decode cX5_away 25 = .ok (.imul, 1) := by decide +kernel
theorem dX5_away_26 : decode cX5_away 26 = .ok (.iconst 5, 1) := by decide +kernel
theorem dX5_away_27 : decode cX5_away 27 = .ok (.aload_n 0, 1) := by decide +kernel
theorem dX5_away_28 : decode cX5_away 28 = .ok (.getfield 42, 3) := by decide +kernel
theorem dX5_away_31 : decode cX5_away 31 = .ok (.iload_n 1, 1) := by decide +kernel
theorem dX5_away_32 : decode cX5_away 32 = .ok (.isub, 1) := by decide +kernel
theorem dX5_away_33 : decode cX5_away 33 = .ok (.imul, 1) := by decide +kernel
theorem dX5_away_34 : decode cX5_away 34 = .ok (.invokestatic 101, 3) := by decide +kernel
theorem dX5_away_37 : decode cX5_away 37 = .ok (.return_, 1) := by decide +kernel
theorem dX5_cast_0 : decode cX5_cast 0 = .ok (.aload_n 0, 1) := by decide +kernel
theorem dX5_cast_1 : decode cX5_cast 1 = .ok (.iconst 0, 1) := by decide +kernel
theorem dX5_cast_2 : decode cX5_cast 2 = .ok (.putfield 31, 3) := by decide +kernel
theorem dX5_cast_5 : decode cX5_cast 5 = .ok (.aload_n 0, 1) := by decide +kernel
theorem dX5_cast_6 : decode cX5_cast 6 = .ok (.iload_n 1, 1) := by decide +kernel
theorem dX5_cast_7 : decode cX5_cast 7 = .ok (.invokevirtual 83, 3) := by decide +kernel
theorem dX5_cast_10 : decode cX5_cast 10 = .ok (.ifCond .ne 9, 3) := by decide +kernel
theorem dX5_cast_13 : decode cX5_cast 13 = .ok (.aload_n 0, 1) := by decide +kernel
theorem dX5_cast_14 : decode cX5_cast 14 = .ok (.iconst 1, 1) := by decide +kernel
theorem dX5_cast_15 : decode cX5_cast 15 = .ok (.invokevirtual 76, 3) := by decide +kernel
theorem dX5_cast_18 : decode cX5_cast 18 = .ok (.ireturn, 1) := by decide +kernel
theorem dX5_cast_19 : decode cX5_cast 19 = .ok (.iload_n 2, 1) := by decide +kernel
theorem dX5_cast_20 : decode cX5_cast 20 = .ok (.iconst 1, 1) := by decide +kernel
theorem dX5_cast_21 : decode cX5_cast 21 = .ok (.bipush 6, 2) := by decide +kernel
theorem dX5_cast_23 : decode cX5_cast 23 = .ok (.invokestatic 38, 3) := by decide +kernel
theorem dX5_cast_26 : decode cX5_cast 26 = .ok (.ifCond .eq 13, 3) := by decide +kernel
theorem dX5_cast_29 : decode cX5_cast 29 = .ok (.iload_n 3, 1) := by decide +kernel
theorem dX5_cast_30 : decode cX5_cast 30 = .ok (.iconst 1, 1) := by decide +kernel
theorem dX5_cast_31 : decode cX5_cast 31 = .ok (.bipush 6, 2) := by decide +kernel
theorem dX5_cast_33 : decode cX5_cast 33 = .ok (.invokestatic 38, 3) := by decide +kernel
theorem dX5_cast_36 : decode cX5_cast 36 = .ok (.ifCond .ne 9, 3) := by decide +kernel
theorem dX5_cast_39 : decode cX5_cast 39 = .ok (.aload_n 0, 1) := by decide +kernel
theorem dX5_cast_40 : decode cX5_cast 40 = .ok (.iconst 2, 1) := by decide +kernel
theorem dX5_cast_41 : decode cX5_cast 41 = .ok (.invokevirtual 76, 3) := by decide +kernel
theorem dX5_cast_44 : decode cX5_cast 44 = .ok (.ireturn, 1) := by decide +kernel
theorem dX5_cast_45 : decode cX5_cast 45 = .ok (.aload_n 0, 1) := by decide +kernel
theorem dX5_cast_46 : decode cX5_cast 46 = .ok (.getfield 42, 3) := by decide +kernel
theorem dX5_cast_49 : decode cX5_cast 49 = .ok (.bipush 8, 2) := by decide +kernel
theorem dX5_cast_51 : decode cX5_cast 51 = .ok (.if_icmp .eq 18, 3) := by decide +kernel
theorem dX5_cast_54 : decode cX5_cast 54 = .ok (.aload_n 0, 1) := by decide +kernel
theorem dX5_cast_55 : decode cX5_cast 55 = .ok (.iload_n 1, 1) := by decide +kernel
theorem dX5_cast_56 : decode cX5_cast 56 = .ok (.iconst 0, 1) := by decide +kernel
theorem dX5_cast_57 : decode cX5_cast 57 = .ok (.invokevirtual 66, 3) := by decide +kernel
theorem dX5_cast_60 : decode cX5_cast 60 = .ok (.bipush 10, 2) := by decide +kernel
theorem dX5_cast_62 : decode cX5_cast 62 = .ok (.iload_n 2, 1) := by decide +kernel
theorem dX5_cast_63 : decode cX5_cast 63 = .ok (.imul, 1) := by decide +kernel
theorem dX5_cast_64 : decode cX5_cast 64 = .ok (.iload_n 3, 1) := by decide +kernel
theorem dX5_cast_65 : decode cX5_cast 65 = .ok (.imul, 1) := by decide +kernel
theorem dX5_cast_66 : decode cX5_cast 66 = .ok (.if_icmp .ge 9, 3) := by decide +kernel
theorem dX5_cast_69 : decode cX5_cast 69 = .ok (.aload_n 0, 1) := by decide +kernel
theorem dX5_cast_70 : decode cX5_cast 70 = .ok (.iconst 3, 1) := by decide +kernel
theorem dX5_cast_71 : decode cX5_cast 71 = .ok (.invokevirtual 76, 3) := by decide +kernel
theorem dX5_cast_74 : decode cX5_cast 74 = .ok (.ireturn, 1) := by decide +kernel
theorem dX5_cast_75 : decode cX5_cast 75 = .ok (.aload_n 0, 1) := by decide +kernel
theorem dX5_cast_76 : decode cX5_cast 76 = .ok (.iload_n 1, 1) := by decide +kernel
theorem dX5_cast_77 : decode cX5_cast 77 = .ok (.iconst 0, 1) := by decide +kernel
theorem dX5_cast_78 : decode cX5_cast 78 = .ok (.aload_n 0, 1) := by decide +kernel
theorem dX5_cast_79 : decode cX5_cast 79 = .ok (.iload_n 1, 1) := by decide +kernel
theorem dX5_cast_80 : decode cX5_cast 80 = .ok (.iconst 0, 1) := by decide +kernel
theorem dX5_cast_81 : decode cX5_cast 81 = .ok (.invokevirtual 66, 3) := by decide +kernel
theorem dX5_cast_84 : decode cX5_cast 84 = .ok (.bipush 10, 2) := by decide +kernel
theorem dX5_cast_86 : decode cX5_cast 86 = .ok (.iload_n 2, 1) := by decide +kernel
theorem dX5_cast_87 : decode cX5_cast 87 = .ok (.imul, 1) := by decide +kernel
theorem dX5_cast_88 : decode cX5_cast 88 = .ok (.iload_n 3, 1) := by decide +kernel
theorem dX5_cast_89 : decode cX5_cast 89 = .ok (.imul, 1) := by decide +kernel
theorem dX5_cast_90 : decode cX5_cast 90 = .ok (.isub, 1) := by decide +kernel
theorem dX5_cast_91 : decode cX5_cast 91 = .ok (.invokevirtual 79, 3) := by decide +kernel
theorem dX5_cast_94 : decode cX5_cast 94 = .ok (.aload_n 0, 1) := by decide +kernel
theorem dX5_cast_95 : decode cX5_cast 95 = .ok (.aload_n 0, 1) := by decide +kernel
theorem dX5_cast_96 : decode cX5_cast 96 = .ok (.getfield 42, 3) := by decide +kernel
theorem dX5_cast_99 : decode cX5_cast 99 = .ok (.iload_n 2, 1) := by decide +kernel
theorem dX5_cast_100 : decode cX5_cast 100 = .ok (.iload_n 3, 1) := by decide +kernel
theorem dX5_cast_101 : decode cX5_cast 101 = .ok (.aload_n 0, 1) := by decide +kernel
theorem dX5_cast_102 : decode cX5_cast 102 = .ok (.iload_n 1, 1) := by decide +kernel
theorem dX5_cast_103 : decode cX5_cast 103 = .ok (.invokevirtual 107, 3) := by decide +kernel
theorem dX5_cast_106 : decode cX5_cast 106 = .ok (.iconst 0, 1) := by decide +kernel
theorem dX5_cast_107 : decode cX5_cast 107 = .ok (.iconst 0, 1) := by decide +kernel
theorem dX5_cast_108 : decode cX5_cast 108 = .ok (.invokevirtual 110, 3) := by decide +kernel
theorem dX5_cast_111 : decode cX5_cast 111 = .ok (.aload_n 0, 1) := by decide +kernel
theorem dX5_cast_112 : decode cX5_cast 112 = .ok (.dup, 1) := by decide +kernel
theorem dX5_cast_113 : decode cX5_cast 113 = .ok (.getfield 42, 3) := by decide +kernel
theorem dX5_cast_116 : decode cX5_cast 116 = .ok (.iconst 1, 1) := by decide +kernel
theorem dX5_cast_117 : decode cX5_cast 117 = .ok (.iadd, 1) := by decide +kernel
theorem dX5_cast_118 : decode cX5_cast 118 = .ok (.putfield 42, 3) := by decide +kernel
theorem dX5_cast_121 : decode cX5_cast 121 = .ok (.aload_n 0, 1) := by decide +kernel
theorem dX5_cast_122 : decode cX5_cast 122 = .ok (.getfield 42, 3) := by decide +kernel
theorem dX5_cast_125 : decode cX5_cast 125 = .ok (.iconst 1, 1) := by decide +kernel
theorem dX5_cast_126 : decode cX5_cast 126 = .ok (.isub, 1) := by decide +kernel
theorem dX5_cast_127 : decode cX5_cast 127 = .ok (.ireturn, 1) := by decide +kernel
theorem dX5_polish_0 : decode cX5_polish 0 = .ok (.aload_n 0, 1) := by decide +kernel
theorem dX5_polish_1 : decode cX5_polish 1 = .ok (.iconst 0, 1) := by decide +kernel
theorem dX5_polish_2 : decode cX5_polish 2 = .ok (.putfield 31, 3) := by decide +kernel
theorem dX5_polish_5 : decode cX5_polish 5 = .ok (.aload_n 0, 1) := by decide +kernel
theorem dX5_polish_6 : decode cX5_polish 6 = .ok (.iload_n 1, 1) := by decide +kernel
theorem dX5_polish_7 : decode cX5_polish 7 = .ok (.invokevirtual 114, 3) := by decide +kernel
theorem dX5_polish_10 : decode cX5_polish 10 = .ok (.ifCond .ne 9, 3) := by decide +kernel
theorem dX5_polish_13 : decode cX5_polish 13 = .ok (.aload_n 0, 1) := by decide +kernel
theorem dX5_polish_14 : decode cX5_polish 14 = .ok (.iconst 1, 1) := by decide +kernel
theorem dX5_polish_15 : decode cX5_polish 15 = .ok (.invokevirtual 76, 3) := by decide +kernel
theorem dX5_polish_18 : decode cX5_polish 18 = .ok (.ireturn, 1) := by decide +kernel
theorem dX5_polish_19 : decode cX5_polish 19 = .ok (.aload_n 0, 1) := by decide +kernel
theorem dX5_polish_20 : decode cX5_polish 20 = .ok (.iload_n 1, 1) := by decide +kernel
theorem dX5_polish_21 : decode cX5_polish 21 = .ok (.iconst 3, 1) := by decide +kernel
theorem dX5_polish_22 : decode cX5_polish 22 = .ok (.iconst 0, 1) := by decide +kernel
theorem dX5_polish_23 : decode cX5_polish 23 = .ok (.aload_n 0, 1) := by decide +kernel
theorem dX5_polish_24 : decode cX5_polish 24 = .ok (.iload_n 1, 1) := by decide +kernel
theorem dX5_polish_25 : decode cX5_polish 25 = .ok (.iconst 3, 1) := by decide +kernel
theorem dX5_polish_26 : decode cX5_polish 26 = .ok (.invokevirtual 98, 3) := by decide +kernel
theorem dX5_polish_29 : decode cX5_polish 29 = .ok (.bipush 15, 2) := by decide +kernel
theorem dX5_polish_31 : decode cX5_polish 31 = .ok (.isub, 1) := by decide +kernel
theorem dX5_polish_32 : decode cX5_polish 32 = .ok (.invokestatic 63, 3) := by decide +kernel
theorem dX5_polish_35 : decode cX5_polish 35 = .ok (.invokevirtual 95, 3) := by decide +kernel
theorem dX5_polish_38 : decode cX5_polish 38 = .ok (.aload_n 0, 1) := by decide +kernel
theorem dX5_polish_39 : decode cX5_polish 39 = .ok (.iload_n 1, 1) := by decide +kernel
theorem dX5_polish_40 : decode cX5_polish 40 = .ok (.iconst 3, 1) := by decide +kernel
theorem dX5_polish_41 : decode cX5_polish 41 = .ok (.invokevirtual 98, 3) := by decide +kernel
theorem dX5_polish_44 : decode cX5_polish 44 = .ok (.ireturn, 1) := by decide +kernel
theorem dX5_split_0 : decode cX5_split 0 = .ok (.aload_n 0, 1) := by decide +kernel
theorem dX5_split_1 : decode cX5_split 1 = .ok (.iconst 0, 1) := by decide +kernel
theorem dX5_split_2 : decode cX5_split 2 = .ok (.putfield 31, 3) := by decide +kernel
theorem dX5_split_5 : decode cX5_split 5 = .ok (.iload_n 3, 1) := by decide +kernel
theorem dX5_split_6 : decode cX5_split 6 = .ok (.ifCond .eq 7, 3) := by decide +kernel
theorem dX5_split_9 : decode cX5_split 9 = .ok (.iconst 1, 1) := by decide +kernel
theorem dX5_split_10 : decode cX5_split 10 = .ok (.goto 4, 3) := by decide +kernel
theorem dX5_split_13 : decode cX5_split 13 = .ok (.iconst 0, 1) := by decide +kernel
theorem dX5_split_14 : decode cX5_split 14 = .ok (.istore 4, 2) := by decide +kernel
theorem dX5_split_16 : decode cX5_split 16 = .ok (.aload_n 0, 1) := by decide +kernel
theorem dX5_split_17 : decode cX5_split 17 = .ok (.iload_n 1, 1) := by decide +kernel
theorem dX5_split_18 : decode cX5_split 18 = .ok (.invokevirtual 114, 3) := by decide +kernel
theorem dX5_split_21 : decode cX5_split 21 = .ok (.ifCond .eq 20, 3) := by decide +kernel
theorem dX5_split_24 : decode cX5_split 24 = .ok (.iload_n 2, 1) := by decide +kernel
theorem dX5_split_25 : decode cX5_split 25 = .ok (.iconst 1, 1) := by decide +kernel
theorem dX5_split_26 : decode cX5_split 26 = .ok (.aload_n 0, 1) := by decide +kernel
theorem dX5_split_27 : decode cX5_split 27 = .ok (.iload_n 1, 1) := by decide +kernel
theorem dX5_split_28 : decode cX5_split 28 = .ok (.iload 4, 2) := by decide +kernel
theorem dX5_split_30 : decode cX5_split 30 = .ok (.invokevirtual 98, 3) := by decide +kernel
theorem dX5_split_33 : decode cX5_split 33 = .ok (.iconst 1, 1) := by decide +kernel
theorem dX5_split_34 : decode cX5_split 34 = .ok (.isub, 1) := by decide +kernel
theorem dX5_split_35 : decode cX5_split 35 = .ok (.invokestatic 38, 3) := by decide +kernel
theorem dX5_split_38 : decode cX5_split 38 = .ok (.ifCond .ne 9, 3) := by decide +kernel
theorem dX5_split_41 : decode cX5_split 41 = .ok (.aload_n 0, 1) := by decide +kernel
theorem dX5_split_42 : decode cX5_split 42 = .ok (.iconst 1, 1) := by decide +kernel
theorem dX5_split_43 : decode cX5_split 43 = .ok (.invokevirtual 76, 3) := by decide +kernel
theorem dX5_split_46 : decode cX5_split 46 = .ok (.ireturn, 1) := by decide +kernel
theorem dX5_split_47 : decode cX5_split 47 = .ok (.aload_n 0, 1) := by decide +kernel
theorem dX5_split_48 : decode cX5_split 48 = .ok (.getfield 42, 3) := by decide +kernel
theorem dX5_split_51 : decode cX5_split 51 = .ok (.bipush 8, 2) := by decide +kernel
theorem dX5_split_53 : decode cX5_split 53 = .ok (.if_icmp .ne 9, 3) := by decide +kernel
theorem dX5_split_56 : decode cX5_split 56 = .ok (.aload_n 0, 1) := by decide +kernel
theorem dX5_split_57 : decode cX5_split 57 = .ok (.iconst 2, 1) := by decide +kernel
theorem dX5_split_58 : decode cX5_split 58 = .ok (.invokevirtual 76, 3) := by decide +kernel
theorem dX5_split_61 : decode cX5_split 61 = .ok (.ireturn, 1) := by decide +kernel
theorem dX5_split_62 : decode cX5_split 62 = .ok (.aload_n 0, 1) := by decide +kernel
theorem dX5_split_63 : decode cX5_split 63 = .ok (.getfield 13, 3) := by decide +kernel
theorem dX5_split_66 : decode cX5_split 66 = .ok (.iconst 5, 1) := by decide +kernel
theorem dX5_split_67 : decode cX5_split 67 = .ok (.iload_n 1, 1) := by decide +kernel
theorem dX5_split_68 : decode cX5_split 68 = .ok (.imul, 1) := by decide +kernel
theorem dX5_split_69 : decode cX5_split 69 = .ok (.aload_n 0, 1) := by decide +kernel
theorem dX5_split_70 : decode cX5_split 70 = .ok (.getfield 13, 3) := by decide +kernel
theorem dX5_split_73 : decode cX5_split 73 = .ok (.iconst 5, 1) := by decide +kernel
theorem dX5_split_74 : decode cX5_split 74 = .ok (.aload_n 0, 1) := by decide +kernel
theorem dX5_split_75 : decode cX5_split 75 = .ok (.getfield 42, 3) := by decide +kernel
theorem dX5_split_78 : decode cX5_split 78 = .ok (.imul, 1) := by decide +kernel
theorem dX5_split_79 : decode cX5_split 79 = .ok (.iconst 5, 1) := by decide +kernel
theorem dX5_split_80 : decode cX5_split 80 = .ok (.invokestatic 101, 3) := by decide +kernel
theorem dX5_split_83 : decode cX5_split 83 = .ok (.aload_n 0, 1) := by decide +kernel
theorem dX5_split_84 : decode cX5_split 84 = .ok (.aload_n 0, 1) := by decide +kernel
theorem dX5_split_85 : decode cX5_split 85 = .ok (.getfield 42, 3) := by decide +kernel
theorem dX5_split_88 : decode cX5_split 88 = .ok (.iload 4, 2) := by decide +kernel
theorem dX5_split_90 : decode cX5_split 90 = .ok (.aload_n 0, 1) := by decide +kernel
theorem dX5_split_91 : decode cX5_split 91 = .ok (.iload_n 1, 1) := by decide +kernel
theorem dX5_split_92 : decode cX5_split 92 = .ok (.iload 4, 2) := by decide +kernel
theorem dX5_split_94 : decode cX5_split 94 = .ok (.invokevirtual 98, 3) := by decide +kernel
theorem dX5_split_97 : decode cX5_split 97 = .ok (.iload_n 2, 1) := by decide +kernel
theorem dX5_split_98 : decode cX5_split 98 = .ok (.isub, 1) := by decide +kernel
theorem dX5_split_99 : decode cX5_split 99 = .ok (.invokevirtual 95, 3) := by decide +kernel
theorem dX5_split_102 : decode cX5_split 102 = .ok (.aload_n 0, 1) := by decide +kernel
theorem dX5_split_103 : decode cX5_split 103 = .ok (.iload_n 1, 1) := by decide +kernel
theorem dX5_split_104 : decode cX5_split 104 = .ok (.iload 4, 2) := by decide +kernel
theorem dX5_split_106 : decode cX5_split 106 = .ok (.iload_n 2, 1) := by decide +kernel
theorem dX5_split_107 : decode cX5_split 107 = .ok (.invokevirtual 95, 3) := by decide +kernel
theorem dX5_split_110 : decode cX5_split 110 = .ok (.aload_n 0, 1) := by decide +kernel
theorem dX5_split_111 : decode cX5_split 111 = .ok (.dup, 1) := by decide +kernel
theorem dX5_split_112 : decode cX5_split 112 = .ok (.getfield 42, 3) := by decide +kernel
theorem dX5_split_115 : decode cX5_split 115 = .ok (.iconst 1, 1) := by decide +kernel
theorem dX5_split_116 : decode cX5_split 116 = .ok (.iadd, 1) := by decide +kernel
theorem dX5_split_117 : decode cX5_split 117 = .ok (.putfield 42, 3) := by decide +kernel
theorem dX5_split_120 : decode cX5_split 120 = .ok (.aload_n 0, 1) := by decide +kernel
theorem dX5_split_121 : decode cX5_split 121 = .ok (.getfield 42, 3) := by decide +kernel
theorem dX5_split_124 : decode cX5_split 124 = .ok (.iconst 1, 1) := by decide +kernel
theorem dX5_split_125 : decode cX5_split 125 = .ok (.isub, 1) := by decide +kernel
theorem dX5_split_126 : decode cX5_split 126 = .ok (.ireturn, 1) := by decide +kernel
theorem dX5_melt_0 : decode cX5_melt 0 = .ok (.aload_n 0, 1) := by decide +kernel
theorem dX5_melt_1 : decode cX5_melt 1 = .ok (.iconst 0, 1) := by decide +kernel
theorem dX5_melt_2 : decode cX5_melt 2 = .ok (.putfield 31, 3) := by decide +kernel
theorem dX5_melt_5 : decode cX5_melt 5 = .ok (.aload_n 0, 1) := by decide +kernel
theorem dX5_melt_6 : decode cX5_melt 6 = .ok (.iload_n 1, 1) := by decide +kernel
theorem dX5_melt_7 : decode cX5_melt 7 = .ok (.invokevirtual 114, 3) := by decide +kernel
theorem dX5_melt_10 : decode cX5_melt 10 = .ok (.ifCond .eq 11, 3) := by decide +kernel
theorem dX5_melt_13 : decode cX5_melt 13 = .ok (.aload_n 0, 1) := by decide +kernel
theorem dX5_melt_14 : decode cX5_melt 14 = .ok (.iload_n 2, 1) := by decide +kernel
theorem dX5_melt_15 : decode cX5_melt 15 = .ok (.invokevirtual 83, 3) := by decide +kernel
theorem dX5_melt_18 : decode cX5_melt 18 = .ok (.ifCond .ne 9, 3) := by decide +kernel
theorem dX5_melt_21 : decode cX5_melt 21 = .ok (.aload_n 0, 1) := by decide +kernel
theorem dX5_melt_22 : decode cX5_melt 22 = .ok (.iconst 1, 1) := by decide +kernel
theorem dX5_melt_23 : decode cX5_melt 23 = .ok (.invokevirtual 76, 3) := by decide +kernel
theorem dX5_melt_26 : decode cX5_melt 26 = .ok (.ireturn, 1) := by decide +kernel
theorem dX5_melt_27 : decode cX5_melt 27 = .ok (.aload_n 0, 1) := by decide +kernel
theorem dX5_melt_28 : decode cX5_melt 28 = .ok (.iload_n 2, 1) := by decide +kernel
theorem dX5_melt_29 : decode cX5_melt 29 = .ok (.iconst 0, 1) := by decide +kernel
theorem dX5_melt_30 : decode cX5_melt 30 = .ok (.invokevirtual 66, 3) := by decide +kernel
theorem dX5_melt_33 : decode cX5_melt 33 = .ok (.bipush 10, 2) := by decide +kernel
theorem dX5_melt_35 : decode cX5_melt 35 = .ok (.aload_n 0, 1) := by decide +kernel
theorem dX5_melt_36 : decode cX5_melt 36 = .ok (.iload_n 1, 1) := by decide +kernel
theorem dX5_melt_37 : decode cX5_melt 37 = .ok (.invokevirtual 117, 3) := by decide +kernel
theorem dX5_melt_40 : decode cX5_melt 40 = .ok (.imul, 1) := by decide +kernel
theorem dX5_melt_41 : decode cX5_melt 41 = .ok (.iadd, 1) := by decide +kernel
theorem dX5_melt_42 : decode cX5_melt 42 = .ok (.istore_n 3, 1) := by decide +kernel
theorem dX5_melt_43 : decode cX5_melt 43 = .ok (.iload_n 3, 1) := by decide +kernel
theorem dX5_melt_44 : decode cX5_melt 44 = .ok (.sipush 2000, 3) := by decide +kernel
theorem dX5_melt_47 : decode cX5_melt 47 = .ok (.if_icmp .le 9, 3) := by decide +kernel
theorem dX5_melt_50 : decode cX5_melt 50 = .ok (.aload_n 0, 1) := by decide +kernel
theorem dX5_melt_51 : decode cX5_melt 51 = .ok (.iconst 2, 1) := by decide +kernel
theorem dX5_melt_52 : decode cX5_melt 52 = .ok (.invokevirtual 76, 3) := by decide +kernel
theorem dX5_melt_55 : decode cX5_melt 55 = .ok (.ireturn, 1) := by decide +kernel
theorem dX5_melt_56 : decode cX5_melt 56 = .ok (.aload_n 0, 1) := by decide +kernel
theorem dX5_melt_57 : decode cX5_melt 57 = .ok (.iload_n 2, 1) := by decide +kernel
theorem dX5_melt_58 : decode cX5_melt 58 = .ok (.iconst 0, 1) := by decide +kernel
theorem dX5_melt_59 : decode cX5_melt 59 = .ok (.iload_n 3, 1) := by decide +kernel
theorem dX5_melt_60 : decode cX5_melt 60 = .ok (.invokevirtual 79, 3) := by decide +kernel
theorem dX5_melt_63 : decode cX5_melt 63 = .ok (.aload_n 0, 1) := by decide +kernel
theorem dX5_melt_64 : decode cX5_melt 64 = .ok (.iload_n 1, 1) := by decide +kernel
theorem dX5_melt_65 : decode cX5_melt 65 = .ok (.invokevirtual 120, 3) := by decide +kernel
theorem dX5_melt_68 : decode cX5_melt 68 = .ok (.iload_n 3, 1) := by decide +kernel
theorem dX5_melt_69 : decode cX5_melt 69 = .ok (.ireturn, 1) := by decide +kernel
theorem dX5_box_0 : decode cX5_box 0 = .ok (.aload_n 0, 1) := by decide +kernel
theorem dX5_box_1 : decode cX5_box 1 = .ok (.iconst 0, 1) := by decide +kernel
theorem dX5_box_2 : decode cX5_box 2 = .ok (.putfield 31, 3) := by decide +kernel
theorem dX5_box_5 : decode cX5_box 5 = .ok (.iload_n 1, 1) := by decide +kernel
theorem dX5_box_6 : decode cX5_box 6 = .ok (.iconst 1, 1) := by decide +kernel
theorem dX5_box_7 : decode cX5_box 7 = .ok (.bipush 36, 2) := by decide +kernel
theorem dX5_box_9 : decode cX5_box 9 = .ok (.invokestatic 38, 3) := by decide +kernel
theorem dX5_box_12 : decode cX5_box 12 = .ok (.ifCond .eq 13, 3) := by decide +kernel
theorem dX5_box_15 : decode cX5_box 15 = .ok (.iload_n 2, 1) := by decide +kernel
theorem dX5_box_16 : decode cX5_box 16 = .ok (.iconst 0, 1) := by decide +kernel
theorem dX5_box_17 : decode cX5_box 17 = .ok (.bipush 100, 2) := by decide +kernel
theorem dX5_box_19 : decode cX5_box 19 = .ok (.invokestatic 38, 3) := by decide +kernel
theorem dX5_box_22 : decode cX5_box 22 = .ok (.ifCond .ne 9, 3) := by decide +kernel
theorem dX5_box_25 : decode cX5_box 25 = .ok (.aload_n 0, 1) := by decide +kernel
theorem dX5_box_26 : decode cX5_box 26 = .ok (.iconst 1, 1) := by decide +kernel
theorem dX5_box_27 : decode cX5_box 27 = .ok (.invokevirtual 76, 3) := by decide +kernel
theorem dX5_box_30 : decode cX5_box 30 = .ok (.ireturn, 1) := by decide +kernel
theorem dX5_box_31 : decode cX5_box 31 = .ok (.aload_n 0, 1) := by decide +kernel
theorem dX5_box_32 : decode cX5_box 32 = .ok (.getfield 123, 3) := by decide +kernel
theorem dX5_box_35 : decode cX5_box 35 = .ok (.bipush 6, 2) := by decide +kernel
theorem dX5_box_37 : decode cX5_box 37 = .ok (.if_icmp .ne 9, 3) := by decide +kernel
theorem dX5_box_40 : decode cX5_box 40 = .ok (.aload_n 0, 1) := by decide +kernel
theorem dX5_box_41 : decode cX5_box 41 = .ok (.iconst 2, 1) := by decide +kernel
theorem dX5_box_42 : decode cX5_box 42 = .ok (.invokevirtual 76, 3) := by decide +kernel
theorem dX5_box_45 : decode cX5_box 45 = .ok (.ireturn, 1) := by decide +kernel
theorem dX5_box_46 : decode cX5_box 46 = .ok (.iconst 5, 1) := by decide +kernel
theorem dX5_box_47 : decode cX5_box 47 = .ok (.newarray .int, 2) := by decide +kernel
theorem dX5_box_49 : decode cX5_box 49 = .ok (.dup, 1) := by decide +kernel
theorem dX5_box_50 : decode cX5_box 50 = .ok (.iconst 0, 1) := by decide +kernel
theorem dX5_box_51 : decode cX5_box 51 = .ok (.iload_n 1, 1) := by decide +kernel
theorem dX5_box_52 : decode cX5_box 52 = .ok (.iastore, 1) := by decide +kernel
theorem dX5_box_53 : decode cX5_box 53 = .ok (.dup, 1) := by decide +kernel
theorem dX5_box_54 : decode cX5_box 54 = .ok (.iconst 1, 1) := by decide +kernel
theorem dX5_box_55 : decode cX5_box 55 = .ok (.iload_n 2, 1) := by decide +kernel
theorem dX5_box_56 : decode cX5_box 56 = .ok (.iastore, 1) := by decide +kernel
theorem dX5_box_57 : decode cX5_box 57 = .ok (.dup, 1) := by decide +kernel
theorem dX5_box_58 : decode cX5_box 58 = .ok (.iconst 2, 1) := by decide +kernel
theorem dX5_box_59 : decode cX5_box 59 = .ok (.iconst 0, 1) := by decide +kernel
theorem dX5_box_60 : decode cX5_box 60 = .ok (.iastore, 1) := by decide +kernel
theorem dX5_box_61 : decode cX5_box 61 = .ok (.dup, 1) := by decide +kernel
theorem dX5_box_62 : decode cX5_box 62 = .ok (.iconst 3, 1) := by decide +kernel
theorem dX5_box_63 : decode cX5_box 63 = .ok (.iconst (-1), 1) := by decide +kernel
theorem dX5_box_64 : decode cX5_box 64 = .ok (.iastore, 1) := by decide +kernel
theorem dX5_box_65 : decode cX5_box 65 = .ok (.dup, 1) := by decide +kernel
theorem dX5_box_66 : decode cX5_box 66 = .ok (.iconst 4, 1) := by decide +kernel
theorem dX5_box_67 : decode cX5_box 67 = .ok (.iconst (-1), 1) := by decide +kernel
theorem dX5_box_68 : decode cX5_box 68 = .ok (.iastore, 1) := by decide +kernel
theorem dX5_box_69 : decode cX5_box 69 = .ok (.astore_n 3, 1) := by decide +kernel
theorem dX5_box_70 : decode cX5_box 70 = .ok (.aload_n 3, 1) := by decide +kernel
theorem dX5_box_71 : decode cX5_box 71 = .ok (.iconst 0, 1) := by decide +kernel
theorem dX5_box_72 : decode cX5_box 72 = .ok (.aload_n 0, 1) := by decide +kernel
theorem dX5_box_73 : decode cX5_box 73 = .ok (.getfield 16, 3) := by decide +kernel
theorem dX5_box_76 : decode cX5_box 76 = .ok (.iconst 5, 1) := by decide +kernel
theorem dX5_box_77 : decode cX5_box 77 = .ok (.aload_n 0, 1) := by decide +kernel
theorem dX5_box_78 : decode cX5_box 78 = .ok (.getfield 123, 3) := by decide +kernel
theorem dX5_box_81 : decode cX5_box 81 = .ok (.imul, 1) := by decide +kernel
theorem dX5_box_82 : decode cX5_box 82 = .ok (.iconst 5, 1) := by decide +kernel
theorem dX5_box_83 : decode cX5_box 83 = .ok (.invokestatic 101, 3) := by decide +kernel
theorem dX5_box_86 : decode cX5_box 86 = .ok (.aload_n 0, 1) := by decide +kernel
theorem dX5_box_87 : decode cX5_box 87 = .ok (.dup, 1) := by decide +kernel
theorem dX5_box_88 : decode cX5_box 88 = .ok (.getfield 123, 3) := by decide +kernel
theorem dX5_box_91 : decode cX5_box 91 = .ok (.iconst 1, 1) := by decide +kernel
theorem dX5_box_92 : decode cX5_box 92 = .ok (.iadd, 1) := by decide +kernel
theorem dX5_box_93 : decode cX5_box 93 = .ok (.putfield 123, 3) := by decide +kernel
theorem dX5_box_96 : decode cX5_box 96 = .ok (.aload_n 0, 1) := by decide +kernel
theorem dX5_box_97 : decode cX5_box 97 = .ok (.getfield 123, 3) := by decide +kernel
theorem dX5_box_100 : decode cX5_box 100 = .ok (.iconst 1, 1) := by decide +kernel
theorem dX5_box_101 : decode cX5_box 101 = .ok (.isub, 1) := by decide +kernel
theorem dX5_box_102 : decode cX5_box 102 = .ok (.ireturn, 1) := by decide +kernel
theorem dX5_fits_0 : decode cX5_fits 0 = .ok (.aload_n 0, 1) := by decide +kernel
theorem dX5_fits_1 : decode cX5_fits 1 = .ok (.iload_n 2, 1) := by decide +kernel
theorem dX5_fits_2 : decode cX5_fits 2 = .ok (.iconst 2, 1) := by decide +kernel
theorem dX5_fits_3 : decode cX5_fits 3 = .ok (.invokevirtual 126, 3) := by decide +kernel
theorem dX5_fits_6 : decode cX5_fits 6 = .ok (.ifCond .ne 47, 3) := by decide +kernel
theorem dX5_fits_9 : decode cX5_fits 9 = .ok (.aload_n 0, 1) := by decide +kernel
theorem dX5_fits_10 : decode cX5_fits 10 = .ok (.iload_n 1, 1) := by decide +kernel
theorem dX5_fits_11 : decode cX5_fits 11 = .ok (.invokevirtual 117, 3) := by decide +kernel
theorem dX5_fits_14 : decode cX5_fits 14 = .ok (.aload_n 0, 1) := by decide +kernel
theorem dX5_fits_15 : decode cX5_fits 15 = .ok (.iload_n 2, 1) := by decide +kernel
theorem dX5_fits_16 : decode cX5_fits 16 = .ok (.iconst 0, 1) := by decide +kernel
theorem dX5_fits_17 : decode cX5_fits 17 = .ok (.invokevirtual 126, 3) := by decide +kernel
theorem dX5_fits_20 : decode cX5_fits 20 = .ok (.if_icmp .ne 33, 3) := by decide +kernel
theorem dX5_fits_23 : decode cX5_fits 23 = .ok (.aload_n 0, 1) := by decide +kernel
theorem dX5_fits_24 : decode cX5_fits 24 = .ok (.iload_n 1, 1) := by decide +kernel
theorem dX5_fits_25 : decode cX5_fits 25 = .ok (.iconst 2, 1) := by decide +kernel
theorem dX5_fits_26 : decode cX5_fits 26 = .ok (.invokevirtual 98, 3) := by decide +kernel
theorem dX5_fits_29 : decode cX5_fits 29 = .ok (.aload_n 0, 1) := by decide +kernel
theorem dX5_fits_30 : decode cX5_fits 30 = .ok (.iload_n 2, 1) := by decide +kernel
theorem dX5_fits_31 : decode cX5_fits 31 = .ok (.iconst 1, 1) := by decide +kernel
theorem dX5_fits_32 : decode cX5_fits 32 = .ok (.invokevirtual 126, 3) := by decide +kernel
theorem dX5_fits_35 : decode cX5_fits 35 = .ok (.if_icmp .lt 18, 3) := by decide +kernel
theorem dX5_fits_38 : decode cX5_fits 38 = .ok (.aload_n 0, 1) := by decide +kernel
theorem dX5_fits_39 : decode cX5_fits 39 = .ok (.iload_n 1, 1) := by decide +kernel
theorem dX5_fits_40 : decode cX5_fits 40 = .ok (.iconst 3, 1) := by decide +kernel
theorem dX5_fits_41 : decode cX5_fits 41 = .ok (.invokevirtual 98, 3) := by decide +kernel
theorem dX5_fits_44 : decode cX5_fits 44 = .ok (.bipush 20, 2) := by decide +kernel
theorem dX5_fits_46 : decode cX5_fits 46 = .ok (.if_icmp .gt 7, 3) := by decide +kernel
theorem dX5_fits_49 : decode cX5_fits 49 = .ok (.iconst 1, 1) := by decide +kernel
theorem dX5_fits_50 : decode cX5_fits 50 = .ok (.goto 4, 3) := by decide +kernel
theorem dX5_fits_53 : decode cX5_fits 53 = .ok (.iconst 0, 1) := by decide +kernel
theorem dX5_fits_54 : decode cX5_fits 54 = .ok (.ireturn, 1) := by decide +kernel
theorem dX5_fillOne_0 : decode cX5_fillOne 0 = .ok (.iconst 0, 1) := by decide +kernel
theorem dX5_fillOne_1 : decode cX5_fillOne 1 = .ok (.istore_n 2, 1) := by decide +kernel
theorem dX5_fillOne_2 : decode cX5_fillOne 2 = .ok (.iload_n 2, 1) := by decide +kernel
theorem dX5_fillOne_3 : decode cX5_fillOne 3 = .ok (.aload_n 0, 1) := by decide +kernel
theorem dX5_fillOne_4 : decode cX5_fillOne 4 = .ok (.getfield 42, 3) := by decide +kernel
theorem dX5_fillOne_7 : decode cX5_fillOne 7 = .ok (.if_icmp .ge 71, 3) := by decide +kernel
theorem dX5_fillOne_10 : decode cX5_fillOne 10 = .ok (.aload_n 0, 1) := by decide +kernel
theorem dX5_fillOne_11 : decode cX5_fillOne 11 = .ok (.iload_n 2, 1) := by decide +kernel
theorem dX5_fillOne_12 : decode cX5_fillOne 12 = .ok (.iload_n 1, 1) := by decide +kernel
theorem dX5_fillOne_13 : decode cX5_fillOne 13 = .ok (.invokevirtual 129, 3) := by decide +kernel
theorem dX5_fillOne_16 : decode cX5_fillOne 16 = .ok (.ifCond .ne 6, 3) := by decide +kernel
theorem dX5_fillOne_19 : decode cX5_fillOne 19 = .ok (.goto 53, 3) := by decide +kernel
theorem dX5_fillOne_22 : decode cX5_fillOne 22 = .ok (.aload_n 0, 1) := by decide +kernel
theorem dX5_fillOne_23 : decode cX5_fillOne 23 = .ok (.getfield 16, 3) := by decide +kernel
theorem dX5_fillOne_26 : decode cX5_fillOne 26 = .ok (.iconst 5, 1) := by decide +kernel
theorem dX5_fillOne_27 : decode cX5_fillOne 27 = .ok (.iload_n 1, 1) := by decide +kernel
theorem dX5_fillOne_28 : decode cX5_fillOne 28 = .ok (.imul, 1) := by decide +kernel
theorem dX5_fillOne_29 : decode cX5_fillOne 29 = .ok (.iconst 2, 1) := by decide +kernel
theorem dX5_fillOne_30 : decode cX5_fillOne 30 = .ok (.iadd, 1) := by decide +kernel
theorem dX5_fillOne_31 : decode cX5_fillOne 31 = .ok (.iconst 1, 1) := by decide +kernel
theorem dX5_fillOne_32 : decode cX5_fillOne 32 = .ok (.iastore, 1) := by decide +kernel
theorem dX5_fillOne_33 : decode cX5_fillOne 33 = .ok (.aload_n 0, 1) := by decide +kernel
theorem dX5_fillOne_34 : decode cX5_fillOne 34 = .ok (.getfield 16, 3) := by decide +kernel
theorem dX5_fillOne_37 : decode cX5_fillOne 37 = .ok (.iconst 5, 1) := by decide +kernel
theorem dX5_fillOne_38 : decode cX5_fillOne 38 = .ok (.iload_n 1, 1) := by decide +kernel
theorem dX5_fillOne_39 : decode cX5_fillOne 39 = .ok (.imul, 1) := by decide +kernel
theorem dX5_fillOne_40 : decode cX5_fillOne 40 = .ok (.iconst 3, 1) := by decide +kernel
theorem dX5_fillOne_41 : decode cX5_fillOne 41 = .ok (.iadd, 1) := by decide +kernel
theorem dX5_fillOne_42 : decode cX5_fillOne 42 = .ok (.aload_n 0, 1) := by decide +kernel
theorem dX5_fillOne_43 : decode cX5_fillOne 43 = .ok (.iload_n 2, 1) := by decide +kernel
theorem dX5_fillOne_44 : decode cX5_fillOne 44 = .ok (.iconst 2, 1) := by decide +kernel
theorem dX5_fillOne_45 : decode cX5_fillOne 45 = .ok (.invokevirtual 98, 3) := by decide +kernel
theorem dX5_fillOne_48 : decode cX5_fillOne 48 = .ok (.iastore, 1) := by decide +kernel
theorem dX5_fillOne_49 : decode cX5_fillOne 49 = .ok (.aload_n 0, 1) := by decide +kernel
theorem dX5_fillOne_50 : decode cX5_fillOne 50 = .ok (.getfield 16, 3) := by decide +kernel
theorem dX5_fillOne_53 : decode cX5_fillOne 53 = .ok (.iconst 5, 1) := by decide +kernel
theorem dX5_fillOne_54 : decode cX5_fillOne 54 = .ok (.iload_n 1, 1) := by decide +kernel
theorem dX5_fillOne_55 : decode cX5_fillOne 55 = .ok (.imul, 1) := by decide +kernel
theorem dX5_fillOne_56 : decode cX5_fillOne 56 = .ok (.iconst 4, 1) := by decide +kernel
theorem dX5_fillOne_57 : decode cX5_fillOne 57 = .ok (.iadd, 1) := by decide +kernel
theorem dX5_fillOne_58 : decode cX5_fillOne 58 = .ok (.aload_n 0, 1) := by decide +kernel
theorem dX5_fillOne_59 : decode cX5_fillOne 59 = .ok (.iload_n 2, 1) := by decide +kernel
theorem dX5_fillOne_60 : decode cX5_fillOne 60 = .ok (.iconst 3, 1) := by decide +kernel
theorem dX5_fillOne_61 : decode cX5_fillOne 61 = .ok (.invokevirtual 98, 3) := by decide +kernel
theorem dX5_fillOne_64 : decode cX5_fillOne 64 = .ok (.iastore, 1) := by decide +kernel
theorem dX5_fillOne_65 : decode cX5_fillOne 65 = .ok (.aload_n 0, 1) := by decide +kernel
theorem dX5_fillOne_66 : decode cX5_fillOne 66 = .ok (.iload_n 2, 1) := by decide +kernel
theorem dX5_fillOne_67 : decode cX5_fillOne 67 = .ok (.invokevirtual 120, 3) := by decide +kernel
theorem dX5_fillOne_70 : decode cX5_fillOne 70 = .ok (.iconst 1, 1) := by decide +kernel
theorem dX5_fillOne_71 : decode cX5_fillOne 71 = .ok (.ireturn, 1) := by decide +kernel
theorem dX5_fillOne_72 : decode cX5_fillOne 72 = .ok (.iinc 2 1, 3) := by decide +kernel
theorem dX5_fillOne_75 : decode cX5_fillOne 75 = .ok (.goto (-73), 3) := by decide +kernel
theorem dX5_fillOne_78 : decode cX5_fillOne 78 = .ok (.iconst 0, 1) := by decide +kernel
theorem dX5_fillOne_79 : decode cX5_fillOne 79 = .ok (.ireturn, 1) := by decide +kernel
theorem dX5_fillAll_0 : decode cX5_fillAll 0 = .ok (.iconst 0, 1) := by decide +kernel
theorem dX5_fillAll_1 : decode cX5_fillAll 1 = .ok (.istore_n 1, 1) := by decide +kernel
theorem dX5_fillAll_2 : decode cX5_fillAll 2 = .ok (.iconst 0, 1) := by decide +kernel
theorem dX5_fillAll_3 : decode cX5_fillAll 3 = .ok (.istore_n 2, 1) := by decide +kernel
theorem dX5_fillAll_4 : decode cX5_fillAll 4 = .ok (.iload_n 2, 1) := by decide +kernel
theorem dX5_fillAll_5 : decode cX5_fillAll 5 = .ok (.aload_n 0, 1) := by decide +kernel
theorem dX5_fillAll_6 : decode cX5_fillAll 6 = .ok (.getfield 123, 3) := by decide +kernel
theorem dX5_fillAll_9 : decode cX5_fillAll 9 = .ok (.if_icmp .ge 25, 3) := by decide +kernel
theorem dX5_fillAll_12 : decode cX5_fillAll 12 = .ok (.iload_n 1, 1) := by decide +kernel
theorem dX5_fillAll_13 : decode cX5_fillAll 13 = .ok (.aload_n 0, 1) := by decide +kernel
theorem dX5_fillAll_14 : decode cX5_fillAll 14 = .ok (.iload_n 2, 1) := by decide +kernel
theorem dX5_fillAll_15 : decode cX5_fillAll 15 = .ok (.invokevirtual 132, 3) := by decide +kernel
theorem dX5_fillAll_18 : decode cX5_fillAll 18 = .ok (.ifCond .eq 7, 3) := by decide +kernel
theorem dX5_fillAll_21 : decode cX5_fillAll 21 = .ok (.iconst 1, 1) := by decide +kernel
theorem dX5_fillAll_22 : decode cX5_fillAll 22 = .ok (.goto 4, 3) := by decide +kernel
theorem dX5_fillAll_25 : decode cX5_fillAll 25 = .ok (.iconst 0, 1) := by decide +kernel
theorem dX5_fillAll_26 : decode cX5_fillAll 26 = .ok (.iadd, 1) := by decide +kernel
theorem dX5_fillAll_27 : decode cX5_fillAll 27 = .ok (.istore_n 1, 1) := by decide +kernel
theorem dX5_fillAll_28 : decode cX5_fillAll 28 = .ok (.iinc 2 1, 3) := by decide +kernel
theorem dX5_fillAll_31 : decode cX5_fillAll 31 = .ok (.goto (-27), 3) := by decide +kernel
theorem dX5_fillAll_34 : decode cX5_fillAll 34 = .ok (.iload_n 1, 1) := by decide +kernel
theorem dX5_fillAll_35 : decode cX5_fillAll 35 = .ok (.ireturn, 1) := by decide +kernel
theorem dX5_fill_0 : decode cX5_fill 0 = .ok (.aload_n 0, 1) := by decide +kernel
theorem dX5_fill_1 : decode cX5_fill 1 = .ok (.iconst 0, 1) := by decide +kernel
theorem dX5_fill_2 : decode cX5_fill 2 = .ok (.putfield 31, 3) := by decide +kernel
theorem dX5_fill_5 : decode cX5_fill 5 = .ok (.aload_n 0, 1) := by decide +kernel
theorem dX5_fill_6 : decode cX5_fill 6 = .ok (.invokevirtual 135, 3) := by decide +kernel
theorem dX5_fill_9 : decode cX5_fill 9 = .ok (.ireturn, 1) := by decide +kernel
theorem dX5_more_0 : decode cX5_more 0 = .ok (.bipush 100, 2) := by decide +kernel
theorem dX5_more_2 : decode cX5_more 2 = .ok (.aload_n 0, 1) := by decide +kernel
theorem dX5_more_3 : decode cX5_more 3 = .ok (.iload_n 1, 1) := by decide +kernel
theorem dX5_more_4 : decode cX5_more 4 = .ok (.iconst 2, 1) := by decide +kernel
theorem dX5_more_5 : decode cX5_more 5 = .ok (.invokevirtual 98, 3) := by decide +kernel
theorem dX5_more_8 : decode cX5_more 8 = .ok (.isub, 1) := by decide +kernel
theorem dX5_more_9 : decode cX5_more 9 = .ok (.bipush 10, 2) := by decide +kernel
theorem dX5_more_11 : decode cX5_more 11 = .ok (.idiv, 1) := by decide +kernel
theorem dX5_more_12 : decode cX5_more 12 = .ok (.iconst 2, 1) := by decide +kernel
theorem dX5_more_13 : decode cX5_more 13 = .ok (.iconst 0, 1) := by decide +kernel
theorem dX5_more_14 : decode cX5_more 14 = .ok (.iload_n 2, 1) := by decide +kernel
theorem dX5_more_15 : decode cX5_more 15 = .ok (.bipush 24, 2) := by decide +kernel
theorem dX5_more_17 : decode cX5_more 17 = .ok (.isub, 1) := by decide +kernel
theorem dX5_more_18 : decode cX5_more 18 = .ok (.invokestatic 63, 3) := by decide +kernel
theorem dX5_more_21 : decode cX5_more 21 = .ok (.imul, 1) := by decide +kernel
theorem dX5_more_22 : decode cX5_more 22 = .ok (.iadd, 1) := by decide +kernel
theorem dX5_more_23 : decode cX5_more 23 = .ok (.ireturn, 1) := by decide +kernel
theorem dX5_bloomed_0 : decode cX5_bloomed 0 = .ok (.iconst 0, 1) := by decide +kernel
theorem dX5_bloomed_1 : decode cX5_bloomed 1 = .ok (.istore_n 1, 1) := by decide +kernel
theorem dX5_bloomed_2 : decode cX5_bloomed 2 = .ok (.iconst 0, 1) := by decide +kernel
theorem dX5_bloomed_3 : decode cX5_bloomed 3 = .ok (.istore_n 2, 1) := by decide +kernel
theorem dX5_bloomed_4 : decode cX5_bloomed 4 = .ok (.iload_n 2, 1) := by decide +kernel
theorem dX5_bloomed_5 : decode cX5_bloomed 5 = .ok (.aload_n 0, 1) := by decide +kernel
theorem dX5_bloomed_6 : decode cX5_bloomed 6 = .ok (.getfield 42, 3) := by decide +kernel
theorem dX5_bloomed_9 : decode cX5_bloomed 9 = .ok (.if_icmp .ge 28, 3) := by decide +kernel
theorem dX5_bloomed_12 : decode cX5_bloomed 12 = .ok (.iload_n 1, 1) := by decide +kernel
theorem dX5_bloomed_13 : decode cX5_bloomed 13 = .ok (.aload_n 0, 1) := by decide +kernel
theorem dX5_bloomed_14 : decode cX5_bloomed 14 = .ok (.iload_n 2, 1) := by decide +kernel
theorem dX5_bloomed_15 : decode cX5_bloomed 15 = .ok (.iconst 3, 1) := by decide +kernel
theorem dX5_bloomed_16 : decode cX5_bloomed 16 = .ok (.invokevirtual 98, 3) := by decide +kernel
theorem dX5_bloomed_19 : decode cX5_bloomed 19 = .ok (.bipush 20, 2) := by decide +kernel
theorem dX5_bloomed_21 : decode cX5_bloomed 21 = .ok (.if_icmp .le 7, 3) := by decide +kernel
theorem dX5_bloomed_24 : decode cX5_bloomed 24 = .ok (.iconst 1, 1) := by decide +kernel
theorem dX5_bloomed_25 : decode cX5_bloomed 25 = .ok (.goto 4, 3) := by decide +kernel
theorem dX5_bloomed_28 : decode cX5_bloomed 28 = .ok (.iconst 0, 1) := by decide +kernel
theorem dX5_bloomed_29 : decode cX5_bloomed 29 = .ok (.iadd, 1) := by decide +kernel
theorem dX5_bloomed_30 : decode cX5_bloomed 30 = .ok (.istore_n 1, 1) := by decide +kernel
theorem dX5_bloomed_31 : decode cX5_bloomed 31 = .ok (.iinc 2 1, 3) := by decide +kernel
theorem dX5_bloomed_34 : decode cX5_bloomed 34 = .ok (.goto (-30), 3) := by decide +kernel
theorem dX5_bloomed_37 : decode cX5_bloomed 37 = .ok (.iload_n 1, 1) := by decide +kernel
theorem dX5_bloomed_38 : decode cX5_bloomed 38 = .ok (.ireturn, 1) := by decide +kernel
theorem dX5_pass_0 : decode cX5_pass 0 = .ok (.aload_n 0, 1) := by decide +kernel
theorem dX5_pass_1 : decode cX5_pass 1 = .ok (.iconst 0, 1) := by decide +kernel
theorem dX5_pass_2 : decode cX5_pass 2 = .ok (.putfield 31, 3) := by decide +kernel
theorem dX5_pass_5 : decode cX5_pass 5 = .ok (.iload_n 1, 1) := by decide +kernel
theorem dX5_pass_6 : decode cX5_pass 6 = .ok (.bipush 10, 2) := by decide +kernel
theorem dX5_pass_8 : decode cX5_pass 8 = .ok (.bipush 40, 2) := by decide +kernel
theorem dX5_pass_10 : decode cX5_pass 10 = .ok (.invokestatic 38, 3) := by decide +kernel
theorem dX5_pass_13 : decode cX5_pass 13 = .ok (.ifCond .eq 13, 3) := by decide +kernel
theorem dX5_pass_16 : decode cX5_pass 16 = .ok (.iload_n 2, 1) := by decide +kernel
theorem dX5_pass_17 : decode cX5_pass 17 = .ok (.iconst 1, 1) := by decide +kernel
theorem dX5_pass_18 : decode cX5_pass 18 = .ok (.bipush 60, 2) := by decide +kernel
theorem dX5_pass_20 : decode cX5_pass 20 = .ok (.invokestatic 38, 3) := by decide +kernel
theorem dX5_pass_23 : decode cX5_pass 23 = .ok (.ifCond .ne 9, 3) := by decide +kernel
theorem dX5_pass_26 : decode cX5_pass 26 = .ok (.aload_n 0, 1) := by decide +kernel
theorem dX5_pass_27 : decode cX5_pass 27 = .ok (.iconst 1, 1) := by decide +kernel
theorem dX5_pass_28 : decode cX5_pass 28 = .ok (.invokevirtual 76, 3) := by decide +kernel
theorem dX5_pass_31 : decode cX5_pass 31 = .ok (.ireturn, 1) := by decide +kernel
theorem dX5_pass_32 : decode cX5_pass 32 = .ok (.iconst 0, 1) := by decide +kernel
theorem dX5_pass_33 : decode cX5_pass 33 = .ok (.istore_n 3, 1) := by decide +kernel
theorem dX5_pass_34 : decode cX5_pass 34 = .ok (.iload_n 3, 1) := by decide +kernel
theorem dX5_pass_35 : decode cX5_pass 35 = .ok (.aload_n 0, 1) := by decide +kernel
theorem dX5_pass_36 : decode cX5_pass 36 = .ok (.getfield 42, 3) := by decide +kernel
theorem dX5_pass_39 : decode cX5_pass 39 = .ok (.if_icmp .ge 49, 3) := by decide +kernel
theorem dX5_pass_42 : decode cX5_pass 42 = .ok (.aload_n 0, 1) := by decide +kernel
theorem dX5_pass_43 : decode cX5_pass 43 = .ok (.iload_n 3, 1) := by decide +kernel
theorem dX5_pass_44 : decode cX5_pass 44 = .ok (.iconst 3, 1) := by decide +kernel
theorem dX5_pass_45 : decode cX5_pass 45 = .ok (.bipush 100, 2) := by decide +kernel
theorem dX5_pass_47 : decode cX5_pass 47 = .ok (.aload_n 0, 1) := by decide +kernel
theorem dX5_pass_48 : decode cX5_pass 48 = .ok (.iload_n 3, 1) := by decide +kernel
theorem dX5_pass_49 : decode cX5_pass 49 = .ok (.iconst 3, 1) := by decide +kernel
theorem dX5_pass_50 : decode cX5_pass 50 = .ok (.invokevirtual 98, 3) := by decide +kernel
theorem dX5_pass_53 : decode cX5_pass 53 = .ok (.iload_n 2, 1) := by decide +kernel
theorem dX5_pass_54 : decode cX5_pass 54 = .ok (.aload_n 0, 1) := by decide +kernel
theorem dX5_pass_55 : decode cX5_pass 55 = .ok (.iload_n 3, 1) := by decide +kernel
theorem dX5_pass_56 : decode cX5_pass 56 = .ok (.iload_n 1, 1) := by decide +kernel
theorem dX5_pass_57 : decode cX5_pass 57 = .ok (.invokevirtual 139, 3) := by decide +kernel
theorem dX5_pass_60 : decode cX5_pass 60 = .ok (.imul, 1) := by decide +kernel
theorem dX5_pass_61 : decode cX5_pass 61 = .ok (.iadd, 1) := by decide +kernel
theorem dX5_pass_62 : decode cX5_pass 62 = .ok (.invokestatic 53, 3) := by decide +kernel
theorem dX5_pass_65 : decode cX5_pass 65 = .ok (.invokevirtual 95, 3) := by decide +kernel
theorem dX5_pass_68 : decode cX5_pass 68 = .ok (.aload_n 0, 1) := by decide +kernel
theorem dX5_pass_69 : decode cX5_pass 69 = .ok (.iload_n 3, 1) := by decide +kernel
theorem dX5_pass_70 : decode cX5_pass 70 = .ok (.iconst 4, 1) := by decide +kernel
theorem dX5_pass_71 : decode cX5_pass 71 = .ok (.aload_n 0, 1) := by decide +kernel
theorem dX5_pass_72 : decode cX5_pass 72 = .ok (.iload_n 3, 1) := by decide +kernel
theorem dX5_pass_73 : decode cX5_pass 73 = .ok (.iconst 4, 1) := by decide +kernel
theorem dX5_pass_74 : decode cX5_pass 74 = .ok (.invokevirtual 98, 3) := by decide +kernel
theorem dX5_pass_77 : decode cX5_pass 77 = .ok (.iload_n 2, 1) := by decide +kernel
theorem dX5_pass_78 : decode cX5_pass 78 = .ok (.iadd, 1) := by decide +kernel
theorem dX5_pass_79 : decode cX5_pass 79 = .ok (.invokevirtual 95, 3) := by decide +kernel
theorem dX5_pass_82 : decode cX5_pass 82 = .ok (.iinc 3 1, 3) := by decide +kernel
theorem dX5_pass_85 : decode cX5_pass 85 = .ok (.goto (-51), 3) := by decide +kernel
theorem dX5_pass_88 : decode cX5_pass 88 = .ok (.aload_n 0, 1) := by decide +kernel
theorem dX5_pass_89 : decode cX5_pass 89 = .ok (.dup, 1) := by decide +kernel
theorem dX5_pass_90 : decode cX5_pass 90 = .ok (.getfield 142, 3) := by decide +kernel
theorem dX5_pass_93 : decode cX5_pass 93 = .ok (.iload_n 2, 1) := by decide +kernel
theorem dX5_pass_94 : decode cX5_pass 94 = .ok (.iadd, 1) := by decide +kernel
theorem dX5_pass_95 : decode cX5_pass 95 = .ok (.putfield 142, 3) := by decide +kernel
theorem dX5_pass_98 : decode cX5_pass 98 = .ok (.aload_n 0, 1) := by decide +kernel
theorem dX5_pass_99 : decode cX5_pass 99 = .ok (.invokevirtual 145, 3) := by decide +kernel
theorem dX5_pass_102 : decode cX5_pass 102 = .ok (.ireturn, 1) := by decide +kernel
theorem dX5_bowlTold_0 : decode cX5_bowlTold 0 = .ok (.iload_n 2, 1) := by decide +kernel
theorem dX5_bowlTold_1 : decode cX5_bowlTold 1 = .ok (.bipush 7, 2) := by decide +kernel
theorem dX5_bowlTold_3 : decode cX5_bowlTold 3 = .ok (.if_icmp .ne 11, 3) := by decide +kernel
theorem dX5_bowlTold_6 : decode cX5_bowlTold 6 = .ok (.aload_n 0, 1) := by decide +kernel
theorem dX5_bowlTold_7 : decode cX5_bowlTold 7 = .ok (.iload_n 1, 1) := by decide +kernel
theorem dX5_bowlTold_8 : decode cX5_bowlTold 8 = .ok (.invokevirtual 107, 3) := by decide +kernel
theorem dX5_bowlTold_11 : decode cX5_bowlTold 11 = .ok (.goto 9, 3) := by decide +kernel
theorem dX5_bowlTold_14 : decode cX5_bowlTold 14 = .ok (.aload_n 0, 1) := by decide +kernel
theorem dX5_bowlTold_15 : decode cX5_bowlTold 15 = .ok (.iload_n 1, 1) := by decide +kernel
theorem dX5_bowlTold_16 : decode cX5_bowlTold 16 = .ok (.iload_n 2, 1) := by decide +kernel
theorem dX5_bowlTold_17 : decode cX5_bowlTold 17 = .ok (.invokevirtual 66, 3) := by decide +kernel
theorem dX5_bowlTold_20 : decode cX5_bowlTold 20 = .ok (.ireturn, 1) := by decide +kernel
theorem dX5_told_0 : decode cX5_told 0 = .ok (.aload_n 0, 1) := by decide +kernel
theorem dX5_told_1 : decode cX5_told 1 = .ok (.iconst 0, 1) := by decide +kernel
theorem dX5_told_2 : decode cX5_told 2 = .ok (.putfield 31, 3) := by decide +kernel
theorem dX5_told_5 : decode cX5_told 5 = .ok (.aload_n 0, 1) := by decide +kernel
theorem dX5_told_6 : decode cX5_told 6 = .ok (.iload_n 1, 1) := by decide +kernel
theorem dX5_told_7 : decode cX5_told 7 = .ok (.invokevirtual 83, 3) := by decide +kernel
theorem dX5_told_10 : decode cX5_told 10 = .ok (.ifCond .eq 22, 3) := by decide +kernel
theorem dX5_told_13 : decode cX5_told 13 = .ok (.iload_n 2, 1) := by decide +kernel
theorem dX5_told_14 : decode cX5_told 14 = .ok (.iconst 0, 1) := by decide +kernel
theorem dX5_told_15 : decode cX5_told 15 = .ok (.bipush 7, 2) := by decide +kernel
theorem dX5_told_17 : decode cX5_told 17 = .ok (.invokestatic 38, 3) := by decide +kernel
theorem dX5_told_20 : decode cX5_told 20 = .ok (.ifCond .eq 12, 3) := by decide +kernel
theorem dX5_told_23 : decode cX5_told 23 = .ok (.aload_n 0, 1) := by decide +kernel
theorem dX5_told_24 : decode cX5_told 24 = .ok (.iload_n 1, 1) := by decide +kernel
theorem dX5_told_25 : decode cX5_told 25 = .ok (.iload_n 2, 1) := by decide +kernel
theorem dX5_told_26 : decode cX5_told 26 = .ok (.invokevirtual 148, 3) := by decide +kernel
theorem dX5_told_29 : decode cX5_told 29 = .ok (.goto 8, 3) := by decide +kernel
theorem dX5_told_32 : decode cX5_told 32 = .ok (.aload_n 0, 1) := by decide +kernel
theorem dX5_told_33 : decode cX5_told 33 = .ok (.iconst 1, 1) := by decide +kernel
theorem dX5_told_34 : decode cX5_told 34 = .ok (.invokevirtual 76, 3) := by decide +kernel
theorem dX5_told_37 : decode cX5_told 37 = .ok (.ireturn, 1) := by decide +kernel
theorem dX5_slabTold_0 : decode cX5_slabTold 0 = .ok (.iload_n 2, 1) := by decide +kernel
theorem dX5_slabTold_1 : decode cX5_slabTold 1 = .ok (.iconst 5, 1) := by decide +kernel
theorem dX5_slabTold_2 : decode cX5_slabTold 2 = .ok (.if_icmp .ge 10, 3) := by decide +kernel
theorem dX5_slabTold_5 : decode cX5_slabTold 5 = .ok (.aload_n 0, 1) := by decide +kernel
theorem dX5_slabTold_6 : decode cX5_slabTold 6 = .ok (.iload_n 1, 1) := by decide +kernel
theorem dX5_slabTold_7 : decode cX5_slabTold 7 = .ok (.iload_n 2, 1) := by decide +kernel
theorem dX5_slabTold_8 : decode cX5_slabTold 8 = .ok (.invokevirtual 98, 3) := by decide +kernel
theorem dX5_slabTold_11 : decode cX5_slabTold 11 = .ok (.ireturn, 1) := by decide +kernel
theorem dX5_slabTold_12 : decode cX5_slabTold 12 = .ok (.iload_n 2, 1) := by decide +kernel
theorem dX5_slabTold_13 : decode cX5_slabTold 13 = .ok (.iconst 5, 1) := by decide +kernel
theorem dX5_slabTold_14 : decode cX5_slabTold 14 = .ok (.if_icmp .ne 9, 3) := by decide +kernel
theorem dX5_slabTold_17 : decode cX5_slabTold 17 = .ok (.aload_n 0, 1) := by decide +kernel
theorem dX5_slabTold_18 : decode cX5_slabTold 18 = .ok (.iload_n 1, 1) := by decide +kernel
theorem dX5_slabTold_19 : decode cX5_slabTold 19 = .ok (.invokevirtual 117, 3) := by decide +kernel
theorem dX5_slabTold_22 : decode cX5_slabTold 22 = .ok (.ireturn, 1) := by decide +kernel
theorem dX5_slabTold_23 : decode cX5_slabTold 23 = .ok (.iconst 0, 1) := by decide +kernel
theorem dX5_slabTold_24 : decode cX5_slabTold 24 = .ok (.istore_n 3, 1) := by decide +kernel
theorem dX5_slabTold_25 : decode cX5_slabTold 25 = .ok (.iload_n 3, 1) := by decide +kernel
theorem dX5_slabTold_26 : decode cX5_slabTold 26 = .ok (.aload_n 0, 1) := by decide +kernel
theorem dX5_slabTold_27 : decode cX5_slabTold 27 = .ok (.getfield 123, 3) := by decide +kernel
theorem dX5_slabTold_30 : decode cX5_slabTold 30 = .ok (.if_icmp .ge 20, 3) := by decide +kernel
theorem dX5_slabTold_33 : decode cX5_slabTold 33 = .ok (.aload_n 0, 1) := by decide +kernel
theorem dX5_slabTold_34 : decode cX5_slabTold 34 = .ok (.iload_n 1, 1) := by decide +kernel
theorem dX5_slabTold_35 : decode cX5_slabTold 35 = .ok (.iload_n 3, 1) := by decide +kernel
theorem dX5_slabTold_36 : decode cX5_slabTold 36 = .ok (.invokevirtual 129, 3) := by decide +kernel
theorem dX5_slabTold_39 : decode cX5_slabTold 39 = .ok (.ifCond .eq 5, 3) := by decide +kernel
theorem dX5_slabTold_42 : decode cX5_slabTold 42 = .ok (.iload_n 3, 1) := by decide +kernel
theorem dX5_slabTold_43 : decode cX5_slabTold 43 = .ok (.ireturn, 1) := by decide +kernel
theorem dX5_slabTold_44 : decode cX5_slabTold 44 = .ok (.iinc 3 1, 3) := by decide +kernel
theorem dX5_slabTold_47 : decode cX5_slabTold 47 = .ok (.goto (-22), 3) := by decide +kernel
theorem dX5_slabTold_50 : decode cX5_slabTold 50 = .ok (.iconst (-1), 1) := by decide +kernel
theorem dX5_slabTold_51 : decode cX5_slabTold 51 = .ok (.ireturn, 1) := by decide +kernel
theorem dX5_about_0 : decode cX5_about 0 = .ok (.aload_n 0, 1) := by decide +kernel
theorem dX5_about_1 : decode cX5_about 1 = .ok (.iconst 0, 1) := by decide +kernel
theorem dX5_about_2 : decode cX5_about 2 = .ok (.putfield 31, 3) := by decide +kernel
theorem dX5_about_5 : decode cX5_about 5 = .ok (.aload_n 0, 1) := by decide +kernel
theorem dX5_about_6 : decode cX5_about 6 = .ok (.iload_n 1, 1) := by decide +kernel
theorem dX5_about_7 : decode cX5_about 7 = .ok (.invokevirtual 114, 3) := by decide +kernel
theorem dX5_about_10 : decode cX5_about 10 = .ok (.ifCond .eq 22, 3) := by decide +kernel
theorem dX5_about_13 : decode cX5_about 13 = .ok (.iload_n 2, 1) := by decide +kernel
theorem dX5_about_14 : decode cX5_about 14 = .ok (.iconst 0, 1) := by decide +kernel
theorem dX5_about_15 : decode cX5_about 15 = .ok (.bipush 6, 2) := by decide +kernel
theorem dX5_about_17 : decode cX5_about 17 = .ok (.invokestatic 38, 3) := by decide +kernel
theorem dX5_about_20 : decode cX5_about 20 = .ok (.ifCond .eq 12, 3) := by decide +kernel
theorem dX5_about_23 : decode cX5_about 23 = .ok (.aload_n 0, 1) := by decide +kernel
theorem dX5_about_24 : decode cX5_about 24 = .ok (.iload_n 1, 1) := by decide +kernel
theorem dX5_about_25 : decode cX5_about 25 = .ok (.iload_n 2, 1) := by decide +kernel
theorem dX5_about_26 : decode cX5_about 26 = .ok (.invokevirtual 151, 3) := by decide +kernel
theorem dX5_about_29 : decode cX5_about 29 = .ok (.goto 8, 3) := by decide +kernel
theorem dX5_about_32 : decode cX5_about 32 = .ok (.aload_n 0, 1) := by decide +kernel
theorem dX5_about_33 : decode cX5_about 33 = .ok (.iconst 1, 1) := by decide +kernel
theorem dX5_about_34 : decode cX5_about 34 = .ok (.invokevirtual 76, 3) := by decide +kernel
theorem dX5_about_37 : decode cX5_about 37 = .ok (.ireturn, 1) := by decide +kernel
theorem dX5_order_0 : decode cX5_order 0 = .ok (.aload_n 0, 1) := by decide +kernel
theorem dX5_order_1 : decode cX5_order 1 = .ok (.iconst 0, 1) := by decide +kernel
theorem dX5_order_2 : decode cX5_order 2 = .ok (.putfield 31, 3) := by decide +kernel
theorem dX5_order_5 : decode cX5_order 5 = .ok (.iload_n 1, 1) := by decide +kernel
theorem dX5_order_6 : decode cX5_order 6 = .ok (.iconst 0, 1) := by decide +kernel
theorem dX5_order_7 : decode cX5_order 7 = .ok (.aload_n 0, 1) := by decide +kernel
theorem dX5_order_8 : decode cX5_order 8 = .ok (.getfield 123, 3) := by decide +kernel
theorem dX5_order_11 : decode cX5_order 11 = .ok (.iconst 1, 1) := by decide +kernel
theorem dX5_order_12 : decode cX5_order 12 = .ok (.isub, 1) := by decide +kernel
theorem dX5_order_13 : decode cX5_order 13 = .ok (.invokestatic 38, 3) := by decide +kernel
theorem dX5_order_16 : decode cX5_order 16 = .ok (.ifCond .eq 21, 3) := by decide +kernel
theorem dX5_order_19 : decode cX5_order 19 = .ok (.iload_n 2, 1) := by decide +kernel
theorem dX5_order_20 : decode cX5_order 20 = .ok (.iconst 0, 1) := by decide +kernel
theorem dX5_order_21 : decode cX5_order 21 = .ok (.iconst 4, 1) := by decide +kernel
theorem dX5_order_22 : decode cX5_order 22 = .ok (.invokestatic 38, 3) := by decide +kernel
theorem dX5_order_25 : decode cX5_order 25 = .ok (.ifCond .eq 12, 3) := by decide +kernel
theorem dX5_order_28 : decode cX5_order 28 = .ok (.aload_n 0, 1) := by decide +kernel
theorem dX5_order_29 : decode cX5_order 29 = .ok (.iload_n 1, 1) := by decide +kernel
theorem dX5_order_30 : decode cX5_order 30 = .ok (.iload_n 2, 1) := by decide +kernel
theorem dX5_order_31 : decode cX5_order 31 = .ok (.invokevirtual 126, 3) := by decide +kernel
theorem dX5_order_34 : decode cX5_order 34 = .ok (.goto 8, 3) := by decide +kernel
theorem dX5_order_37 : decode cX5_order 37 = .ok (.aload_n 0, 1) := by decide +kernel
theorem dX5_order_38 : decode cX5_order 38 = .ok (.iconst 1, 1) := by decide +kernel
theorem dX5_order_39 : decode cX5_order 39 = .ok (.invokevirtual 76, 3) := by decide +kernel
theorem dX5_order_42 : decode cX5_order 42 = .ok (.ireturn, 1) := by decide +kernel
theorem dX5_counted_0 : decode cX5_counted 0 = .ok (.iconst 0, 1) := by decide +kernel
theorem dX5_counted_1 : decode cX5_counted 1 = .ok (.istore_n 2, 1) := by decide +kernel
theorem dX5_counted_2 : decode cX5_counted 2 = .ok (.iload_n 1, 1) := by decide +kernel
theorem dX5_counted_3 : decode cX5_counted 3 = .ok (.tableswitch 141 0 6 #[41, 46, 51, 56, 61, 88, 115], 41) := by decide +kernel
theorem dX5_counted_44 : decode cX5_counted 44 = .ok (.aload_n 0, 1) := by decide +kernel
theorem dX5_counted_45 : decode cX5_counted 45 = .ok (.getfield 142, 3) := by decide +kernel
theorem dX5_counted_48 : decode cX5_counted 48 = .ok (.ireturn, 1) := by decide +kernel
theorem dX5_counted_49 : decode cX5_counted 49 = .ok (.aload_n 0, 1) := by decide +kernel
theorem dX5_counted_50 : decode cX5_counted 50 = .ok (.getfield 35, 3) := by decide +kernel
theorem dX5_counted_53 : decode cX5_counted 53 = .ok (.ireturn, 1) := by decide +kernel
theorem dX5_counted_54 : decode cX5_counted 54 = .ok (.aload_n 0, 1) := by decide +kernel
theorem dX5_counted_55 : decode cX5_counted 55 = .ok (.getfield 42, 3) := by decide +kernel
theorem dX5_counted_58 : decode cX5_counted 58 = .ok (.ireturn, 1) := by decide +kernel
theorem dX5_counted_59 : decode cX5_counted 59 = .ok (.aload_n 0, 1) := by decide +kernel
theorem dX5_counted_60 : decode cX5_counted 60 = .ok (.getfield 123, 3) := by decide +kernel
theorem dX5_counted_63 : decode cX5_counted 63 = .ok (.ireturn, 1) := by decide +kernel
theorem dX5_counted_64 : decode cX5_counted 64 = .ok (.iconst 0, 1) := by decide +kernel
theorem dX5_counted_65 : decode cX5_counted 65 = .ok (.istore_n 3, 1) := by decide +kernel
theorem dX5_counted_66 : decode cX5_counted 66 = .ok (.iload_n 3, 1) := by decide +kernel
theorem dX5_counted_67 : decode cX5_counted 67 = .ok (.aload_n 0, 1) := by decide +kernel
theorem dX5_counted_68 : decode cX5_counted 68 = .ok (.getfield 123, 3) := by decide +kernel
theorem dX5_counted_71 : decode cX5_counted 71 = .ok (.if_icmp .ge 18, 3) := by decide +kernel
theorem dX5_counted_74 : decode cX5_counted 74 = .ok (.iload_n 2, 1) := by decide +kernel
theorem dX5_counted_75 : decode cX5_counted 75 = .ok (.aload_n 0, 1) := by decide +kernel
theorem dX5_counted_76 : decode cX5_counted 76 = .ok (.iload_n 3, 1) := by decide +kernel
theorem dX5_counted_77 : decode cX5_counted 77 = .ok (.iconst 2, 1) := by decide +kernel
theorem dX5_counted_78 : decode cX5_counted 78 = .ok (.invokevirtual 126, 3) := by decide +kernel
theorem dX5_counted_81 : decode cX5_counted 81 = .ok (.iadd, 1) := by decide +kernel
theorem dX5_counted_82 : decode cX5_counted 82 = .ok (.istore_n 2, 1) := by decide +kernel
theorem dX5_counted_83 : decode cX5_counted 83 = .ok (.iinc 3 1, 3) := by decide +kernel
theorem dX5_counted_86 : decode cX5_counted 86 = .ok (.goto (-20), 3) := by decide +kernel
theorem dX5_counted_89 : decode cX5_counted 89 = .ok (.iload_n 2, 1) := by decide +kernel
theorem dX5_counted_90 : decode cX5_counted 90 = .ok (.ireturn, 1) := by decide +kernel
theorem dX5_counted_91 : decode cX5_counted 91 = .ok (.iconst 0, 1) := by decide +kernel
theorem dX5_counted_92 : decode cX5_counted 92 = .ok (.istore_n 3, 1) := by decide +kernel
theorem dX5_counted_93 : decode cX5_counted 93 = .ok (.iload_n 3, 1) := by decide +kernel
theorem dX5_counted_94 : decode cX5_counted 94 = .ok (.aload_n 0, 1) := by decide +kernel
theorem dX5_counted_95 : decode cX5_counted 95 = .ok (.getfield 35, 3) := by decide +kernel
theorem dX5_counted_98 : decode cX5_counted 98 = .ok (.if_icmp .ge 18, 3) := by decide +kernel
theorem dX5_counted_101 : decode cX5_counted 101 = .ok (.iload_n 2, 1) := by decide +kernel
theorem dX5_counted_102 : decode cX5_counted 102 = .ok (.aload_n 0, 1) := by decide +kernel
theorem dX5_counted_103 : decode cX5_counted 103 = .ok (.iload_n 3, 1) := by decide +kernel
theorem dX5_counted_104 : decode cX5_counted 104 = .ok (.iconst 0, 1) := by decide +kernel
theorem dX5_counted_105 : decode cX5_counted 105 = .ok (.invokevirtual 66, 3) := by decide +kernel
theorem dX5_counted_108 : decode cX5_counted 108 = .ok (.iadd, 1) := by decide +kernel
theorem dX5_counted_109 : decode cX5_counted 109 = .ok (.istore_n 2, 1) := by decide +kernel
theorem dX5_counted_110 : decode cX5_counted 110 = .ok (.iinc 3 1, 3) := by decide +kernel
theorem dX5_counted_113 : decode cX5_counted 113 = .ok (.goto (-20), 3) := by decide +kernel
theorem dX5_counted_116 : decode cX5_counted 116 = .ok (.iload_n 2, 1) := by decide +kernel
theorem dX5_counted_117 : decode cX5_counted 117 = .ok (.ireturn, 1) := by decide +kernel
theorem dX5_counted_118 : decode cX5_counted 118 = .ok (.iconst 0, 1) := by decide +kernel
theorem dX5_counted_119 : decode cX5_counted 119 = .ok (.istore_n 3, 1) := by decide +kernel
theorem dX5_counted_120 : decode cX5_counted 120 = .ok (.iload_n 3, 1) := by decide +kernel
theorem dX5_counted_121 : decode cX5_counted 121 = .ok (.aload_n 0, 1) := by decide +kernel
theorem dX5_counted_122 : decode cX5_counted 122 = .ok (.getfield 42, 3) := by decide +kernel
theorem dX5_counted_125 : decode cX5_counted 125 = .ok (.if_icmp .ge 17, 3) := by decide +kernel
theorem dX5_counted_128 : decode cX5_counted 128 = .ok (.iload_n 2, 1) := by decide +kernel
theorem dX5_counted_129 : decode cX5_counted 129 = .ok (.aload_n 0, 1) := by decide +kernel
theorem dX5_counted_130 : decode cX5_counted 130 = .ok (.iload_n 3, 1) := by decide +kernel
theorem dX5_counted_131 : decode cX5_counted 131 = .ok (.invokevirtual 117, 3) := by decide +kernel
theorem dX5_counted_134 : decode cX5_counted 134 = .ok (.iadd, 1) := by decide +kernel
theorem dX5_counted_135 : decode cX5_counted 135 = .ok (.istore_n 2, 1) := by decide +kernel
theorem dX5_counted_136 : decode cX5_counted 136 = .ok (.iinc 3 1, 3) := by decide +kernel
theorem dX5_counted_139 : decode cX5_counted 139 = .ok (.goto (-19), 3) := by decide +kernel
theorem dX5_counted_142 : decode cX5_counted 142 = .ok (.iload_n 2, 1) := by decide +kernel
theorem dX5_counted_143 : decode cX5_counted 143 = .ok (.ireturn, 1) := by decide +kernel
theorem dX5_counted_144 : decode cX5_counted 144 = .ok (.aload_n 0, 1) := by decide +kernel
theorem dX5_counted_145 : decode cX5_counted 145 = .ok (.invokevirtual 145, 3) := by decide +kernel
theorem dX5_counted_148 : decode cX5_counted 148 = .ok (.ireturn, 1) := by decide +kernel
theorem dX5_count_0 : decode cX5_count 0 = .ok (.aload_n 0, 1) := by decide +kernel
theorem dX5_count_1 : decode cX5_count 1 = .ok (.iconst 0, 1) := by decide +kernel
theorem dX5_count_2 : decode cX5_count 2 = .ok (.putfield 31, 3) := by decide +kernel
theorem dX5_count_5 : decode cX5_count 5 = .ok (.iload_n 1, 1) := by decide +kernel
theorem dX5_count_6 : decode cX5_count 6 = .ok (.iconst 0, 1) := by decide +kernel
theorem dX5_count_7 : decode cX5_count 7 = .ok (.bipush 7, 2) := by decide +kernel
theorem dX5_count_9 : decode cX5_count 9 = .ok (.invokestatic 38, 3) := by decide +kernel
theorem dX5_count_12 : decode cX5_count 12 = .ok (.ifCond .eq 11, 3) := by decide +kernel
theorem dX5_count_15 : decode cX5_count 15 = .ok (.aload_n 0, 1) := by decide +kernel
theorem dX5_count_16 : decode cX5_count 16 = .ok (.iload_n 1, 1) := by decide +kernel
theorem dX5_count_17 : decode cX5_count 17 = .ok (.invokevirtual 154, 3) := by decide +kernel
theorem dX5_count_20 : decode cX5_count 20 = .ok (.goto 8, 3) := by decide +kernel
theorem dX5_count_23 : decode cX5_count 23 = .ok (.aload_n 0, 1) := by decide +kernel
theorem dX5_count_24 : decode cX5_count 24 = .ok (.iconst 1, 1) := by decide +kernel
theorem dX5_count_25 : decode cX5_count 25 = .ok (.invokevirtual 76, 3) := by decide +kernel
theorem dX5_count_28 : decode cX5_count 28 = .ok (.ireturn, 1) := by decide +kernel
theorem dX5_would_0 : decode cX5_would 0 = .ok (.aload_n 0, 1) := by decide +kernel
theorem dX5_would_1 : decode cX5_would 1 = .ok (.iconst 0, 1) := by decide +kernel
theorem dX5_would_2 : decode cX5_would 2 = .ok (.putfield 31, 3) := by decide +kernel
theorem dX5_would_5 : decode cX5_would 5 = .ok (.aload_n 0, 1) := by decide +kernel
theorem dX5_would_6 : decode cX5_would 6 = .ok (.iload_n 1, 1) := by decide +kernel
theorem dX5_would_7 : decode cX5_would 7 = .ok (.invokevirtual 83, 3) := by decide +kernel
theorem dX5_would_10 : decode cX5_would 10 = .ok (.ifCond .ne 9, 3) := by decide +kernel
theorem dX5_would_13 : decode cX5_would 13 = .ok (.aload_n 0, 1) := by decide +kernel
theorem dX5_would_14 : decode cX5_would 14 = .ok (.iconst 1, 1) := by decide +kernel
theorem dX5_would_15 : decode cX5_would 15 = .ok (.invokevirtual 76, 3) := by decide +kernel
theorem dX5_would_18 : decode cX5_would 18 = .ok (.ireturn, 1) := by decide +kernel
theorem dX5_would_19 : decode cX5_would 19 = .ok (.aload_n 0, 1) := by decide +kernel
theorem dX5_would_20 : decode cX5_would 20 = .ok (.iload_n 2, 1) := by decide +kernel
theorem dX5_would_21 : decode cX5_would 21 = .ok (.iload_n 3, 1) := by decide +kernel
theorem dX5_would_22 : decode cX5_would 22 = .ok (.invokevirtual 87, 3) := by decide +kernel
theorem dX5_would_25 : decode cX5_would 25 = .ok (.ifCond .ne 9, 3) := by decide +kernel
theorem dX5_would_28 : decode cX5_would 28 = .ok (.aload_n 0, 1) := by decide +kernel
theorem dX5_would_29 : decode cX5_would 29 = .ok (.iconst 2, 1) := by decide +kernel
theorem dX5_would_30 : decode cX5_would 30 = .ok (.invokevirtual 76, 3) := by decide +kernel
theorem dX5_would_33 : decode cX5_would 33 = .ok (.ireturn, 1) := by decide +kernel
theorem dX5_would_34 : decode cX5_would 34 = .ok (.aload_n 0, 1) := by decide +kernel
theorem dX5_would_35 : decode cX5_would 35 = .ok (.iload_n 1, 1) := by decide +kernel
theorem dX5_would_36 : decode cX5_would 36 = .ok (.invokevirtual 69, 3) := by decide +kernel
theorem dX5_would_39 : decode cX5_would 39 = .ok (.aload_n 0, 1) := by decide +kernel
theorem dX5_would_40 : decode cX5_would 40 = .ok (.getfield 25, 3) := by decide +kernel
theorem dX5_would_43 : decode cX5_would 43 = .ok (.iload_n 2, 1) := by decide +kernel
theorem dX5_would_44 : decode cX5_would 44 = .ok (.iload_n 3, 1) := by decide +kernel
theorem dX5_would_45 : decode cX5_would 45 = .ok (.invokestatic 91, 3) := by decide +kernel
theorem dX5_would_48 : decode cX5_would 48 = .ok (.aload_n 0, 1) := by decide +kernel
theorem dX5_would_49 : decode cX5_would 49 = .ok (.getfield 25, 3) := by decide +kernel
theorem dX5_would_52 : decode cX5_would 52 = .ok (.invokestatic 73, 3) := by decide +kernel
theorem dX5_would_55 : decode cX5_would 55 = .ok (.ireturn, 1) := by decide +kernel
theorem dX5_best_0 : decode cX5_best 0 = .ok (.aload_n 0, 1) := by decide +kernel
theorem dX5_best_1 : decode cX5_best 1 = .ok (.iconst 0, 1) := by decide +kernel
theorem dX5_best_2 : decode cX5_best 2 = .ok (.putfield 31, 3) := by decide +kernel
theorem dX5_best_5 : decode cX5_best 5 = .ok (.aload_n 0, 1) := by decide +kernel
theorem dX5_best_6 : decode cX5_best 6 = .ok (.iload_n 1, 1) := by decide +kernel
theorem dX5_best_7 : decode cX5_best 7 = .ok (.invokevirtual 83, 3) := by decide +kernel
theorem dX5_best_10 : decode cX5_best 10 = .ok (.ifCond .eq 12, 3) := by decide +kernel
theorem dX5_best_13 : decode cX5_best 13 = .ok (.iload_n 3, 1) := by decide +kernel
theorem dX5_best_14 : decode cX5_best 14 = .ok (.iconst 0, 1) := by decide +kernel
theorem dX5_best_15 : decode cX5_best 15 = .ok (.iconst 2, 1) := by decide +kernel
theorem dX5_best_16 : decode cX5_best 16 = .ok (.invokestatic 38, 3) := by decide +kernel
theorem dX5_best_19 : decode cX5_best 19 = .ok (.ifCond .ne 9, 3) := by decide +kernel
theorem dX5_best_22 : decode cX5_best 22 = .ok (.aload_n 0, 1) := by decide +kernel
theorem dX5_best_23 : decode cX5_best 23 = .ok (.iconst 1, 1) := by decide +kernel
theorem dX5_best_24 : decode cX5_best 24 = .ok (.invokevirtual 76, 3) := by decide +kernel
theorem dX5_best_27 : decode cX5_best 27 = .ok (.ireturn, 1) := by decide +kernel
theorem dX5_best_28 : decode cX5_best 28 = .ok (.iload_n 2, 1) := by decide +kernel
theorem dX5_best_29 : decode cX5_best 29 = .ok (.iconst 1, 1) := by decide +kernel
theorem dX5_best_30 : decode cX5_best 30 = .ok (.bipush 10, 2) := by decide +kernel
theorem dX5_best_32 : decode cX5_best 32 = .ok (.invokestatic 38, 3) := by decide +kernel
theorem dX5_best_35 : decode cX5_best 35 = .ok (.ifCond .ne 9, 3) := by decide +kernel
theorem dX5_best_38 : decode cX5_best 38 = .ok (.aload_n 0, 1) := by decide +kernel
theorem dX5_best_39 : decode cX5_best 39 = .ok (.iconst 2, 1) := by decide +kernel
theorem dX5_best_40 : decode cX5_best 40 = .ok (.invokevirtual 76, 3) := by decide +kernel
theorem dX5_best_43 : decode cX5_best 43 = .ok (.ireturn, 1) := by decide +kernel
theorem dX5_best_44 : decode cX5_best 44 = .ok (.iconst (-1), 1) := by decide +kernel
theorem dX5_best_45 : decode cX5_best 45 = .ok (.istore 4, 2) := by decide +kernel
theorem dX5_best_47 : decode cX5_best 47 = .ok (.iconst 0, 1) := by decide +kernel
theorem dX5_best_48 : decode cX5_best 48 = .ok (.istore 5, 2) := by decide +kernel
theorem dX5_best_50 : decode cX5_best 50 = .ok (.iconst 0, 1) := by decide +kernel
theorem dX5_best_51 : decode cX5_best 51 = .ok (.istore 6, 2) := by decide +kernel
theorem dX5_best_53 : decode cX5_best 53 = .ok (.bipush 15, 2) := by decide +kernel
theorem dX5_best_55 : decode cX5_best 55 = .ok (.istore 7, 2) := by decide +kernel
theorem dX5_best_57 : decode cX5_best 57 = .ok (.iload 7, 2) := by decide +kernel
theorem dX5_best_59 : decode cX5_best 59 = .ok (.bipush 50, 2) := by decide +kernel
theorem dX5_best_61 : decode cX5_best 61 = .ok (.if_icmp .gt 119, 3) := by decide +kernel
theorem dX5_best_64 : decode cX5_best 64 = .ok (.aload_n 0, 1) := by decide +kernel
theorem dX5_best_65 : decode cX5_best 65 = .ok (.iload_n 1, 1) := by decide +kernel
theorem dX5_best_66 : decode cX5_best 66 = .ok (.invokevirtual 69, 3) := by decide +kernel
theorem dX5_best_69 : decode cX5_best 69 = .ok (.aload_n 0, 1) := by decide +kernel
theorem dX5_best_70 : decode cX5_best 70 = .ok (.getfield 25, 3) := by decide +kernel
theorem dX5_best_73 : decode cX5_best 73 = .ok (.iload 7, 2) := by decide +kernel
theorem dX5_best_75 : decode cX5_best 75 = .ok (.iload_n 2, 1) := by decide +kernel
theorem dX5_best_76 : decode cX5_best 76 = .ok (.invokestatic 91, 3) := by decide +kernel
theorem dX5_best_79 : decode cX5_best 79 = .ok (.aload_n 0, 1) := by decide +kernel
theorem dX5_best_80 : decode cX5_best 80 = .ok (.getfield 25, 3) := by decide +kernel
theorem dX5_best_83 : decode cX5_best 83 = .ok (.iconst 0, 1) := by decide +kernel
theorem dX5_best_84 : decode cX5_best 84 = .ok (.aload_n 0, 1) := by decide +kernel
theorem dX5_best_85 : decode cX5_best 85 = .ok (.getfield 28, 3) := by decide +kernel
theorem dX5_best_88 : decode cX5_best 88 = .ok (.iconst 0, 1) := by decide +kernel
theorem dX5_best_89 : decode cX5_best 89 = .ok (.aload_n 0, 1) := by decide +kernel
theorem dX5_best_90 : decode cX5_best 90 = .ok (.getfield 25, 3) := by decide +kernel
theorem dX5_best_93 : decode cX5_best 93 = .ok (.arraylength, 1) := by decide +kernel
theorem dX5_best_94 : decode cX5_best 94 = .ok (.invokestatic 101, 3) := by decide +kernel
theorem dX5_best_97 : decode cX5_best 97 = .ok (.bipush 15, 2) := by decide +kernel
theorem dX5_best_99 : decode cX5_best 99 = .ok (.istore 8, 2) := by decide +kernel
theorem dX5_best_101 : decode cX5_best 101 = .ok (.iload 8, 2) := by decide +kernel
theorem dX5_best_103 : decode cX5_best 103 = .ok (.bipush 50, 2) := by decide +kernel
theorem dX5_best_105 : decode cX5_best 105 = .ok (.if_icmp .gt 69, 3) := by decide +kernel
theorem dX5_best_108 : decode cX5_best 108 = .ok (.aload_n 0, 1) := by decide +kernel
theorem dX5_best_109 : decode cX5_best 109 = .ok (.getfield 28, 3) := by decide +kernel
theorem dX5_best_112 : decode cX5_best 112 = .ok (.iconst 0, 1) := by decide +kernel
theorem dX5_best_113 : decode cX5_best 113 = .ok (.aload_n 0, 1) := by decide +kernel
theorem dX5_best_114 : decode cX5_best 114 = .ok (.getfield 25, 3) := by decide +kernel
theorem dX5_best_117 : decode cX5_best 117 = .ok (.iconst 0, 1) := by decide +kernel
theorem dX5_best_118 : decode cX5_best 118 = .ok (.aload_n 0, 1) := by decide +kernel
theorem dX5_best_119 : decode cX5_best 119 = .ok (.getfield 25, 3) := by decide +kernel
theorem dX5_best_122 : decode cX5_best 122 = .ok (.arraylength, 1) := by decide +kernel
theorem dX5_best_123 : decode cX5_best 123 = .ok (.invokestatic 101, 3) := by decide +kernel
theorem dX5_best_126 : decode cX5_best 126 = .ok (.aload_n 0, 1) := by decide +kernel
theorem dX5_best_127 : decode cX5_best 127 = .ok (.getfield 25, 3) := by decide +kernel
theorem dX5_best_130 : decode cX5_best 130 = .ok (.iload 8, 2) := by decide +kernel
theorem dX5_best_132 : decode cX5_best 132 = .ok (.iload_n 2, 1) := by decide +kernel
theorem dX5_best_133 : decode cX5_best 133 = .ok (.invokestatic 91, 3) := by decide +kernel
theorem dX5_best_136 : decode cX5_best 136 = .ok (.aload_n 0, 1) := by decide +kernel
theorem dX5_best_137 : decode cX5_best 137 = .ok (.getfield 25, 3) := by decide +kernel
theorem dX5_best_140 : decode cX5_best 140 = .ok (.invokestatic 73, 3) := by decide +kernel
theorem dX5_best_143 : decode cX5_best 143 = .ok (.iload 4, 2) := by decide +kernel
theorem dX5_best_145 : decode cX5_best 145 = .ok (.if_icmp .gt 6, 3) := by decide +kernel
theorem dX5_best_148 : decode cX5_best 148 = .ok (.goto 20, 3) := by decide +kernel
theorem dX5_best_151 : decode cX5_best 151 = .ok (.aload_n 0, 1) := by decide +kernel
theorem dX5_best_152 : decode cX5_best 152 = .ok (.getfield 25, 3) := by decide +kernel
theorem dX5_best_155 : decode cX5_best 155 = .ok (.invokestatic 73, 3) := by decide +kernel
theorem dX5_best_158 : decode cX5_best 158 = .ok (.istore 4, 2) := by decide +kernel
theorem dX5_best_160 : decode cX5_best 160 = .ok (.iload 7, 2) := by decide +kernel
theorem dX5_best_162 : decode cX5_best 162 = .ok (.istore 5, 2) := by decide +kernel
theorem dX5_best_164 : decode cX5_best 164 = .ok (.iload 8, 2) := by decide +kernel
theorem dX5_best_166 : decode cX5_best 166 = .ok (.istore 6, 2) := by decide +kernel
theorem dX5_best_168 : decode cX5_best 168 = .ok (.iinc 8 1, 3) := by decide +kernel
theorem dX5_best_171 : decode cX5_best 171 = .ok (.goto (-70), 3) := by decide +kernel
theorem dX5_best_174 : decode cX5_best 174 = .ok (.iinc 7 1, 3) := by decide +kernel
theorem dX5_best_177 : decode cX5_best 177 = .ok (.goto (-120), 3) := by decide +kernel
theorem dX5_best_180 : decode cX5_best 180 = .ok (.iload_n 3, 1) := by decide +kernel
theorem dX5_best_181 : decode cX5_best 181 = .ok (.ifCond .ne 8, 3) := by decide +kernel
theorem dX5_best_184 : decode cX5_best 184 = .ok (.iload 5, 2) := by decide +kernel
theorem dX5_best_186 : decode cX5_best 186 = .ok (.goto 15, 3) := by decide +kernel
theorem dX5_best_189 : decode cX5_best 189 = .ok (.iload_n 3, 1) := by decide +kernel
theorem dX5_best_190 : decode cX5_best 190 = .ok (.iconst 1, 1) := by decide +kernel
theorem dX5_best_191 : decode cX5_best 191 = .ok (.if_icmp .ne 8, 3) := by decide +kernel
theorem dX5_best_194 : decode cX5_best 194 = .ok (.iload 6, 2) := by decide +kernel
theorem dX5_best_196 : decode cX5_best 196 = .ok (.goto 5, 3) := by decide +kernel
theorem dX5_best_199 : decode cX5_best 199 = .ok (.iload 4, 2) := by decide +kernel
theorem dX5_best_201 : decode cX5_best 201 = .ok (.ireturn, 1) := by decide +kernel
theorem dX5_until_0 : decode cX5_until 0 = .ok (.aload_n 0, 1) := by decide +kernel
theorem dX5_until_1 : decode cX5_until 1 = .ok (.iconst 0, 1) := by decide +kernel
theorem dX5_until_2 : decode cX5_until 2 = .ok (.putfield 31, 3) := by decide +kernel
theorem dX5_until_5 : decode cX5_until 5 = .ok (.aload_n 0, 1) := by decide +kernel
theorem dX5_until_6 : decode cX5_until 6 = .ok (.iload_n 1, 1) := by decide +kernel
theorem dX5_until_7 : decode cX5_until 7 = .ok (.invokevirtual 114, 3) := by decide +kernel
theorem dX5_until_10 : decode cX5_until 10 = .ok (.ifCond .ne 9, 3) := by decide +kernel
theorem dX5_until_13 : decode cX5_until 13 = .ok (.aload_n 0, 1) := by decide +kernel
theorem dX5_until_14 : decode cX5_until 14 = .ok (.iconst 1, 1) := by decide +kernel
theorem dX5_until_15 : decode cX5_until 15 = .ok (.invokevirtual 76, 3) := by decide +kernel
theorem dX5_until_18 : decode cX5_until 18 = .ok (.ireturn, 1) := by decide +kernel
theorem dX5_until_19 : decode cX5_until 19 = .ok (.iload_n 2, 1) := by decide +kernel
theorem dX5_until_20 : decode cX5_until 20 = .ok (.bipush 10, 2) := by decide +kernel
theorem dX5_until_22 : decode cX5_until 22 = .ok (.bipush 40, 2) := by decide +kernel
theorem dX5_until_24 : decode cX5_until 24 = .ok (.invokestatic 38, 3) := by decide +kernel
theorem dX5_until_27 : decode cX5_until 27 = .ok (.ifCond .ne 9, 3) := by decide +kernel
theorem dX5_until_30 : decode cX5_until 30 = .ok (.aload_n 0, 1) := by decide +kernel
theorem dX5_until_31 : decode cX5_until 31 = .ok (.iconst 2, 1) := by decide +kernel
theorem dX5_until_32 : decode cX5_until 32 = .ok (.invokevirtual 76, 3) := by decide +kernel
theorem dX5_until_35 : decode cX5_until 35 = .ok (.ireturn, 1) := by decide +kernel
theorem dX5_until_36 : decode cX5_until 36 = .ok (.bipush 21, 2) := by decide +kernel
theorem dX5_until_38 : decode cX5_until 38 = .ok (.aload_n 0, 1) := by decide +kernel
theorem dX5_until_39 : decode cX5_until 39 = .ok (.iload_n 1, 1) := by decide +kernel
theorem dX5_until_40 : decode cX5_until 40 = .ok (.iconst 3, 1) := by decide +kernel
theorem dX5_until_41 : decode cX5_until 41 = .ok (.invokevirtual 98, 3) := by decide +kernel
theorem dX5_until_44 : decode cX5_until 44 = .ok (.isub, 1) := by decide +kernel
theorem dX5_until_45 : decode cX5_until 45 = .ok (.istore_n 3, 1) := by decide +kernel
theorem dX5_until_46 : decode cX5_until 46 = .ok (.aload_n 0, 1) := by decide +kernel
theorem dX5_until_47 : decode cX5_until 47 = .ok (.iload_n 1, 1) := by decide +kernel
theorem dX5_until_48 : decode cX5_until 48 = .ok (.iload_n 2, 1) := by decide +kernel
theorem dX5_until_49 : decode cX5_until 49 = .ok (.invokevirtual 139, 3) := by decide +kernel
theorem dX5_until_52 : decode cX5_until 52 = .ok (.istore 4, 2) := by decide +kernel
theorem dX5_until_54 : decode cX5_until 54 = .ok (.iload_n 3, 1) := by decide +kernel
theorem dX5_until_55 : decode cX5_until 55 = .ok (.ifCond .gt 7, 3) := by decide +kernel
theorem dX5_until_58 : decode cX5_until 58 = .ok (.iconst 0, 1) := by decide +kernel
theorem dX5_until_59 : decode cX5_until 59 = .ok (.goto 21, 3) := by decide +kernel
theorem dX5_until_62 : decode cX5_until 62 = .ok (.iload 4, 2) := by decide +kernel
theorem dX5_until_64 : decode cX5_until 64 = .ok (.ifCond .ne 7, 3) := by decide +kernel
theorem dX5_until_67 : decode cX5_until 67 = .ok (.iconst (-1), 1) := by decide +kernel
theorem dX5_until_68 : decode cX5_until 68 = .ok (.goto 12, 3) := by decide +kernel
theorem dX5_until_71 : decode cX5_until 71 = .ok (.iload_n 3, 1) := by decide +kernel
theorem dX5_until_72 : decode cX5_until 72 = .ok (.iload 4, 2) := by decide +kernel
theorem dX5_until_74 : decode cX5_until 74 = .ok (.iadd, 1) := by decide +kernel
theorem dX5_until_75 : decode cX5_until 75 = .ok (.iconst 1, 1) := by decide +kernel
theorem dX5_until_76 : decode cX5_until 76 = .ok (.isub, 1) := by decide +kernel
theorem dX5_until_77 : decode cX5_until 77 = .ok (.iload 4, 2) := by decide +kernel
theorem dX5_until_79 : decode cX5_until 79 = .ok (.idiv, 1) := by decide +kernel
theorem dX5_until_80 : decode cX5_until 80 = .ok (.ireturn, 1) := by decide +kernel
theorem dX5_filledBy_0 : decode cX5_filledBy 0 = .ok (.aload_n 0, 1) := by decide +kernel
theorem dX5_filledBy_1 : decode cX5_filledBy 1 = .ok (.getfield 42, 3) := by decide +kernel
theorem dX5_filledBy_4 : decode cX5_filledBy 4 = .ok (.istore_n 2, 1) := by decide +kernel
theorem dX5_filledBy_5 : decode cX5_filledBy 5 = .ok (.aload_n 0, 1) := by decide +kernel
theorem dX5_filledBy_6 : decode cX5_filledBy 6 = .ok (.getfield 13, 3) := by decide +kernel
theorem dX5_filledBy_9 : decode cX5_filledBy 9 = .ok (.iconst 0, 1) := by decide +kernel
theorem dX5_filledBy_10 : decode cX5_filledBy 10 = .ok (.aload_n 0, 1) := by decide +kernel
theorem dX5_filledBy_11 : decode cX5_filledBy 11 = .ok (.getfield 19, 3) := by decide +kernel
theorem dX5_filledBy_14 : decode cX5_filledBy 14 = .ok (.iconst 0, 1) := by decide +kernel
theorem dX5_filledBy_15 : decode cX5_filledBy 15 = .ok (.aload_n 0, 1) := by decide +kernel
theorem dX5_filledBy_16 : decode cX5_filledBy 16 = .ok (.getfield 13, 3) := by decide +kernel
theorem dX5_filledBy_19 : decode cX5_filledBy 19 = .ok (.arraylength, 1) := by decide +kernel
theorem dX5_filledBy_20 : decode cX5_filledBy 20 = .ok (.invokestatic 101, 3) := by decide +kernel
theorem dX5_filledBy_23 : decode cX5_filledBy 23 = .ok (.aload_n 0, 1) := by decide +kernel
theorem dX5_filledBy_24 : decode cX5_filledBy 24 = .ok (.getfield 16, 3) := by decide +kernel
theorem dX5_filledBy_27 : decode cX5_filledBy 27 = .ok (.iconst 0, 1) := by decide +kernel
theorem dX5_filledBy_28 : decode cX5_filledBy 28 = .ok (.aload_n 0, 1) := by decide +kernel
theorem dX5_filledBy_29 : decode cX5_filledBy 29 = .ok (.getfield 22, 3) := by decide +kernel
theorem dX5_filledBy_32 : decode cX5_filledBy 32 = .ok (.iconst 0, 1) := by decide +kernel
theorem dX5_filledBy_33 : decode cX5_filledBy 33 = .ok (.aload_n 0, 1) := by decide +kernel
theorem dX5_filledBy_34 : decode cX5_filledBy 34 = .ok (.getfield 16, 3) := by decide +kernel
theorem dX5_filledBy_37 : decode cX5_filledBy 37 = .ok (.arraylength, 1) := by decide +kernel
theorem dX5_filledBy_38 : decode cX5_filledBy 38 = .ok (.invokestatic 101, 3) := by decide +kernel
theorem dX5_filledBy_41 : decode cX5_filledBy 41 = .ok (.iload_n 1, 1) := by decide +kernel
theorem dX5_filledBy_42 : decode cX5_filledBy 42 = .ok (.iconst (-1), 1) := by decide +kernel
theorem dX5_filledBy_43 : decode cX5_filledBy 43 = .ok (.if_icmp .eq 22, 3) := by decide +kernel
theorem dX5_filledBy_46 : decode cX5_filledBy 46 = .ok (.aload_n 0, 1) := by decide +kernel
theorem dX5_filledBy_47 : decode cX5_filledBy 47 = .ok (.iload_n 1, 1) := by decide +kernel
theorem dX5_filledBy_48 : decode cX5_filledBy 48 = .ok (.iconst 3, 1) := by decide +kernel
theorem dX5_filledBy_49 : decode cX5_filledBy 49 = .ok (.iconst 0, 1) := by decide +kernel
theorem dX5_filledBy_50 : decode cX5_filledBy 50 = .ok (.aload_n 0, 1) := by decide +kernel
theorem dX5_filledBy_51 : decode cX5_filledBy 51 = .ok (.iload_n 1, 1) := by decide +kernel
theorem dX5_filledBy_52 : decode cX5_filledBy 52 = .ok (.iconst 3, 1) := by decide +kernel
theorem dX5_filledBy_53 : decode cX5_filledBy 53 = .ok (.invokevirtual 98, 3) := by decide +kernel
theorem dX5_filledBy_56 : decode cX5_filledBy 56 = .ok (.bipush 15, 2) := by decide +kernel
theorem dX5_filledBy_58 : decode cX5_filledBy 58 = .ok (.isub, 1) := by decide +kernel
theorem dX5_filledBy_59 : decode cX5_filledBy 59 = .ok (.invokestatic 63, 3) := by decide +kernel
theorem dX5_filledBy_62 : decode cX5_filledBy 62 = .ok (.invokevirtual 95, 3) := by decide +kernel
theorem dX5_filledBy_65 : decode cX5_filledBy 65 = .ok (.aload_n 0, 1) := by decide +kernel
theorem dX5_filledBy_66 : decode cX5_filledBy 66 = .ok (.invokevirtual 135, 3) := by decide +kernel
theorem dX5_filledBy_69 : decode cX5_filledBy 69 = .ok (.istore_n 3, 1) := by decide +kernel
theorem dX5_filledBy_70 : decode cX5_filledBy 70 = .ok (.aload_n 0, 1) := by decide +kernel
theorem dX5_filledBy_71 : decode cX5_filledBy 71 = .ok (.iload_n 2, 1) := by decide +kernel
theorem dX5_filledBy_72 : decode cX5_filledBy 72 = .ok (.putfield 42, 3) := by decide +kernel
theorem dX5_filledBy_75 : decode cX5_filledBy 75 = .ok (.aload_n 0, 1) := by decide +kernel
theorem dX5_filledBy_76 : decode cX5_filledBy 76 = .ok (.getfield 19, 3) := by decide +kernel
theorem dX5_filledBy_79 : decode cX5_filledBy 79 = .ok (.iconst 0, 1) := by decide +kernel
theorem dX5_filledBy_80 : decode cX5_filledBy 80 = .ok (.aload_n 0, 1) := by decide +kernel
theorem dX5_filledBy_81 : decode cX5_filledBy 81 = .ok (.getfield 13, 3) := by decide +kernel
theorem dX5_filledBy_84 : decode cX5_filledBy 84 = .ok (.iconst 0, 1) := by decide +kernel
theorem dX5_filledBy_85 : decode cX5_filledBy 85 = .ok (.aload_n 0, 1) := by decide +kernel
theorem dX5_filledBy_86 : decode cX5_filledBy 86 = .ok (.getfield 13, 3) := by decide +kernel
theorem dX5_filledBy_89 : decode cX5_filledBy 89 = .ok (.arraylength, 1) := by decide +kernel
theorem dX5_filledBy_90 : decode cX5_filledBy 90 = .ok (.invokestatic 101, 3) := by decide +kernel
theorem dX5_filledBy_93 : decode cX5_filledBy 93 = .ok (.aload_n 0, 1) := by decide +kernel
theorem dX5_filledBy_94 : decode cX5_filledBy 94 = .ok (.getfield 22, 3) := by decide +kernel
theorem dX5_filledBy_97 : decode cX5_filledBy 97 = .ok (.iconst 0, 1) := by decide +kernel
theorem dX5_filledBy_98 : decode cX5_filledBy 98 = .ok (.aload_n 0, 1) := by decide +kernel
theorem dX5_filledBy_99 : decode cX5_filledBy 99 = .ok (.getfield 16, 3) := by decide +kernel
theorem dX5_filledBy_102 : decode cX5_filledBy 102 = .ok (.iconst 0, 1) := by decide +kernel
theorem dX5_filledBy_103 : decode cX5_filledBy 103 = .ok (.aload_n 0, 1) := by decide +kernel
theorem dX5_filledBy_104 : decode cX5_filledBy 104 = .ok (.getfield 16, 3) := by decide +kernel
theorem dX5_filledBy_107 : decode cX5_filledBy 107 = .ok (.arraylength, 1) := by decide +kernel
theorem dX5_filledBy_108 : decode cX5_filledBy 108 = .ok (.invokestatic 101, 3) := by decide +kernel
theorem dX5_filledBy_111 : decode cX5_filledBy 111 = .ok (.iload_n 3, 1) := by decide +kernel
theorem dX5_filledBy_112 : decode cX5_filledBy 112 = .ok (.ireturn, 1) := by decide +kernel
theorem dX5_advise_0 : decode cX5_advise 0 = .ok (.aload_n 0, 1) := by decide +kernel
theorem dX5_advise_1 : decode cX5_advise 1 = .ok (.iconst 0, 1) := by decide +kernel
theorem dX5_advise_2 : decode cX5_advise 2 = .ok (.putfield 31, 3) := by decide +kernel
theorem dX5_advise_5 : decode cX5_advise 5 = .ok (.iconst (-1), 1) := by decide +kernel
theorem dX5_advise_6 : decode cX5_advise 6 = .ok (.istore_n 1, 1) := by decide +kernel
theorem dX5_advise_7 : decode cX5_advise 7 = .ok (.aload_n 0, 1) := by decide +kernel
theorem dX5_advise_8 : decode cX5_advise 8 = .ok (.iconst (-1), 1) := by decide +kernel
theorem dX5_advise_9 : decode cX5_advise 9 = .ok (.invokevirtual 157, 3) := by decide +kernel
theorem dX5_advise_12 : decode cX5_advise 12 = .ok (.istore_n 2, 1) := by decide +kernel
theorem dX5_advise_13 : decode cX5_advise 13 = .ok (.iconst 0, 1) := by decide +kernel
theorem dX5_advise_14 : decode cX5_advise 14 = .ok (.istore_n 3, 1) := by decide +kernel
theorem dX5_advise_15 : decode cX5_advise 15 = .ok (.iload_n 3, 1) := by decide +kernel
theorem dX5_advise_16 : decode cX5_advise 16 = .ok (.aload_n 0, 1) := by decide +kernel
theorem dX5_advise_17 : decode cX5_advise 17 = .ok (.getfield 42, 3) := by decide +kernel
theorem dX5_advise_20 : decode cX5_advise 20 = .ok (.if_icmp .ge 30, 3) := by decide +kernel
theorem dX5_advise_23 : decode cX5_advise 23 = .ok (.aload_n 0, 1) := by decide +kernel
theorem dX5_advise_24 : decode cX5_advise 24 = .ok (.iload_n 3, 1) := by decide +kernel
theorem dX5_advise_25 : decode cX5_advise 25 = .ok (.invokevirtual 157, 3) := by decide +kernel
theorem dX5_advise_28 : decode cX5_advise 28 = .ok (.istore 4, 2) := by decide +kernel
theorem dX5_advise_30 : decode cX5_advise 30 = .ok (.iload 4, 2) := by decide +kernel
theorem dX5_advise_32 : decode cX5_advise 32 = .ok (.iload_n 2, 1) := by decide +kernel
theorem dX5_advise_33 : decode cX5_advise 33 = .ok (.if_icmp .gt 6, 3) := by decide +kernel
theorem dX5_advise_36 : decode cX5_advise 36 = .ok (.goto 8, 3) := by decide +kernel
theorem dX5_advise_39 : decode cX5_advise 39 = .ok (.iload_n 3, 1) := by decide +kernel
theorem dX5_advise_40 : decode cX5_advise 40 = .ok (.istore_n 1, 1) := by decide +kernel
theorem dX5_advise_41 : decode cX5_advise 41 = .ok (.iload 4, 2) := by decide +kernel
theorem dX5_advise_43 : decode cX5_advise 43 = .ok (.istore_n 2, 1) := by decide +kernel
theorem dX5_advise_44 : decode cX5_advise 44 = .ok (.iinc 3 1, 3) := by decide +kernel
theorem dX5_advise_47 : decode cX5_advise 47 = .ok (.goto (-32), 3) := by decide +kernel
theorem dX5_advise_50 : decode cX5_advise 50 = .ok (.iload_n 1, 1) := by decide +kernel
theorem dX5_advise_51 : decode cX5_advise 51 = .ok (.ireturn, 1) := by decide +kernel
theorem dX5_mean_0 : decode cX5_mean 0 = .ok (.aload_n 0, 1) := by decide +kernel
theorem dX5_mean_1 : decode cX5_mean 1 = .ok (.iconst 0, 1) := by decide +kernel
theorem dX5_mean_2 : decode cX5_mean 2 = .ok (.putfield 31, 3) := by decide +kernel
theorem dX5_mean_5 : decode cX5_mean 5 = .ok (.iconst 0, 1) := by decide +kernel
theorem dX5_mean_6 : decode cX5_mean 6 = .ok (.istore_n 1, 1) := by decide +kernel
theorem dX5_mean_7 : decode cX5_mean 7 = .ok (.iconst 0, 1) := by decide +kernel
theorem dX5_mean_8 : decode cX5_mean 8 = .ok (.istore_n 2, 1) := by decide +kernel
theorem dX5_mean_9 : decode cX5_mean 9 = .ok (.iload_n 2, 1) := by decide +kernel
theorem dX5_mean_10 : decode cX5_mean 10 = .ok (.aload_n 0, 1) := by decide +kernel
theorem dX5_mean_11 : decode cX5_mean 11 = .ok (.getfield 42, 3) := by decide +kernel
theorem dX5_mean_14 : decode cX5_mean 14 = .ok (.if_icmp .ge 18, 3) := by decide +kernel
theorem dX5_mean_17 : decode cX5_mean 17 = .ok (.iload_n 1, 1) := by decide +kernel
theorem dX5_mean_18 : decode cX5_mean 18 = .ok (.aload_n 0, 1) := by decide +kernel
theorem dX5_mean_19 : decode cX5_mean 19 = .ok (.iload_n 2, 1) := by decide +kernel
theorem dX5_mean_20 : decode cX5_mean 20 = .ok (.iconst 3, 1) := by decide +kernel
theorem dX5_mean_21 : decode cX5_mean 21 = .ok (.invokevirtual 98, 3) := by decide +kernel
theorem dX5_mean_24 : decode cX5_mean 24 = .ok (.iadd, 1) := by decide +kernel
theorem dX5_mean_25 : decode cX5_mean 25 = .ok (.istore_n 1, 1) := by decide +kernel
theorem dX5_mean_26 : decode cX5_mean 26 = .ok (.iinc 2 1, 3) := by decide +kernel
theorem dX5_mean_29 : decode cX5_mean 29 = .ok (.goto (-20), 3) := by decide +kernel
theorem dX5_mean_32 : decode cX5_mean 32 = .ok (.aload_n 0, 1) := by decide +kernel
theorem dX5_mean_33 : decode cX5_mean 33 = .ok (.getfield 42, 3) := by decide +kernel
theorem dX5_mean_36 : decode cX5_mean 36 = .ok (.ifCond .ne 7, 3) := by decide +kernel
theorem dX5_mean_39 : decode cX5_mean 39 = .ok (.dconst 0, 1) := by decide +kernel
theorem dX5_mean_40 : decode cX5_mean 40 = .ok (.goto 11, 3) := by decide +kernel
theorem dX5_mean_43 : decode cX5_mean 43 = .ok (.iload_n 1, 1) := by decide +kernel
theorem dX5_mean_44 : decode cX5_mean 44 = .ok (.i2d, 1) := by decide +kernel
theorem dX5_mean_45 : decode cX5_mean 45 = .ok (.aload_n 0, 1) := by decide +kernel
theorem dX5_mean_46 : decode cX5_mean 46 = .ok (.getfield 42, 3) := by decide +kernel
theorem dX5_mean_49 : decode cX5_mean 49 = .ok (.i2d, 1) := by decide +kernel
theorem dX5_mean_50 : decode cX5_mean 50 = .ok (.ddiv, 1) := by decide +kernel
theorem dX5_mean_51 : decode cX5_mean 51 = .ok (.dreturn, 1) := by decide +kernel
theorem dX5_digest_0 : decode cX5_digest 0 = .ok (.aload_n 0, 1) := by decide +kernel
theorem dX5_digest_1 : decode cX5_digest 1 = .ok (.iconst 0, 1) := by decide +kernel
theorem dX5_digest_2 : decode cX5_digest 2 = .ok (.putfield 31, 3) := by decide +kernel
theorem dX5_digest_5 : decode cX5_digest 5 = .ok (.ldc2_w 160, 3) := by decide +kernel
theorem dX5_digest_8 : decode cX5_digest 8 = .ok (.lstore_n 1, 1) := by decide +kernel
theorem dX5_digest_9 : decode cX5_digest 9 = .ok (.iconst 0, 1) := by decide +kernel
theorem dX5_digest_10 : decode cX5_digest 10 = .ok (.istore_n 3, 1) := by decide +kernel
theorem dX5_digest_11 : decode cX5_digest 11 = .ok (.iload_n 3, 1) := by decide +kernel
theorem dX5_digest_12 : decode cX5_digest 12 = .ok (.bipush 8, 2) := by decide +kernel
theorem dX5_digest_14 : decode cX5_digest 14 = .ok (.if_icmp .ge 22, 3) := by decide +kernel
theorem dX5_digest_17 : decode cX5_digest 17 = .ok (.lload_n 1, 1) := by decide +kernel
theorem dX5_digest_18 : decode cX5_digest 18 = .ok (.ldc2_w 162, 3) := by decide +kernel
theorem dX5_digest_21 : decode cX5_digest 21 = .ok (.lmul, 1) := by decide +kernel
theorem dX5_digest_22 : decode cX5_digest 22 = .ok (.aload_n 0, 1) := by decide +kernel
theorem dX5_digest_23 : decode cX5_digest 23 = .ok (.iload_n 3, 1) := by decide +kernel
theorem dX5_digest_24 : decode cX5_digest 24 = .ok (.invokevirtual 154, 3) := by decide +kernel
theorem dX5_digest_27 : decode cX5_digest 27 = .ok (.i2l, 1) := by decide +kernel
theorem dX5_digest_28 : decode cX5_digest 28 = .ok (.ladd, 1) := by decide +kernel
theorem dX5_digest_29 : decode cX5_digest 29 = .ok (.lstore_n 1, 1) := by decide +kernel
theorem dX5_digest_30 : decode cX5_digest 30 = .ok (.iinc 3 1, 3) := by decide +kernel
theorem dX5_digest_33 : decode cX5_digest 33 = .ok (.goto (-22), 3) := by decide +kernel
theorem dX5_digest_36 : decode cX5_digest 36 = .ok (.iconst 0, 1) := by decide +kernel
theorem dX5_digest_37 : decode cX5_digest 37 = .ok (.istore_n 3, 1) := by decide +kernel
theorem dX5_digest_38 : decode cX5_digest 38 = .ok (.iload_n 3, 1) := by decide +kernel
theorem dX5_digest_39 : decode cX5_digest 39 = .ok (.aload_n 0, 1) := by decide +kernel
theorem dX5_digest_40 : decode cX5_digest 40 = .ok (.getfield 35, 3) := by decide +kernel
theorem dX5_digest_43 : decode cX5_digest 43 = .ok (.if_icmp .ge 40, 3) := by decide +kernel
theorem dX5_digest_46 : decode cX5_digest 46 = .ok (.iconst 0, 1) := by decide +kernel
theorem dX5_digest_47 : decode cX5_digest 47 = .ok (.istore 4, 2) := by decide +kernel
theorem dX5_digest_49 : decode cX5_digest 49 = .ok (.iload 4, 2) := by decide +kernel
theorem dX5_digest_51 : decode cX5_digest 51 = .ok (.bipush 8, 2) := by decide +kernel
theorem dX5_digest_53 : decode cX5_digest 53 = .ok (.if_icmp .ge 24, 3) := by decide +kernel
theorem dX5_digest_56 : decode cX5_digest 56 = .ok (.lload_n 1, 1) := by decide +kernel
theorem dX5_digest_57 : decode cX5_digest 57 = .ok (.ldc2_w 162, 3) := by decide +kernel
theorem dX5_digest_60 : decode cX5_digest 60 = .ok (.lmul, 1) := by decide +kernel
theorem dX5_digest_61 : decode cX5_digest 61 = .ok (.aload_n 0, 1) := by decide +kernel
theorem dX5_digest_62 : decode cX5_digest 62 = .ok (.iload_n 3, 1) := by decide +kernel
theorem dX5_digest_63 : decode cX5_digest 63 = .ok (.iload 4, 2) := by decide +kernel
theorem dX5_digest_65 : decode cX5_digest 65 = .ok (.invokevirtual 148, 3) := by decide +kernel
theorem dX5_digest_68 : decode cX5_digest 68 = .ok (.i2l, 1) := by decide +kernel
theorem dX5_digest_69 : decode cX5_digest 69 = .ok (.ladd, 1) := by decide +kernel
theorem dX5_digest_70 : decode cX5_digest 70 = .ok (.lstore_n 1, 1) := by decide +kernel
theorem dX5_digest_71 : decode cX5_digest 71 = .ok (.iinc 4 1, 3) := by decide +kernel
theorem dX5_digest_74 : decode cX5_digest 74 = .ok (.goto (-25), 3) := by decide +kernel
theorem dX5_digest_77 : decode cX5_digest 77 = .ok (.iinc 3 1, 3) := by decide +kernel
theorem dX5_digest_80 : decode cX5_digest 80 = .ok (.goto (-42), 3) := by decide +kernel
theorem dX5_digest_83 : decode cX5_digest 83 = .ok (.iconst 0, 1) := by decide +kernel
theorem dX5_digest_84 : decode cX5_digest 84 = .ok (.istore_n 3, 1) := by decide +kernel
theorem dX5_digest_85 : decode cX5_digest 85 = .ok (.iload_n 3, 1) := by decide +kernel
theorem dX5_digest_86 : decode cX5_digest 86 = .ok (.aload_n 0, 1) := by decide +kernel
theorem dX5_digest_87 : decode cX5_digest 87 = .ok (.getfield 42, 3) := by decide +kernel
theorem dX5_digest_90 : decode cX5_digest 90 = .ok (.if_icmp .ge 40, 3) := by decide +kernel
theorem dX5_digest_93 : decode cX5_digest 93 = .ok (.iconst 0, 1) := by decide +kernel
theorem dX5_digest_94 : decode cX5_digest 94 = .ok (.istore 4, 2) := by decide +kernel
theorem dX5_digest_96 : decode cX5_digest 96 = .ok (.iload 4, 2) := by decide +kernel
theorem dX5_digest_98 : decode cX5_digest 98 = .ok (.bipush 7, 2) := by decide +kernel
theorem dX5_digest_100 : decode cX5_digest 100 = .ok (.if_icmp .ge 24, 3) := by decide +kernel
theorem dX5_digest_103 : decode cX5_digest 103 = .ok (.lload_n 1, 1) := by decide +kernel
theorem dX5_digest_104 : decode cX5_digest 104 = .ok (.ldc2_w 162, 3) := by decide +kernel
theorem dX5_digest_107 : decode cX5_digest 107 = .ok (.lmul, 1) := by decide +kernel
theorem dX5_digest_108 : decode cX5_digest 108 = .ok (.aload_n 0, 1) := by decide +kernel
theorem dX5_digest_109 : decode cX5_digest 109 = .ok (.iload_n 3, 1) := by decide +kernel
theorem dX5_digest_110 : decode cX5_digest 110 = .ok (.iload 4, 2) := by decide +kernel
theorem dX5_digest_112 : decode cX5_digest 112 = .ok (.invokevirtual 151, 3) := by decide +kernel
theorem dX5_digest_115 : decode cX5_digest 115 = .ok (.i2l, 1) := by decide +kernel
theorem dX5_digest_116 : decode cX5_digest 116 = .ok (.ladd, 1) := by decide +kernel
theorem dX5_digest_117 : decode cX5_digest 117 = .ok (.lstore_n 1, 1) := by decide +kernel
theorem dX5_digest_118 : decode cX5_digest 118 = .ok (.iinc 4 1, 3) := by decide +kernel
theorem dX5_digest_121 : decode cX5_digest 121 = .ok (.goto (-25), 3) := by decide +kernel
theorem dX5_digest_124 : decode cX5_digest 124 = .ok (.iinc 3 1, 3) := by decide +kernel
theorem dX5_digest_127 : decode cX5_digest 127 = .ok (.goto (-42), 3) := by decide +kernel
theorem dX5_digest_130 : decode cX5_digest 130 = .ok (.iconst 0, 1) := by decide +kernel
theorem dX5_digest_131 : decode cX5_digest 131 = .ok (.istore_n 3, 1) := by decide +kernel
theorem dX5_digest_132 : decode cX5_digest 132 = .ok (.iload_n 3, 1) := by decide +kernel
theorem dX5_digest_133 : decode cX5_digest 133 = .ok (.aload_n 0, 1) := by decide +kernel
theorem dX5_digest_134 : decode cX5_digest 134 = .ok (.getfield 123, 3) := by decide +kernel
theorem dX5_digest_137 : decode cX5_digest 137 = .ok (.if_icmp .ge 39, 3) := by decide +kernel
theorem dX5_digest_140 : decode cX5_digest 140 = .ok (.iconst 0, 1) := by decide +kernel
theorem dX5_digest_141 : decode cX5_digest 141 = .ok (.istore 4, 2) := by decide +kernel
theorem dX5_digest_143 : decode cX5_digest 143 = .ok (.iload 4, 2) := by decide +kernel
theorem dX5_digest_145 : decode cX5_digest 145 = .ok (.iconst 5, 1) := by decide +kernel
theorem dX5_digest_146 : decode cX5_digest 146 = .ok (.if_icmp .ge 24, 3) := by decide +kernel
theorem dX5_digest_149 : decode cX5_digest 149 = .ok (.lload_n 1, 1) := by decide +kernel
theorem dX5_digest_150 : decode cX5_digest 150 = .ok (.ldc2_w 162, 3) := by decide +kernel
theorem dX5_digest_153 : decode cX5_digest 153 = .ok (.lmul, 1) := by decide +kernel
theorem dX5_digest_154 : decode cX5_digest 154 = .ok (.aload_n 0, 1) := by decide +kernel
theorem dX5_digest_155 : decode cX5_digest 155 = .ok (.iload_n 3, 1) := by decide +kernel
theorem dX5_digest_156 : decode cX5_digest 156 = .ok (.iload 4, 2) := by decide +kernel
theorem dX5_digest_158 : decode cX5_digest 158 = .ok (.invokevirtual 126, 3) := by decide +kernel
theorem dX5_digest_161 : decode cX5_digest 161 = .ok (.i2l, 1) := by decide +kernel
theorem dX5_digest_162 : decode cX5_digest 162 = .ok (.ladd, 1) := by decide +kernel
theorem dX5_digest_163 : decode cX5_digest 163 = .ok (.lstore_n 1, 1) := by decide +kernel
theorem dX5_digest_164 : decode cX5_digest 164 = .ok (.iinc 4 1, 3) := by decide +kernel
theorem dX5_digest_167 : decode cX5_digest 167 = .ok (.goto (-24), 3) := by decide +kernel
theorem dX5_digest_170 : decode cX5_digest 170 = .ok (.iinc 3 1, 3) := by decide +kernel
theorem dX5_digest_173 : decode cX5_digest 173 = .ok (.goto (-41), 3) := by decide +kernel
theorem dX5_digest_176 : decode cX5_digest 176 = .ok (.lload_n 1, 1) := by decide +kernel
theorem dX5_digest_177 : decode cX5_digest 177 = .ok (.lreturn, 1) := by decide +kernel
theorem dJ9_max_7cf53_0 : decode cJ9_max_7cf53 0 = .ok (.iload_n 0, 1) := by decide +kernel
theorem dJ9_max_7cf53_1 : decode cJ9_max_7cf53 1 = .ok (.iload_n 1, 1) := by decide +kernel
theorem dJ9_max_7cf53_2 : decode cJ9_max_7cf53 2 = .ok (.if_icmp .lt 7, 3) := by decide +kernel
theorem dJ9_max_7cf53_5 : decode cJ9_max_7cf53 5 = .ok (.iload_n 0, 1) := by decide +kernel
theorem dJ9_max_7cf53_6 : decode cJ9_max_7cf53 6 = .ok (.goto 4, 3) := by decide +kernel
theorem dJ9_max_7cf53_9 : decode cJ9_max_7cf53 9 = .ok (.iload_n 1, 1) := by decide +kernel
theorem dJ9_max_7cf53_10 : decode cJ9_max_7cf53 10 = .ok (.ireturn, 1) := by decide +kernel
theorem dJ9_min_7cf53_0 : decode cJ9_min_7cf53 0 = .ok (.iload_n 0, 1) := by decide +kernel
theorem dJ9_min_7cf53_1 : decode cJ9_min_7cf53 1 = .ok (.iload_n 1, 1) := by decide +kernel
theorem dJ9_min_7cf53_2 : decode cJ9_min_7cf53 2 = .ok (.if_icmp .gt 7, 3) := by decide +kernel
theorem dJ9_min_7cf53_5 : decode cJ9_min_7cf53 5 = .ok (.iload_n 0, 1) := by decide +kernel
theorem dJ9_min_7cf53_6 : decode cJ9_min_7cf53 6 = .ok (.goto 4, 3) := by decide +kernel
theorem dJ9_min_7cf53_9 : decode cJ9_min_7cf53 9 = .ok (.iload_n 1, 1) := by decide +kernel
theorem dJ9_min_7cf53_10 : decode cJ9_min_7cf53 10 = .ok (.ireturn, 1) := by decide +kernel
theorem dL_bowl_0 : decode cL_bowl 0 = .ok (.aload_n 2, 1) := by decide +kernel
theorem dL_bowl_1 : decode cL_bowl 1 = .ok (.iconst 0, 1) := by decide +kernel
theorem dL_bowl_2 : decode cL_bowl 2 = .ok (.aload_n 0, 1) := by decide +kernel
theorem dL_bowl_3 : decode cL_bowl 3 = .ok (.iload_n 1, 1) := by decide +kernel
theorem dL_bowl_4 : decode cL_bowl 4 = .ok (.invokevirtual 7, 3) := by decide +kernel
theorem dL_bowl_7 : decode cL_bowl 7 = .ok (.i2l, 1) := by decide +kernel
theorem dL_bowl_8 : decode cL_bowl 8 = .ok (.lastore, 1) := by decide +kernel
theorem dL_bowl_9 : decode cL_bowl 9 = .ok (.goto 9, 3) := by decide +kernel
theorem dL_bowl_12 : decode cL_bowl 12 = .ok (.astore_n 3, 1) := by decide +kernel
theorem dL_bowl_13 : decode cL_bowl 13 = .ok (.iconst 1, 1) := by decide +kernel
theorem dL_bowl_14 : decode cL_bowl 14 = .ok (.ireturn, 1) := by decide +kernel
theorem dL_bowl_15 : decode cL_bowl 15 = .ok (.astore_n 3, 1) := by decide +kernel
theorem dL_bowl_16 : decode cL_bowl 16 = .ok (.iconst 2, 1) := by decide +kernel
theorem dL_bowl_17 : decode cL_bowl 17 = .ok (.ireturn, 1) := by decide +kernel
theorem dL_bowl_18 : decode cL_bowl 18 = .ok (.iconst 0, 1) := by decide +kernel
theorem dL_bowl_19 : decode cL_bowl 19 = .ok (.ireturn, 1) := by decide +kernel
theorem dL_warm_0 : decode cL_warm 0 = .ok (.aload 4, 2) := by decide +kernel
theorem dL_warm_2 : decode cL_warm 2 = .ok (.iconst 0, 1) := by decide +kernel
theorem dL_warm_3 : decode cL_warm 3 = .ok (.aload_n 0, 1) := by decide +kernel
theorem dL_warm_4 : decode cL_warm 4 = .ok (.iload_n 1, 1) := by decide +kernel
theorem dL_warm_5 : decode cL_warm 5 = .ok (.iload_n 2, 1) := by decide +kernel
theorem dL_warm_6 : decode cL_warm 6 = .ok (.iload_n 3, 1) := by decide +kernel
theorem dL_warm_7 : decode cL_warm 7 = .ok (.invokevirtual 17, 3) := by decide +kernel
theorem dL_warm_10 : decode cL_warm 10 = .ok (.i2l, 1) := by decide +kernel
theorem dL_warm_11 : decode cL_warm 11 = .ok (.lastore, 1) := by decide +kernel
theorem dL_warm_12 : decode cL_warm 12 = .ok (.goto 11, 3) := by decide +kernel
theorem dL_warm_15 : decode cL_warm 15 = .ok (.astore 5, 2) := by decide +kernel
theorem dL_warm_17 : decode cL_warm 17 = .ok (.iconst 1, 1) := by decide +kernel
theorem dL_warm_18 : decode cL_warm 18 = .ok (.ireturn, 1) := by decide +kernel
theorem dL_warm_19 : decode cL_warm 19 = .ok (.astore 5, 2) := by decide +kernel
theorem dL_warm_21 : decode cL_warm 21 = .ok (.iconst 2, 1) := by decide +kernel
theorem dL_warm_22 : decode cL_warm 22 = .ok (.ireturn, 1) := by decide +kernel
theorem dL_warm_23 : decode cL_warm 23 = .ok (.iconst 0, 1) := by decide +kernel
theorem dL_warm_24 : decode cL_warm 24 = .ok (.ireturn, 1) := by decide +kernel
theorem dL_seed_0 : decode cL_seed 0 = .ok (.aload_n 3, 1) := by decide +kernel
theorem dL_seed_1 : decode cL_seed 1 = .ok (.iconst 0, 1) := by decide +kernel
theorem dL_seed_2 : decode cL_seed 2 = .ok (.aload_n 0, 1) := by decide +kernel
theorem dL_seed_3 : decode cL_seed 3 = .ok (.iload_n 1, 1) := by decide +kernel
theorem dL_seed_4 : decode cL_seed 4 = .ok (.iload_n 2, 1) := by decide +kernel
theorem dL_seed_5 : decode cL_seed 5 = .ok (.invokevirtual 23, 3) := by decide +kernel
theorem dL_seed_8 : decode cL_seed 8 = .ok (.i2l, 1) := by decide +kernel
theorem dL_seed_9 : decode cL_seed 9 = .ok (.lastore, 1) := by decide +kernel
theorem dL_seed_10 : decode cL_seed 10 = .ok (.goto 11, 3) := by decide +kernel
theorem dL_seed_13 : decode cL_seed 13 = .ok (.astore 4, 2) := by decide +kernel
theorem dL_seed_15 : decode cL_seed 15 = .ok (.iconst 1, 1) := by decide +kernel
theorem dL_seed_16 : decode cL_seed 16 = .ok (.ireturn, 1) := by decide +kernel
theorem dL_seed_17 : decode cL_seed 17 = .ok (.astore 4, 2) := by decide +kernel
theorem dL_seed_19 : decode cL_seed 19 = .ok (.iconst 2, 1) := by decide +kernel
theorem dL_seed_20 : decode cL_seed 20 = .ok (.ireturn, 1) := by decide +kernel
theorem dL_seed_21 : decode cL_seed 21 = .ok (.iconst 0, 1) := by decide +kernel
theorem dL_seed_22 : decode cL_seed 22 = .ok (.ireturn, 1) := by decide +kernel
theorem dL_pour_0 : decode cL_pour 0 = .ok (.aload_n 3, 1) := by decide +kernel
theorem dL_pour_1 : decode cL_pour 1 = .ok (.iconst 0, 1) := by decide +kernel
theorem dL_pour_2 : decode cL_pour 2 = .ok (.aload_n 0, 1) := by decide +kernel
theorem dL_pour_3 : decode cL_pour 3 = .ok (.iload_n 1, 1) := by decide +kernel
theorem dL_pour_4 : decode cL_pour 4 = .ok (.iload_n 2, 1) := by decide +kernel
theorem dL_pour_5 : decode cL_pour 5 = .ok (.invokevirtual 27, 3) := by decide +kernel
theorem dL_pour_8 : decode cL_pour 8 = .ok (.i2l, 1) := by decide +kernel
theorem dL_pour_9 : decode cL_pour 9 = .ok (.lastore, 1) := by decide +kernel
theorem dL_pour_10 : decode cL_pour 10 = .ok (.goto 11, 3) := by decide +kernel
theorem dL_pour_13 : decode cL_pour 13 = .ok (.astore 4, 2) := by decide +kernel
theorem dL_pour_15 : decode cL_pour 15 = .ok (.iconst 1, 1) := by decide +kernel
theorem dL_pour_16 : decode cL_pour 16 = .ok (.ireturn, 1) := by decide +kernel
theorem dL_pour_17 : decode cL_pour 17 = .ok (.astore 4, 2) := by decide +kernel
theorem dL_pour_19 : decode cL_pour 19 = .ok (.iconst 2, 1) := by decide +kernel
theorem dL_pour_20 : decode cL_pour 20 = .ok (.ireturn, 1) := by decide +kernel
theorem dL_pour_21 : decode cL_pour 21 = .ok (.iconst 0, 1) := by decide +kernel
theorem dL_pour_22 : decode cL_pour 22 = .ok (.ireturn, 1) := by decide +kernel
theorem dL_cast_0 : decode cL_cast 0 = .ok (.aload 4, 2) := by decide +kernel
theorem dL_cast_2 : decode cL_cast 2 = .ok (.iconst 0, 1) := by decide +kernel
theorem dL_cast_3 : decode cL_cast 3 = .ok (.aload_n 0, 1) := by decide +kernel
theorem dL_cast_4 : decode cL_cast 4 = .ok (.iload_n 1, 1) := by decide +kernel
theorem dL_cast_5 : decode cL_cast 5 = .ok (.iload_n 2, 1) := by decide +kernel
theorem dL_cast_6 : decode cL_cast 6 = .ok (.iload_n 3, 1) := by decide +kernel
theorem dL_cast_7 : decode cL_cast 7 = .ok (.invokevirtual 30, 3) := by decide +kernel
theorem dL_cast_10 : decode cL_cast 10 = .ok (.i2l, 1) := by decide +kernel
theorem dL_cast_11 : decode cL_cast 11 = .ok (.lastore, 1) := by decide +kernel
theorem dL_cast_12 : decode cL_cast 12 = .ok (.goto 15, 3) := by decide +kernel
theorem dL_cast_15 : decode cL_cast 15 = .ok (.astore 5, 2) := by decide +kernel
theorem dL_cast_17 : decode cL_cast 17 = .ok (.iconst 1, 1) := by decide +kernel
theorem dL_cast_18 : decode cL_cast 18 = .ok (.ireturn, 1) := by decide +kernel
theorem dL_cast_19 : decode cL_cast 19 = .ok (.astore 5, 2) := by decide +kernel
theorem dL_cast_21 : decode cL_cast 21 = .ok (.iconst 2, 1) := by decide +kernel
theorem dL_cast_22 : decode cL_cast 22 = .ok (.ireturn, 1) := by decide +kernel
theorem dL_cast_23 : decode cL_cast 23 = .ok (.astore 5, 2) := by decide +kernel
theorem dL_cast_25 : decode cL_cast 25 = .ok (.iconst 3, 1) := by decide +kernel
theorem dL_cast_26 : decode cL_cast 26 = .ok (.ireturn, 1) := by decide +kernel
theorem dL_cast_27 : decode cL_cast 27 = .ok (.iconst 0, 1) := by decide +kernel
theorem dL_cast_28 : decode cL_cast 28 = .ok (.ireturn, 1) := by decide +kernel
theorem dL_polish_0 : decode cL_polish 0 = .ok (.aload_n 2, 1) := by decide +kernel
theorem dL_polish_1 : decode cL_polish 1 = .ok (.iconst 0, 1) := by decide +kernel
theorem dL_polish_2 : decode cL_polish 2 = .ok (.aload_n 0, 1) := by decide +kernel
theorem dL_polish_3 : decode cL_polish 3 = .ok (.iload_n 1, 1) := by decide +kernel
theorem dL_polish_4 : decode cL_polish 4 = .ok (.invokevirtual 33, 3) := by decide +kernel
theorem dL_polish_7 : decode cL_polish 7 = .ok (.i2l, 1) := by decide +kernel
theorem dL_polish_8 : decode cL_polish 8 = .ok (.lastore, 1) := by decide +kernel
theorem dL_polish_9 : decode cL_polish 9 = .ok (.goto 6, 3) := by decide +kernel
theorem dL_polish_12 : decode cL_polish 12 = .ok (.astore_n 3, 1) := by decide +kernel
theorem dL_polish_13 : decode cL_polish 13 = .ok (.iconst 1, 1) := by decide +kernel
theorem dL_polish_14 : decode cL_polish 14 = .ok (.ireturn, 1) := by decide +kernel
theorem dL_polish_15 : decode cL_polish 15 = .ok (.iconst 0, 1) := by decide +kernel
theorem dL_polish_16 : decode cL_polish 16 = .ok (.ireturn, 1) := by decide +kernel
theorem dL_split_0 : decode cL_split 0 = .ok (.aload 4, 2) := by decide +kernel
theorem dL_split_2 : decode cL_split 2 = .ok (.iconst 0, 1) := by decide +kernel
theorem dL_split_3 : decode cL_split 3 = .ok (.aload_n 0, 1) := by decide +kernel
theorem dL_split_4 : decode cL_split 4 = .ok (.iload_n 1, 1) := by decide +kernel
theorem dL_split_5 : decode cL_split 5 = .ok (.iload_n 2, 1) := by decide +kernel
theorem dL_split_6 : decode cL_split 6 = .ok (.iload_n 3, 1) := by decide +kernel
theorem dL_split_7 : decode cL_split 7 = .ok (.invokevirtual 36, 3) := by decide +kernel
theorem dL_split_10 : decode cL_split 10 = .ok (.i2l, 1) := by decide +kernel
theorem dL_split_11 : decode cL_split 11 = .ok (.lastore, 1) := by decide +kernel
theorem dL_split_12 : decode cL_split 12 = .ok (.goto 11, 3) := by decide +kernel
theorem dL_split_15 : decode cL_split 15 = .ok (.astore 5, 2) := by decide +kernel
theorem dL_split_17 : decode cL_split 17 = .ok (.iconst 1, 1) := by decide +kernel
theorem dL_split_18 : decode cL_split 18 = .ok (.ireturn, 1) := by decide +kernel
theorem dL_split_19 : decode cL_split 19 = .ok (.astore 5, 2) := by decide +kernel
theorem dL_split_21 : decode cL_split 21 = .ok (.iconst 2, 1) := by decide +kernel
theorem dL_split_22 : decode cL_split 22 = .ok (.ireturn, 1) := by decide +kernel
theorem dL_split_23 : decode cL_split 23 = .ok (.iconst 0, 1) := by decide +kernel
theorem dL_split_24 : decode cL_split 24 = .ok (.ireturn, 1) := by decide +kernel
theorem dL_melt_0 : decode cL_melt 0 = .ok (.aload_n 3, 1) := by decide +kernel
theorem dL_melt_1 : decode cL_melt 1 = .ok (.iconst 0, 1) := by decide +kernel
theorem dL_melt_2 : decode cL_melt 2 = .ok (.aload_n 0, 1) := by decide +kernel
theorem dL_melt_3 : decode cL_melt 3 = .ok (.iload_n 1, 1) := by decide +kernel
theorem dL_melt_4 : decode cL_melt 4 = .ok (.iload_n 2, 1) := by decide +kernel
theorem dL_melt_5 : decode cL_melt 5 = .ok (.invokevirtual 40, 3) := by decide +kernel
theorem dL_melt_8 : decode cL_melt 8 = .ok (.i2l, 1) := by decide +kernel
theorem dL_melt_9 : decode cL_melt 9 = .ok (.lastore, 1) := by decide +kernel
theorem dL_melt_10 : decode cL_melt 10 = .ok (.goto 11, 3) := by decide +kernel
theorem dL_melt_13 : decode cL_melt 13 = .ok (.astore 4, 2) := by decide +kernel
theorem dL_melt_15 : decode cL_melt 15 = .ok (.iconst 1, 1) := by decide +kernel
theorem dL_melt_16 : decode cL_melt 16 = .ok (.ireturn, 1) := by decide +kernel
theorem dL_melt_17 : decode cL_melt 17 = .ok (.astore 4, 2) := by decide +kernel
theorem dL_melt_19 : decode cL_melt 19 = .ok (.iconst 2, 1) := by decide +kernel
theorem dL_melt_20 : decode cL_melt 20 = .ok (.ireturn, 1) := by decide +kernel
theorem dL_melt_21 : decode cL_melt 21 = .ok (.iconst 0, 1) := by decide +kernel
theorem dL_melt_22 : decode cL_melt 22 = .ok (.ireturn, 1) := by decide +kernel
theorem dL_box_0 : decode cL_box 0 = .ok (.aload_n 3, 1) := by decide +kernel
theorem dL_box_1 : decode cL_box 1 = .ok (.iconst 0, 1) := by decide +kernel
theorem dL_box_2 : decode cL_box 2 = .ok (.aload_n 0, 1) := by decide +kernel
theorem dL_box_3 : decode cL_box 3 = .ok (.iload_n 1, 1) := by decide +kernel
theorem dL_box_4 : decode cL_box 4 = .ok (.iload_n 2, 1) := by decide +kernel
theorem dL_box_5 : decode cL_box 5 = .ok (.invokevirtual 43, 3) := by decide +kernel
theorem dL_box_8 : decode cL_box 8 = .ok (.i2l, 1) := by decide +kernel
theorem dL_box_9 : decode cL_box 9 = .ok (.lastore, 1) := by decide +kernel
theorem dL_box_10 : decode cL_box 10 = .ok (.goto 11, 3) := by decide +kernel
theorem dL_box_13 : decode cL_box 13 = .ok (.astore 4, 2) := by decide +kernel
theorem dL_box_15 : decode cL_box 15 = .ok (.iconst 1, 1) := by decide +kernel
theorem dL_box_16 : decode cL_box 16 = .ok (.ireturn, 1) := by decide +kernel
theorem dL_box_17 : decode cL_box 17 = .ok (.astore 4, 2) := by decide +kernel
theorem dL_box_19 : decode cL_box 19 = .ok (.iconst 2, 1) := by decide +kernel
theorem dL_box_20 : decode cL_box 20 = .ok (.ireturn, 1) := by decide +kernel
theorem dL_box_21 : decode cL_box 21 = .ok (.iconst 0, 1) := by decide +kernel
theorem dL_box_22 : decode cL_box 22 = .ok (.ireturn, 1) := by decide +kernel
theorem dL_pass_0 : decode cL_pass 0 = .ok (.aload_n 3, 1) := by decide +kernel
theorem dL_pass_1 : decode cL_pass 1 = .ok (.iconst 0, 1) := by decide +kernel
theorem dL_pass_2 : decode cL_pass 2 = .ok (.aload_n 0, 1) := by decide +kernel
theorem dL_pass_3 : decode cL_pass 3 = .ok (.iload_n 1, 1) := by decide +kernel
theorem dL_pass_4 : decode cL_pass 4 = .ok (.iload_n 2, 1) := by decide +kernel
theorem dL_pass_5 : decode cL_pass 5 = .ok (.invokevirtual 46, 3) := by decide +kernel
theorem dL_pass_8 : decode cL_pass 8 = .ok (.i2l, 1) := by decide +kernel
theorem dL_pass_9 : decode cL_pass 9 = .ok (.lastore, 1) := by decide +kernel
theorem dL_pass_10 : decode cL_pass 10 = .ok (.goto 7, 3) := by decide +kernel
theorem dL_pass_13 : decode cL_pass 13 = .ok (.astore 4, 2) := by decide +kernel
theorem dL_pass_15 : decode cL_pass 15 = .ok (.iconst 1, 1) := by decide +kernel
theorem dL_pass_16 : decode cL_pass 16 = .ok (.ireturn, 1) := by decide +kernel
theorem dL_pass_17 : decode cL_pass 17 = .ok (.iconst 0, 1) := by decide +kernel
theorem dL_pass_18 : decode cL_pass 18 = .ok (.ireturn, 1) := by decide +kernel
theorem dL_told_0 : decode cL_told 0 = .ok (.aload_n 3, 1) := by decide +kernel
theorem dL_told_1 : decode cL_told 1 = .ok (.iconst 0, 1) := by decide +kernel
theorem dL_told_2 : decode cL_told 2 = .ok (.aload_n 0, 1) := by decide +kernel
theorem dL_told_3 : decode cL_told 3 = .ok (.iload_n 1, 1) := by decide +kernel
theorem dL_told_4 : decode cL_told 4 = .ok (.iload_n 2, 1) := by decide +kernel
theorem dL_told_5 : decode cL_told 5 = .ok (.invokevirtual 49, 3) := by decide +kernel
theorem dL_told_8 : decode cL_told 8 = .ok (.i2l, 1) := by decide +kernel
theorem dL_told_9 : decode cL_told 9 = .ok (.lastore, 1) := by decide +kernel
theorem dL_told_10 : decode cL_told 10 = .ok (.goto 7, 3) := by decide +kernel
theorem dL_told_13 : decode cL_told 13 = .ok (.astore 4, 2) := by decide +kernel
theorem dL_told_15 : decode cL_told 15 = .ok (.iconst 1, 1) := by decide +kernel
theorem dL_told_16 : decode cL_told 16 = .ok (.ireturn, 1) := by decide +kernel
theorem dL_told_17 : decode cL_told 17 = .ok (.iconst 0, 1) := by decide +kernel
theorem dL_told_18 : decode cL_told 18 = .ok (.ireturn, 1) := by decide +kernel
theorem dL_about_0 : decode cL_about 0 = .ok (.aload_n 3, 1) := by decide +kernel
theorem dL_about_1 : decode cL_about 1 = .ok (.iconst 0, 1) := by decide +kernel
theorem dL_about_2 : decode cL_about 2 = .ok (.aload_n 0, 1) := by decide +kernel
theorem dL_about_3 : decode cL_about 3 = .ok (.iload_n 1, 1) := by decide +kernel
theorem dL_about_4 : decode cL_about 4 = .ok (.iload_n 2, 1) := by decide +kernel
theorem dL_about_5 : decode cL_about 5 = .ok (.invokevirtual 52, 3) := by decide +kernel
theorem dL_about_8 : decode cL_about 8 = .ok (.i2l, 1) := by decide +kernel
theorem dL_about_9 : decode cL_about 9 = .ok (.lastore, 1) := by decide +kernel
theorem dL_about_10 : decode cL_about 10 = .ok (.goto 7, 3) := by decide +kernel
theorem dL_about_13 : decode cL_about 13 = .ok (.astore 4, 2) := by decide +kernel
theorem dL_about_15 : decode cL_about 15 = .ok (.iconst 1, 1) := by decide +kernel
theorem dL_about_16 : decode cL_about 16 = .ok (.ireturn, 1) := by decide +kernel
theorem dL_about_17 : decode cL_about 17 = .ok (.iconst 0, 1) := by decide +kernel
theorem dL_about_18 : decode cL_about 18 = .ok (.ireturn, 1) := by decide +kernel
theorem dL_order_0 : decode cL_order 0 = .ok (.aload_n 3, 1) := by decide +kernel
theorem dL_order_1 : decode cL_order 1 = .ok (.iconst 0, 1) := by decide +kernel
theorem dL_order_2 : decode cL_order 2 = .ok (.aload_n 0, 1) := by decide +kernel
theorem dL_order_3 : decode cL_order 3 = .ok (.iload_n 1, 1) := by decide +kernel
theorem dL_order_4 : decode cL_order 4 = .ok (.iload_n 2, 1) := by decide +kernel
theorem dL_order_5 : decode cL_order 5 = .ok (.invokevirtual 55, 3) := by decide +kernel
theorem dL_order_8 : decode cL_order 8 = .ok (.i2l, 1) := by decide +kernel
theorem dL_order_9 : decode cL_order 9 = .ok (.lastore, 1) := by decide +kernel
theorem dL_order_10 : decode cL_order 10 = .ok (.goto 7, 3) := by decide +kernel
theorem dL_order_13 : decode cL_order 13 = .ok (.astore 4, 2) := by decide +kernel
theorem dL_order_15 : decode cL_order 15 = .ok (.iconst 1, 1) := by decide +kernel
theorem dL_order_16 : decode cL_order 16 = .ok (.ireturn, 1) := by decide +kernel
theorem dL_order_17 : decode cL_order 17 = .ok (.iconst 0, 1) := by decide +kernel
theorem dL_order_18 : decode cL_order 18 = .ok (.ireturn, 1) := by decide +kernel
theorem dL_count_0 : decode cL_count 0 = .ok (.aload_n 2, 1) := by decide +kernel
theorem dL_count_1 : decode cL_count 1 = .ok (.iconst 0, 1) := by decide +kernel
theorem dL_count_2 : decode cL_count 2 = .ok (.aload_n 0, 1) := by decide +kernel
theorem dL_count_3 : decode cL_count 3 = .ok (.iload_n 1, 1) := by decide +kernel
theorem dL_count_4 : decode cL_count 4 = .ok (.invokevirtual 58, 3) := by decide +kernel
theorem dL_count_7 : decode cL_count 7 = .ok (.i2l, 1) := by decide +kernel
theorem dL_count_8 : decode cL_count 8 = .ok (.lastore, 1) := by decide +kernel
theorem dL_count_9 : decode cL_count 9 = .ok (.goto 6, 3) := by decide +kernel
theorem dL_count_12 : decode cL_count 12 = .ok (.astore_n 3, 1) := by decide +kernel
theorem dL_count_13 : decode cL_count 13 = .ok (.iconst 1, 1) := by decide +kernel
theorem dL_count_14 : decode cL_count 14 = .ok (.ireturn, 1) := by decide +kernel
theorem dL_count_15 : decode cL_count 15 = .ok (.iconst 0, 1) := by decide +kernel
theorem dL_count_16 : decode cL_count 16 = .ok (.ireturn, 1) := by decide +kernel
theorem dL_would_0 : decode cL_would 0 = .ok (.aload 4, 2) := by decide +kernel
theorem dL_would_2 : decode cL_would 2 = .ok (.iconst 0, 1) := by decide +kernel
theorem dL_would_3 : decode cL_would 3 = .ok (.aload_n 0, 1) := by decide +kernel
theorem dL_would_4 : decode cL_would 4 = .ok (.iload_n 1, 1) := by decide +kernel
theorem dL_would_5 : decode cL_would 5 = .ok (.iload_n 2, 1) := by decide +kernel
theorem dL_would_6 : decode cL_would 6 = .ok (.iload_n 3, 1) := by decide +kernel
theorem dL_would_7 : decode cL_would 7 = .ok (.invokevirtual 61, 3) := by decide +kernel
theorem dL_would_10 : decode cL_would 10 = .ok (.i2l, 1) := by decide +kernel
theorem dL_would_11 : decode cL_would 11 = .ok (.lastore, 1) := by decide +kernel
theorem dL_would_12 : decode cL_would 12 = .ok (.goto 11, 3) := by decide +kernel
theorem dL_would_15 : decode cL_would 15 = .ok (.astore 5, 2) := by decide +kernel
theorem dL_would_17 : decode cL_would 17 = .ok (.iconst 1, 1) := by decide +kernel
theorem dL_would_18 : decode cL_would 18 = .ok (.ireturn, 1) := by decide +kernel
theorem dL_would_19 : decode cL_would 19 = .ok (.astore 5, 2) := by decide +kernel
theorem dL_would_21 : decode cL_would 21 = .ok (.iconst 2, 1) := by decide +kernel
theorem dL_would_22 : decode cL_would 22 = .ok (.ireturn, 1) := by decide +kernel
theorem dL_would_23 : decode cL_would 23 = .ok (.iconst 0, 1) := by decide +kernel
theorem dL_would_24 : decode cL_would 24 = .ok (.ireturn, 1) := by decide +kernel
theorem dL_best_0 : decode cL_best 0 = .ok (.aload 4, 2) := by decide +kernel
theorem dL_best_2 : decode cL_best 2 = .ok (.iconst 0, 1) := by decide +kernel
theorem dL_best_3 : decode cL_best 3 = .ok (.aload_n 0, 1) := by decide +kernel
theorem dL_best_4 : decode cL_best 4 = .ok (.iload_n 1, 1) := by decide +kernel
theorem dL_best_5 : decode cL_best 5 = .ok (.iload_n 2, 1) := by decide +kernel
theorem dL_best_6 : decode cL_best 6 = .ok (.iload_n 3, 1) := by decide +kernel
theorem dL_best_7 : decode cL_best 7 = .ok (.invokevirtual 64, 3) := by decide +kernel
theorem dL_best_10 : decode cL_best 10 = .ok (.i2l, 1) := by decide +kernel
theorem dL_best_11 : decode cL_best 11 = .ok (.lastore, 1) := by decide +kernel
theorem dL_best_12 : decode cL_best 12 = .ok (.goto 11, 3) := by decide +kernel
theorem dL_best_15 : decode cL_best 15 = .ok (.astore 5, 2) := by decide +kernel
theorem dL_best_17 : decode cL_best 17 = .ok (.iconst 1, 1) := by decide +kernel
theorem dL_best_18 : decode cL_best 18 = .ok (.ireturn, 1) := by decide +kernel
theorem dL_best_19 : decode cL_best 19 = .ok (.astore 5, 2) := by decide +kernel
theorem dL_best_21 : decode cL_best 21 = .ok (.iconst 2, 1) := by decide +kernel
theorem dL_best_22 : decode cL_best 22 = .ok (.ireturn, 1) := by decide +kernel
theorem dL_best_23 : decode cL_best 23 = .ok (.iconst 0, 1) := by decide +kernel
theorem dL_best_24 : decode cL_best 24 = .ok (.ireturn, 1) := by decide +kernel
theorem dL_until_0 : decode cL_until 0 = .ok (.aload_n 3, 1) := by decide +kernel
theorem dL_until_1 : decode cL_until 1 = .ok (.iconst 0, 1) := by decide +kernel
theorem dL_until_2 : decode cL_until 2 = .ok (.aload_n 0, 1) := by decide +kernel
theorem dL_until_3 : decode cL_until 3 = .ok (.iload_n 1, 1) := by decide +kernel
theorem dL_until_4 : decode cL_until 4 = .ok (.iload_n 2, 1) := by decide +kernel
theorem dL_until_5 : decode cL_until 5 = .ok (.invokevirtual 67, 3) := by decide +kernel
theorem dL_until_8 : decode cL_until 8 = .ok (.i2l, 1) := by decide +kernel
theorem dL_until_9 : decode cL_until 9 = .ok (.lastore, 1) := by decide +kernel
theorem dL_until_10 : decode cL_until 10 = .ok (.goto 11, 3) := by decide +kernel
theorem dL_until_13 : decode cL_until 13 = .ok (.astore 4, 2) := by decide +kernel
theorem dL_until_15 : decode cL_until 15 = .ok (.iconst 1, 1) := by decide +kernel
theorem dL_until_16 : decode cL_until 16 = .ok (.ireturn, 1) := by decide +kernel
theorem dL_until_17 : decode cL_until 17 = .ok (.astore 4, 2) := by decide +kernel
theorem dL_until_19 : decode cL_until 19 = .ok (.iconst 2, 1) := by decide +kernel
theorem dL_until_20 : decode cL_until 20 = .ok (.ireturn, 1) := by decide +kernel
theorem dL_until_21 : decode cL_until 21 = .ok (.iconst 0, 1) := by decide +kernel
theorem dL_until_22 : decode cL_until 22 = .ok (.ireturn, 1) := by decide +kernel
theorem dL_law_0 : decode cL_law 0 = .ok (.new 8, 3) := by decide +kernel
theorem dL_law_3 : decode cL_law 3 = .ok (.dup, 1) := by decide +kernel
theorem dL_law_4 : decode cL_law 4 = .ok (.invokespecial 70, 3) := by decide +kernel
theorem dL_law_7 : decode cL_law 7 = .ok (.astore_n 1, 1) := by decide +kernel
theorem dL_law_8 : decode cL_law 8 = .ok (.new 71, 3) := by decide +kernel
theorem dL_law_11 : decode cL_law 11 = .ok (.dup, 1) := by decide +kernel
theorem dL_law_12 : decode cL_law 12 = .ok (.invokespecial 73, 3) := by decide +kernel
theorem dL_law_15 : decode cL_law 15 = .ok (.astore_n 2, 1) := by decide +kernel
theorem dL_law_16 : decode cL_law 16 = .ok (.iconst 1, 1) := by decide +kernel
theorem dL_law_17 : decode cL_law 17 = .ok (.newarray .long, 2) := by decide +kernel
theorem dL_law_19 : decode cL_law 19 = .ok (.astore_n 3, 1) := by decide +kernel
theorem dL_law_20 : decode cL_law 20 = .ok (.iconst 0, 1) := by decide +kernel
theorem dL_law_21 : decode cL_law 21 = .ok (.istore 4, 2) := by decide +kernel
theorem dL_law_23 : decode cL_law 23 = .ok (.iload 4, 2) := by decide +kernel
theorem dL_law_25 : decode cL_law 25 = .ok (.aload_n 0, 1) := by decide +kernel
theorem dL_law_26 : decode cL_law 26 = .ok (.arraylength, 1) := by decide +kernel
theorem dL_law_27 : decode cL_law 27 = .ok (.iconst 4, 1) := by decide +kernel
theorem dL_law_28 : decode cL_law 28 = .ok (.isub, 1) := by decide +kernel
theorem dL_law_29 : decode cL_law 29 = .ok (.if_icmp .gt 1390, 3) := by decide +kernel
theorem dL_law_32 : decode cL_law 32 = .ok (.aload_n 0, 1) := by decide +kernel
theorem dL_law_33 : decode cL_law 33 = .ok (.iload 4, 2) := by decide +kernel
theorem dL_law_35 : decode cL_law 35 = .ok (.iaload, 1) := by decide +kernel
theorem dL_law_36 : decode cL_law 36 = .ok (.bipush 31, 2) := by decide +kernel
theorem dL_law_38 : decode cL_law 38 = .ok (.iand, 1) := by decide +kernel
theorem dL_law_39 : decode cL_law 39 = .ok (.tableswitch 1374 0 20 #[97, 153, 233, 301, 369, 449, 505, 601, 669, 737, 750, 818, 886, 954, 1022, 1078, 1158, 1238, 1306, 1319, 1360], 97) := by decide +kernel
theorem dL_law_136 : decode cL_law 136 = .ok (.aload_n 1, 1) := by decide +kernel
theorem dL_law_137 : decode cL_law 137 = .ok (.aload_n 0, 1) := by decide +kernel
theorem dL_law_138 : decode cL_law 138 = .ok (.iload 4, 2) := by decide +kernel
theorem dL_law_140 : decode cL_law 140 = .ok (.iconst 1, 1) := by decide +kernel
theorem dL_law_141 : decode cL_law 141 = .ok (.iadd, 1) := by decide +kernel
theorem dL_law_142 : decode cL_law 142 = .ok (.iaload, 1) := by decide +kernel
theorem dL_law_143 : decode cL_law 143 = .ok (.aload_n 3, 1) := by decide +kernel
theorem dL_law_144 : decode cL_law 144 = .ok (.invokestatic 74, 3) := by decide +kernel
theorem dL_law_147 : decode cL_law 147 = .ok (.istore 5, 2) := by decide +kernel
theorem dL_law_149 : decode cL_law 149 = .ok (.aload_n 2, 1) := by decide +kernel
theorem dL_law_150 : decode cL_law 150 = .ok (.aload_n 0, 1) := by decide +kernel
theorem dL_law_151 : decode cL_law 151 = .ok (.iload 4, 2) := by decide +kernel
theorem dL_law_153 : decode cL_law 153 = .ok (.iconst 1, 1) := by decide +kernel
theorem dL_law_154 : decode cL_law 154 = .ok (.iadd, 1) := by decide +kernel
theorem dL_law_155 : decode cL_law 155 = .ok (.iaload, 1) := by decide +kernel
theorem dL_law_156 : decode cL_law 156 = .ok (.invokevirtual 79, 3) := by decide +kernel
theorem dL_law_159 : decode cL_law 159 = .ok (.istore 6, 2) := by decide +kernel
theorem dL_law_161 : decode cL_law 161 = .ok (.aload_n 2, 1) := by decide +kernel
theorem dL_law_162 : decode cL_law 162 = .ok (.invokevirtual 80, 3) := by decide +kernel
theorem dL_law_165 : decode cL_law 165 = .ok (.iload 5, 2) := by decide +kernel
theorem dL_law_167 : decode cL_law 167 = .ok (.if_icmp .eq 5, 3) := by decide +kernel
theorem dL_law_170 : decode cL_law 170 = .ok (.iconst 0, 1) := by decide +kernel
theorem dL_law_171 : decode cL_law 171 = .ok (.ireturn, 1) := by decide +kernel
theorem dL_law_172 : decode cL_law 172 = .ok (.iload 5, 2) := by decide +kernel
theorem dL_law_174 : decode cL_law 174 = .ok (.ifCond .ne 15, 3) := by decide +kernel
theorem dL_law_177 : decode cL_law 177 = .ok (.aload_n 3, 1) := by decide +kernel
theorem dL_law_178 : decode cL_law 178 = .ok (.iconst 0, 1) := by decide +kernel
theorem dL_law_179 : decode cL_law 179 = .ok (.laload, 1) := by decide +kernel
theorem dL_law_180 : decode cL_law 180 = .ok (.iload 6, 2) := by decide +kernel
theorem dL_law_182 : decode cL_law 182 = .ok (.i2l, 1) := by decide +kernel
theorem dL_law_183 : decode cL_law 183 = .ok (.lcmp, 1) := by decide +kernel
theorem dL_law_184 : decode cL_law 184 = .ok (.ifCond .eq 5, 3) := by decide +kernel
theorem dL_law_187 : decode cL_law 187 = .ok (.iconst 0, 1) := by decide +kernel
theorem dL_law_188 : decode cL_law 188 = .ok (.ireturn, 1) := by decide +kernel
theorem dL_law_189 : decode cL_law 189 = .ok (.goto 1224, 3) := by decide +kernel
theorem dL_law_192 : decode cL_law 192 = .ok (.aload_n 1, 1) := by decide +kernel
theorem dL_law_193 : decode cL_law 193 = .ok (.aload_n 0, 1) := by decide +kernel
theorem dL_law_194 : decode cL_law 194 = .ok (.iload 4, 2) := by decide +kernel
theorem dL_law_196 : decode cL_law 196 = .ok (.iconst 1, 1) := by decide +kernel
theorem dL_law_197 : decode cL_law 197 = .ok (.iadd, 1) := by decide +kernel
theorem dL_law_198 : decode cL_law 198 = .ok (.iaload, 1) := by decide +kernel
theorem dL_law_199 : decode cL_law 199 = .ok (.aload_n 0, 1) := by decide +kernel
theorem dL_law_200 : decode cL_law 200 = .ok (.iload 4, 2) := by decide +kernel
theorem dL_law_202 : decode cL_law 202 = .ok (.iconst 2, 1) := by decide +kernel
theorem dL_law_203 : decode cL_law 203 = .ok (.iadd, 1) := by decide +kernel
theorem dL_law_204 : decode cL_law 204 = .ok (.iaload, 1) := by decide +kernel
theorem dL_law_205 : decode cL_law 205 = .ok (.aload_n 0, 1) := by decide +kernel
theorem dL_law_206 : decode cL_law 206 = .ok (.iload 4, 2) := by decide +kernel
theorem dL_law_208 : decode cL_law 208 = .ok (.iconst 3, 1) := by decide +kernel
theorem dL_law_209 : decode cL_law 209 = .ok (.iadd, 1) := by decide +kernel
theorem dL_law_210 : decode cL_law 210 = .ok (.iaload, 1) := by decide +kernel
theorem dL_law_211 : decode cL_law 211 = .ok (.aload_n 3, 1) := by decide +kernel
theorem dL_law_212 : decode cL_law 212 = .ok (.invokestatic 84, 3) := by decide +kernel
theorem dL_law_215 : decode cL_law 215 = .ok (.istore 5, 2) := by decide +kernel
theorem dL_law_217 : decode cL_law 217 = .ok (.aload_n 2, 1) := by decide +kernel
theorem dL_law_218 : decode cL_law 218 = .ok (.aload_n 0, 1) := by decide +kernel
theorem dL_law_219 : decode cL_law 219 = .ok (.iload 4, 2) := by decide +kernel
theorem dL_law_221 : decode cL_law 221 = .ok (.iconst 1, 1) := by decide +kernel
theorem dL_law_222 : decode cL_law 222 = .ok (.iadd, 1) := by decide +kernel
theorem dL_law_223 : decode cL_law 223 = .ok (.iaload, 1) := by decide +kernel
theorem dL_law_224 : decode cL_law 224 = .ok (.aload_n 0, 1) := by decide +kernel
theorem dL_law_225 : decode cL_law 225 = .ok (.iload 4, 2) := by decide +kernel
theorem dL_law_227 : decode cL_law 227 = .ok (.iconst 2, 1) := by decide +kernel
theorem dL_law_228 : decode cL_law 228 = .ok (.iadd, 1) := by decide +kernel
theorem dL_law_229 : decode cL_law 229 = .ok (.iaload, 1) := by decide +kernel
theorem dL_law_230 : decode cL_law 230 = .ok (.aload_n 0, 1) := by decide +kernel
theorem dL_law_231 : decode cL_law 231 = .ok (.iload 4, 2) := by decide +kernel
theorem dL_law_233 : decode cL_law 233 = .ok (.iconst 3, 1) := by decide +kernel
theorem dL_law_234 : decode cL_law 234 = .ok (.iadd, 1) := by decide +kernel
theorem dL_law_235 : decode cL_law 235 = .ok (.iaload, 1) := by decide +kernel
theorem dL_law_236 : decode cL_law 236 = .ok (.invokevirtual 87, 3) := by decide +kernel
theorem dL_law_239 : decode cL_law 239 = .ok (.istore 6, 2) := by decide +kernel
theorem dL_law_241 : decode cL_law 241 = .ok (.aload_n 2, 1) := by decide +kernel
theorem dL_law_242 : decode cL_law 242 = .ok (.invokevirtual 80, 3) := by decide +kernel
theorem dL_law_245 : decode cL_law 245 = .ok (.iload 5, 2) := by decide +kernel
theorem dL_law_247 : decode cL_law 247 = .ok (.if_icmp .eq 5, 3) := by decide +kernel
theorem dL_law_250 : decode cL_law 250 = .ok (.iconst 0, 1) := by decide +kernel
theorem dL_law_251 : decode cL_law 251 = .ok (.ireturn, 1) := by decide +kernel
theorem dL_law_252 : decode cL_law 252 = .ok (.iload 5, 2) := by decide +kernel
theorem dL_law_254 : decode cL_law 254 = .ok (.ifCond .ne 15, 3) := by decide +kernel
theorem dL_law_257 : decode cL_law 257 = .ok (.aload_n 3, 1) := by decide +kernel
theorem dL_law_258 : decode cL_law 258 = .ok (.iconst 0, 1) := by decide +kernel
theorem dL_law_259 : decode cL_law 259 = .ok (.laload, 1) := by decide +kernel
theorem dL_law_260 : decode cL_law 260 = .ok (.iload 6, 2) := by decide +kernel
theorem dL_law_262 : decode cL_law 262 = .ok (.i2l, 1) := by decide +kernel
theorem dL_law_263 : decode cL_law 263 = .ok (.lcmp, 1) := by decide +kernel
theorem dL_law_264 : decode cL_law 264 = .ok (.ifCond .eq 5, 3) := by decide +kernel
theorem dL_law_267 : decode cL_law 267 = .ok (.iconst 0, 1) := by decide +kernel
theorem dL_law_268 : decode cL_law 268 = .ok (.ireturn, 1) := by decide +kernel
theorem dL_law_269 : decode cL_law 269 = .ok (.goto 1144, 3) := by decide +kernel
theorem dL_law_272 : decode cL_law 272 = .ok (.aload_n 1, 1) := by decide +kernel
theorem dL_law_273 : decode cL_law 273 = .ok (.aload_n 0, 1) := by decide +kernel
theorem dL_law_274 : decode cL_law 274 = .ok (.iload 4, 2) := by decide +kernel
theorem dL_law_276 : decode cL_law 276 = .ok (.iconst 1, 1) := by decide +kernel
theorem dL_law_277 : decode cL_law 277 = .ok (.iadd, 1) := by decide +kernel
theorem dL_law_278 : decode cL_law 278 = .ok (.iaload, 1) := by decide +kernel
theorem dL_law_279 : decode cL_law 279 = .ok (.aload_n 0, 1) := by decide +kernel
theorem dL_law_280 : decode cL_law 280 = .ok (.iload 4, 2) := by decide +kernel
theorem dL_law_282 : decode cL_law 282 = .ok (.iconst 2, 1) := by decide +kernel
theorem dL_law_283 : decode cL_law 283 = .ok (.iadd, 1) := by decide +kernel
theorem dL_law_284 : decode cL_law 284 = .ok (.iaload, 1) := by decide +kernel
theorem dL_law_285 : decode cL_law 285 = .ok (.aload_n 3, 1) := by decide +kernel
theorem dL_law_286 : decode cL_law 286 = .ok (.invokestatic 88, 3) := by decide +kernel
theorem dL_law_289 : decode cL_law 289 = .ok (.istore 5, 2) := by decide +kernel
theorem dL_law_291 : decode cL_law 291 = .ok (.aload_n 2, 1) := by decide +kernel
theorem dL_law_292 : decode cL_law 292 = .ok (.aload_n 0, 1) := by decide +kernel
theorem dL_law_293 : decode cL_law 293 = .ok (.iload 4, 2) := by decide +kernel
theorem dL_law_295 : decode cL_law 295 = .ok (.iconst 1, 1) := by decide +kernel
theorem dL_law_296 : decode cL_law 296 = .ok (.iadd, 1) := by decide +kernel
theorem dL_law_297 : decode cL_law 297 = .ok (.iaload, 1) := by decide +kernel
theorem dL_law_298 : decode cL_law 298 = .ok (.aload_n 0, 1) := by decide +kernel
theorem dL_law_299 : decode cL_law 299 = .ok (.iload 4, 2) := by decide +kernel
theorem dL_law_301 : decode cL_law 301 = .ok (.iconst 2, 1) := by decide +kernel
theorem dL_law_302 : decode cL_law 302 = .ok (.iadd, 1) := by decide +kernel
theorem dL_law_303 : decode cL_law 303 = .ok (.iaload, 1) := by decide +kernel
theorem dL_law_304 : decode cL_law 304 = .ok (.invokevirtual 91, 3) := by decide +kernel
theorem dL_law_307 : decode cL_law 307 = .ok (.istore 6, 2) := by decide +kernel
theorem dL_law_309 : decode cL_law 309 = .ok (.aload_n 2, 1) := by decide +kernel
theorem dL_law_310 : decode cL_law 310 = .ok (.invokevirtual 80, 3) := by decide +kernel
theorem dL_law_313 : decode cL_law 313 = .ok (.iload 5, 2) := by decide +kernel
theorem dL_law_315 : decode cL_law 315 = .ok (.if_icmp .eq 5, 3) := by decide +kernel
theorem dL_law_318 : decode cL_law 318 = .ok (.iconst 0, 1) := by decide +kernel
theorem dL_law_319 : decode cL_law 319 = .ok (.ireturn, 1) := by decide +kernel
theorem dL_law_320 : decode cL_law 320 = .ok (.iload 5, 2) := by decide +kernel
theorem dL_law_322 : decode cL_law 322 = .ok (.ifCond .ne 15, 3) := by decide +kernel
theorem dL_law_325 : decode cL_law 325 = .ok (.aload_n 3, 1) := by decide +kernel
theorem dL_law_326 : decode cL_law 326 = .ok (.iconst 0, 1) := by decide +kernel
theorem dL_law_327 : decode cL_law 327 = .ok (.laload, 1) := by decide +kernel
theorem dL_law_328 : decode cL_law 328 = .ok (.iload 6, 2) := by decide +kernel
theorem dL_law_330 : decode cL_law 330 = .ok (.i2l, 1) := by decide +kernel
theorem dL_law_331 : decode cL_law 331 = .ok (.lcmp, 1) := by decide +kernel
theorem dL_law_332 : decode cL_law 332 = .ok (.ifCond .eq 5, 3) := by decide +kernel
theorem dL_law_335 : decode cL_law 335 = .ok (.iconst 0, 1) := by decide +kernel
theorem dL_law_336 : decode cL_law 336 = .ok (.ireturn, 1) := by decide +kernel
theorem dL_law_337 : decode cL_law 337 = .ok (.goto 1076, 3) := by decide +kernel
theorem dL_law_340 : decode cL_law 340 = .ok (.aload_n 1, 1) := by decide +kernel
theorem dL_law_341 : decode cL_law 341 = .ok (.aload_n 0, 1) := by decide +kernel
theorem dL_law_342 : decode cL_law 342 = .ok (.iload 4, 2) := by decide +kernel
theorem dL_law_344 : decode cL_law 344 = .ok (.iconst 1, 1) := by decide +kernel
theorem dL_law_345 : decode cL_law 345 = .ok (.iadd, 1) := by decide +kernel
theorem dL_law_346 : decode cL_law 346 = .ok (.iaload, 1) := by decide +kernel
theorem dL_law_347 : decode cL_law 347 = .ok (.aload_n 0, 1) := by decide +kernel
theorem dL_law_348 : decode cL_law 348 = .ok (.iload 4, 2) := by decide +kernel
theorem dL_law_350 : decode cL_law 350 = .ok (.iconst 2, 1) := by decide +kernel
theorem dL_law_351 : decode cL_law 351 = .ok (.iadd, 1) := by decide +kernel
theorem dL_law_352 : decode cL_law 352 = .ok (.iaload, 1) := by decide +kernel
theorem dL_law_353 : decode cL_law 353 = .ok (.aload_n 3, 1) := by decide +kernel
theorem dL_law_354 : decode cL_law 354 = .ok (.invokestatic 92, 3) := by decide +kernel
theorem dL_law_357 : decode cL_law 357 = .ok (.istore 5, 2) := by decide +kernel
theorem dL_law_359 : decode cL_law 359 = .ok (.aload_n 2, 1) := by decide +kernel
theorem dL_law_360 : decode cL_law 360 = .ok (.aload_n 0, 1) := by decide +kernel
theorem dL_law_361 : decode cL_law 361 = .ok (.iload 4, 2) := by decide +kernel
theorem dL_law_363 : decode cL_law 363 = .ok (.iconst 1, 1) := by decide +kernel
theorem dL_law_364 : decode cL_law 364 = .ok (.iadd, 1) := by decide +kernel
theorem dL_law_365 : decode cL_law 365 = .ok (.iaload, 1) := by decide +kernel
theorem dL_law_366 : decode cL_law 366 = .ok (.aload_n 0, 1) := by decide +kernel
theorem dL_law_367 : decode cL_law 367 = .ok (.iload 4, 2) := by decide +kernel
theorem dL_law_369 : decode cL_law 369 = .ok (.iconst 2, 1) := by decide +kernel
theorem dL_law_370 : decode cL_law 370 = .ok (.iadd, 1) := by decide +kernel
theorem dL_law_371 : decode cL_law 371 = .ok (.iaload, 1) := by decide +kernel
theorem dL_law_372 : decode cL_law 372 = .ok (.invokevirtual 94, 3) := by decide +kernel
theorem dL_law_375 : decode cL_law 375 = .ok (.istore 6, 2) := by decide +kernel
theorem dL_law_377 : decode cL_law 377 = .ok (.aload_n 2, 1) := by decide +kernel
theorem dL_law_378 : decode cL_law 378 = .ok (.invokevirtual 80, 3) := by decide +kernel
theorem dL_law_381 : decode cL_law 381 = .ok (.iload 5, 2) := by decide +kernel
theorem dL_law_383 : decode cL_law 383 = .ok (.if_icmp .eq 5, 3) := by decide +kernel
theorem dL_law_386 : decode cL_law 386 = .ok (.iconst 0, 1) := by decide +kernel
theorem dL_law_387 : decode cL_law 387 = .ok (.ireturn, 1) := by decide +kernel
theorem dL_law_388 : decode cL_law 388 = .ok (.iload 5, 2) := by decide +kernel
theorem dL_law_390 : decode cL_law 390 = .ok (.ifCond .ne 15, 3) := by decide +kernel
theorem dL_law_393 : decode cL_law 393 = .ok (.aload_n 3, 1) := by decide +kernel
theorem dL_law_394 : decode cL_law 394 = .ok (.iconst 0, 1) := by decide +kernel
theorem dL_law_395 : decode cL_law 395 = .ok (.laload, 1) := by decide +kernel
theorem dL_law_396 : decode cL_law 396 = .ok (.iload 6, 2) := by decide +kernel
theorem dL_law_398 : decode cL_law 398 = .ok (.i2l, 1) := by decide +kernel
theorem dL_law_399 : decode cL_law 399 = .ok (.lcmp, 1) := by decide +kernel
theorem dL_law_400 : decode cL_law 400 = .ok (.ifCond .eq 5, 3) := by decide +kernel
theorem dL_law_403 : decode cL_law 403 = .ok (.iconst 0, 1) := by decide +kernel
theorem dL_law_404 : decode cL_law 404 = .ok (.ireturn, 1) := by decide +kernel
theorem dL_law_405 : decode cL_law 405 = .ok (.goto 1008, 3) := by decide +kernel
theorem dL_law_408 : decode cL_law 408 = .ok (.aload_n 1, 1) := by decide +kernel
theorem dL_law_409 : decode cL_law 409 = .ok (.aload_n 0, 1) := by decide +kernel
theorem dL_law_410 : decode cL_law 410 = .ok (.iload 4, 2) := by decide +kernel
theorem dL_law_412 : decode cL_law 412 = .ok (.iconst 1, 1) := by decide +kernel
theorem dL_law_413 : decode cL_law 413 = .ok (.iadd, 1) := by decide +kernel
theorem dL_law_414 : decode cL_law 414 = .ok (.iaload, 1) := by decide +kernel
theorem dL_law_415 : decode cL_law 415 = .ok (.aload_n 0, 1) := by decide +kernel
theorem dL_law_416 : decode cL_law 416 = .ok (.iload 4, 2) := by decide +kernel
theorem dL_law_418 : decode cL_law 418 = .ok (.iconst 2, 1) := by decide +kernel
theorem dL_law_419 : decode cL_law 419 = .ok (.iadd, 1) := by decide +kernel
theorem dL_law_420 : decode cL_law 420 = .ok (.iaload, 1) := by decide +kernel
theorem dL_law_421 : decode cL_law 421 = .ok (.aload_n 0, 1) := by decide +kernel
theorem dL_law_422 : decode cL_law 422 = .ok (.iload 4, 2) := by decide +kernel
theorem dL_law_424 : decode cL_law 424 = .ok (.iconst 3, 1) := by decide +kernel
theorem dL_law_425 : decode cL_law 425 = .ok (.iadd, 1) := by decide +kernel
theorem dL_law_426 : decode cL_law 426 = .ok (.iaload, 1) := by decide +kernel
theorem dL_law_427 : decode cL_law 427 = .ok (.aload_n 3, 1) := by decide +kernel
theorem dL_law_428 : decode cL_law 428 = .ok (.invokestatic 95, 3) := by decide +kernel
theorem dL_law_431 : decode cL_law 431 = .ok (.istore 5, 2) := by decide +kernel
theorem dL_law_433 : decode cL_law 433 = .ok (.aload_n 2, 1) := by decide +kernel
theorem dL_law_434 : decode cL_law 434 = .ok (.aload_n 0, 1) := by decide +kernel
theorem dL_law_435 : decode cL_law 435 = .ok (.iload 4, 2) := by decide +kernel
theorem dL_law_437 : decode cL_law 437 = .ok (.iconst 1, 1) := by decide +kernel
theorem dL_law_438 : decode cL_law 438 = .ok (.iadd, 1) := by decide +kernel
theorem dL_law_439 : decode cL_law 439 = .ok (.iaload, 1) := by decide +kernel
theorem dL_law_440 : decode cL_law 440 = .ok (.aload_n 0, 1) := by decide +kernel
theorem dL_law_441 : decode cL_law 441 = .ok (.iload 4, 2) := by decide +kernel
theorem dL_law_443 : decode cL_law 443 = .ok (.iconst 2, 1) := by decide +kernel
theorem dL_law_444 : decode cL_law 444 = .ok (.iadd, 1) := by decide +kernel
theorem dL_law_445 : decode cL_law 445 = .ok (.iaload, 1) := by decide +kernel
theorem dL_law_446 : decode cL_law 446 = .ok (.aload_n 0, 1) := by decide +kernel
theorem dL_law_447 : decode cL_law 447 = .ok (.iload 4, 2) := by decide +kernel
theorem dL_law_449 : decode cL_law 449 = .ok (.iconst 3, 1) := by decide +kernel
theorem dL_law_450 : decode cL_law 450 = .ok (.iadd, 1) := by decide +kernel
theorem dL_law_451 : decode cL_law 451 = .ok (.iaload, 1) := by decide +kernel
theorem dL_law_452 : decode cL_law 452 = .ok (.invokevirtual 97, 3) := by decide +kernel
theorem dL_law_455 : decode cL_law 455 = .ok (.istore 6, 2) := by decide +kernel
theorem dL_law_457 : decode cL_law 457 = .ok (.aload_n 2, 1) := by decide +kernel
theorem dL_law_458 : decode cL_law 458 = .ok (.invokevirtual 80, 3) := by decide +kernel
theorem dL_law_461 : decode cL_law 461 = .ok (.iload 5, 2) := by decide +kernel
theorem dL_law_463 : decode cL_law 463 = .ok (.if_icmp .eq 5, 3) := by decide +kernel
theorem dL_law_466 : decode cL_law 466 = .ok (.iconst 0, 1) := by decide +kernel
theorem dL_law_467 : decode cL_law 467 = .ok (.ireturn, 1) := by decide +kernel
theorem dL_law_468 : decode cL_law 468 = .ok (.iload 5, 2) := by decide +kernel
theorem dL_law_470 : decode cL_law 470 = .ok (.ifCond .ne 15, 3) := by decide +kernel
theorem dL_law_473 : decode cL_law 473 = .ok (.aload_n 3, 1) := by decide +kernel
theorem dL_law_474 : decode cL_law 474 = .ok (.iconst 0, 1) := by decide +kernel
theorem dL_law_475 : decode cL_law 475 = .ok (.laload, 1) := by decide +kernel
theorem dL_law_476 : decode cL_law 476 = .ok (.iload 6, 2) := by decide +kernel
theorem dL_law_478 : decode cL_law 478 = .ok (.i2l, 1) := by decide +kernel
theorem dL_law_479 : decode cL_law 479 = .ok (.lcmp, 1) := by decide +kernel
theorem dL_law_480 : decode cL_law 480 = .ok (.ifCond .eq 5, 3) := by decide +kernel
theorem dL_law_483 : decode cL_law 483 = .ok (.iconst 0, 1) := by decide +kernel
theorem dL_law_484 : decode cL_law 484 = .ok (.ireturn, 1) := by decide +kernel
theorem dL_law_485 : decode cL_law 485 = .ok (.goto 928, 3) := by decide +kernel
theorem dL_law_488 : decode cL_law 488 = .ok (.aload_n 1, 1) := by decide +kernel
theorem dL_law_489 : decode cL_law 489 = .ok (.aload_n 0, 1) := by decide +kernel
theorem dL_law_490 : decode cL_law 490 = .ok (.iload 4, 2) := by decide +kernel
theorem dL_law_492 : decode cL_law 492 = .ok (.iconst 1, 1) := by decide +kernel
theorem dL_law_493 : decode cL_law 493 = .ok (.iadd, 1) := by decide +kernel
theorem dL_law_494 : decode cL_law 494 = .ok (.iaload, 1) := by decide +kernel
theorem dL_law_495 : decode cL_law 495 = .ok (.aload_n 3, 1) := by decide +kernel
theorem dL_law_496 : decode cL_law 496 = .ok (.invokestatic 98, 3) := by decide +kernel
theorem dL_law_499 : decode cL_law 499 = .ok (.istore 5, 2) := by decide +kernel
theorem dL_law_501 : decode cL_law 501 = .ok (.aload_n 2, 1) := by decide +kernel
theorem dL_law_502 : decode cL_law 502 = .ok (.aload_n 0, 1) := by decide +kernel
theorem dL_law_503 : decode cL_law 503 = .ok (.iload 4, 2) := by decide +kernel
theorem dL_law_505 : decode cL_law 505 = .ok (.iconst 1, 1) := by decide +kernel
theorem dL_law_506 : decode cL_law 506 = .ok (.iadd, 1) := by decide +kernel
theorem dL_law_507 : decode cL_law 507 = .ok (.iaload, 1) := by decide +kernel
theorem dL_law_508 : decode cL_law 508 = .ok (.invokevirtual 100, 3) := by decide +kernel
theorem dL_law_511 : decode cL_law 511 = .ok (.istore 6, 2) := by decide +kernel
theorem dL_law_513 : decode cL_law 513 = .ok (.aload_n 2, 1) := by decide +kernel
theorem dL_law_514 : decode cL_law 514 = .ok (.invokevirtual 80, 3) := by decide +kernel
theorem dL_law_517 : decode cL_law 517 = .ok (.iload 5, 2) := by decide +kernel
theorem dL_law_519 : decode cL_law 519 = .ok (.if_icmp .eq 5, 3) := by decide +kernel
theorem dL_law_522 : decode cL_law 522 = .ok (.iconst 0, 1) := by decide +kernel
theorem dL_law_523 : decode cL_law 523 = .ok (.ireturn, 1) := by decide +kernel
theorem dL_law_524 : decode cL_law 524 = .ok (.iload 5, 2) := by decide +kernel
theorem dL_law_526 : decode cL_law 526 = .ok (.ifCond .ne 15, 3) := by decide +kernel
theorem dL_law_529 : decode cL_law 529 = .ok (.aload_n 3, 1) := by decide +kernel
theorem dL_law_530 : decode cL_law 530 = .ok (.iconst 0, 1) := by decide +kernel
theorem dL_law_531 : decode cL_law 531 = .ok (.laload, 1) := by decide +kernel
theorem dL_law_532 : decode cL_law 532 = .ok (.iload 6, 2) := by decide +kernel
theorem dL_law_534 : decode cL_law 534 = .ok (.i2l, 1) := by decide +kernel
theorem dL_law_535 : decode cL_law 535 = .ok (.lcmp, 1) := by decide +kernel
theorem dL_law_536 : decode cL_law 536 = .ok (.ifCond .eq 5, 3) := by decide +kernel
theorem dL_law_539 : decode cL_law 539 = .ok (.iconst 0, 1) := by decide +kernel
theorem dL_law_540 : decode cL_law 540 = .ok (.ireturn, 1) := by decide +kernel
theorem dL_law_541 : decode cL_law 541 = .ok (.goto 872, 3) := by decide +kernel
theorem dL_law_544 : decode cL_law 544 = .ok (.aload_n 1, 1) := by decide +kernel
theorem dL_law_545 : decode cL_law 545 = .ok (.aload_n 0, 1) := by decide +kernel
theorem dL_law_546 : decode cL_law 546 = .ok (.iload 4, 2) := by decide +kernel
theorem dL_law_548 : decode cL_law 548 = .ok (.iconst 1, 1) := by decide +kernel
theorem dL_law_549 : decode cL_law 549 = .ok (.iadd, 1) := by decide +kernel
theorem dL_law_550 : decode cL_law 550 = .ok (.iaload, 1) := by decide +kernel
theorem dL_law_551 : decode cL_law 551 = .ok (.aload_n 0, 1) := by decide +kernel
theorem dL_law_552 : decode cL_law 552 = .ok (.iload 4, 2) := by decide +kernel
theorem dL_law_554 : decode cL_law 554 = .ok (.iconst 2, 1) := by decide +kernel
theorem dL_law_555 : decode cL_law 555 = .ok (.iadd, 1) := by decide +kernel
theorem dL_law_556 : decode cL_law 556 = .ok (.iaload, 1) := by decide +kernel
theorem dL_law_557 : decode cL_law 557 = .ok (.aload_n 0, 1) := by decide +kernel
theorem dL_law_558 : decode cL_law 558 = .ok (.iload 4, 2) := by decide +kernel
theorem dL_law_560 : decode cL_law 560 = .ok (.iconst 3, 1) := by decide +kernel
theorem dL_law_561 : decode cL_law 561 = .ok (.iadd, 1) := by decide +kernel
theorem dL_law_562 : decode cL_law 562 = .ok (.iaload, 1) := by decide +kernel
theorem dL_law_563 : decode cL_law 563 = .ok (.ifCond .eq 7, 3) := by decide +kernel
theorem dL_law_566 : decode cL_law 566 = .ok (.iconst 1, 1) := by decide +kernel
theorem dL_law_567 : decode cL_law 567 = .ok (.goto 4, 3) := by decide +kernel
theorem dL_law_570 : decode cL_law 570 = .ok (.iconst 0, 1) := by decide +kernel
theorem dL_law_571 : decode cL_law 571 = .ok (.aload_n 3, 1) := by decide +kernel
theorem dL_law_572 : decode cL_law 572 = .ok (.invokestatic 101, 3) := by decide +kernel
theorem dL_law_575 : decode cL_law 575 = .ok (.istore 5, 2) := by decide +kernel
theorem dL_law_577 : decode cL_law 577 = .ok (.aload_n 2, 1) := by decide +kernel
theorem dL_law_578 : decode cL_law 578 = .ok (.aload_n 0, 1) := by decide +kernel
theorem dL_law_579 : decode cL_law 579 = .ok (.iload 4, 2) := by decide +kernel
theorem dL_law_581 : decode cL_law 581 = .ok (.iconst 1, 1) := by decide +kernel
theorem dL_law_582 : decode cL_law 582 = .ok (.iadd, 1) := by decide +kernel
theorem dL_law_583 : decode cL_law 583 = .ok (.iaload, 1) := by decide +kernel
theorem dL_law_584 : decode cL_law 584 = .ok (.aload_n 0, 1) := by decide +kernel
theorem dL_law_585 : decode cL_law 585 = .ok (.iload 4, 2) := by decide +kernel
theorem dL_law_587 : decode cL_law 587 = .ok (.iconst 2, 1) := by decide +kernel
theorem dL_law_588 : decode cL_law 588 = .ok (.iadd, 1) := by decide +kernel
theorem dL_law_589 : decode cL_law 589 = .ok (.iaload, 1) := by decide +kernel
theorem dL_law_590 : decode cL_law 590 = .ok (.aload_n 0, 1) := by decide +kernel
theorem dL_law_591 : decode cL_law 591 = .ok (.iload 4, 2) := by decide +kernel
theorem dL_law_593 : decode cL_law 593 = .ok (.iconst 3, 1) := by decide +kernel
theorem dL_law_594 : decode cL_law 594 = .ok (.iadd, 1) := by decide +kernel
theorem dL_law_595 : decode cL_law 595 = .ok (.iaload, 1) := by decide +kernel
theorem dL_law_596 : decode cL_law 596 = .ok (.ifCond .eq 7, 3) := by decide +kernel
theorem dL_law_599 : decode cL_law 599 = .ok (.iconst 1, 1) := by decide +kernel
theorem dL_law_600 : decode cL_law 600 = .ok (.goto 4, 3) := by decide +kernel
theorem dL_law_603 : decode cL_law 603 = .ok (.iconst 0, 1) := by decide +kernel
theorem dL_law_604 : decode cL_law 604 = .ok (.invokevirtual 104, 3) := by decide +kernel
theorem dL_law_607 : decode cL_law 607 = .ok (.istore 6, 2) := by decide +kernel
theorem dL_law_609 : decode cL_law 609 = .ok (.aload_n 2, 1) := by decide +kernel
theorem dL_law_610 : decode cL_law 610 = .ok (.invokevirtual 80, 3) := by decide +kernel
theorem dL_law_613 : decode cL_law 613 = .ok (.iload 5, 2) := by decide +kernel
theorem dL_law_615 : decode cL_law 615 = .ok (.if_icmp .eq 5, 3) := by decide +kernel
theorem dL_law_618 : decode cL_law 618 = .ok (.iconst 0, 1) := by decide +kernel
theorem dL_law_619 : decode cL_law 619 = .ok (.ireturn, 1) := by decide +kernel
theorem dL_law_620 : decode cL_law 620 = .ok (.iload 5, 2) := by decide +kernel
theorem dL_law_622 : decode cL_law 622 = .ok (.ifCond .ne 15, 3) := by decide +kernel
theorem dL_law_625 : decode cL_law 625 = .ok (.aload_n 3, 1) := by decide +kernel
theorem dL_law_626 : decode cL_law 626 = .ok (.iconst 0, 1) := by decide +kernel
theorem dL_law_627 : decode cL_law 627 = .ok (.laload, 1) := by decide +kernel
theorem dL_law_628 : decode cL_law 628 = .ok (.iload 6, 2) := by decide +kernel
theorem dL_law_630 : decode cL_law 630 = .ok (.i2l, 1) := by decide +kernel
theorem dL_law_631 : decode cL_law 631 = .ok (.lcmp, 1) := by decide +kernel
theorem dL_law_632 : decode cL_law 632 = .ok (.ifCond .eq 5, 3) := by decide +kernel
theorem dL_law_635 : decode cL_law 635 = .ok (.iconst 0, 1) := by decide +kernel
theorem dL_law_636 : decode cL_law 636 = .ok (.ireturn, 1) := by decide +kernel
theorem dL_law_637 : decode cL_law 637 = .ok (.goto 776, 3) := by decide +kernel
theorem dL_law_640 : decode cL_law 640 = .ok (.aload_n 1, 1) := by decide +kernel
theorem dL_law_641 : decode cL_law 641 = .ok (.aload_n 0, 1) := by decide +kernel
theorem dL_law_642 : decode cL_law 642 = .ok (.iload 4, 2) := by decide +kernel
theorem dL_law_644 : decode cL_law 644 = .ok (.iconst 1, 1) := by decide +kernel
theorem dL_law_645 : decode cL_law 645 = .ok (.iadd, 1) := by decide +kernel
theorem dL_law_646 : decode cL_law 646 = .ok (.iaload, 1) := by decide +kernel
theorem dL_law_647 : decode cL_law 647 = .ok (.aload_n 0, 1) := by decide +kernel
theorem dL_law_648 : decode cL_law 648 = .ok (.iload 4, 2) := by decide +kernel
theorem dL_law_650 : decode cL_law 650 = .ok (.iconst 2, 1) := by decide +kernel
theorem dL_law_651 : decode cL_law 651 = .ok (.iadd, 1) := by decide +kernel
theorem dL_law_652 : decode cL_law 652 = .ok (.iaload, 1) := by decide +kernel
theorem dL_law_653 : decode cL_law 653 = .ok (.aload_n 3, 1) := by decide +kernel
theorem dL_law_654 : decode cL_law 654 = .ok (.invokestatic 105, 3) := by decide +kernel
theorem dL_law_657 : decode cL_law 657 = .ok (.istore 5, 2) := by decide +kernel
theorem dL_law_659 : decode cL_law 659 = .ok (.aload_n 2, 1) := by decide +kernel
theorem dL_law_660 : decode cL_law 660 = .ok (.aload_n 0, 1) := by decide +kernel
theorem dL_law_661 : decode cL_law 661 = .ok (.iload 4, 2) := by decide +kernel
theorem dL_law_663 : decode cL_law 663 = .ok (.iconst 1, 1) := by decide +kernel
theorem dL_law_664 : decode cL_law 664 = .ok (.iadd, 1) := by decide +kernel
theorem dL_law_665 : decode cL_law 665 = .ok (.iaload, 1) := by decide +kernel
theorem dL_law_666 : decode cL_law 666 = .ok (.aload_n 0, 1) := by decide +kernel
theorem dL_law_667 : decode cL_law 667 = .ok (.iload 4, 2) := by decide +kernel
theorem dL_law_669 : decode cL_law 669 = .ok (.iconst 2, 1) := by decide +kernel
theorem dL_law_670 : decode cL_law 670 = .ok (.iadd, 1) := by decide +kernel
theorem dL_law_671 : decode cL_law 671 = .ok (.iaload, 1) := by decide +kernel
theorem dL_law_672 : decode cL_law 672 = .ok (.invokevirtual 107, 3) := by decide +kernel
theorem dL_law_675 : decode cL_law 675 = .ok (.istore 6, 2) := by decide +kernel
theorem dL_law_677 : decode cL_law 677 = .ok (.aload_n 2, 1) := by decide +kernel
theorem dL_law_678 : decode cL_law 678 = .ok (.invokevirtual 80, 3) := by decide +kernel
theorem dL_law_681 : decode cL_law 681 = .ok (.iload 5, 2) := by decide +kernel
theorem dL_law_683 : decode cL_law 683 = .ok (.if_icmp .eq 5, 3) := by decide +kernel
theorem dL_law_686 : decode cL_law 686 = .ok (.iconst 0, 1) := by decide +kernel
theorem dL_law_687 : decode cL_law 687 = .ok (.ireturn, 1) := by decide +kernel
theorem dL_law_688 : decode cL_law 688 = .ok (.iload 5, 2) := by decide +kernel
theorem dL_law_690 : decode cL_law 690 = .ok (.ifCond .ne 15, 3) := by decide +kernel
theorem dL_law_693 : decode cL_law 693 = .ok (.aload_n 3, 1) := by decide +kernel
theorem dL_law_694 : decode cL_law 694 = .ok (.iconst 0, 1) := by decide +kernel
theorem dL_law_695 : decode cL_law 695 = .ok (.laload, 1) := by decide +kernel
theorem dL_law_696 : decode cL_law 696 = .ok (.iload 6, 2) := by decide +kernel
theorem dL_law_698 : decode cL_law 698 = .ok (.i2l, 1) := by decide +kernel
theorem dL_law_699 : decode cL_law 699 = .ok (.lcmp, 1) := by decide +kernel
theorem dL_law_700 : decode cL_law 700 = .ok (.ifCond .eq 5, 3) := by decide +kernel
theorem dL_law_703 : decode cL_law 703 = .ok (.iconst 0, 1) := by decide +kernel
theorem dL_law_704 : decode cL_law 704 = .ok (.ireturn, 1) := by decide +kernel
theorem dL_law_705 : decode cL_law 705 = .ok (.goto 708, 3) := by decide +kernel
theorem dL_law_708 : decode cL_law 708 = .ok (.aload_n 1, 1) := by decide +kernel
theorem dL_law_709 : decode cL_law 709 = .ok (.aload_n 0, 1) := by decide +kernel
theorem dL_law_710 : decode cL_law 710 = .ok (.iload 4, 2) := by decide +kernel
theorem dL_law_712 : decode cL_law 712 = .ok (.iconst 1, 1) := by decide +kernel
theorem dL_law_713 : decode cL_law 713 = .ok (.iadd, 1) := by decide +kernel
theorem dL_law_714 : decode cL_law 714 = .ok (.iaload, 1) := by decide +kernel
theorem dL_law_715 : decode cL_law 715 = .ok (.aload_n 0, 1) := by decide +kernel
theorem dL_law_716 : decode cL_law 716 = .ok (.iload 4, 2) := by decide +kernel
theorem dL_law_718 : decode cL_law 718 = .ok (.iconst 2, 1) := by decide +kernel
theorem dL_law_719 : decode cL_law 719 = .ok (.iadd, 1) := by decide +kernel
theorem dL_law_720 : decode cL_law 720 = .ok (.iaload, 1) := by decide +kernel
theorem dL_law_721 : decode cL_law 721 = .ok (.aload_n 3, 1) := by decide +kernel
theorem dL_law_722 : decode cL_law 722 = .ok (.invokestatic 108, 3) := by decide +kernel
theorem dL_law_725 : decode cL_law 725 = .ok (.istore 5, 2) := by decide +kernel
theorem dL_law_727 : decode cL_law 727 = .ok (.aload_n 2, 1) := by decide +kernel
theorem dL_law_728 : decode cL_law 728 = .ok (.aload_n 0, 1) := by decide +kernel
theorem dL_law_729 : decode cL_law 729 = .ok (.iload 4, 2) := by decide +kernel
theorem dL_law_731 : decode cL_law 731 = .ok (.iconst 1, 1) := by decide +kernel
theorem dL_law_732 : decode cL_law 732 = .ok (.iadd, 1) := by decide +kernel
theorem dL_law_733 : decode cL_law 733 = .ok (.iaload, 1) := by decide +kernel
theorem dL_law_734 : decode cL_law 734 = .ok (.aload_n 0, 1) := by decide +kernel
theorem dL_law_735 : decode cL_law 735 = .ok (.iload 4, 2) := by decide +kernel
theorem dL_law_737 : decode cL_law 737 = .ok (.iconst 2, 1) := by decide +kernel
theorem dL_law_738 : decode cL_law 738 = .ok (.iadd, 1) := by decide +kernel
theorem dL_law_739 : decode cL_law 739 = .ok (.iaload, 1) := by decide +kernel
theorem dL_law_740 : decode cL_law 740 = .ok (.invokevirtual 110, 3) := by decide +kernel
theorem dL_law_743 : decode cL_law 743 = .ok (.istore 6, 2) := by decide +kernel
theorem dL_law_745 : decode cL_law 745 = .ok (.aload_n 2, 1) := by decide +kernel
theorem dL_law_746 : decode cL_law 746 = .ok (.invokevirtual 80, 3) := by decide +kernel
theorem dL_law_749 : decode cL_law 749 = .ok (.iload 5, 2) := by decide +kernel
theorem dL_law_751 : decode cL_law 751 = .ok (.if_icmp .eq 5, 3) := by decide +kernel
theorem dL_law_754 : decode cL_law 754 = .ok (.iconst 0, 1) := by decide +kernel
theorem dL_law_755 : decode cL_law 755 = .ok (.ireturn, 1) := by decide +kernel
theorem dL_law_756 : decode cL_law 756 = .ok (.iload 5, 2) := by decide +kernel
theorem dL_law_758 : decode cL_law 758 = .ok (.ifCond .ne 15, 3) := by decide +kernel
theorem dL_law_761 : decode cL_law 761 = .ok (.aload_n 3, 1) := by decide +kernel
theorem dL_law_762 : decode cL_law 762 = .ok (.iconst 0, 1) := by decide +kernel
theorem dL_law_763 : decode cL_law 763 = .ok (.laload, 1) := by decide +kernel
theorem dL_law_764 : decode cL_law 764 = .ok (.iload 6, 2) := by decide +kernel
theorem dL_law_766 : decode cL_law 766 = .ok (.i2l, 1) := by decide +kernel
theorem dL_law_767 : decode cL_law 767 = .ok (.lcmp, 1) := by decide +kernel
theorem dL_law_768 : decode cL_law 768 = .ok (.ifCond .eq 5, 3) := by decide +kernel
theorem dL_law_771 : decode cL_law 771 = .ok (.iconst 0, 1) := by decide +kernel
theorem dL_law_772 : decode cL_law 772 = .ok (.ireturn, 1) := by decide +kernel
theorem dL_law_773 : decode cL_law 773 = .ok (.goto 640, 3) := by decide +kernel
theorem dL_law_776 : decode cL_law 776 = .ok (.aload_n 1, 1) := by decide +kernel
theorem dL_law_777 : decode cL_law 777 = .ok (.invokevirtual 111, 3) := by decide +kernel
theorem dL_law_780 : decode cL_law 780 = .ok (.aload_n 2, 1) := by decide +kernel
theorem dL_law_781 : decode cL_law 781 = .ok (.invokevirtual 114, 3) := by decide +kernel
theorem dL_law_784 : decode cL_law 784 = .ok (.if_icmp .eq 629, 3) := by decide +kernel
theorem dL_law_787 : decode cL_law 787 = .ok (.iconst 0, 1) := by decide +kernel
theorem dL_law_788 : decode cL_law 788 = .ok (.ireturn, 1) := by decide +kernel
theorem dL_law_789 : decode cL_law 789 = .ok (.aload_n 1, 1) := by decide +kernel
theorem dL_law_790 : decode cL_law 790 = .ok (.aload_n 0, 1) := by decide +kernel
theorem dL_law_791 : decode cL_law 791 = .ok (.iload 4, 2) := by decide +kernel
theorem dL_law_793 : decode cL_law 793 = .ok (.iconst 1, 1) := by decide +kernel
theorem dL_law_794 : decode cL_law 794 = .ok (.iadd, 1) := by decide +kernel
theorem dL_law_795 : decode cL_law 795 = .ok (.iaload, 1) := by decide +kernel
theorem dL_law_796 : decode cL_law 796 = .ok (.aload_n 0, 1) := by decide +kernel
theorem dL_law_797 : decode cL_law 797 = .ok (.iload 4, 2) := by decide +kernel
theorem dL_law_799 : decode cL_law 799 = .ok (.iconst 2, 1) := by decide +kernel
theorem dL_law_800 : decode cL_law 800 = .ok (.iadd, 1) := by decide +kernel
theorem dL_law_801 : decode cL_law 801 = .ok (.iaload, 1) := by decide +kernel
theorem dL_law_802 : decode cL_law 802 = .ok (.aload_n 3, 1) := by decide +kernel
theorem dL_law_803 : decode cL_law 803 = .ok (.invokestatic 115, 3) := by decide +kernel
theorem dL_law_806 : decode cL_law 806 = .ok (.istore 5, 2) := by decide +kernel
theorem dL_law_808 : decode cL_law 808 = .ok (.aload_n 2, 1) := by decide +kernel
theorem dL_law_809 : decode cL_law 809 = .ok (.aload_n 0, 1) := by decide +kernel
theorem dL_law_810 : decode cL_law 810 = .ok (.iload 4, 2) := by decide +kernel
theorem dL_law_812 : decode cL_law 812 = .ok (.iconst 1, 1) := by decide +kernel
theorem dL_law_813 : decode cL_law 813 = .ok (.iadd, 1) := by decide +kernel
theorem dL_law_814 : decode cL_law 814 = .ok (.iaload, 1) := by decide +kernel
theorem dL_law_815 : decode cL_law 815 = .ok (.aload_n 0, 1) := by decide +kernel
theorem dL_law_816 : decode cL_law 816 = .ok (.iload 4, 2) := by decide +kernel
theorem dL_law_818 : decode cL_law 818 = .ok (.iconst 2, 1) := by decide +kernel
theorem dL_law_819 : decode cL_law 819 = .ok (.iadd, 1) := by decide +kernel
theorem dL_law_820 : decode cL_law 820 = .ok (.iaload, 1) := by decide +kernel
theorem dL_law_821 : decode cL_law 821 = .ok (.invokevirtual 117, 3) := by decide +kernel
theorem dL_law_824 : decode cL_law 824 = .ok (.istore 6, 2) := by decide +kernel
theorem dL_law_826 : decode cL_law 826 = .ok (.aload_n 2, 1) := by decide +kernel
theorem dL_law_827 : decode cL_law 827 = .ok (.invokevirtual 80, 3) := by decide +kernel
theorem dL_law_830 : decode cL_law 830 = .ok (.iload 5, 2) := by decide +kernel
theorem dL_law_832 : decode cL_law 832 = .ok (.if_icmp .eq 5, 3) := by decide +kernel
theorem dL_law_835 : decode cL_law 835 = .ok (.iconst 0, 1) := by decide +kernel
theorem dL_law_836 : decode cL_law 836 = .ok (.ireturn, 1) := by decide +kernel
theorem dL_law_837 : decode cL_law 837 = .ok (.iload 5, 2) := by decide +kernel
theorem dL_law_839 : decode cL_law 839 = .ok (.ifCond .ne 15, 3) := by decide +kernel
theorem dL_law_842 : decode cL_law 842 = .ok (.aload_n 3, 1) := by decide +kernel
theorem dL_law_843 : decode cL_law 843 = .ok (.iconst 0, 1) := by decide +kernel
theorem dL_law_844 : decode cL_law 844 = .ok (.laload, 1) := by decide +kernel
theorem dL_law_845 : decode cL_law 845 = .ok (.iload 6, 2) := by decide +kernel
theorem dL_law_847 : decode cL_law 847 = .ok (.i2l, 1) := by decide +kernel
theorem dL_law_848 : decode cL_law 848 = .ok (.lcmp, 1) := by decide +kernel
theorem dL_law_849 : decode cL_law 849 = .ok (.ifCond .eq 5, 3) := by decide +kernel
theorem dL_law_852 : decode cL_law 852 = .ok (.iconst 0, 1) := by decide +kernel
theorem dL_law_853 : decode cL_law 853 = .ok (.ireturn, 1) := by decide +kernel
theorem dL_law_854 : decode cL_law 854 = .ok (.goto 559, 3) := by decide +kernel
theorem dL_law_857 : decode cL_law 857 = .ok (.aload_n 1, 1) := by decide +kernel
theorem dL_law_858 : decode cL_law 858 = .ok (.aload_n 0, 1) := by decide +kernel
theorem dL_law_859 : decode cL_law 859 = .ok (.iload 4, 2) := by decide +kernel
theorem dL_law_861 : decode cL_law 861 = .ok (.iconst 1, 1) := by decide +kernel
theorem dL_law_862 : decode cL_law 862 = .ok (.iadd, 1) := by decide +kernel
theorem dL_law_863 : decode cL_law 863 = .ok (.iaload, 1) := by decide +kernel
theorem dL_law_864 : decode cL_law 864 = .ok (.aload_n 0, 1) := by decide +kernel
theorem dL_law_865 : decode cL_law 865 = .ok (.iload 4, 2) := by decide +kernel
theorem dL_law_867 : decode cL_law 867 = .ok (.iconst 2, 1) := by decide +kernel
theorem dL_law_868 : decode cL_law 868 = .ok (.iadd, 1) := by decide +kernel
theorem dL_law_869 : decode cL_law 869 = .ok (.iaload, 1) := by decide +kernel
theorem dL_law_870 : decode cL_law 870 = .ok (.aload_n 3, 1) := by decide +kernel
theorem dL_law_871 : decode cL_law 871 = .ok (.invokestatic 118, 3) := by decide +kernel
theorem dL_law_874 : decode cL_law 874 = .ok (.istore 5, 2) := by decide +kernel
theorem dL_law_876 : decode cL_law 876 = .ok (.aload_n 2, 1) := by decide +kernel
theorem dL_law_877 : decode cL_law 877 = .ok (.aload_n 0, 1) := by decide +kernel
theorem dL_law_878 : decode cL_law 878 = .ok (.iload 4, 2) := by decide +kernel
theorem dL_law_880 : decode cL_law 880 = .ok (.iconst 1, 1) := by decide +kernel
theorem dL_law_881 : decode cL_law 881 = .ok (.iadd, 1) := by decide +kernel
theorem dL_law_882 : decode cL_law 882 = .ok (.iaload, 1) := by decide +kernel
theorem dL_law_883 : decode cL_law 883 = .ok (.aload_n 0, 1) := by decide +kernel
theorem dL_law_884 : decode cL_law 884 = .ok (.iload 4, 2) := by decide +kernel
theorem dL_law_886 : decode cL_law 886 = .ok (.iconst 2, 1) := by decide +kernel
theorem dL_law_887 : decode cL_law 887 = .ok (.iadd, 1) := by decide +kernel
theorem dL_law_888 : decode cL_law 888 = .ok (.iaload, 1) := by decide +kernel
theorem dL_law_889 : decode cL_law 889 = .ok (.invokevirtual 120, 3) := by decide +kernel
theorem dL_law_892 : decode cL_law 892 = .ok (.istore 6, 2) := by decide +kernel
theorem dL_law_894 : decode cL_law 894 = .ok (.aload_n 2, 1) := by decide +kernel
theorem dL_law_895 : decode cL_law 895 = .ok (.invokevirtual 80, 3) := by decide +kernel
theorem dL_law_898 : decode cL_law 898 = .ok (.iload 5, 2) := by decide +kernel
theorem dL_law_900 : decode cL_law 900 = .ok (.if_icmp .eq 5, 3) := by decide +kernel
theorem dL_law_903 : decode cL_law 903 = .ok (.iconst 0, 1) := by decide +kernel
theorem dL_law_904 : decode cL_law 904 = .ok (.ireturn, 1) := by decide +kernel
theorem dL_law_905 : decode cL_law 905 = .ok (.iload 5, 2) := by decide +kernel
theorem dL_law_907 : decode cL_law 907 = .ok (.ifCond .ne 15, 3) := by decide +kernel
theorem dL_law_910 : decode cL_law 910 = .ok (.aload_n 3, 1) := by decide +kernel
theorem dL_law_911 : decode cL_law 911 = .ok (.iconst 0, 1) := by decide +kernel
theorem dL_law_912 : decode cL_law 912 = .ok (.laload, 1) := by decide +kernel
theorem dL_law_913 : decode cL_law 913 = .ok (.iload 6, 2) := by decide +kernel
theorem dL_law_915 : decode cL_law 915 = .ok (.i2l, 1) := by decide +kernel
theorem dL_law_916 : decode cL_law 916 = .ok (.lcmp, 1) := by decide +kernel
theorem dL_law_917 : decode cL_law 917 = .ok (.ifCond .eq 5, 3) := by decide +kernel
theorem dL_law_920 : decode cL_law 920 = .ok (.iconst 0, 1) := by decide +kernel
theorem dL_law_921 : decode cL_law 921 = .ok (.ireturn, 1) := by decide +kernel
theorem dL_law_922 : decode cL_law 922 = .ok (.goto 491, 3) := by decide +kernel
theorem dL_law_925 : decode cL_law 925 = .ok (.aload_n 1, 1) := by decide +kernel
theorem dL_law_926 : decode cL_law 926 = .ok (.aload_n 0, 1) := by decide +kernel
theorem dL_law_927 : decode cL_law 927 = .ok (.iload 4, 2) := by decide +kernel
theorem dL_law_929 : decode cL_law 929 = .ok (.iconst 1, 1) := by decide +kernel
theorem dL_law_930 : decode cL_law 930 = .ok (.iadd, 1) := by decide +kernel
theorem dL_law_931 : decode cL_law 931 = .ok (.iaload, 1) := by decide +kernel
theorem dL_law_932 : decode cL_law 932 = .ok (.aload_n 0, 1) := by decide +kernel
theorem dL_law_933 : decode cL_law 933 = .ok (.iload 4, 2) := by decide +kernel
theorem dL_law_935 : decode cL_law 935 = .ok (.iconst 2, 1) := by decide +kernel
theorem dL_law_936 : decode cL_law 936 = .ok (.iadd, 1) := by decide +kernel
theorem dL_law_937 : decode cL_law 937 = .ok (.iaload, 1) := by decide +kernel
theorem dL_law_938 : decode cL_law 938 = .ok (.aload_n 3, 1) := by decide +kernel
theorem dL_law_939 : decode cL_law 939 = .ok (.invokestatic 121, 3) := by decide +kernel
theorem dL_law_942 : decode cL_law 942 = .ok (.istore 5, 2) := by decide +kernel
theorem dL_law_944 : decode cL_law 944 = .ok (.aload_n 2, 1) := by decide +kernel
theorem dL_law_945 : decode cL_law 945 = .ok (.aload_n 0, 1) := by decide +kernel
theorem dL_law_946 : decode cL_law 946 = .ok (.iload 4, 2) := by decide +kernel
theorem dL_law_948 : decode cL_law 948 = .ok (.iconst 1, 1) := by decide +kernel
theorem dL_law_949 : decode cL_law 949 = .ok (.iadd, 1) := by decide +kernel
theorem dL_law_950 : decode cL_law 950 = .ok (.iaload, 1) := by decide +kernel
theorem dL_law_951 : decode cL_law 951 = .ok (.aload_n 0, 1) := by decide +kernel
theorem dL_law_952 : decode cL_law 952 = .ok (.iload 4, 2) := by decide +kernel
theorem dL_law_954 : decode cL_law 954 = .ok (.iconst 2, 1) := by decide +kernel
theorem dL_law_955 : decode cL_law 955 = .ok (.iadd, 1) := by decide +kernel
theorem dL_law_956 : decode cL_law 956 = .ok (.iaload, 1) := by decide +kernel
theorem dL_law_957 : decode cL_law 957 = .ok (.invokevirtual 123, 3) := by decide +kernel
theorem dL_law_960 : decode cL_law 960 = .ok (.istore 6, 2) := by decide +kernel
theorem dL_law_962 : decode cL_law 962 = .ok (.aload_n 2, 1) := by decide +kernel
theorem dL_law_963 : decode cL_law 963 = .ok (.invokevirtual 80, 3) := by decide +kernel
theorem dL_law_966 : decode cL_law 966 = .ok (.iload 5, 2) := by decide +kernel
theorem dL_law_968 : decode cL_law 968 = .ok (.if_icmp .eq 5, 3) := by decide +kernel
theorem dL_law_971 : decode cL_law 971 = .ok (.iconst 0, 1) := by decide +kernel
theorem dL_law_972 : decode cL_law 972 = .ok (.ireturn, 1) := by decide +kernel
theorem dL_law_973 : decode cL_law 973 = .ok (.iload 5, 2) := by decide +kernel
theorem dL_law_975 : decode cL_law 975 = .ok (.ifCond .ne 15, 3) := by decide +kernel
theorem dL_law_978 : decode cL_law 978 = .ok (.aload_n 3, 1) := by decide +kernel
theorem dL_law_979 : decode cL_law 979 = .ok (.iconst 0, 1) := by decide +kernel
theorem dL_law_980 : decode cL_law 980 = .ok (.laload, 1) := by decide +kernel
theorem dL_law_981 : decode cL_law 981 = .ok (.iload 6, 2) := by decide +kernel
theorem dL_law_983 : decode cL_law 983 = .ok (.i2l, 1) := by decide +kernel
theorem dL_law_984 : decode cL_law 984 = .ok (.lcmp, 1) := by decide +kernel
theorem dL_law_985 : decode cL_law 985 = .ok (.ifCond .eq 5, 3) := by decide +kernel
theorem dL_law_988 : decode cL_law 988 = .ok (.iconst 0, 1) := by decide +kernel
theorem dL_law_989 : decode cL_law 989 = .ok (.ireturn, 1) := by decide +kernel
theorem dL_law_990 : decode cL_law 990 = .ok (.goto 423, 3) := by decide +kernel
theorem dL_law_993 : decode cL_law 993 = .ok (.aload_n 1, 1) := by decide +kernel
theorem dL_law_994 : decode cL_law 994 = .ok (.aload_n 0, 1) := by decide +kernel
theorem dL_law_995 : decode cL_law 995 = .ok (.iload 4, 2) := by decide +kernel
theorem dL_law_997 : decode cL_law 997 = .ok (.iconst 1, 1) := by decide +kernel
theorem dL_law_998 : decode cL_law 998 = .ok (.iadd, 1) := by decide +kernel
theorem dL_law_999 : decode cL_law 999 = .ok (.iaload, 1) := by decide +kernel
theorem dL_law_1000 : decode cL_law 1000 = .ok (.aload_n 0, 1) := by decide +kernel
theorem dL_law_1001 : decode cL_law 1001 = .ok (.iload 4, 2) := by decide +kernel
theorem dL_law_1003 : decode cL_law 1003 = .ok (.iconst 2, 1) := by decide +kernel
theorem dL_law_1004 : decode cL_law 1004 = .ok (.iadd, 1) := by decide +kernel
theorem dL_law_1005 : decode cL_law 1005 = .ok (.iaload, 1) := by decide +kernel
theorem dL_law_1006 : decode cL_law 1006 = .ok (.aload_n 3, 1) := by decide +kernel
theorem dL_law_1007 : decode cL_law 1007 = .ok (.invokestatic 124, 3) := by decide +kernel
theorem dL_law_1010 : decode cL_law 1010 = .ok (.istore 5, 2) := by decide +kernel
theorem dL_law_1012 : decode cL_law 1012 = .ok (.aload_n 2, 1) := by decide +kernel
theorem dL_law_1013 : decode cL_law 1013 = .ok (.aload_n 0, 1) := by decide +kernel
theorem dL_law_1014 : decode cL_law 1014 = .ok (.iload 4, 2) := by decide +kernel
theorem dL_law_1016 : decode cL_law 1016 = .ok (.iconst 1, 1) := by decide +kernel
theorem dL_law_1017 : decode cL_law 1017 = .ok (.iadd, 1) := by decide +kernel
theorem dL_law_1018 : decode cL_law 1018 = .ok (.iaload, 1) := by decide +kernel
theorem dL_law_1019 : decode cL_law 1019 = .ok (.aload_n 0, 1) := by decide +kernel
theorem dL_law_1020 : decode cL_law 1020 = .ok (.iload 4, 2) := by decide +kernel
theorem dL_law_1022 : decode cL_law 1022 = .ok (.iconst 2, 1) := by decide +kernel
theorem dL_law_1023 : decode cL_law 1023 = .ok (.iadd, 1) := by decide +kernel
theorem dL_law_1024 : decode cL_law 1024 = .ok (.iaload, 1) := by decide +kernel
theorem dL_law_1025 : decode cL_law 1025 = .ok (.invokevirtual 126, 3) := by decide +kernel
theorem dL_law_1028 : decode cL_law 1028 = .ok (.istore 6, 2) := by decide +kernel
theorem dL_law_1030 : decode cL_law 1030 = .ok (.aload_n 2, 1) := by decide +kernel
theorem dL_law_1031 : decode cL_law 1031 = .ok (.invokevirtual 80, 3) := by decide +kernel
theorem dL_law_1034 : decode cL_law 1034 = .ok (.iload 5, 2) := by decide +kernel
theorem dL_law_1036 : decode cL_law 1036 = .ok (.if_icmp .eq 5, 3) := by decide +kernel
theorem dL_law_1039 : decode cL_law 1039 = .ok (.iconst 0, 1) := by decide +kernel
theorem dL_law_1040 : decode cL_law 1040 = .ok (.ireturn, 1) := by decide +kernel
theorem dL_law_1041 : decode cL_law 1041 = .ok (.iload 5, 2) := by decide +kernel
theorem dL_law_1043 : decode cL_law 1043 = .ok (.ifCond .ne 15, 3) := by decide +kernel
theorem dL_law_1046 : decode cL_law 1046 = .ok (.aload_n 3, 1) := by decide +kernel
theorem dL_law_1047 : decode cL_law 1047 = .ok (.iconst 0, 1) := by decide +kernel
theorem dL_law_1048 : decode cL_law 1048 = .ok (.laload, 1) := by decide +kernel
theorem dL_law_1049 : decode cL_law 1049 = .ok (.iload 6, 2) := by decide +kernel
theorem dL_law_1051 : decode cL_law 1051 = .ok (.i2l, 1) := by decide +kernel
theorem dL_law_1052 : decode cL_law 1052 = .ok (.lcmp, 1) := by decide +kernel
theorem dL_law_1053 : decode cL_law 1053 = .ok (.ifCond .eq 5, 3) := by decide +kernel
theorem dL_law_1056 : decode cL_law 1056 = .ok (.iconst 0, 1) := by decide +kernel
theorem dL_law_1057 : decode cL_law 1057 = .ok (.ireturn, 1) := by decide +kernel
theorem dL_law_1058 : decode cL_law 1058 = .ok (.goto 355, 3) := by decide +kernel
theorem dL_law_1061 : decode cL_law 1061 = .ok (.aload_n 1, 1) := by decide +kernel
theorem dL_law_1062 : decode cL_law 1062 = .ok (.aload_n 0, 1) := by decide +kernel
theorem dL_law_1063 : decode cL_law 1063 = .ok (.iload 4, 2) := by decide +kernel
theorem dL_law_1065 : decode cL_law 1065 = .ok (.iconst 1, 1) := by decide +kernel
theorem dL_law_1066 : decode cL_law 1066 = .ok (.iadd, 1) := by decide +kernel
theorem dL_law_1067 : decode cL_law 1067 = .ok (.iaload, 1) := by decide +kernel
theorem dL_law_1068 : decode cL_law 1068 = .ok (.aload_n 3, 1) := by decide +kernel
theorem dL_law_1069 : decode cL_law 1069 = .ok (.invokestatic 127, 3) := by decide +kernel
theorem dL_law_1072 : decode cL_law 1072 = .ok (.istore 5, 2) := by decide +kernel
theorem dL_law_1074 : decode cL_law 1074 = .ok (.aload_n 2, 1) := by decide +kernel
theorem dL_law_1075 : decode cL_law 1075 = .ok (.aload_n 0, 1) := by decide +kernel
theorem dL_law_1076 : decode cL_law 1076 = .ok (.iload 4, 2) := by decide +kernel
theorem dL_law_1078 : decode cL_law 1078 = .ok (.iconst 1, 1) := by decide +kernel
theorem dL_law_1079 : decode cL_law 1079 = .ok (.iadd, 1) := by decide +kernel
theorem dL_law_1080 : decode cL_law 1080 = .ok (.iaload, 1) := by decide +kernel
theorem dL_law_1081 : decode cL_law 1081 = .ok (.invokevirtual 129, 3) := by decide +kernel
theorem dL_law_1084 : decode cL_law 1084 = .ok (.istore 6, 2) := by decide +kernel
theorem dL_law_1086 : decode cL_law 1086 = .ok (.aload_n 2, 1) := by decide +kernel
theorem dL_law_1087 : decode cL_law 1087 = .ok (.invokevirtual 80, 3) := by decide +kernel
theorem dL_law_1090 : decode cL_law 1090 = .ok (.iload 5, 2) := by decide +kernel
theorem dL_law_1092 : decode cL_law 1092 = .ok (.if_icmp .eq 5, 3) := by decide +kernel
theorem dL_law_1095 : decode cL_law 1095 = .ok (.iconst 0, 1) := by decide +kernel
theorem dL_law_1096 : decode cL_law 1096 = .ok (.ireturn, 1) := by decide +kernel
theorem dL_law_1097 : decode cL_law 1097 = .ok (.iload 5, 2) := by decide +kernel
theorem dL_law_1099 : decode cL_law 1099 = .ok (.ifCond .ne 15, 3) := by decide +kernel
theorem dL_law_1102 : decode cL_law 1102 = .ok (.aload_n 3, 1) := by decide +kernel
theorem dL_law_1103 : decode cL_law 1103 = .ok (.iconst 0, 1) := by decide +kernel
theorem dL_law_1104 : decode cL_law 1104 = .ok (.laload, 1) := by decide +kernel
theorem dL_law_1105 : decode cL_law 1105 = .ok (.iload 6, 2) := by decide +kernel
theorem dL_law_1107 : decode cL_law 1107 = .ok (.i2l, 1) := by decide +kernel
theorem dL_law_1108 : decode cL_law 1108 = .ok (.lcmp, 1) := by decide +kernel
theorem dL_law_1109 : decode cL_law 1109 = .ok (.ifCond .eq 5, 3) := by decide +kernel
theorem dL_law_1112 : decode cL_law 1112 = .ok (.iconst 0, 1) := by decide +kernel
theorem dL_law_1113 : decode cL_law 1113 = .ok (.ireturn, 1) := by decide +kernel
theorem dL_law_1114 : decode cL_law 1114 = .ok (.goto 299, 3) := by decide +kernel
theorem dL_law_1117 : decode cL_law 1117 = .ok (.aload_n 1, 1) := by decide +kernel
theorem dL_law_1118 : decode cL_law 1118 = .ok (.aload_n 0, 1) := by decide +kernel
theorem dL_law_1119 : decode cL_law 1119 = .ok (.iload 4, 2) := by decide +kernel
theorem dL_law_1121 : decode cL_law 1121 = .ok (.iconst 1, 1) := by decide +kernel
theorem dL_law_1122 : decode cL_law 1122 = .ok (.iadd, 1) := by decide +kernel
theorem dL_law_1123 : decode cL_law 1123 = .ok (.iaload, 1) := by decide +kernel
theorem dL_law_1124 : decode cL_law 1124 = .ok (.aload_n 0, 1) := by decide +kernel
theorem dL_law_1125 : decode cL_law 1125 = .ok (.iload 4, 2) := by decide +kernel
theorem dL_law_1127 : decode cL_law 1127 = .ok (.iconst 2, 1) := by decide +kernel
theorem dL_law_1128 : decode cL_law 1128 = .ok (.iadd, 1) := by decide +kernel
theorem dL_law_1129 : decode cL_law 1129 = .ok (.iaload, 1) := by decide +kernel
theorem dL_law_1130 : decode cL_law 1130 = .ok (.aload_n 0, 1) := by decide +kernel
theorem dL_law_1131 : decode cL_law 1131 = .ok (.iload 4, 2) := by decide +kernel
theorem dL_law_1133 : decode cL_law 1133 = .ok (.iconst 3, 1) := by decide +kernel
theorem dL_law_1134 : decode cL_law 1134 = .ok (.iadd, 1) := by decide +kernel
theorem dL_law_1135 : decode cL_law 1135 = .ok (.iaload, 1) := by decide +kernel
theorem dL_law_1136 : decode cL_law 1136 = .ok (.aload_n 3, 1) := by decide +kernel
theorem dL_law_1137 : decode cL_law 1137 = .ok (.invokestatic 130, 3) := by decide +kernel
theorem dL_law_1140 : decode cL_law 1140 = .ok (.istore 5, 2) := by decide +kernel
theorem dL_law_1142 : decode cL_law 1142 = .ok (.aload_n 2, 1) := by decide +kernel
theorem dL_law_1143 : decode cL_law 1143 = .ok (.aload_n 0, 1) := by decide +kernel
theorem dL_law_1144 : decode cL_law 1144 = .ok (.iload 4, 2) := by decide +kernel
theorem dL_law_1146 : decode cL_law 1146 = .ok (.iconst 1, 1) := by decide +kernel
theorem dL_law_1147 : decode cL_law 1147 = .ok (.iadd, 1) := by decide +kernel
theorem dL_law_1148 : decode cL_law 1148 = .ok (.iaload, 1) := by decide +kernel
theorem dL_law_1149 : decode cL_law 1149 = .ok (.aload_n 0, 1) := by decide +kernel
theorem dL_law_1150 : decode cL_law 1150 = .ok (.iload 4, 2) := by decide +kernel
theorem dL_law_1152 : decode cL_law 1152 = .ok (.iconst 2, 1) := by decide +kernel
theorem dL_law_1153 : decode cL_law 1153 = .ok (.iadd, 1) := by decide +kernel
theorem dL_law_1154 : decode cL_law 1154 = .ok (.iaload, 1) := by decide +kernel
theorem dL_law_1155 : decode cL_law 1155 = .ok (.aload_n 0, 1) := by decide +kernel
theorem dL_law_1156 : decode cL_law 1156 = .ok (.iload 4, 2) := by decide +kernel
theorem dL_law_1158 : decode cL_law 1158 = .ok (.iconst 3, 1) := by decide +kernel
theorem dL_law_1159 : decode cL_law 1159 = .ok (.iadd, 1) := by decide +kernel
theorem dL_law_1160 : decode cL_law 1160 = .ok (.iaload, 1) := by decide +kernel
theorem dL_law_1161 : decode cL_law 1161 = .ok (.invokevirtual 132, 3) := by decide +kernel
theorem dL_law_1164 : decode cL_law 1164 = .ok (.istore 6, 2) := by decide +kernel
theorem dL_law_1166 : decode cL_law 1166 = .ok (.aload_n 2, 1) := by decide +kernel
theorem dL_law_1167 : decode cL_law 1167 = .ok (.invokevirtual 80, 3) := by decide +kernel
theorem dL_law_1170 : decode cL_law 1170 = .ok (.iload 5, 2) := by decide +kernel
theorem dL_law_1172 : decode cL_law 1172 = .ok (.if_icmp .eq 5, 3) := by decide +kernel
theorem dL_law_1175 : decode cL_law 1175 = .ok (.iconst 0, 1) := by decide +kernel
theorem dL_law_1176 : decode cL_law 1176 = .ok (.ireturn, 1) := by decide +kernel
theorem dL_law_1177 : decode cL_law 1177 = .ok (.iload 5, 2) := by decide +kernel
theorem dL_law_1179 : decode cL_law 1179 = .ok (.ifCond .ne 15, 3) := by decide +kernel
theorem dL_law_1182 : decode cL_law 1182 = .ok (.aload_n 3, 1) := by decide +kernel
theorem dL_law_1183 : decode cL_law 1183 = .ok (.iconst 0, 1) := by decide +kernel
theorem dL_law_1184 : decode cL_law 1184 = .ok (.laload, 1) := by decide +kernel
theorem dL_law_1185 : decode cL_law 1185 = .ok (.iload 6, 2) := by decide +kernel
theorem dL_law_1187 : decode cL_law 1187 = .ok (.i2l, 1) := by decide +kernel
theorem dL_law_1188 : decode cL_law 1188 = .ok (.lcmp, 1) := by decide +kernel
theorem dL_law_1189 : decode cL_law 1189 = .ok (.ifCond .eq 5, 3) := by decide +kernel
theorem dL_law_1192 : decode cL_law 1192 = .ok (.iconst 0, 1) := by decide +kernel
theorem dL_law_1193 : decode cL_law 1193 = .ok (.ireturn, 1) := by decide +kernel
theorem dL_law_1194 : decode cL_law 1194 = .ok (.goto 219, 3) := by decide +kernel
theorem dL_law_1197 : decode cL_law 1197 = .ok (.aload_n 1, 1) := by decide +kernel
theorem dL_law_1198 : decode cL_law 1198 = .ok (.aload_n 0, 1) := by decide +kernel
theorem dL_law_1199 : decode cL_law 1199 = .ok (.iload 4, 2) := by decide +kernel
theorem dL_law_1201 : decode cL_law 1201 = .ok (.iconst 1, 1) := by decide +kernel
theorem dL_law_1202 : decode cL_law 1202 = .ok (.iadd, 1) := by decide +kernel
theorem dL_law_1203 : decode cL_law 1203 = .ok (.iaload, 1) := by decide +kernel
theorem dL_law_1204 : decode cL_law 1204 = .ok (.aload_n 0, 1) := by decide +kernel
theorem dL_law_1205 : decode cL_law 1205 = .ok (.iload 4, 2) := by decide +kernel
theorem dL_law_1207 : decode cL_law 1207 = .ok (.iconst 2, 1) := by decide +kernel
theorem dL_law_1208 : decode cL_law 1208 = .ok (.iadd, 1) := by decide +kernel
theorem dL_law_1209 : decode cL_law 1209 = .ok (.iaload, 1) := by decide +kernel
theorem dL_law_1210 : decode cL_law 1210 = .ok (.aload_n 0, 1) := by decide +kernel
theorem dL_law_1211 : decode cL_law 1211 = .ok (.iload 4, 2) := by decide +kernel
theorem dL_law_1213 : decode cL_law 1213 = .ok (.iconst 3, 1) := by decide +kernel
theorem dL_law_1214 : decode cL_law 1214 = .ok (.iadd, 1) := by decide +kernel
theorem dL_law_1215 : decode cL_law 1215 = .ok (.iaload, 1) := by decide +kernel
theorem dL_law_1216 : decode cL_law 1216 = .ok (.aload_n 3, 1) := by decide +kernel
theorem dL_law_1217 : decode cL_law 1217 = .ok (.invokestatic 133, 3) := by decide +kernel
theorem dL_law_1220 : decode cL_law 1220 = .ok (.istore 5, 2) := by decide +kernel
theorem dL_law_1222 : decode cL_law 1222 = .ok (.aload_n 2, 1) := by decide +kernel
theorem dL_law_1223 : decode cL_law 1223 = .ok (.aload_n 0, 1) := by decide +kernel
theorem dL_law_1224 : decode cL_law 1224 = .ok (.iload 4, 2) := by decide +kernel
theorem dL_law_1226 : decode cL_law 1226 = .ok (.iconst 1, 1) := by decide +kernel
theorem dL_law_1227 : decode cL_law 1227 = .ok (.iadd, 1) := by decide +kernel
theorem dL_law_1228 : decode cL_law 1228 = .ok (.iaload, 1) := by decide +kernel
theorem dL_law_1229 : decode cL_law 1229 = .ok (.aload_n 0, 1) := by decide +kernel
theorem dL_law_1230 : decode cL_law 1230 = .ok (.iload 4, 2) := by decide +kernel
theorem dL_law_1232 : decode cL_law 1232 = .ok (.iconst 2, 1) := by decide +kernel
theorem dL_law_1233 : decode cL_law 1233 = .ok (.iadd, 1) := by decide +kernel
theorem dL_law_1234 : decode cL_law 1234 = .ok (.iaload, 1) := by decide +kernel
theorem dL_law_1235 : decode cL_law 1235 = .ok (.aload_n 0, 1) := by decide +kernel
theorem dL_law_1236 : decode cL_law 1236 = .ok (.iload 4, 2) := by decide +kernel
theorem dL_law_1238 : decode cL_law 1238 = .ok (.iconst 3, 1) := by decide +kernel
theorem dL_law_1239 : decode cL_law 1239 = .ok (.iadd, 1) := by decide +kernel
theorem dL_law_1240 : decode cL_law 1240 = .ok (.iaload, 1) := by decide +kernel
theorem dL_law_1241 : decode cL_law 1241 = .ok (.invokevirtual 135, 3) := by decide +kernel
theorem dL_law_1244 : decode cL_law 1244 = .ok (.istore 6, 2) := by decide +kernel
theorem dL_law_1246 : decode cL_law 1246 = .ok (.aload_n 2, 1) := by decide +kernel
theorem dL_law_1247 : decode cL_law 1247 = .ok (.invokevirtual 80, 3) := by decide +kernel
theorem dL_law_1250 : decode cL_law 1250 = .ok (.iload 5, 2) := by decide +kernel
theorem dL_law_1252 : decode cL_law 1252 = .ok (.if_icmp .eq 5, 3) := by decide +kernel
theorem dL_law_1255 : decode cL_law 1255 = .ok (.iconst 0, 1) := by decide +kernel
theorem dL_law_1256 : decode cL_law 1256 = .ok (.ireturn, 1) := by decide +kernel
theorem dL_law_1257 : decode cL_law 1257 = .ok (.iload 5, 2) := by decide +kernel
theorem dL_law_1259 : decode cL_law 1259 = .ok (.ifCond .ne 15, 3) := by decide +kernel
theorem dL_law_1262 : decode cL_law 1262 = .ok (.aload_n 3, 1) := by decide +kernel
theorem dL_law_1263 : decode cL_law 1263 = .ok (.iconst 0, 1) := by decide +kernel
theorem dL_law_1264 : decode cL_law 1264 = .ok (.laload, 1) := by decide +kernel
theorem dL_law_1265 : decode cL_law 1265 = .ok (.iload 6, 2) := by decide +kernel
theorem dL_law_1267 : decode cL_law 1267 = .ok (.i2l, 1) := by decide +kernel
theorem dL_law_1268 : decode cL_law 1268 = .ok (.lcmp, 1) := by decide +kernel
theorem dL_law_1269 : decode cL_law 1269 = .ok (.ifCond .eq 5, 3) := by decide +kernel
theorem dL_law_1272 : decode cL_law 1272 = .ok (.iconst 0, 1) := by decide +kernel
theorem dL_law_1273 : decode cL_law 1273 = .ok (.ireturn, 1) := by decide +kernel
theorem dL_law_1274 : decode cL_law 1274 = .ok (.goto 139, 3) := by decide +kernel
theorem dL_law_1277 : decode cL_law 1277 = .ok (.aload_n 1, 1) := by decide +kernel
theorem dL_law_1278 : decode cL_law 1278 = .ok (.aload_n 0, 1) := by decide +kernel
theorem dL_law_1279 : decode cL_law 1279 = .ok (.iload 4, 2) := by decide +kernel
theorem dL_law_1281 : decode cL_law 1281 = .ok (.iconst 1, 1) := by decide +kernel
theorem dL_law_1282 : decode cL_law 1282 = .ok (.iadd, 1) := by decide +kernel
theorem dL_law_1283 : decode cL_law 1283 = .ok (.iaload, 1) := by decide +kernel
theorem dL_law_1284 : decode cL_law 1284 = .ok (.aload_n 0, 1) := by decide +kernel
theorem dL_law_1285 : decode cL_law 1285 = .ok (.iload 4, 2) := by decide +kernel
theorem dL_law_1287 : decode cL_law 1287 = .ok (.iconst 2, 1) := by decide +kernel
theorem dL_law_1288 : decode cL_law 1288 = .ok (.iadd, 1) := by decide +kernel
theorem dL_law_1289 : decode cL_law 1289 = .ok (.iaload, 1) := by decide +kernel
theorem dL_law_1290 : decode cL_law 1290 = .ok (.aload_n 3, 1) := by decide +kernel
theorem dL_law_1291 : decode cL_law 1291 = .ok (.invokestatic 136, 3) := by decide +kernel
theorem dL_law_1294 : decode cL_law 1294 = .ok (.istore 5, 2) := by decide +kernel
theorem dL_law_1296 : decode cL_law 1296 = .ok (.aload_n 2, 1) := by decide +kernel
theorem dL_law_1297 : decode cL_law 1297 = .ok (.aload_n 0, 1) := by decide +kernel
theorem dL_law_1298 : decode cL_law 1298 = .ok (.iload 4, 2) := by decide +kernel
theorem dL_law_1300 : decode cL_law 1300 = .ok (.iconst 1, 1) := by decide +kernel
theorem dL_law_1301 : decode cL_law 1301 = .ok (.iadd, 1) := by decide +kernel
theorem dL_law_1302 : decode cL_law 1302 = .ok (.iaload, 1) := by decide +kernel
theorem dL_law_1303 : decode cL_law 1303 = .ok (.aload_n 0, 1) := by decide +kernel
theorem dL_law_1304 : decode cL_law 1304 = .ok (.iload 4, 2) := by decide +kernel
theorem dL_law_1306 : decode cL_law 1306 = .ok (.iconst 2, 1) := by decide +kernel
theorem dL_law_1307 : decode cL_law 1307 = .ok (.iadd, 1) := by decide +kernel
theorem dL_law_1308 : decode cL_law 1308 = .ok (.iaload, 1) := by decide +kernel
theorem dL_law_1309 : decode cL_law 1309 = .ok (.invokevirtual 138, 3) := by decide +kernel
theorem dL_law_1312 : decode cL_law 1312 = .ok (.istore 6, 2) := by decide +kernel
theorem dL_law_1314 : decode cL_law 1314 = .ok (.aload_n 2, 1) := by decide +kernel
theorem dL_law_1315 : decode cL_law 1315 = .ok (.invokevirtual 80, 3) := by decide +kernel
theorem dL_law_1318 : decode cL_law 1318 = .ok (.iload 5, 2) := by decide +kernel
theorem dL_law_1320 : decode cL_law 1320 = .ok (.if_icmp .eq 5, 3) := by decide +kernel
theorem dL_law_1323 : decode cL_law 1323 = .ok (.iconst 0, 1) := by decide +kernel
theorem dL_law_1324 : decode cL_law 1324 = .ok (.ireturn, 1) := by decide +kernel
theorem dL_law_1325 : decode cL_law 1325 = .ok (.iload 5, 2) := by decide +kernel
theorem dL_law_1327 : decode cL_law 1327 = .ok (.ifCond .ne 15, 3) := by decide +kernel
theorem dL_law_1330 : decode cL_law 1330 = .ok (.aload_n 3, 1) := by decide +kernel
theorem dL_law_1331 : decode cL_law 1331 = .ok (.iconst 0, 1) := by decide +kernel
theorem dL_law_1332 : decode cL_law 1332 = .ok (.laload, 1) := by decide +kernel
theorem dL_law_1333 : decode cL_law 1333 = .ok (.iload 6, 2) := by decide +kernel
theorem dL_law_1335 : decode cL_law 1335 = .ok (.i2l, 1) := by decide +kernel
theorem dL_law_1336 : decode cL_law 1336 = .ok (.lcmp, 1) := by decide +kernel
theorem dL_law_1337 : decode cL_law 1337 = .ok (.ifCond .eq 5, 3) := by decide +kernel
theorem dL_law_1340 : decode cL_law 1340 = .ok (.iconst 0, 1) := by decide +kernel
theorem dL_law_1341 : decode cL_law 1341 = .ok (.ireturn, 1) := by decide +kernel
theorem dL_law_1342 : decode cL_law 1342 = .ok (.goto 71, 3) := by decide +kernel
theorem dL_law_1345 : decode cL_law 1345 = .ok (.aload_n 1, 1) := by decide +kernel
theorem dL_law_1346 : decode cL_law 1346 = .ok (.invokevirtual 139, 3) := by decide +kernel
theorem dL_law_1349 : decode cL_law 1349 = .ok (.aload_n 2, 1) := by decide +kernel
theorem dL_law_1350 : decode cL_law 1350 = .ok (.invokevirtual 142, 3) := by decide +kernel
theorem dL_law_1353 : decode cL_law 1353 = .ok (.if_icmp .eq 60, 3) := by decide +kernel
theorem dL_law_1356 : decode cL_law 1356 = .ok (.iconst 0, 1) := by decide +kernel
theorem dL_law_1357 : decode cL_law 1357 = .ok (.ireturn, 1) := by decide +kernel
theorem dL_law_1358 : decode cL_law 1358 = .ok (.aload_n 1, 1) := by decide +kernel
theorem dL_law_1359 : decode cL_law 1359 = .ok (.invokevirtual 143, 3) := by decide +kernel
theorem dL_law_1362 : decode cL_law 1362 = .ok (.dstore 5, 2) := by decide +kernel
theorem dL_law_1364 : decode cL_law 1364 = .ok (.aload_n 2, 1) := by decide +kernel
theorem dL_law_1365 : decode cL_law 1365 = .ok (.invokevirtual 147, 3) := by decide +kernel
theorem dL_law_1368 : decode cL_law 1368 = .ok (.dstore 7, 2) := by decide +kernel
theorem dL_law_1370 : decode cL_law 1370 = .ok (.dload 5, 2) := by decide +kernel
theorem dL_law_1372 : decode cL_law 1372 = .ok (.dload 7, 2) := by decide +kernel
theorem dL_law_1374 : decode cL_law 1374 = .ok (.dcmp .l, 1) := by decide +kernel
theorem dL_law_1375 : decode cL_law 1375 = .ok (.ifCond .eq 21, 3) := by decide +kernel
theorem dL_law_1378 : decode cL_law 1378 = .ok (.dload 5, 2) := by decide +kernel
theorem dL_law_1380 : decode cL_law 1380 = .ok (.dload 5, 2) := by decide +kernel
theorem dL_law_1382 : decode cL_law 1382 = .ok (.dcmp .l, 1) := by decide +kernel
theorem dL_law_1383 : decode cL_law 1383 = .ok (.ifCond .eq 11, 3) := by decide +kernel
theorem dL_law_1386 : decode cL_law 1386 = .ok (.dload 7, 2) := by decide +kernel
theorem dL_law_1388 : decode cL_law 1388 = .ok (.dload 7, 2) := by decide +kernel
theorem dL_law_1390 : decode cL_law 1390 = .ok (.dcmp .l, 1) := by decide +kernel
theorem dL_law_1391 : decode cL_law 1391 = .ok (.ifCond .ne 5, 3) := by decide +kernel
theorem dL_law_1394 : decode cL_law 1394 = .ok (.iconst 0, 1) := by decide +kernel
theorem dL_law_1395 : decode cL_law 1395 = .ok (.ireturn, 1) := by decide +kernel
theorem dL_law_1396 : decode cL_law 1396 = .ok (.goto 17, 3) := by decide +kernel
theorem dL_law_1399 : decode cL_law 1399 = .ok (.aload_n 1, 1) := by decide +kernel
theorem dL_law_1400 : decode cL_law 1400 = .ok (.invokevirtual 148, 3) := by decide +kernel
theorem dL_law_1403 : decode cL_law 1403 = .ok (.aload_n 2, 1) := by decide +kernel
theorem dL_law_1404 : decode cL_law 1404 = .ok (.invokevirtual 152, 3) := by decide +kernel
theorem dL_law_1407 : decode cL_law 1407 = .ok (.lcmp, 1) := by decide +kernel
theorem dL_law_1408 : decode cL_law 1408 = .ok (.ifCond .eq 5, 3) := by decide +kernel
theorem dL_law_1411 : decode cL_law 1411 = .ok (.iconst 0, 1) := by decide +kernel
theorem dL_law_1412 : decode cL_law 1412 = .ok (.ireturn, 1) := by decide +kernel
theorem dL_law_1413 : decode cL_law 1413 = .ok (.iinc 4 4, 3) := by decide +kernel
theorem dL_law_1416 : decode cL_law 1416 = .ok (.goto (-1393), 3) := by decide +kernel
theorem dL_law_1419 : decode cL_law 1419 = .ok (.iconst 1, 1) := by decide +kernel
theorem dL_law_1420 : decode cL_law 1420 = .ok (.ireturn, 1) := by decide +kernel
