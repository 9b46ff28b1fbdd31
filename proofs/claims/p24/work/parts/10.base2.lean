theorem CF0 : dm_CF RX0 TX0 3 0 tyX0 := ⟨fun w hw => by
    obtain ⟨k, hk, rfl⟩ := List.mem_map.mp hw
    have hk := List.mem_range.mp hk
    rcases (show k = 0 ∨ k = 1 ∨ k = 2 by omega) with rfl | rfl | rfl
    · exact wd_2_100
    · exact wd_2_102
    · exact wd_2_104, tyX0_ok, nmX0, rfl⟩
theorem CF1 : dm_CF RX1 TX1 5 1 tyX1 := ⟨fun w hw => by
    obtain ⟨k, hk, rfl⟩ := List.mem_map.mp hw
    have hk := List.mem_range.mp hk
    rcases (show k = 0 ∨ k = 1 ∨ k = 2 ∨ k = 3 ∨ k = 4 by omega) with rfl | rfl | rfl | rfl | rfl
    · exact wd_3_7
    · exact wd_3_9
    · exact wd_3_11
    · exact wd_3_13
    · exact wd_3_15, tyX1_ok, nmX1, rfl⟩
theorem CF2 : dm_CF RX2 TX2 1 2 tyX2 := ⟨fun w hw => by
    obtain ⟨k, hk, rfl⟩ := List.mem_map.mp hw
    have hk := List.mem_range.mp hk
    rcases (show k = 0 by omega) with rfl
    · exact wd_1_38, tyX2_ok, nmX2, rfl⟩
theorem CF3 : dm_CF RX3 TX3 5 3 tyX3 := ⟨fun w hw => by
    obtain ⟨k, hk, rfl⟩ := List.mem_map.mp hw
    have hk := List.mem_range.mp hk
    rcases (show k = 0 ∨ k = 1 ∨ k = 2 ∨ k = 3 ∨ k = 4 by omega) with rfl | rfl | rfl | rfl | rfl
    · exact wd_2_204
    · exact wd_2_206
    · exact wd_2_208
    · exact wd_2_210
    · exact wd_2_212, tyX3_ok, nmX3, rfl⟩
theorem CF4 : dm_CF RX4 TX4 11 4 tyX4 := ⟨fun w hw => by
    obtain ⟨k, hk, rfl⟩ := List.mem_map.mp hw
    have hk := List.mem_range.mp hk
    rcases (show k = 0 ∨ k = 1 ∨ k = 2 ∨ k = 3 ∨ k = 4 ∨ k = 5 ∨ k = 6 ∨ k = 7 ∨ k = 8 ∨ k = 9 ∨ k = 10 by omega) with rfl | rfl | rfl | rfl | rfl | rfl | rfl | rfl | rfl | rfl | rfl
    · exact wd_1_53
    · exact wd_1_55
    · exact wd_1_57
    · exact wd_1_59
    · exact wd_1_61
    · exact wd_1_63
    · exact wd_1_65
    · exact wd_1_67
    · exact wd_1_69
    · exact wd_1_71
    · exact wd_1_73, tyX4_ok, nmX4, rfl⟩
theorem CF5 : dm_CF RX5 TX5 3 5 tyX5 := ⟨fun w hw => by
    obtain ⟨k, hk, rfl⟩ := List.mem_map.mp hw
    have hk := List.mem_range.mp hk
    rcases (show k = 0 ∨ k = 1 ∨ k = 2 by omega) with rfl | rfl | rfl
    · exact wd_2_44
    · exact wd_2_46
    · exact wd_2_48, tyX5_ok, nmX5, rfl⟩
theorem CF6 : dm_CF RX6 TX6 4 6 tyX6 := ⟨fun w hw => by
    obtain ⟨k, hk, rfl⟩ := List.mem_map.mp hw
    have hk := List.mem_range.mp hk
    rcases (show k = 0 ∨ k = 1 ∨ k = 2 ∨ k = 3 by omega) with rfl | rfl | rfl | rfl
    · exact wd_3_117
    · exact wd_3_119
    · exact wd_3_121
    · exact wd_3_123, tyX6_ok, nmX6, rfl⟩
theorem md_X2_init : dm_md yX2_init 0 := by unfold dm_md; decide +kernel
theorem md_X0_init : dm_md yX0_init 1 := by unfold dm_md; decide +kernel
theorem md_X0_mixed : dm_md yX0_mixed 3 := by unfold dm_md; decide +kernel
theorem md_X2_vanish : dm_md yX2_vanish 0 := by unfold dm_md; decide +kernel
theorem md_X0_takeIn : dm_md yX0_takeIn 1 := by unfold dm_md; decide +kernel
theorem md_X1_init : dm_md yX1_init 2 := by unfold dm_md; decide +kernel
theorem md_X3_squares : dm_md yX3_squares 0 := by unfold dm_md; decide +kernel
theorem md_X1_suits : dm_md yX1_suits 2 := by unfold dm_md; decide +kernel
theorem md_X1_take : dm_md yX1_take 1 := by unfold dm_md; decide +kernel
theorem md_X2_meltingPoint : dm_md yX2_meltingPoint 1 := by unfold dm_md; decide +kernel
theorem md_X2_halveWhatMelts : dm_md yX2_halveWhatMelts 1 := by unfold dm_md; decide +kernel
theorem md_X2_growingSort : dm_md yX2_growingSort 1 := by unfold dm_md; decide +kernel
theorem md_X2_total : dm_md yX2_total 0 := by unfold dm_md; decide +kernel
theorem md_X2_increase : dm_md yX2_increase 2 := by unfold dm_md; decide +kernel
theorem md_X2_letGrow : dm_md yX2_letGrow 1 := by unfold dm_md; decide +kernel
theorem md_X2_keepAt : dm_md yX2_keepAt 2 := by unfold dm_md; decide +kernel
theorem md_X2_temper : dm_md yX2_temper 0 := by unfold dm_md; decide +kernel
theorem md_X3_init : dm_md yX3_init 3 := by unfold dm_md; decide +kernel
theorem md_X3_grams : dm_md yX3_grams 0 := by unfold dm_md; decide +kernel
theorem md_X3_isBloomed : dm_md yX3_isBloomed 0 := by unfold dm_md; decide +kernel
theorem md_X3_bloomBehindPolish : dm_md yX3_bloomBehindPolish 0 := by unfold dm_md; decide +kernel
theorem md_X3_bloomOfADay : dm_md yX3_bloomOfADay 1 := by unfold dm_md; decide +kernel
theorem md_X3_standFor : dm_md yX3_standFor 2 := by unfold dm_md; decide +kernel
theorem md_X3_partBehind : dm_md yX3_partBehind 2 := by unfold dm_md; decide +kernel
theorem md_X3_cutDownTo : dm_md yX3_cutDownTo 2 := by unfold dm_md; decide +kernel
theorem md_X4_init : dm_md yX4_init 0 := by unfold dm_md; decide +kernel
theorem md_X4_bowl : dm_md yX4_bowl 1 := by unfold dm_md; decide +kernel
theorem md_X4_bowlAt : dm_md yX4_bowlAt 1 := by unfold dm_md; decide +kernel
theorem md_X4_checkWarming : dm_md yX4_checkWarming 2 := by unfold dm_md; decide +kernel
theorem md_X4_warm : dm_md yX4_warm 3 := by unfold dm_md; decide +kernel
theorem md_X4_seed : dm_md yX4_seed 2 := by unfold dm_md; decide +kernel
theorem md_X4_pour : dm_md yX4_pour 2 := by unfold dm_md; decide +kernel
theorem md_X4_addSlab : dm_md yX4_addSlab 1 := by unfold dm_md; decide +kernel
theorem md_X4_cast : dm_md yX4_cast 3 := by unfold dm_md; decide +kernel
theorem md_X4_findSlab : dm_md yX4_findSlab 1 := by unfold dm_md; decide +kernel
theorem md_X4_slabAt : dm_md yX4_slabAt 1 := by unfold dm_md; decide +kernel
theorem md_X4_polish : dm_md yX4_polish 1 := by unfold dm_md; decide +kernel
theorem md_X4_split : dm_md yX4_split 3 := by unfold dm_md; decide +kernel
theorem md_X4_closeGaps : dm_md yX4_closeGaps 0 := by unfold dm_md; decide +kernel
theorem md_X4_melt : dm_md yX4_melt 2 := by unfold dm_md; decide +kernel
theorem md_X4_box : dm_md yX4_box 2 := by unfold dm_md; decide +kernel
theorem md_X4_planSlab : dm_md yX4_planSlab 2 := by unfold dm_md; decide +kernel
theorem md_X4_planFilling : dm_md yX4_planFilling 1 := by unfold dm_md; decide +kernel
theorem md_X4_moveIntoBox : dm_md yX4_moveIntoBox 2 := by unfold dm_md; decide +kernel
theorem md_X4_fill : dm_md yX4_fill 0 := by unfold dm_md; decide +kernel
theorem md_X4_checkRoom : dm_md yX4_checkRoom 1 := by unfold dm_md; decide +kernel
theorem md_X4_bloomedSlabs : dm_md yX4_bloomedSlabs 0 := by unfold dm_md; decide +kernel
theorem md_X4_pass : dm_md yX4_pass 2 := by unfold dm_md; decide +kernel
theorem md_X4_checkWhat : dm_md yX4_checkWhat 2 := by unfold dm_md; decide +kernel
theorem md_X4_told : dm_md yX4_told 2 := by unfold dm_md; decide +kernel
theorem md_X4_firstEmptyBoxFor : dm_md yX4_firstEmptyBoxFor 1 := by unfold dm_md; decide +kernel
theorem md_X4_about : dm_md yX4_about 2 := by unfold dm_md; decide +kernel
theorem md_X4_boxAt : dm_md yX4_boxAt 1 := by unfold dm_md; decide +kernel
theorem md_X4_order : dm_md yX4_order 2 := by unfold dm_md; decide +kernel
theorem md_X4_filledBoxes : dm_md yX4_filledBoxes 0 := by unfold dm_md; decide +kernel
theorem md_X4_gramsOfBowls : dm_md yX4_gramsOfBowls 0 := by unfold dm_md; decide +kernel
theorem md_X4_squaresOfSlabs : dm_md yX4_squaresOfSlabs 0 := by unfold dm_md; decide +kernel
theorem md_X4_count : dm_md yX4_count 1 := by unfold dm_md; decide +kernel
theorem md_X4_mean : dm_md yX4_mean 0 := by unfold dm_md; decide +kernel
theorem md_X5_init : dm_md yX5_init 0 := by unfold dm_md; decide +kernel
theorem md_X5_all : dm_md yX5_all 0 := by unfold dm_md; decide +kernel
theorem md_X5_temper : dm_md yX5_temper 0 := by unfold dm_md; decide +kernel
theorem md_X5_kept : dm_md yX5_kept 2 := by unfold dm_md; decide +kernel
theorem md_X6_init : dm_md yX6_init 0 := by unfold dm_md; decide +kernel
theorem md_X6_with : dm_md yX6_with 2 := by unfold dm_md; decide +kernel
theorem md_X6_without : dm_md yX6_without 2 := by unfold dm_md; decide +kernel
theorem md_X6_fits : dm_md yX6_fits 2 := by unfold dm_md; decide +kernel
theorem md_X6_fill : dm_md yX6_fill 0 := by unfold dm_md; decide +kernel
theorem md_X6_pass : dm_md yX6_pass 1 := by unfold dm_md; decide +kernel
theorem md_X6_bloomed : dm_md yX6_bloomed 0 := by unfold dm_md; decide +kernel
theorem md_X6_isSame : dm_md yX6_isSame 1 := by unfold dm_md; decide +kernel
theorem md_L_below : dm_md yL_below 2 := by unfold dm_md; decide +kernel
theorem md_L_cell : dm_md yL_cell 2 := by unfold dm_md; decide +kernel
theorem md_L_act : dm_md yL_act 3 := by unfold dm_md; decide +kernel
theorem md_L_build : dm_md yL_build 2 := by unfold dm_md; decide +kernel
