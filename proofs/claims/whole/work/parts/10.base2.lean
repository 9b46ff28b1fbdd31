theorem CF0 : dm_CF RX0 TX0 3 0 tyX0 := ⟨fun w hw => by
    obtain ⟨k, hk, rfl⟩ := List.mem_map.mp hw
    have hk := List.mem_range.mp hk
    rcases (show k = 0 ∨ k = 1 ∨ k = 2 by omega) with rfl | rfl | rfl
    · exact wd_2_83
    · exact wd_2_85
    · exact wd_2_87, tyX0_ok, nmX0, rfl⟩
theorem CF1 : dm_CF RX1 TX1 5 1 tyX1 := ⟨fun w hw => by
    obtain ⟨k, hk, rfl⟩ := List.mem_map.mp hw
    have hk := List.mem_range.mp hk
    rcases (show k = 0 ∨ k = 1 ∨ k = 2 ∨ k = 3 ∨ k = 4 by omega) with rfl | rfl | rfl | rfl | rfl
    · exact wd_3_21
    · exact wd_3_23
    · exact wd_3_25
    · exact wd_3_27
    · exact wd_3_29, tyX1_ok, nmX1, rfl⟩
theorem CF2 : dm_CF RX2 TX2 1 2 tyX2 := ⟨fun w hw => by
    obtain ⟨k, hk, rfl⟩ := List.mem_map.mp hw
    have hk := List.mem_range.mp hk
    rcases (show k = 0 by omega) with rfl
    · exact wd_1_38, tyX2_ok, nmX2, rfl⟩
theorem CF3 : dm_CF RX3 TX3 5 3 tyX3 := ⟨fun w hw => by
    obtain ⟨k, hk, rfl⟩ := List.mem_map.mp hw
    have hk := List.mem_range.mp hk
    rcases (show k = 0 ∨ k = 1 ∨ k = 2 ∨ k = 3 ∨ k = 4 by omega) with rfl | rfl | rfl | rfl | rfl
    · exact wd_2_182
    · exact wd_2_184
    · exact wd_2_186
    · exact wd_2_188
    · exact wd_2_190, tyX3_ok, nmX3, rfl⟩
theorem CF4 : dm_CF RX4 TX4 11 4 tyX4 := ⟨fun w hw => by
    obtain ⟨k, hk, rfl⟩ := List.mem_map.mp hw
    have hk := List.mem_range.mp hk
    rcases (show k = 0 ∨ k = 1 ∨ k = 2 ∨ k = 3 ∨ k = 4 ∨ k = 5 ∨ k = 6 ∨ k = 7 ∨ k = 8 ∨ k = 9 ∨ k = 10 by omega) with rfl | rfl | rfl | rfl | rfl | rfl | rfl | rfl | rfl | rfl | rfl
    · exact wd_1_53
    · exact wd_1_55
    · exact wd_1_57
    · exact wd_1_59
    · exact wd_1_61
    · exact wd_1_63
    · exact wd_1_65
    · exact wd_1_67
    · exact wd_1_69
    · exact wd_1_71
    · exact wd_1_73, tyX4_ok, nmX4, rfl⟩
theorem CF5 : dm_CF RX5 TX5 12 5 tyX5 := ⟨fun w hw => by
    obtain ⟨k, hk, rfl⟩ := List.mem_map.mp hw
    have hk := List.mem_range.mp hk
    rcases (show k = 0 ∨ k = 1 ∨ k = 2 ∨ k = 3 ∨ k = 4 ∨ k = 5 ∨ k = 6 ∨ k = 7 ∨ k = 8 ∨ k = 9 ∨ k = 10 ∨ k = 11 by omega) with rfl | rfl | rfl | rfl | rfl | rfl | rfl | rfl | rfl | rfl | rfl | rfl
    · exact wd_3_114
    · exact wd_3_116
    · exact wd_3_118
    · exact wd_3_120
    · exact wd_3_122
    · exact wd_3_124
    · exact wd_3_126
    · exact wd_3_128
    · exact wd_3_130
    · exact wd_3_132
    · exact wd_3_134
    · exact wd_3_136, tyX5_ok, nmX5, rfl⟩
theorem md_X2_init : dm_md yX2_init 0 := by unfold dm_md; decide +kernel
theorem md_X0_init : dm_md yX0_init 1 := by unfold dm_md; decide +kernel
theorem md_X0_mixed : dm_md yX0_mixed 3 := by unfold dm_md; decide +kernel
theorem md_X2_vanish : dm_md yX2_vanish 0 := by unfold dm_md; decide +kernel
theorem md_X0_takeIn : dm_md yX0_takeIn 1 := by unfold dm_md; decide +kernel
theorem md_X1_init : dm_md yX1_init 2 := by unfold dm_md; decide +kernel
theorem md_X3_squares : dm_md yX3_squares 0 := by unfold dm_md; decide +kernel
theorem md_X1_suits : dm_md yX1_suits 2 := by unfold dm_md; decide +kernel
theorem md_X1_take : dm_md yX1_take 1 := by unfold dm_md; decide +kernel
theorem md_X2_becomeLike : dm_md yX2_becomeLike 1 := by unfold dm_md; decide +kernel
theorem md_X2_meltingPoint : dm_md yX2_meltingPoint 1 := by unfold dm_md; decide +kernel
theorem md_X2_halveWhatMelts : dm_md yX2_halveWhatMelts 1 := by unfold dm_md; decide +kernel
theorem md_X2_growingSort : dm_md yX2_growingSort 1 := by unfold dm_md; decide +kernel
theorem md_X2_total : dm_md yX2_total 0 := by unfold dm_md; decide +kernel
theorem md_X2_increase : dm_md yX2_increase 2 := by unfold dm_md; decide +kernel
theorem md_X2_letGrow : dm_md yX2_letGrow 1 := by unfold dm_md; decide +kernel
theorem md_X2_keepAt : dm_md yX2_keepAt 2 := by unfold dm_md; decide +kernel
theorem md_X2_temper : dm_md yX2_temper 0 := by unfold dm_md; decide +kernel
theorem md_X3_init : dm_md yX3_init 3 := by unfold dm_md; decide +kernel
theorem md_X3_grams : dm_md yX3_grams 0 := by unfold dm_md; decide +kernel
theorem md_X3_isBloomed : dm_md yX3_isBloomed 0 := by unfold dm_md; decide +kernel
theorem md_X3_bloomBehindPolish : dm_md yX3_bloomBehindPolish 0 := by unfold dm_md; decide +kernel
theorem md_X3_bloomOfADay : dm_md yX3_bloomOfADay 1 := by unfold dm_md; decide +kernel
theorem md_X3_standFor : dm_md yX3_standFor 2 := by unfold dm_md; decide +kernel
theorem md_X3_partBehind : dm_md yX3_partBehind 2 := by unfold dm_md; decide +kernel
theorem md_X3_cutDownTo : dm_md yX3_cutDownTo 2 := by unfold dm_md; decide +kernel
theorem md_X4_init : dm_md yX4_init 0 := by unfold dm_md; decide +kernel
theorem md_X4_bowl : dm_md yX4_bowl 1 := by unfold dm_md; decide +kernel
theorem md_X4_bowlAt : dm_md yX4_bowlAt 1 := by unfold dm_md; decide +kernel
theorem md_X4_checkWarming : dm_md yX4_checkWarming 2 := by unfold dm_md; decide +kernel
theorem md_X4_warm : dm_md yX4_warm 3 := by unfold dm_md; decide +kernel
theorem md_X4_seed : dm_md yX4_seed 2 := by unfold dm_md; decide +kernel
theorem md_X4_pour : dm_md yX4_pour 2 := by unfold dm_md; decide +kernel
theorem md_X4_addSlab : dm_md yX4_addSlab 1 := by unfold dm_md; decide +kernel
theorem md_X4_cast : dm_md yX4_cast 3 := by unfold dm_md; decide +kernel
theorem md_X4_findSlab : dm_md yX4_findSlab 1 := by unfold dm_md; decide +kernel
theorem md_X4_slabAt : dm_md yX4_slabAt 1 := by unfold dm_md; decide +kernel
theorem md_X4_polish : dm_md yX4_polish 1 := by unfold dm_md; decide +kernel
theorem md_X4_split : dm_md yX4_split 3 := by unfold dm_md; decide +kernel
theorem md_X4_closeGaps : dm_md yX4_closeGaps 0 := by unfold dm_md; decide +kernel
theorem md_X4_melt : dm_md yX4_melt 2 := by unfold dm_md; decide +kernel
theorem md_X4_box : dm_md yX4_box 2 := by unfold dm_md; decide +kernel
theorem md_X4_planSlab : dm_md yX4_planSlab 2 := by unfold dm_md; decide +kernel
theorem md_X4_planFilling : dm_md yX4_planFilling 1 := by unfold dm_md; decide +kernel
theorem md_X4_moveIntoBox : dm_md yX4_moveIntoBox 2 := by unfold dm_md; decide +kernel
theorem md_X4_fill : dm_md yX4_fill 0 := by unfold dm_md; decide +kernel
theorem md_X4_checkRoom : dm_md yX4_checkRoom 1 := by unfold dm_md; decide +kernel
theorem md_X4_bloomedSlabs : dm_md yX4_bloomedSlabs 0 := by unfold dm_md; decide +kernel
theorem md_X4_pass : dm_md yX4_pass 2 := by unfold dm_md; decide +kernel
theorem md_X4_checkWhat : dm_md yX4_checkWhat 2 := by unfold dm_md; decide +kernel
theorem md_X4_told : dm_md yX4_told 2 := by unfold dm_md; decide +kernel
theorem md_X4_firstEmptyBoxFor : dm_md yX4_firstEmptyBoxFor 1 := by unfold dm_md; decide +kernel
theorem md_X4_about : dm_md yX4_about 2 := by unfold dm_md; decide +kernel
theorem md_X4_boxAt : dm_md yX4_boxAt 1 := by unfold dm_md; decide +kernel
theorem md_X4_order : dm_md yX4_order 2 := by unfold dm_md; decide +kernel
theorem md_X4_filledBoxes : dm_md yX4_filledBoxes 0 := by unfold dm_md; decide +kernel
theorem md_X4_gramsOfBowls : dm_md yX4_gramsOfBowls 0 := by unfold dm_md; decide +kernel
theorem md_X4_squaresOfSlabs : dm_md yX4_squaresOfSlabs 0 := by unfold dm_md; decide +kernel
theorem md_X4_count : dm_md yX4_count 1 := by unfold dm_md; decide +kernel
theorem md_X4_would : dm_md yX4_would 3 := by unfold dm_md; decide +kernel
theorem md_X4_best : dm_md yX4_best 3 := by unfold dm_md; decide +kernel
theorem md_X4_until : dm_md yX4_until 2 := by unfold dm_md; decide +kernel
theorem md_X4_advise : dm_md yX4_advise 0 := by unfold dm_md; decide +kernel
theorem md_X4_mean : dm_md yX4_mean 0 := by unfold dm_md; decide +kernel
theorem md_X4_digest : dm_md yX4_digest 0 := by unfold dm_md; decide +kernel
theorem md_X5_init : dm_md yX5_init 0 := by unfold dm_md; decide +kernel
theorem md_X5_thrown : dm_md yX5_thrown 0 := by unfold dm_md; decide +kernel
theorem md_X5_fail : dm_md yX5_fail 1 := by unfold dm_md; decide +kernel
theorem md_X5_isIn : dm_md yX5_isIn 3 := by unfold dm_md; decide +kernel
theorem md_X5_isBowl : dm_md yX5_isBowl 1 := by unfold dm_md; decide +kernel
theorem md_X5_isSlab : dm_md yX5_isSlab 1 := by unfold dm_md; decide +kernel
theorem md_X5_bo : dm_md yX5_bo 2 := by unfold dm_md; decide +kernel
theorem md_X5_letBowl : dm_md yX5_letBowl 3 := by unfold dm_md; decide +kernel
theorem md_X5_sl : dm_md yX5_sl 2 := by unfold dm_md; decide +kernel
theorem md_X5_letSlab : dm_md yX5_letSlab 3 := by unfold dm_md; decide +kernel
theorem md_X5_bx : dm_md yX5_bx 2 := by unfold dm_md; decide +kernel
theorem md_X5_meltsAt : dm_md yX5_meltsAt 1 := by unfold dm_md; decide +kernel
theorem md_X5_sum : dm_md yX5_sum 1 := by unfold dm_md; decide +kernel
theorem md_X5_turn : dm_md yX5_turn 2 := by unfold dm_md; decide +kernel
theorem md_X5_turns : dm_md yX5_turns 3 := by unfold dm_md; decide +kernel
theorem md_X5_temper : dm_md yX5_temper 1 := by unfold dm_md; decide +kernel
theorem md_X5_look : dm_md yX5_look 1 := by unfold dm_md; decide +kernel
theorem md_X5_temperOf : dm_md yX5_temperOf 1 := by unfold dm_md; decide +kernel
theorem md_X5_bowl : dm_md yX5_bowl 1 := by unfold dm_md; decide +kernel
theorem md_X5_isWarmth : dm_md yX5_isWarmth 2 := by unfold dm_md; decide +kernel
theorem md_X5_warm : dm_md yX5_warm 3 := by unfold dm_md; decide +kernel
theorem md_X5_seed : dm_md yX5_seed 2 := by unfold dm_md; decide +kernel
theorem md_X5_pour : dm_md yX5_pour 2 := by unfold dm_md; decide +kernel
theorem md_X5_put : dm_md yX5_put 6 := by unfold dm_md; decide +kernel
theorem md_X5_squares : dm_md yX5_squares 1 := by unfold dm_md; decide +kernel
theorem md_X5_away : dm_md yX5_away 1 := by unfold dm_md; decide +kernel
theorem md_X5_cast : dm_md yX5_cast 3 := by unfold dm_md; decide +kernel
theorem md_X5_polish : dm_md yX5_polish 1 := by unfold dm_md; decide +kernel
theorem md_X5_split : dm_md yX5_split 3 := by unfold dm_md; decide +kernel
theorem md_X5_melt : dm_md yX5_melt 2 := by unfold dm_md; decide +kernel
theorem md_X5_box : dm_md yX5_box 2 := by unfold dm_md; decide +kernel
theorem md_X5_fits : dm_md yX5_fits 2 := by unfold dm_md; decide +kernel
theorem md_X5_fillOne : dm_md yX5_fillOne 1 := by unfold dm_md; decide +kernel
theorem md_X5_fillAll : dm_md yX5_fillAll 0 := by unfold dm_md; decide +kernel
theorem md_X5_fill : dm_md yX5_fill 0 := by unfold dm_md; decide +kernel
theorem md_X5_more : dm_md yX5_more 2 := by unfold dm_md; decide +kernel
theorem md_X5_bloomed : dm_md yX5_bloomed 0 := by unfold dm_md; decide +kernel
theorem md_X5_pass : dm_md yX5_pass 2 := by unfold dm_md; decide +kernel
theorem md_X5_bowlTold : dm_md yX5_bowlTold 2 := by unfold dm_md; decide +kernel
theorem md_X5_told : dm_md yX5_told 2 := by unfold dm_md; decide +kernel
theorem md_X5_slabTold : dm_md yX5_slabTold 2 := by unfold dm_md; decide +kernel
theorem md_X5_about : dm_md yX5_about 2 := by unfold dm_md; decide +kernel
theorem md_X5_order : dm_md yX5_order 2 := by unfold dm_md; decide +kernel
theorem md_X5_counted : dm_md yX5_counted 1 := by unfold dm_md; decide +kernel
theorem md_X5_count : dm_md yX5_count 1 := by unfold dm_md; decide +kernel
theorem md_X5_would : dm_md yX5_would 3 := by unfold dm_md; decide +kernel
theorem md_X5_best : dm_md yX5_best 3 := by unfold dm_md; decide +kernel
theorem md_X5_until : dm_md yX5_until 2 := by unfold dm_md; decide +kernel
theorem md_X5_filledBy : dm_md yX5_filledBy 1 := by unfold dm_md; decide +kernel
theorem md_X5_advise : dm_md yX5_advise 0 := by unfold dm_md; decide +kernel
theorem md_X5_mean : dm_md yX5_mean 0 := by unfold dm_md; decide +kernel
theorem md_X5_digest : dm_md yX5_digest 0 := by unfold dm_md; decide +kernel
set_option maxRecDepth 100000 in
theorem ah_49 : ∀ w ∈ vx_atS RX4 49 "java/lang/IllegalArgumentException" ["java/lang/RuntimeException", "java/lang/Exception"], (w ∈ lw_tbl ∧ goodWord w = true) ∨ (∃ q ∈ dm_cas, w = .castable q.1 q.2) ∨ ∃ y ∈ dm_dcl, w = .declares y := by decide +kernel
set_option maxRecDepth 100000 in
theorem at_49 : ∀ w ∈ vx_atS RX4 49 "java/lang/IllegalArgumentException" ["java/lang/RuntimeException", "java/lang/Exception"], w ∈ WALL ∨ (∃ q ∈ dm_cas, w = .castable q.1 q.2) ∨ ∃ y ∈ dm_dcl, w = .declares y := fun w hw => (ah_49 w hw).imp (fun h => List.mem_filter.mpr h) id
set_option maxRecDepth 100000 in
theorem gd_49 : ∀ w ∈ Cond.classLink RX4 45 "java/lang/IllegalArgumentException" :: Cond.initialized "java/lang/IllegalArgumentException" :: vx_atS RX4 49 "java/lang/IllegalArgumentException" ["java/lang/RuntimeException", "java/lang/Exception"], vx_ot w = true := by decide +kernel
set_option maxRecDepth 100000 in
theorem ah_60 : ∀ w ∈ vx_atS RX4 60 "java/lang/IllegalStateException" ["java/lang/RuntimeException", "java/lang/Exception"], (w ∈ lw_tbl ∧ goodWord w = true) ∨ (∃ q ∈ dm_cas, w = .castable q.1 q.2) ∨ ∃ y ∈ dm_dcl, w = .declares y := by decide +kernel
set_option maxRecDepth 100000 in
theorem at_60 : ∀ w ∈ vx_atS RX4 60 "java/lang/IllegalStateException" ["java/lang/RuntimeException", "java/lang/Exception"], w ∈ WALL ∨ (∃ q ∈ dm_cas, w = .castable q.1 q.2) ∨ ∃ y ∈ dm_dcl, w = .declares y := fun w hw => (ah_60 w hw).imp (fun h => List.mem_filter.mpr h) id
set_option maxRecDepth 100000 in
theorem gd_60 : ∀ w ∈ Cond.classLink RX4 56 "java/lang/IllegalStateException" :: Cond.initialized "java/lang/IllegalStateException" :: vx_atS RX4 60 "java/lang/IllegalStateException" ["java/lang/RuntimeException", "java/lang/Exception"], vx_ot w = true := by decide +kernel
set_option maxRecDepth 100000 in
theorem ah_135 : ∀ w ∈ vx_atS RX4 135 "java/lang/IndexOutOfBoundsException" ["java/lang/RuntimeException", "java/lang/Exception"], (w ∈ lw_tbl ∧ goodWord w = true) ∨ (∃ q ∈ dm_cas, w = .castable q.1 q.2) ∨ ∃ y ∈ dm_dcl, w = .declares y := by decide +kernel
set_option maxRecDepth 100000 in
theorem at_135 : ∀ w ∈ vx_atS RX4 135 "java/lang/IndexOutOfBoundsException" ["java/lang/RuntimeException", "java/lang/Exception"], w ∈ WALL ∨ (∃ q ∈ dm_cas, w = .castable q.1 q.2) ∨ ∃ y ∈ dm_dcl, w = .declares y := fun w hw => (ah_135 w hw).imp (fun h => List.mem_filter.mpr h) id
set_option maxRecDepth 100000 in
theorem gd_135 : ∀ w ∈ Cond.classLink RX4 131 "java/lang/IndexOutOfBoundsException" :: Cond.initialized "java/lang/IndexOutOfBoundsException" :: vx_atS RX4 135 "java/lang/IndexOutOfBoundsException" ["java/lang/RuntimeException", "java/lang/Exception"], vx_ot w = true := by decide +kernel
