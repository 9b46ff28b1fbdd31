/-! ===== BEGIN printed: names, fields, word lists, decode rows ===== -/
def RX0 : String := "ChocolateMoulds$Bowl"
def TX0 : u_T := fun k => match k with
  | 0 => ("ChocolateMoulds$Bowl", "crystals", "LChocolateMoulds$Crystals;", true)
  | 1 => ("ChocolateMoulds$Bowl", "grams", "I", false)
  | _ => ("ChocolateMoulds$Bowl", "warmth", "I", false)
def tyX0 : Nat → FieldType := fun k => match k with
  | 0 => .object "ChocolateMoulds$Crystals"
  | 1 => .int
  | _ => .int
abbrev wsX00 : List Cond := u_ws RX0 TX0 3
theorem nmX0 : ∀ a, a < 3 → ∀ b, b < 3 → a ≠ b → (TX0 a).2.1 ≠ (TX0 b).2.1 := by decide +kernel
theorem tyX0_ok : ∀ k, k < 3 → parseFieldDescriptor (TX0 k).2.2.1 = some (tyX0 k) := by decide +kernel
abbrev cX0_init : ByteArray := prog_2_method_1_code
def yX0_init : MethodName := ⟨RX0, "<init>", "(I)V"⟩
abbrev cX0_takeIn : ByteArray := prog_2_method_2_code
def yX0_takeIn : MethodName := ⟨RX0, "takeIn", "(LChocolateMoulds$Bowl;)V"⟩
abbrev cX0_mixed : ByteArray := prog_2_method_3_code
def yX0_mixed : MethodName := ⟨RX0, "mixed", "(III)I"⟩
def RX1 : String := "ChocolateMoulds$Box"
def TX1 : u_T := fun k => match k with
  | 0 => ("ChocolateMoulds$Box", "squares", "I", true)
  | 1 => ("ChocolateMoulds$Box", "temper", "I", true)
  | 2 => ("ChocolateMoulds$Box", "isFilled", "Z", false)
  | 3 => ("ChocolateMoulds$Box", "slabTemper", "I", false)
  | _ => ("ChocolateMoulds$Box", "slabBloom", "I", false)
def tyX1 : Nat → FieldType := fun k => match k with
  | 0 => .int
  | 1 => .int
  | 2 => .boolean
  | 3 => .int
  | _ => .int
abbrev wsX10 : List Cond := u_ws RX1 TX1 5
theorem nmX1 : ∀ a, a < 5 → ∀ b, b < 5 → a ≠ b → (TX1 a).2.1 ≠ (TX1 b).2.1 := by decide +kernel
theorem tyX1_ok : ∀ k, k < 5 → parseFieldDescriptor (TX1 k).2.2.1 = some (tyX1 k) := by decide +kernel
abbrev cX1_init : ByteArray := prog_3_method_1_code
def yX1_init : MethodName := ⟨RX1, "<init>", "(II)V"⟩
abbrev cX1_suits : ByteArray := prog_3_method_2_code
def yX1_suits : MethodName := ⟨RX1, "suits", "(LChocolateMoulds$Slab;I)Z"⟩
abbrev cX1_take : ByteArray := prog_3_method_3_code
def yX1_take : MethodName := ⟨RX1, "take", "(LChocolateMoulds$Slab;)V"⟩
def RX2 : String := "ChocolateMoulds$Crystals"
def TX2 : u_T := fun k => match k with
  | _ => ("ChocolateMoulds$Crystals", "many", "[I", true)
def tyX2 : Nat → FieldType := fun k => match k with
  | _ => .array .int
abbrev wsX20 : List Cond := u_ws RX2 TX2 1
theorem nmX2 : ∀ a, a < 1 → ∀ b, b < 1 → a ≠ b → (TX2 a).2.1 ≠ (TX2 b).2.1 := by decide +kernel
theorem tyX2_ok : ∀ k, k < 1 → parseFieldDescriptor (TX2 k).2.2.1 = some (tyX2 k) := by decide +kernel
abbrev cX2_init : ByteArray := prog_4_method_1_code
def yX2_init : MethodName := ⟨RX2, "<init>", "()V"⟩
abbrev cX2_vanish : ByteArray := prog_4_method_3_code
def yX2_vanish : MethodName := ⟨RX2, "vanish", "()V"⟩
abbrev cX2_keepAt : ByteArray := prog_4_method_4_code
def yX2_keepAt : MethodName := ⟨RX2, "keepAt", "(II)V"⟩
abbrev cX2_halveWhatMelts : ByteArray := prog_4_method_5_code
def yX2_halveWhatMelts : MethodName := ⟨RX2, "halveWhatMelts", "(I)V"⟩
abbrev cX2_letGrow : ByteArray := prog_4_method_6_code
def yX2_letGrow : MethodName := ⟨RX2, "letGrow", "(I)V"⟩
abbrev cX2_meltingPoint : ByteArray := prog_4_method_7_code
def yX2_meltingPoint : MethodName := ⟨RX2, "meltingPoint", "(I)I"⟩
abbrev cX2_growingSort : ByteArray := prog_4_method_8_code
def yX2_growingSort : MethodName := ⟨RX2, "growingSort", "(I)I"⟩
abbrev cX2_increase : ByteArray := prog_4_method_9_code
def yX2_increase : MethodName := ⟨RX2, "increase", "(II)V"⟩
abbrev cX2_total : ByteArray := prog_4_method_10_code
def yX2_total : MethodName := ⟨RX2, "total", "()I"⟩
abbrev cX2_temper : ByteArray := prog_4_method_11_code
def yX2_temper : MethodName := ⟨RX2, "temper", "()I"⟩
def RX3 : String := "ChocolateMoulds$Slab"
def TX3 : u_T := fun k => match k with
  | 0 => ("ChocolateMoulds$Slab", "temper", "I", true)
  | 1 => ("ChocolateMoulds$Slab", "columns", "I", false)
  | 2 => ("ChocolateMoulds$Slab", "rows", "I", false)
  | 3 => ("ChocolateMoulds$Slab", "bloom", "I", false)
  | _ => ("ChocolateMoulds$Slab", "age", "I", false)
def tyX3 : Nat → FieldType := fun k => match k with
  | 0 => .int
  | 1 => .int
  | 2 => .int
  | 3 => .int
  | _ => .int
abbrev wsX30 : List Cond := u_ws RX3 TX3 5
theorem nmX3 : ∀ a, a < 5 → ∀ b, b < 5 → a ≠ b → (TX3 a).2.1 ≠ (TX3 b).2.1 := by decide +kernel
theorem tyX3_ok : ∀ k, k < 5 → parseFieldDescriptor (TX3 k).2.2.1 = some (tyX3 k) := by decide +kernel
abbrev cX3_init : ByteArray := prog_5_method_1_code
def yX3_init : MethodName := ⟨RX3, "<init>", "(III)V"⟩
abbrev cX3_squares : ByteArray := prog_5_method_2_code
def yX3_squares : MethodName := ⟨RX3, "squares", "()I"⟩
abbrev cX3_grams : ByteArray := prog_5_method_3_code
def yX3_grams : MethodName := ⟨RX3, "grams", "()I"⟩
abbrev cX3_isBloomed : ByteArray := prog_5_method_4_code
def yX3_isBloomed : MethodName := ⟨RX3, "isBloomed", "()Z"⟩
abbrev cX3_bloomBehindPolish : ByteArray := prog_5_method_5_code
def yX3_bloomBehindPolish : MethodName := ⟨RX3, "bloomBehindPolish", "()I"⟩
abbrev cX3_bloomOfADay : ByteArray := prog_5_method_6_code
def yX3_bloomOfADay : MethodName := ⟨RX3, "bloomOfADay", "(I)I"⟩
abbrev cX3_standFor : ByteArray := prog_5_method_7_code
def yX3_standFor : MethodName := ⟨RX3, "standFor", "(II)V"⟩
abbrev cX3_partBehind : ByteArray := prog_5_method_8_code
def yX3_partBehind : MethodName := ⟨RX3, "partBehind", "(IZ)LChocolateMoulds$Slab;"⟩
abbrev cX3_cutDownTo : ByteArray := prog_5_method_9_code
def yX3_cutDownTo : MethodName := ⟨RX3, "cutDownTo", "(IZ)V"⟩
def RX4 : String := "ChocolateMoulds"
def TX4 : u_T := fun k => match k with
  | 0 => ("ChocolateMoulds", "bowls", "[LChocolateMoulds$Bowl;", true)
  | 1 => ("ChocolateMoulds", "slabs", "[LChocolateMoulds$Slab;", true)
  | 2 => ("ChocolateMoulds", "boxes", "[LChocolateMoulds$Box;", true)
  | 3 => ("ChocolateMoulds", "bowlCount", "I", false)
  | 4 => ("ChocolateMoulds", "slabCount", "I", false)
  | 5 => ("ChocolateMoulds", "boxCount", "I", false)
  | 6 => ("ChocolateMoulds", "day", "I", false)
  | 7 => ("ChocolateMoulds", "firstTrial", "LChocolateMoulds$Crystals;", true)
  | 8 => ("ChocolateMoulds", "secondTrial", "LChocolateMoulds$Crystals;", true)
  | 9 => ("ChocolateMoulds", "slabForBox", "[I", true)
  | _ => ("ChocolateMoulds", "isPlanned", "[Z", true)
def tyX4 : Nat → FieldType := fun k => match k with
  | 0 => .array (.object "ChocolateMoulds$Bowl")
  | 1 => .array (.object "ChocolateMoulds$Slab")
  | 2 => .array (.object "ChocolateMoulds$Box")
  | 3 => .int
  | 4 => .int
  | 5 => .int
  | 6 => .int
  | 7 => .object "ChocolateMoulds$Crystals"
  | 8 => .object "ChocolateMoulds$Crystals"
  | 9 => .array .int
  | _ => .array .boolean
abbrev wsX40 : List Cond := u_ws RX4 TX4 11
theorem nmX4 : ∀ a, a < 11 → ∀ b, b < 11 → a ≠ b → (TX4 a).2.1 ≠ (TX4 b).2.1 := by decide +kernel
theorem tyX4_ok : ∀ k, k < 11 → parseFieldDescriptor (TX4 k).2.2.1 = some (tyX4 k) := by decide +kernel
abbrev cX4_init : ByteArray := prog_1_method_1_code
def yX4_init : MethodName := ⟨RX4, "<init>", "()V"⟩
abbrev cX4_bowl : ByteArray := prog_1_method_2_code
def yX4_bowl : MethodName := ⟨RX4, "bowl", "(I)I"⟩
abbrev cX4_warm : ByteArray := prog_1_method_3_code
def yX4_warm : MethodName := ⟨RX4, "warm", "(III)I"⟩
abbrev cX4_seed : ByteArray := prog_1_method_4_code
def yX4_seed : MethodName := ⟨RX4, "seed", "(II)I"⟩
abbrev cX4_pour : ByteArray := prog_1_method_5_code
def yX4_pour : MethodName := ⟨RX4, "pour", "(II)I"⟩
abbrev cX4_cast : ByteArray := prog_1_method_6_code
def yX4_cast : MethodName := ⟨RX4, "cast", "(III)I"⟩
abbrev cX4_polish : ByteArray := prog_1_method_7_code
def yX4_polish : MethodName := ⟨RX4, "polish", "(I)I"⟩
abbrev cX4_split : ByteArray := prog_1_method_8_code
def yX4_split : MethodName := ⟨RX4, "split", "(IIZ)I"⟩
abbrev cX4_melt : ByteArray := prog_1_method_9_code
def yX4_melt : MethodName := ⟨RX4, "melt", "(II)I"⟩
abbrev cX4_box : ByteArray := prog_1_method_10_code
def yX4_box : MethodName := ⟨RX4, "box", "(II)I"⟩
abbrev cX4_fill : ByteArray := prog_1_method_11_code
def yX4_fill : MethodName := ⟨RX4, "fill", "()I"⟩
abbrev cX4_pass : ByteArray := prog_1_method_12_code
def yX4_pass : MethodName := ⟨RX4, "pass", "(II)I"⟩
abbrev cX4_told : ByteArray := prog_1_method_13_code
def yX4_told : MethodName := ⟨RX4, "told", "(II)I"⟩
abbrev cX4_about : ByteArray := prog_1_method_14_code
def yX4_about : MethodName := ⟨RX4, "about", "(II)I"⟩
abbrev cX4_order : ByteArray := prog_1_method_15_code
def yX4_order : MethodName := ⟨RX4, "order", "(II)I"⟩
abbrev cX4_count : ByteArray := prog_1_method_16_code
def yX4_count : MethodName := ⟨RX4, "count", "(I)I"⟩
abbrev cX4_mean : ByteArray := prog_1_method_21_code
def yX4_mean : MethodName := ⟨RX4, "mean", "()D"⟩
abbrev cX4_checkWarming : ByteArray := prog_1_method_23_code
def yX4_checkWarming : MethodName := ⟨RX4, "checkWarming", "(II)V"⟩
abbrev cX4_checkRoom : ByteArray := prog_1_method_24_code
def yX4_checkRoom : MethodName := ⟨RX4, "checkRoom", "(I)V"⟩
abbrev cX4_checkWhat : ByteArray := prog_1_method_25_code
def yX4_checkWhat : MethodName := ⟨RX4, "checkWhat", "(II)V"⟩
abbrev cX4_bowlAt : ByteArray := prog_1_method_26_code
def yX4_bowlAt : MethodName := ⟨RX4, "bowlAt", "(I)LChocolateMoulds$Bowl;"⟩
abbrev cX4_slabAt : ByteArray := prog_1_method_27_code
def yX4_slabAt : MethodName := ⟨RX4, "slabAt", "(I)LChocolateMoulds$Slab;"⟩
abbrev cX4_findSlab : ByteArray := prog_1_method_28_code
def yX4_findSlab : MethodName := ⟨RX4, "findSlab", "(I)LChocolateMoulds$Slab;"⟩
abbrev cX4_boxAt : ByteArray := prog_1_method_29_code
def yX4_boxAt : MethodName := ⟨RX4, "boxAt", "(I)LChocolateMoulds$Box;"⟩
abbrev cX4_addSlab : ByteArray := prog_1_method_30_code
def yX4_addSlab : MethodName := ⟨RX4, "addSlab", "(LChocolateMoulds$Slab;)I"⟩
abbrev cX4_closeGaps : ByteArray := prog_1_method_31_code
def yX4_closeGaps : MethodName := ⟨RX4, "closeGaps", "()V"⟩
abbrev cX4_filledBoxes : ByteArray := prog_1_method_32_code
def yX4_filledBoxes : MethodName := ⟨RX4, "filledBoxes", "()I"⟩
abbrev cX4_gramsOfBowls : ByteArray := prog_1_method_33_code
def yX4_gramsOfBowls : MethodName := ⟨RX4, "gramsOfBowls", "()I"⟩
abbrev cX4_squaresOfSlabs : ByteArray := prog_1_method_34_code
def yX4_squaresOfSlabs : MethodName := ⟨RX4, "squaresOfSlabs", "()I"⟩
abbrev cX4_bloomedSlabs : ByteArray := prog_1_method_35_code
def yX4_bloomedSlabs : MethodName := ⟨RX4, "bloomedSlabs", "()I"⟩
abbrev cX4_firstEmptyBoxFor : ByteArray := prog_1_method_36_code
def yX4_firstEmptyBoxFor : MethodName := ⟨RX4, "firstEmptyBoxFor", "(LChocolateMoulds$Slab;)I"⟩
abbrev cX4_planFilling : ByteArray := prog_1_method_37_code
def yX4_planFilling : MethodName := ⟨RX4, "planFilling", "(I)I"⟩
abbrev cX4_planSlab : ByteArray := prog_1_method_38_code
def yX4_planSlab : MethodName := ⟨RX4, "planSlab", "(LChocolateMoulds$Box;I)I"⟩
abbrev cX4_moveIntoBox : ByteArray := prog_1_method_39_code
def yX4_moveIntoBox : MethodName := ⟨RX4, "moveIntoBox", "(ILChocolateMoulds$Box;)V"⟩
def RX5 : String := "ChocolateMouldsLaw$Bowl"
def TX5 : u_T := fun k => match k with
  | 0 => ("ChocolateMouldsLaw$Bowl", "grams", "I", false)
  | 1 => ("ChocolateMouldsLaw$Bowl", "warmth", "I", false)
  | _ => ("ChocolateMouldsLaw$Bowl", "its", "[I", true)
def tyX5 : Nat → FieldType := fun k => match k with
  | 0 => .int
  | 1 => .int
  | _ => .array .int
abbrev wsX50 : List Cond := u_ws RX5 TX5 3
theorem nmX5 : ∀ a, a < 3 → ∀ b, b < 3 → a ≠ b → (TX5 a).2.1 ≠ (TX5 b).2.1 := by decide +kernel
theorem tyX5_ok : ∀ k, k < 3 → parseFieldDescriptor (TX5 k).2.2.1 = some (tyX5 k) := by decide +kernel
abbrev cX5_init : ByteArray := prog_7_method_1_code
def yX5_init : MethodName := ⟨RX5, "<init>", "()V"⟩
abbrev cX5_all : ByteArray := prog_7_method_3_code
def yX5_all : MethodName := ⟨RX5, "all", "()I"⟩
abbrev cX5_temper : ByteArray := prog_7_method_4_code
def yX5_temper : MethodName := ⟨RX5, "temper", "()I"⟩
abbrev cX5_kept : ByteArray := prog_7_method_5_code
def yX5_kept : MethodName := ⟨RX5, "kept", "(II)LChocolateMouldsLaw$Bowl;"⟩
def RX6 : String := "ChocolateMouldsLaw$Sim"
def TX6 : u_T := fun k => match k with
  | 0 => ("ChocolateMouldsLaw$Sim", "day", "I", false)
  | 1 => ("ChocolateMouldsLaw$Sim", "bowls", "[LChocolateMouldsLaw$Bowl;", false)
  | 2 => ("ChocolateMouldsLaw$Sim", "slabs", "[[I", false)
  | _ => ("ChocolateMouldsLaw$Sim", "boxes", "[[I", false)
def tyX6 : Nat → FieldType := fun k => match k with
  | 0 => .int
  | 1 => .array (.object "ChocolateMouldsLaw$Bowl")
  | 2 => .array (.array .int)
  | _ => .array (.array .int)
abbrev wsX60 : List Cond := u_ws RX6 TX6 4
theorem nmX6 : ∀ a, a < 4 → ∀ b, b < 4 → a ≠ b → (TX6 a).2.1 ≠ (TX6 b).2.1 := by decide +kernel
theorem tyX6_ok : ∀ k, k < 4 → parseFieldDescriptor (TX6 k).2.2.1 = some (tyX6 k) := by decide +kernel
abbrev cX6_init : ByteArray := prog_8_method_1_code
def yX6_init : MethodName := ⟨RX6, "<init>", "()V"⟩
abbrev cX6_with : ByteArray := prog_8_method_2_code
def yX6_with : MethodName := ⟨RX6, "with", "([[I[I)[[I"⟩
abbrev cX6_without : ByteArray := prog_8_method_3_code
def yX6_without : MethodName := ⟨RX6, "without", "([[II)[[I"⟩
abbrev cX6_fits : ByteArray := prog_8_method_4_code
def yX6_fits : MethodName := ⟨RX6, "fits", "([I[I)Z"⟩
abbrev cX6_fill : ByteArray := prog_8_method_5_code
def yX6_fill : MethodName := ⟨RX6, "fill", "()I"⟩
abbrev cX6_pass : ByteArray := prog_8_method_7_code
def yX6_pass : MethodName := ⟨RX6, "pass", "(I)V"⟩
abbrev cX6_bloomed : ByteArray := prog_8_method_8_code
def yX6_bloomed : MethodName := ⟨RX6, "bloomed", "()I"⟩
abbrev cX6_isSame : ByteArray := prog_8_method_9_code
def yX6_isSame : MethodName := ⟨RX6, "isSame", "(LChocolateMoulds;)Z"⟩
def RX7 : String := "ChocolateMouldsModel"
def TX7 : u_T := fun k => match k with
  | _ => ("", "", "", false)
def tyX7 : Nat → FieldType := fun k => match k with
  | _ => .int
abbrev wsX70 : List Cond := u_ws RX7 TX7 0
theorem nmX7 : ∀ a, a < 0 → ∀ b, b < 0 → a ≠ b → (TX7 a).2.1 ≠ (TX7 b).2.1 := by decide +kernel
theorem tyX7_ok : ∀ k, k < 0 → parseFieldDescriptor (TX7 k).2.2.1 = some (tyX7 k) := by decide +kernel
def RJx8e188 : String := "java/lang/Cloneable"
def TJx8e188 : u_T := fun k => match k with
  | _ => ("", "", "", false)
def tyJx8e188 : Nat → FieldType := fun k => match k with
  | _ => .int
abbrev wsJx8e1880 : List Cond := u_ws RJx8e188 TJx8e188 0
theorem nmJx8e188 : ∀ a, a < 0 → ∀ b, b < 0 → a ≠ b → (TJx8e188 a).2.1 ≠ (TJx8e188 b).2.1 := by decide +kernel
theorem tyJx8e188_ok : ∀ k, k < 0 → parseFieldDescriptor (TJx8e188 k).2.2.1 = some (tyJx8e188 k) := by decide +kernel
def RJ9 : String := "java/lang/Math"
def TJ9 : u_T := fun k => match k with
  | _ => ("", "", "", false)
def tyJ9 : Nat → FieldType := fun k => match k with
  | _ => .int
abbrev wsJ90 : List Cond := u_ws RJ9 TJ9 0
theorem nmJ9 : ∀ a, a < 0 → ∀ b, b < 0 → a ≠ b → (TJ9 a).2.1 ≠ (TJ9 b).2.1 := by decide +kernel
theorem tyJ9_ok : ∀ k, k < 0 → parseFieldDescriptor (TJ9 k).2.2.1 = some (tyJ9 k) := by decide +kernel
abbrev cJ9_max_7cf53 : ByteArray := prog_15_method_65_code
def yJ9_max_7cf53 : MethodName := ⟨RJ9, "max", "(II)I"⟩
abbrev cJ9_min_7cf53 : ByteArray := prog_15_method_69_code
def yJ9_min_7cf53 : MethodName := ⟨RJ9, "min", "(II)I"⟩
def RJ0 : String := "java/lang/String"
def TJ0 : u_T := fun k => match k with
  | _ => ("", "", "", false)
def tyJ0 : Nat → FieldType := fun k => match k with
  | _ => .int
abbrev wsJ00 : List Cond := u_ws RJ0 TJ0 0
theorem nmJ0 : ∀ a, a < 0 → ∀ b, b < 0 → a ≠ b → (TJ0 a).2.1 ≠ (TJ0 b).2.1 := by decide +kernel
theorem tyJ0_ok : ∀ k, k < 0 → parseFieldDescriptor (TJ0 k).2.2.1 = some (tyJ0 k) := by decide +kernel
def RL : String := "ChocolateMouldsLaw"
abbrev cL_below : ByteArray := method_2_code
def yL_below : MethodName := ⟨RL, "below", "(II)I"⟩
abbrev cL_cell : ByteArray := method_3_code
def yL_cell : MethodName := ⟨RL, "cell", "([II)I"⟩
abbrev cL_act : ByteArray := method_4_code
def yL_act : MethodName := ⟨RL, "act", "(LChocolateMoulds;LChocolateMouldsLaw$Sim;I)Z"⟩
abbrev cL_build : ByteArray := method_5_code
def yL_build : MethodName := ⟨RL, "build", "(LChocolateMoulds;[I)LChocolateMouldsLaw$Sim;"⟩
abbrev cL_law : ByteArray := code
def yL_law : MethodName := ⟨RL, "law", "([I)Z"⟩
abbrev vwCl : List vw_C := [(RX0, TX0, 3), (RX1, TX1, 5), (RX2, TX2, 1), (RX3, TX3, 5), (RX4, TX4, 11), (RX5, TX5, 3), (RX6, TX6, 4)]
