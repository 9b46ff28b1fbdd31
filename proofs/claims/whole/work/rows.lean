section
-- ===== PART A: goes FIRST, ahead of the names: the tables' words, and 'selects' of the private methods out of them =====
/-- a private method of a class that the tables say can be made, by its rows of tables_1 -/
def lw_okq (q : MethodName × Nat) : Prop := (q.1.cls ≠ "java/lang/invoke/MethodHandle" ∧ q.1.cls ≠ "java/lang/invoke/VarHandle") ∧ Cond.instantiable q.1.cls q.2 ∈ tables_1 ∧ Cond.privateMethod q.1 ∈ tables_1 ∧ Cond.instanceMethod q.1 ∈ tables_1
theorem lw_p0 : lw_okq (⟨"ChocolateMoulds", "planFilling", "(I)I"⟩, 11) := ⟨⟨by decide +kernel, by decide +kernel⟩, List.mem_of_getElem? (i := 16) (by decide +kernel), List.mem_of_getElem? (i := 82) (by decide +kernel), List.mem_of_getElem? (i := 83) (by decide +kernel)⟩
theorem lw_p1 : lw_okq (⟨"ChocolateMoulds", "planSlab", "(LChocolateMoulds$Box;I)I"⟩, 11) := ⟨⟨by decide +kernel, by decide +kernel⟩, List.mem_of_getElem? (i := 16) (by decide +kernel), List.mem_of_getElem? (i := 86) (by decide +kernel), List.mem_of_getElem? (i := 87) (by decide +kernel)⟩
theorem lw_p2 : lw_okq (⟨"ChocolateMoulds", "moveIntoBox", "(ILChocolateMoulds$Box;)V"⟩, 11) := ⟨⟨by decide +kernel, by decide +kernel⟩, List.mem_of_getElem? (i := 16) (by decide +kernel), List.mem_of_getElem? (i := 105) (by decide +kernel), List.mem_of_getElem? (i := 106) (by decide +kernel)⟩
theorem lw_p3 : lw_okq (⟨"ChocolateMoulds", "findSlab", "(I)LChocolateMoulds$Slab;"⟩, 11) := ⟨⟨by decide +kernel, by decide +kernel⟩, List.mem_of_getElem? (i := 16) (by decide +kernel), List.mem_of_getElem? (i := 109) (by decide +kernel), List.mem_of_getElem? (i := 110) (by decide +kernel)⟩
theorem lw_p4 : lw_okq (⟨"ChocolateMoulds", "closeGaps", "()V"⟩, 11) := ⟨⟨by decide +kernel, by decide +kernel⟩, List.mem_of_getElem? (i := 16) (by decide +kernel), List.mem_of_getElem? (i := 117) (by decide +kernel), List.mem_of_getElem? (i := 118) (by decide +kernel)⟩
theorem lw_p5 : lw_okq (⟨"java/lang/Throwable", "fillInStackTrace", "(I)Ljava/lang/Throwable;"⟩, 6) := ⟨⟨by decide +kernel, by decide +kernel⟩, List.mem_of_getElem? (i := 180) (by decide +kernel), List.mem_of_getElem? (i := 178) (by decide +kernel), List.mem_of_getElem? (i := 179) (by decide +kernel)⟩
theorem lw_p6 : lw_okq (⟨"ChocolateMoulds", "filledBoxes", "()I"⟩, 11) := ⟨⟨by decide +kernel, by decide +kernel⟩, List.mem_of_getElem? (i := 16) (by decide +kernel), List.mem_of_getElem? (i := 210) (by decide +kernel), List.mem_of_getElem? (i := 211) (by decide +kernel)⟩
theorem lw_p7 : lw_okq (⟨"ChocolateMoulds", "gramsOfBowls", "()I"⟩, 11) := ⟨⟨by decide +kernel, by decide +kernel⟩, List.mem_of_getElem? (i := 16) (by decide +kernel), List.mem_of_getElem? (i := 214) (by decide +kernel), List.mem_of_getElem? (i := 215) (by decide +kernel)⟩
theorem lw_p8 : lw_okq (⟨"ChocolateMoulds", "squaresOfSlabs", "()I"⟩, 11) := ⟨⟨by decide +kernel, by decide +kernel⟩, List.mem_of_getElem? (i := 16) (by decide +kernel), List.mem_of_getElem? (i := 218) (by decide +kernel), List.mem_of_getElem? (i := 219) (by decide +kernel)⟩
theorem lw_p9 : lw_okq (⟨"ChocolateMoulds", "bloomedSlabs", "()I"⟩, 11) := ⟨⟨by decide +kernel, by decide +kernel⟩, List.mem_of_getElem? (i := 16) (by decide +kernel), List.mem_of_getElem? (i := 223) (by decide +kernel), List.mem_of_getElem? (i := 224) (by decide +kernel)⟩
theorem lw_p10 : lw_okq (⟨"ChocolateMoulds", "bowlAt", "(I)LChocolateMoulds$Bowl;"⟩, 11) := ⟨⟨by decide +kernel, by decide +kernel⟩, List.mem_of_getElem? (i := 16) (by decide +kernel), List.mem_of_getElem? (i := 235) (by decide +kernel), List.mem_of_getElem? (i := 236) (by decide +kernel)⟩
theorem lw_p11 : lw_okq (⟨"ChocolateMoulds", "slabAt", "(I)LChocolateMoulds$Slab;"⟩, 11) := ⟨⟨by decide +kernel, by decide +kernel⟩, List.mem_of_getElem? (i := 16) (by decide +kernel), List.mem_of_getElem? (i := 252) (by decide +kernel), List.mem_of_getElem? (i := 253) (by decide +kernel)⟩
theorem lw_p12 : lw_okq (⟨"ChocolateMoulds", "firstEmptyBoxFor", "(LChocolateMoulds$Slab;)I"⟩, 11) := ⟨⟨by decide +kernel, by decide +kernel⟩, List.mem_of_getElem? (i := 16) (by decide +kernel), List.mem_of_getElem? (i := 257) (by decide +kernel), List.mem_of_getElem? (i := 258) (by decide +kernel)⟩
theorem lw_p13 : lw_okq (⟨"ChocolateMoulds", "boxAt", "(I)LChocolateMoulds$Box;"⟩, 11) := ⟨⟨by decide +kernel, by decide +kernel⟩, List.mem_of_getElem? (i := 16) (by decide +kernel), List.mem_of_getElem? (i := 265) (by decide +kernel), List.mem_of_getElem? (i := 266) (by decide +kernel)⟩
theorem lw_p14 : lw_okq (⟨"ChocolateMoulds", "addSlab", "(LChocolateMoulds$Slab;)I"⟩, 11) := ⟨⟨by decide +kernel, by decide +kernel⟩, List.mem_of_getElem? (i := 16) (by decide +kernel), List.mem_of_getElem? (i := 440) (by decide +kernel), List.mem_of_getElem? (i := 441) (by decide +kernel)⟩
theorem lw_p15 : lw_okq (⟨"ChocolateMouldsModel", "fail", "(I)I"⟩, 12) := ⟨⟨by decide +kernel, by decide +kernel⟩, List.mem_of_getElem? (i := 577) (by decide +kernel), List.mem_of_getElem? (i := 631) (by decide +kernel), List.mem_of_getElem? (i := 632) (by decide +kernel)⟩
def lw_privs_1 : List (MethodName × Nat) := [(⟨"ChocolateMoulds", "planFilling", "(I)I"⟩, 11), (⟨"ChocolateMoulds", "planSlab", "(LChocolateMoulds$Box;I)I"⟩, 11), (⟨"ChocolateMoulds", "moveIntoBox", "(ILChocolateMoulds$Box;)V"⟩, 11), (⟨"ChocolateMoulds", "findSlab", "(I)LChocolateMoulds$Slab;"⟩, 11), (⟨"ChocolateMoulds", "closeGaps", "()V"⟩, 11), (⟨"java/lang/Throwable", "fillInStackTrace", "(I)Ljava/lang/Throwable;"⟩, 6), (⟨"ChocolateMoulds", "filledBoxes", "()I"⟩, 11), (⟨"ChocolateMoulds", "gramsOfBowls", "()I"⟩, 11), (⟨"ChocolateMoulds", "squaresOfSlabs", "()I"⟩, 11), (⟨"ChocolateMoulds", "bloomedSlabs", "()I"⟩, 11), (⟨"ChocolateMoulds", "bowlAt", "(I)LChocolateMoulds$Bowl;"⟩, 11), (⟨"ChocolateMoulds", "slabAt", "(I)LChocolateMoulds$Slab;"⟩, 11), (⟨"ChocolateMoulds", "firstEmptyBoxFor", "(LChocolateMoulds$Slab;)I"⟩, 11), (⟨"ChocolateMoulds", "boxAt", "(I)LChocolateMoulds$Box;"⟩, 11), (⟨"ChocolateMoulds", "addSlab", "(LChocolateMoulds$Slab;)I"⟩, 11), (⟨"ChocolateMouldsModel", "fail", "(I)I"⟩, 12)]
theorem lw_r1 : ∀ q ∈ lw_privs_1, lw_okq q := List.forall_mem_cons.mpr ⟨lw_p0, List.forall_mem_cons.mpr ⟨lw_p1, List.forall_mem_cons.mpr ⟨lw_p2, List.forall_mem_cons.mpr ⟨lw_p3, List.forall_mem_cons.mpr ⟨lw_p4, List.forall_mem_cons.mpr ⟨lw_p5, List.forall_mem_cons.mpr ⟨lw_p6, List.forall_mem_cons.mpr ⟨lw_p7, List.forall_mem_cons.mpr ⟨lw_p8, List.forall_mem_cons.mpr ⟨lw_p9, List.forall_mem_cons.mpr ⟨lw_p10, List.forall_mem_cons.mpr ⟨lw_p11, List.forall_mem_cons.mpr ⟨lw_p12, List.forall_mem_cons.mpr ⟨lw_p13, List.forall_mem_cons.mpr ⟨lw_p14, List.forall_mem_cons.mpr ⟨lw_p15, fun _ h => absurd h List.not_mem_nil⟩⟩⟩⟩⟩⟩⟩⟩⟩⟩⟩⟩⟩⟩⟩⟩
theorem lw_p16 : lw_okq (⟨"ChocolateMouldsModel", "letBowl", "(III)V"⟩, 12) := ⟨⟨by decide +kernel, by decide +kernel⟩, List.mem_of_getElem? (i := 577) (by decide +kernel), List.mem_of_getElem? (i := 635) (by decide +kernel), List.mem_of_getElem? (i := 636) (by decide +kernel)⟩
theorem lw_p17 : lw_okq (⟨"ChocolateMouldsModel", "isBowl", "(I)Z"⟩, 12) := ⟨⟨by decide +kernel, by decide +kernel⟩, List.mem_of_getElem? (i := 577) (by decide +kernel), List.mem_of_getElem? (i := 643) (by decide +kernel), List.mem_of_getElem? (i := 644) (by decide +kernel)⟩
theorem lw_p18 : lw_okq (⟨"ChocolateMouldsModel", "isWarmth", "(II)Z"⟩, 12) := ⟨⟨by decide +kernel, by decide +kernel⟩, List.mem_of_getElem? (i := 577) (by decide +kernel), List.mem_of_getElem? (i := 647) (by decide +kernel), List.mem_of_getElem? (i := 648) (by decide +kernel)⟩
theorem lw_p19 : lw_okq (⟨"ChocolateMouldsModel", "look", "(I)V"⟩, 12) := ⟨⟨by decide +kernel, by decide +kernel⟩, List.mem_of_getElem? (i := 577) (by decide +kernel), List.mem_of_getElem? (i := 651) (by decide +kernel), List.mem_of_getElem? (i := 652) (by decide +kernel)⟩
theorem lw_p20 : lw_okq (⟨"ChocolateMouldsModel", "bo", "(II)I"⟩, 12) := ⟨⟨by decide +kernel, by decide +kernel⟩, List.mem_of_getElem? (i := 577) (by decide +kernel), List.mem_of_getElem? (i := 655) (by decide +kernel), List.mem_of_getElem? (i := 656) (by decide +kernel)⟩
theorem lw_p21 : lw_okq (⟨"ChocolateMouldsModel", "temperOf", "(I)I"⟩, 12) := ⟨⟨by decide +kernel, by decide +kernel⟩, List.mem_of_getElem? (i := 577) (by decide +kernel), List.mem_of_getElem? (i := 688) (by decide +kernel), List.mem_of_getElem? (i := 689) (by decide +kernel)⟩
theorem lw_p22 : lw_okq (⟨"ChocolateMouldsModel", "put", "(IIIIII)V"⟩, 12) := ⟨⟨by decide +kernel, by decide +kernel⟩, List.mem_of_getElem? (i := 577) (by decide +kernel), List.mem_of_getElem? (i := 692) (by decide +kernel), List.mem_of_getElem? (i := 693) (by decide +kernel)⟩
theorem lw_p23 : lw_okq (⟨"ChocolateMouldsModel", "letSlab", "(III)V"⟩, 12) := ⟨⟨by decide +kernel, by decide +kernel⟩, List.mem_of_getElem? (i := 577) (by decide +kernel), List.mem_of_getElem? (i := 696) (by decide +kernel), List.mem_of_getElem? (i := 697) (by decide +kernel)⟩
theorem lw_p24 : lw_okq (⟨"ChocolateMouldsModel", "isSlab", "(I)Z"⟩, 12) := ⟨⟨by decide +kernel, by decide +kernel⟩, List.mem_of_getElem? (i := 577) (by decide +kernel), List.mem_of_getElem? (i := 704) (by decide +kernel), List.mem_of_getElem? (i := 705) (by decide +kernel)⟩
theorem lw_p25 : lw_okq (⟨"ChocolateMouldsModel", "sl", "(II)I"⟩, 12) := ⟨⟨by decide +kernel, by decide +kernel⟩, List.mem_of_getElem? (i := 577) (by decide +kernel), List.mem_of_getElem? (i := 708) (by decide +kernel), List.mem_of_getElem? (i := 709) (by decide +kernel)⟩
theorem lw_p26 : lw_okq (⟨"ChocolateMouldsModel", "squares", "(I)I"⟩, 12) := ⟨⟨by decide +kernel, by decide +kernel⟩, List.mem_of_getElem? (i := 577) (by decide +kernel), List.mem_of_getElem? (i := 723) (by decide +kernel), List.mem_of_getElem? (i := 724) (by decide +kernel)⟩
theorem lw_p27 : lw_okq (⟨"ChocolateMouldsModel", "away", "(I)V"⟩, 12) := ⟨⟨by decide +kernel, by decide +kernel⟩, List.mem_of_getElem? (i := 577) (by decide +kernel), List.mem_of_getElem? (i := 727) (by decide +kernel), List.mem_of_getElem? (i := 728) (by decide +kernel)⟩
theorem lw_p28 : lw_okq (⟨"ChocolateMouldsModel", "fillAll", "()I"⟩, 12) := ⟨⟨by decide +kernel, by decide +kernel⟩, List.mem_of_getElem? (i := 577) (by decide +kernel), List.mem_of_getElem? (i := 739) (by decide +kernel), List.mem_of_getElem? (i := 740) (by decide +kernel)⟩
theorem lw_p29 : lw_okq (⟨"ChocolateMouldsModel", "fillOne", "(I)Z"⟩, 12) := ⟨⟨by decide +kernel, by decide +kernel⟩, List.mem_of_getElem? (i := 577) (by decide +kernel), List.mem_of_getElem? (i := 743) (by decide +kernel), List.mem_of_getElem? (i := 744) (by decide +kernel)⟩
theorem lw_p30 : lw_okq (⟨"ChocolateMouldsModel", "fits", "(II)Z"⟩, 12) := ⟨⟨by decide +kernel, by decide +kernel⟩, List.mem_of_getElem? (i := 577) (by decide +kernel), List.mem_of_getElem? (i := 747) (by decide +kernel), List.mem_of_getElem? (i := 748) (by decide +kernel)⟩
theorem lw_p31 : lw_okq (⟨"ChocolateMouldsModel", "bx", "(II)I"⟩, 12) := ⟨⟨by decide +kernel, by decide +kernel⟩, List.mem_of_getElem? (i := 577) (by decide +kernel), List.mem_of_getElem? (i := 751) (by decide +kernel), List.mem_of_getElem? (i := 752) (by decide +kernel)⟩
def lw_privs_2 : List (MethodName × Nat) := [(⟨"ChocolateMouldsModel", "letBowl", "(III)V"⟩, 12), (⟨"ChocolateMouldsModel", "isBowl", "(I)Z"⟩, 12), (⟨"ChocolateMouldsModel", "isWarmth", "(II)Z"⟩, 12), (⟨"ChocolateMouldsModel", "look", "(I)V"⟩, 12), (⟨"ChocolateMouldsModel", "bo", "(II)I"⟩, 12), (⟨"ChocolateMouldsModel", "temperOf", "(I)I"⟩, 12), (⟨"ChocolateMouldsModel", "put", "(IIIIII)V"⟩, 12), (⟨"ChocolateMouldsModel", "letSlab", "(III)V"⟩, 12), (⟨"ChocolateMouldsModel", "isSlab", "(I)Z"⟩, 12), (⟨"ChocolateMouldsModel", "sl", "(II)I"⟩, 12), (⟨"ChocolateMouldsModel", "squares", "(I)I"⟩, 12), (⟨"ChocolateMouldsModel", "away", "(I)V"⟩, 12), (⟨"ChocolateMouldsModel", "fillAll", "()I"⟩, 12), (⟨"ChocolateMouldsModel", "fillOne", "(I)Z"⟩, 12), (⟨"ChocolateMouldsModel", "fits", "(II)Z"⟩, 12), (⟨"ChocolateMouldsModel", "bx", "(II)I"⟩, 12)]
theorem lw_r2 : ∀ q ∈ lw_privs_2, lw_okq q := List.forall_mem_cons.mpr ⟨lw_p16, List.forall_mem_cons.mpr ⟨lw_p17, List.forall_mem_cons.mpr ⟨lw_p18, List.forall_mem_cons.mpr ⟨lw_p19, List.forall_mem_cons.mpr ⟨lw_p20, List.forall_mem_cons.mpr ⟨lw_p21, List.forall_mem_cons.mpr ⟨lw_p22, List.forall_mem_cons.mpr ⟨lw_p23, List.forall_mem_cons.mpr ⟨lw_p24, List.forall_mem_cons.mpr ⟨lw_p25, List.forall_mem_cons.mpr ⟨lw_p26, List.forall_mem_cons.mpr ⟨lw_p27, List.forall_mem_cons.mpr ⟨lw_p28, List.forall_mem_cons.mpr ⟨lw_p29, List.forall_mem_cons.mpr ⟨lw_p30, List.forall_mem_cons.mpr ⟨lw_p31, fun _ h => absurd h List.not_mem_nil⟩⟩⟩⟩⟩⟩⟩⟩⟩⟩⟩⟩⟩⟩⟩⟩
theorem lw_p32 : lw_okq (⟨"ChocolateMouldsModel", "more", "(II)I"⟩, 12) := ⟨⟨by decide +kernel, by decide +kernel⟩, List.mem_of_getElem? (i := 577) (by decide +kernel), List.mem_of_getElem? (i := 759) (by decide +kernel), List.mem_of_getElem? (i := 760) (by decide +kernel)⟩
theorem lw_p33 : lw_okq (⟨"ChocolateMouldsModel", "bloomed", "()I"⟩, 12) := ⟨⟨by decide +kernel, by decide +kernel⟩, List.mem_of_getElem? (i := 577) (by decide +kernel), List.mem_of_getElem? (i := 763) (by decide +kernel), List.mem_of_getElem? (i := 764) (by decide +kernel)⟩
theorem lw_p34 : lw_okq (⟨"ChocolateMouldsModel", "bowlTold", "(II)I"⟩, 12) := ⟨⟨by decide +kernel, by decide +kernel⟩, List.mem_of_getElem? (i := 577) (by decide +kernel), List.mem_of_getElem? (i := 771) (by decide +kernel), List.mem_of_getElem? (i := 772) (by decide +kernel)⟩
theorem lw_p35 : lw_okq (⟨"ChocolateMouldsModel", "slabTold", "(II)I"⟩, 12) := ⟨⟨by decide +kernel, by decide +kernel⟩, List.mem_of_getElem? (i := 577) (by decide +kernel), List.mem_of_getElem? (i := 779) (by decide +kernel), List.mem_of_getElem? (i := 780) (by decide +kernel)⟩
theorem lw_p36 : lw_okq (⟨"ChocolateMouldsModel", "counted", "(I)I"⟩, 12) := ⟨⟨by decide +kernel, by decide +kernel⟩, List.mem_of_getElem? (i := 577) (by decide +kernel), List.mem_of_getElem? (i := 791) (by decide +kernel), List.mem_of_getElem? (i := 792) (by decide +kernel)⟩
theorem lw_p37 : lw_okq (⟨"ChocolateMouldsModel", "filledBy", "(I)I"⟩, 12) := ⟨⟨by decide +kernel, by decide +kernel⟩, List.mem_of_getElem? (i := 577) (by decide +kernel), List.mem_of_getElem? (i := 811) (by decide +kernel), List.mem_of_getElem? (i := 812) (by decide +kernel)⟩
def lw_privs_3 : List (MethodName × Nat) := [(⟨"ChocolateMouldsModel", "more", "(II)I"⟩, 12), (⟨"ChocolateMouldsModel", "bloomed", "()I"⟩, 12), (⟨"ChocolateMouldsModel", "bowlTold", "(II)I"⟩, 12), (⟨"ChocolateMouldsModel", "slabTold", "(II)I"⟩, 12), (⟨"ChocolateMouldsModel", "counted", "(I)I"⟩, 12), (⟨"ChocolateMouldsModel", "filledBy", "(I)I"⟩, 12)]
theorem lw_r3 : ∀ q ∈ lw_privs_3, lw_okq q := List.forall_mem_cons.mpr ⟨lw_p32, List.forall_mem_cons.mpr ⟨lw_p33, List.forall_mem_cons.mpr ⟨lw_p34, List.forall_mem_cons.mpr ⟨lw_p35, List.forall_mem_cons.mpr ⟨lw_p36, List.forall_mem_cons.mpr ⟨lw_p37, fun _ h => absurd h List.not_mem_nil⟩⟩⟩⟩⟩⟩
def lw_privs : List (MethodName × Nat) := lw_privs_1 ++ (lw_privs_2 ++ (lw_privs_3))
def lw_tbl : List Cond := k2_sels lw_privs ++ tables_1
theorem lw_privs_ok : ∀ q ∈ lw_privs, lw_okq q := by
  show ∀ q ∈ lw_privs_1 ++ (lw_privs_2 ++ (lw_privs_3)), lw_okq q
  exact List.forall_mem_append.mpr ⟨lw_r1, List.forall_mem_append.mpr ⟨lw_r2, lw_r3⟩⟩
/-- the streams that the claim lets the run draw from -/
abbrev lw_cs : List Choice := [Jvm.Choice.named "NaN.bits"]
theorem lw_bits : nanBits ∈ lw_cs := by first | decide | exact List.mem_cons_self | simp [lw_cs, nanBits]

/-! ===== BEGIN words of one list among another's, by their places ===== -/
theorem goodIn_r {big : List Cond} (ws : List Cond) (ps : List Nat) (hp : ws = ps.filterMap (fun i => big[i]?)) (h : ws.all goodWord = true) : GoodIn big ws := by
  intro w hw
  have h1 := List.all_eq_true.mp h w hw
  rw [hp] at hw
  obtain ⟨i, -, hi⟩ := List.mem_filterMap.mp hw
  have hm : w ∈ big := by first | exact List.mem_of_getElem? hi | exact List.getElem?_mem hi
  exact ⟨hm, good_of_word h1⟩
theorem goodIn_app {big a b : List Cond} (ha : GoodIn big a) (hb : GoodIn big b) : GoodIn big (a ++ b) := fun w h => (List.mem_append.mp h).elim (ha w) (hb w)
theorem goodIn_ca {big a b : List Cond} {c : Cond} (ha : GoodIn big (c :: a)) (hb : GoodIn big b) : GoodIn big (c :: (a ++ b)) := fun w h => (List.mem_cons.mp h).elim (fun e => ha w (List.mem_cons.mpr (Or.inl e))) (fun h => (List.mem_append.mp h).elim (fun h => ha w (List.mem_cons.mpr (Or.inr h))) (hb w))
theorem goodIn_sub {big ws : List Cond} (hm : ∀ w ∈ ws, w ∈ big) (h : ws.all goodWord = true) : GoodIn big ws := fun w hw => ⟨hm w hw, good_of_word (List.all_eq_true.mp h w hw)⟩
/-! ===== END ===== -/

/-! ===== BEGIN exceptions that leave a method, and their catching by the caller (launches without stack traces) ===== -/
section VXA
/-! The laws vx_back, vx_callV, vx_callS, vx_callSW, vx_throw0, vx_throwS follow proofs of the library, with one case more: JvmDerived/Free/Laws.lean (Back.of_free), Shelf42/LK1.lean (callV, callS), Shelf/KitTraced.lean (throwNew0V, throwNewS). -/
/-- where a method has thrown q: the class by its name, the cell, what was written, the world -/
def vx_T (XC : String → State → State → Prop) (st : State) (q : Addr) (t : State) (mc ms : Nat) (free : Addr → Prop) : Prop :=
  ∃ (E : String) (ce : Cell) (L : List Loc), XC E st t ∧ t.heap[q]? = some ce ∧ ce.vm = .none ∧ st.vm.findClass E = some ce.cls ∧ st.WarmedH t.vm ∧ st.sameButNew ({ t with vm := st.vm } : State) L mc ms ∧ ∀ z ∈ L, free z.base
def vx_Q (Qc : Array Value → State → Outcome → State → Prop) (XC : String → State → State → Prop) (mc ms : Nat) (free : Addr → Prop) : Array Value → State → Outcome → State → Prop := fun a st o t =>
  (Qc a st o t ∧ ∃ L, FrameEnd st o t L mc ms ∧ ∀ q ∈ L, free q.base) ∨ ∃ q, o = .threw q ∧ vx_T XC st q t mc ms free
/-- a callee that returns or throws -/
def vx_Met (l : Launch) (y : MethodName) (ws : List Cond) (rm : Room) (Pc : Array Value → State → Prop) (Qc : Array Value → State → Outcome → State → Prop) (XC : String → State → State → Prop) (mc ms : Nat) (free : Addr → Prop) : Prop :=
  MetFree l y (headSpec ws rm) Pc (fun _ _ _ _ _ => True) (vx_Q Qc XC mc ms free)
def vx_Post (XC : String → State → State → Prop) (mc ms : Nat) (free : Addr → Prop) : Pt → Array Value → Addr → Pt → Prop := fun A a q B =>
  ∃ (g : JFrame) (mk : MethodId) (t : State) (L : List Loc) (E : String) (ce : Cell), B.U.heap = t.heap ∧ B.U.vm = t.vm ∧ XC E (A.U.calling g mk a) t ∧ t.heap[q]? = some ce ∧ ce.vm = .none ∧ A.U.vm.findClass E = some ce.cls ∧ B.locs = A.locs ++ L ∧ (∀ z ∈ L, free z.base) ∧ B.cells = A.cells + mc ∧ B.slots = A.slots + ms
def vx_Back (l : Launch) (R : Room) (p : Program) (e : Env) (below : List Frame) (s : State) (sargs : Array Value) (y : MethodName) (len W9 : Nat)
    (Pre : Pt → Array Value → Prop) (Post : Pt → Array Value → Option Value → Pt → Prop) (PostX : Pt → Array Value → Addr → Pt → Prop) : Prop :=
  ∀ (m : MethodId) (meth : Method) (c : Code) (A : Pt) (g : JFrame) (ig : Instr) (mk : MethodId) (a : Array Value),
    Stand p l e R s m sargs below meth c A.U A.locs A.cells A.slots → g.method = m → g.locals.size = c.maxLocals → decode c.code g.pc = .ok (ig, len) →
    2 * g.monitorRoom + (g.stack.map fun v => v.category).sum ≤ W9 → A.U.methodNamed? y = some mk → Pre A a →
    (∃ (v : Option Value) (B : Pt), Stand p l e R s m sargs below meth c B.U B.locs B.cells B.slots ∧ Post A a v B ∧
      Steps p.tables e below (doInvoke e (A.U.setTop g) [] mk a).1 (B.U.setTop { g with pc := g.pc + len, stack := v.toList ++ g.stack })) ∨
    (∃ (q : Addr) (B : Pt), Stand p l e R s m sargs below meth c B.U B.locs B.cells B.slots ∧ PostX A a q B ∧
      Steps p.tables e below (doInvoke e (A.U.setTop g) [] mk a).1 ((B.U.setTop g).pushFrame (.throwing q)))
section Payer
variable {l : Launch} {R : Room} {p : Program} {e : Env} {below : List Frame} {s : State} {sargs : Array Value} {y : MethodName} {len W9 : Nat}
theorem vx_back {ws : List Cond} {rm : Room} {Pc : Array Value → State → Prop} {Qc : Array Value → State → Outcome → State → Prop} {XC : String → State → State → Prop} {mc ms : Nat} {free : Addr → Prop} {bytes : ByteArray} {maxL : Nat} {ret : Option FieldType}
    (hM : vx_Met l y ws rm Pc Qc XC mc ms free) (hblind : FrameBlind Pc) (hrc : rm.cells = mc) (hrs : rm.slots = ms)
    (hframes : rm.frames + 1 ≤ R.frames) (hlocals : W9 + (maxL + 11) + rm.locals ≤ R.locals)
    (hws : ∀ w ∈ ws, ∀ a' U, s.WarmedH U.vm → w.before a' U = true) (hcode : Cond.code y bytes maxL ret ∈ ws) (hinit : ∀ a' U, s.WarmedH U.vm → (Cond.initialized y.cls).before a' U = true) :
    vx_Back l R p e below s sargs y len W9 (PreOf R mc ms Pc) (PostOf Qc mc ms free) (vx_Post XC mc ms free) := by
  intro m meth c A g ig mk a X hg hsize hdg hW hn hp
  have h1 : (headSpec ws rm).pre.before a A.U = true := atoms_intro fun w hw => hws w hw _ _ X.warmed
  have h2 : (Cond.code y bytes maxL ret).before a A.U = true := hws _ hcode _ _ X.warmed
  have h3 : (Cond.initialized y.cls).before a A.U = true := hinit _ _ X.warmed
  have h4 : A.cells + (headSpec ws rm).room.cells ≤ R.cells := by rw [show (headSpec ws rm).room.cells = mc from hrc]; exact hp.1
  have h5 : A.slots + (headSpec ws rm).room.slots ≤ R.slots := by rw [show (headSpec ws rm).room.slots = ms from hrs]; exact hp.2.1
  have hPc : Pc a (A.U.calling g mk a) := hblind _ _ _ _ hp.2.2
  obtain ⟨U, Ls, c0, s0⟩ := A
  dsimp only [Pt.U, Pt.locs, Pt.cells, Pt.slots] at h1 h2 h3 h4 h5 X hn hPc ⊢
  obtain ⟨methY, cY, hmY, hcY, -, hlY, -, -, -, -⟩ := Cond.code_spec hn h2
  obtain ⟨kY, hkY, -⟩ := className_of_methodNamed hn
  have hinitY : kY.init = .initialized := Cond.initialized_spec (findClass_of_methodNamed hn) hkY h3
  have h : At U g.method c below := by rw [hg]; exact X.here
  have hlocals9 : W9 + (maxL + 11) + (headSpec ws rm).room.locals ≤ R.locals := hlocals
  have happ : (headSpec ws rm).appliesLoose y e.platform (U.calling g mk a) = true :=
    Spec.appliesLoose_calling (g := g) h hdg hn hkY hinitY
      (X.room_calling (g := g) (R' := (headSpec ws rm).room) hsize hmY hcY hframes (by rw [hlY]; omega) h4 h5) h1
  obtain ⟨mid, hmid⟩ := h.above
  have hfr : (U.setTop g).frames = (.java g :: mid) ++ below := by rw [State.frames_setTop' g h.top, hmid]; rfl
  obtain ⟨o, s₂, hsteps, -, hend, hq⟩ := Steps.callFree hM p X.admits X.cas X.clock (acts := []) hfr happ hPc trivial
  have hq' : vx_Q Qc XC mc ms free a (U.calling g mk a) o s₂ := hq
  rw [State.frames_setTop' g h.top] at hend
  obtain ⟨g₀, hg0⟩ := Option.isSome_iff_exists.mp h.top
  obtain ⟨r, hr⟩ := State.topJava?_eq_some.mp hg0
  have hr' : (({ U with heap := s₂.heap, slotsUsed := s₂.slotsUsed } : State).setVm s₂.vm).frames = .java g₀ :: r := hr
  rcases hq' with ⟨hqc, L, hfe, hL⟩ | ⟨q, rfl, E, ce, L, hx, hce, hcv, hcl, hW₂, hsm, hL⟩
  · obtain ⟨⟨v, rfl⟩, hW₂, e2, q2, q3, q4, q5, q6⟩ := id hfe
    have e3 : s₂ = ({ (U.calling g mk a).setFrames s₂.frames with heap := s₂.heap, slotsUsed := s₂.slotsUsed } : State).setVm s₂.vm := by
      have : s₂ = ({ s₂ with vm := (U.calling g mk a).vm } : State).setVm s₂.vm := rfl
      rw [e2] at this
      exact this
    obtain ⟨c₂, i₂, len₂, hc₂, hd₂, hf₂⟩ := hend
    have hW' : U.WarmedH s₂.vm := hW₂
    have hcc : c₂ = c := by
      have h1 : s₂.code? g.method = U.code? g.method := by
        rw [State.code?_eq, State.code?_eq, hW'.alike.method?]
      exact Option.some.inj (hc₂.symm.trans (h1.trans h.code))
    subst hcc
    have hlen : len₂ = len := by rw [hdg] at hd₂; cases hd₂; rfl
    subst hlen
    have hs₂ : s₂ = (({ U with heap := s₂.heap, slotsUsed := s₂.slotsUsed } : State).setVm s₂.vm).setTop { g with pc := g.pc + len₂, stack := v.toList ++ g.stack } := by
      refine e3.trans ?_
      rw [hf₂, State.calling_eq h.top, State.setFrames_setFrames, State.setTop_of_frames _ hr', hr]
      rfl
    have hsame : U.sameButNew ({ U with heap := s₂.heap, slotsUsed := s₂.slotsUsed } : State) L mc ms := by
      refine ⟨?_, q2, q3, q4, q5, q6⟩
      obtain ⟨t, ht, -⟩ := State.frames_cons hr
      show ({ U with heap := s₂.heap, slotsUsed := s₂.slotsUsed } : State) = { U.setFrames U.frames with heap := s₂.heap, slotsUsed := s₂.slotsUsed }
      rw [State.setFrames_self ht]
    subst hg
    refine Or.inl ⟨v, ⟨(({ U with heap := s₂.heap, slotsUsed := s₂.slotsUsed } : State).setVm s₂.vm), Ls ++ L, c0 + mc, s0 + ms⟩,
      ⟨X.admits, X.cas, X.clock, X.frames, X.room, X.hears, X.method, X.code, (X.here.setHeapUsed s₂.heap s₂.slotsUsed).setVm hW'.alike, X.tail, State.WarmedH.trans X.warmed hW', X.limits, X.bytes, X.same.trans (hsame.setVm s.vm)⟩,
      ⟨g, mk, s₂, L, rfl, rfl, hqc, rfl, hL, rfl, rfl⟩, ?_⟩
    show Steps p.tables e below _ ((({ U with heap := s₂.heap, slotsUsed := s₂.slotsUsed } : State).setVm s₂.vm).setTop { g with pc := g.pc + len₂, stack := v.toList ++ g.stack })
    rw [← hs₂]
    exact hsteps
  · obtain ⟨e2, q2, q3, q4, q5, q6⟩ := id hsm
    have e3 : s₂ = ({ (U.calling g mk a).setFrames s₂.frames with heap := s₂.heap, slotsUsed := s₂.slotsUsed } : State).setVm s₂.vm := by
      have : s₂ = ({ s₂ with vm := (U.calling g mk a).vm } : State).setVm s₂.vm := rfl
      rw [e2] at this
      exact this
    have hf₂ : s₂.frames = .throwing q :: .java g :: U.frames.tail := hend
    have hW' : U.WarmedH s₂.vm := hW₂
    have hs₂ : s₂ = ((({ U with heap := s₂.heap, slotsUsed := s₂.slotsUsed } : State).setVm s₂.vm).setTop g).pushFrame (.throwing q) := by
      refine e3.trans ?_
      rw [hf₂, State.calling_eq h.top, State.setFrames_setFrames, State.pushFrame, State.frames_setTop _ hr', State.setTop_of_frames _ hr', State.setFrames_setFrames, hr]
      rfl
    have hsame : U.sameButNew ({ U with heap := s₂.heap, slotsUsed := s₂.slotsUsed } : State) L mc ms := by
      refine ⟨?_, q2, q3, q4, q5, q6⟩
      obtain ⟨t, ht, -⟩ := State.frames_cons hr
      show ({ U with heap := s₂.heap, slotsUsed := s₂.slotsUsed } : State) = { U.setFrames U.frames with heap := s₂.heap, slotsUsed := s₂.slotsUsed }
      rw [State.setFrames_self ht]
    subst hg
    refine Or.inr ⟨q, ⟨(({ U with heap := s₂.heap, slotsUsed := s₂.slotsUsed } : State).setVm s₂.vm), Ls ++ L, c0 + mc, s0 + ms⟩,
      ⟨X.admits, X.cas, X.clock, X.frames, X.room, X.hears, X.method, X.code, (X.here.setHeapUsed s₂.heap s₂.slotsUsed).setVm hW'.alike, X.tail, State.WarmedH.trans X.warmed hW', X.limits, X.bytes, X.same.trans (hsame.setVm s.vm)⟩,
      ⟨g, mk, s₂, L, E, ce, rfl, rfl, hx, hce, hcv, hcl, rfl, hL, rfl, rfl⟩, ?_⟩
    show Steps p.tables e below _ (((({ U with heap := s₂.heap, slotsUsed := s₂.slotsUsed } : State).setVm s₂.vm).setTop g).pushFrame (.throwing q))
    rw [← hs₂]
    exact hsteps
end Payer
section Calls
variable {p : Program} {l : Launch} {e : Env} {R : Room} {s : State} {m : MethodId} {args : Array Value} {below : List Frame} {meth : Method} {c : Code} {T : State} {locs : List Loc} {cells slots : Nat}
theorem vx_callV (X : Stand p l e R s m args below meth c T locs cells slots) (hexec : p.tables.exec = Jvm.exec) {own C : String} {index : Nat} {y : MethodName} {bytes : ByteArray} {maxL : Nat} {ret : Option FieldType}
    (hown : s.vm.findClass own = some m.cls) (hlink : (Cond.methodLink own index y).before args s = true) (hinst : (Cond.instanceMethod y).before args s = true) (hsel : (Cond.selects C y y).before args s = true)
    (hcode : (Cond.code y bytes maxL ret).before args s = true) (hy : y.cls ≠ "java/lang/invoke/MethodHandle" ∧ y.cls ≠ "java/lang/invoke/VarHandle")
    {W9 : Nat} {Pre : Pt → Array Value → Prop} {Post : Pt → Array Value → Option Value → Pt → Prop} {PostX : Pt → Array Value → Addr → Pt → Prop} (hK : vx_Back l R p e below s args y 3 W9 Pre Post PostX)
    {b : Addr} {cellB : Cell} (hcell : T.heap[b]? = some cellB) (hobj : cellB.vm.isStatics = false) (hcls : s.vm.findClass C = some cellB.cls)
    {g : JFrame} (hg : g.method = m) (hsize : g.locals.size = c.maxLocals) {argsL rest : List Value} (hlen : ∀ sig, parseMethodDescriptor y.desc = some sig → argsL.length = sig.parameters.length)
    (hstack : g.stack = argsL.reverse ++ .ref b :: rest) (hW : 2 * g.monitorRoom + (rest.map fun v => v.category).sum ≤ W9) (hdg : decode c.code g.pc = .ok (.invokevirtual index, 3))
    (hpre : ∀ vm₁, s.WarmedH vm₁ → Pre ⟨T.setVm vm₁, locs, cells, slots⟩ (Value.ref b :: argsL).toArray) :
    (∃ (v : Option Value) (vm₁ : Vm) (B : Pt), s.WarmedH vm₁ ∧ Stand p l e R s m args below meth c B.U B.locs B.cells B.slots ∧ Post ⟨T.setVm vm₁, locs, cells, slots⟩ (Value.ref b :: argsL).toArray v B ∧
      ∀ target, Steps p.tables e below (B.U.setTop { g with pc := g.pc + 3, stack := v.toList ++ rest }) target → Steps p.tables e below (T.setTop g) target) ∨
    (∃ (q : Addr) (vm₁ : Vm) (B : Pt), s.WarmedH vm₁ ∧ Stand p l e R s m args below meth c B.U B.locs B.cells B.slots ∧ PostX ⟨T.setVm vm₁, locs, cells, slots⟩ (Value.ref b :: argsL).toArray q B ∧
      Steps p.tables e below (T.setTop g) ((B.U.setTop { g with stack := rest }).pushFrame (.throwing q))) := by
  obtain ⟨mk, methM, hnamed, hmethM, hstM, habM⟩ := Cond.instanceMethod_spec hinst
  obtain ⟨methM', cM, hmethM', -, -, -, -, -, -, hsigM⟩ := Cond.code_spec hnamed hcode
  cases hmethM.symm.trans hmethM'
  obtain ⟨c2, r2, m2, q1, q2, q3, q4, kP, hkP, hkPi⟩ := Cond.selects_spec hsel
  cases hcls.symm.trans q1
  cases (State.methodFound?_of_named hnamed hy).symm.trans q2
  cases hnamed.symm.trans q3
  have hselP : selectMethod e.platform s.vm cellB.cls mk = .method mk := by rw [Launch.admits_selectMethod X.admits]; exact q4
  obtain ⟨vm₁, X₁, hstep₁⟩ := X.invokevirtual hexec hown hlink hnamed hmethM hstM hkP hkPi hy (a := b) (cell := cellB) hcell
    (fun z h => by rw [h] at hobj; cases hobj) hselP hmethM habM hkP hkPi (g := g) hg (argsL := argsL) (rest := rest) (hlen _ hsigM) hstack hdg
  rcases hK m meth c ⟨T.setVm vm₁, locs, cells, slots⟩ { g with stack := rest } (.invokevirtual index) mk (Value.ref b :: argsL).toArray X₁ hg hsize hdg hW (X₁.named hnamed) (hpre vm₁ X₁.warmed) with ⟨v, B, X', hpost, hsteps⟩ | ⟨q, B, X', hpost, hsteps⟩
  · exact Or.inl ⟨v, vm₁, B, X₁.warmed, X', hpost, fun target h => hstep₁ _ fun acts => by rw [doInvoke_state]; exact hsteps.trans h⟩
  · exact Or.inr ⟨q, vm₁, B, X₁.warmed, X', hpost, hstep₁ _ fun acts => by rw [doInvoke_state]; exact hsteps⟩
theorem vx_callS (X : Stand p l e R s m args below meth c T locs cells slots) (hexec : p.tables.exec = Jvm.exec) {own : String} {index : Nat} {y : MethodName} {bytes : ByteArray} {maxL : Nat} {ret : Option FieldType}
    (hown : s.vm.findClass own = some m.cls) (hlink : (Cond.methodLink own index y).before args s = true) (hstat : (Cond.static y).before args s = true) (hinit : (Cond.initialized y.cls).before args s = true)
    (hcode : (Cond.code y bytes maxL ret).before args s = true) (hy : y.cls ≠ "java/lang/invoke/MethodHandle" ∧ y.cls ≠ "java/lang/invoke/VarHandle")
    {W9 : Nat} {Pre : Pt → Array Value → Prop} {Post : Pt → Array Value → Option Value → Pt → Prop} {PostX : Pt → Array Value → Addr → Pt → Prop} (hK : vx_Back l R p e below s args y 3 W9 Pre Post PostX)
    {g : JFrame} (hg : g.method = m) (hsize : g.locals.size = c.maxLocals) {argsL rest : List Value} (hlen : ∀ sig, parseMethodDescriptor y.desc = some sig → argsL.length = sig.parameters.length)
    (hstack : g.stack = argsL.reverse ++ rest) (hW : 2 * g.monitorRoom + (rest.map fun v => v.category).sum ≤ W9) (hdg : decode c.code g.pc = .ok (.invokestatic index, 3))
    (hpre : ∀ vm₁, s.WarmedH vm₁ → Pre ⟨T.setVm vm₁, locs, cells, slots⟩ argsL.toArray) :
    (∃ (v : Option Value) (vm₁ : Vm) (B : Pt), s.WarmedH vm₁ ∧ Stand p l e R s m args below meth c B.U B.locs B.cells B.slots ∧ Post ⟨T.setVm vm₁, locs, cells, slots⟩ argsL.toArray v B ∧
      ∀ target, Steps p.tables e below (B.U.setTop { g with pc := g.pc + 3, stack := v.toList ++ rest }) target → Steps p.tables e below (T.setTop g) target) ∨
    (∃ (q : Addr) (vm₁ : Vm) (B : Pt), s.WarmedH vm₁ ∧ Stand p l e R s m args below meth c B.U B.locs B.cells B.slots ∧ PostX ⟨T.setVm vm₁, locs, cells, slots⟩ argsL.toArray q B ∧
      Steps p.tables e below (T.setTop g) ((B.U.setTop { g with stack := rest }).pushFrame (.throwing q))) := by
  obtain ⟨mk, hnamed⟩ := Cond.code_named hcode
  obtain ⟨methM, cM, hmethM, -, -, -, -, -, -, hsigM⟩ := Cond.code_spec hnamed hcode
  have hstatic : methM.isStatic = true := Cond.static_spec hnamed hmethM hstat
  obtain ⟨kP, hkP, -⟩ := className_of_methodNamed hnamed
  have hinitP : kP.init = .initialized := Cond.initialized_spec (findClass_of_methodNamed hnamed) hkP hinit
  obtain ⟨vm₁, X₁, hstep₁⟩ := X.invokestatic hexec hown hlink hnamed hmethM hstatic hkP hinitP hy (g := g) hg (argsL := argsL) (rest := rest) (hlen _ hsigM) hstack hdg
  rcases hK m meth c ⟨T.setVm vm₁, locs, cells, slots⟩ { g with stack := rest } (.invokestatic index) mk argsL.toArray X₁ hg hsize hdg hW (X₁.named hnamed) (hpre vm₁ X₁.warmed) with ⟨v, B, X', hpost, hsteps⟩ | ⟨q, B, X', hpost, hsteps⟩
  · exact Or.inl ⟨v, vm₁, B, X₁.warmed, X', hpost, fun target h => hstep₁ _ fun acts => by rw [doInvoke_state]; exact hsteps.trans h⟩
  · exact Or.inr ⟨q, vm₁, B, X₁.warmed, X', hpost, hstep₁ _ fun acts => by rw [doInvoke_state]; exact hsteps⟩
end Calls
theorem vx_cls {s : State} {T : State} {vm₁ : Vm} {E : String} {k : ClassId} (hW : s.WarmedH vm₁) (h : (T.setVm vm₁).vm.findClass E = some k) : s.vm.findClass E = some k := by
  have h1 : vm₁.findClass E = some k := h
  rw [hW.alike.findClass] at h1
  exact h1
/-- the method's frame g, with q thrown over it -/
def vx_W (p : Program) (l : Launch) (e : Env) (R : Room) (s : State) (m : MethodId) (args : Array Value) (below : List Frame) (meth : Method) (c : Code) (H : Heap) (locs : List Loc) (cells slots : Nat) (Q : State → Prop) (g : JFrame) (q : Addr) : Prop :=
  ∀ T : State, T.heap = H → Stand p l e R s m args below meth c T locs cells slots → ∃ t, Steps p.tables e below ((T.setTop g).pushFrame (.throwing q)) t ∧ Q t
def vx_Run (p : Program) (l : Launch) (e : Env) (R : Room) (s : State) (m : MethodId) (args : Array Value) (below : List Frame) (meth : Method) (c : Code) (H : Heap) (locs : List Loc) (cells slots mc ms : Nat) (g : JFrame) (rest : List Value) (Qa : State → Outcome → State → Prop) (XC : String → State → State → Prop) (free : Addr → Prop) : Prop :=
  ∀ T : State, T.heap = H → Stand p l e R s m args below meth c T locs cells slots →
    (∃ (v : Option Value) (st₀ t T' : State) (L : List Loc), st₀.heap = H ∧ Stand p l e R s m args below meth c T' (locs ++ L) (cells + mc) (slots + ms) ∧ (∀ q ∈ L, free q.base) ∧ T'.heap = t.heap ∧ T'.vm = t.vm ∧ Qa st₀ (.returned v) t ∧
      Goes p e below T g T' { g with pc := g.pc + 3, stack := v.toList ++ rest }) ∨
    (∃ (q : Addr) (st₀ t T' : State) (L : List Loc) (E : String) (ce : Cell), st₀.heap = H ∧ Stand p l e R s m args below meth c T' (locs ++ L) (cells + mc) (slots + ms) ∧ (∀ z ∈ L, free z.base) ∧ T'.heap = t.heap ∧ T'.vm = t.vm ∧ XC E st₀ t ∧ t.heap[q]? = some ce ∧ ce.vm = .none ∧ s.vm.findClass E = some ce.cls ∧
      Steps p.tables e below (T.setTop g) ((T'.setTop { g with stack := rest }).pushFrame (.throwing q)))
def vx_X {S : Type} (px : S → Prop) (B : String → S → State → Prop) (A : Nat → Prop) : String → State → State → Prop := fun E st t => ∃ u : S, px u ∧ B E u t ∧ va_F A st t
section Runs
variable {p : Program} {l : Launch} {e : Env} {R : Room} {s : State} {m : MethodId} {args : Array Value} {below : List Frame} {meth : Method} {c : Code} {H : Heap} {locs : List Loc} {cells slots : Nat}
variable {y : MethodName} {bytes cc : ByteArray} {maxL nL mc ms n index : Nat} {ret : Option FieldType} {ws : List Cond} {rm : Room} {Pc : Array Value → State → Prop} {Qc : Array Value → State → Outcome → State → Prop} {XC : String → State → State → Prop} {free : Addr → Prop} {Ts : List Cond} {own C : String} {b : Addr} {As rest : List Value} {g : JFrame}
theorem vx_callBack (cb : CallB R s args own index y bytes maxL ret ws rm mc ms n) (hM : vx_Met l y ws rm Pc Qc XC mc ms free) (hbl : FrameBlind Pc) : vx_Back l R p e below s args y 3 8 (PreOf R mc ms Pc) (PostOf Qc mc ms free) (vx_Post XC mc ms free) := by
  obtain ⟨hrc, hrs, hfr, hlo, hws, hcw, -, hini, -⟩ := cb
  exact vx_back (bytes := bytes) (maxL := maxL) (ret := ret) hM hbl hrc hrs hfr hlo hws hcw (fun a' U hW => word_at hW (Or.inl (by first | rfl | simp [Cond.onTables, Cond.keeps, Cond.steady])) hini)
theorem vx_runV (S : CallFix p m c cc nL s args Ts own) (hM : vx_Met l y ws rm Pc Qc XC mc ms free) (cw : CallW R s args own C index y bytes maxL ret ws rm mc ms n) (hp : PreV s H C b Pc As)
    (hg : g.method = m) (hn : As.length = n) (hsize : g.locals.size = nL) (hstack : g.stack = As.reverse ++ .ref b :: rest) (hW : 2 * g.monitorRoom + (rest.map fun v => v.category).sum ≤ 8) (hdg : decode cc g.pc = .ok (.invokevirtual index, 3)) (hf : cells + mc ≤ R.cells ∧ slots + ms ≤ R.slots) :
    vx_Run p l e R s m args below meth c H locs cells slots mc ms g rest (Qc (Value.ref b :: As).toArray) XC free := by
  have hK : vx_Back l R p e below s args y 3 8 (PreOf R mc ms Pc) (PostOf Qc mc ms free) (vx_Post XC mc ms free) := vx_callBack cw.1 hM hp.1
  obtain ⟨⟨-, -, -, -, -, -, hcode, -, hy, hlen, hl⟩, hin, hse⟩ := cw
  obtain ⟨hx, hb, hml, ho, -⟩ := S
  obtain ⟨-, ⟨cellB, hcB, hoB, hclB⟩, hPc⟩ := hp
  intro T hT X
  rcases vx_callV X hx (C := C) (bytes := bytes) (maxL := maxL) (ret := ret) ho hl hin hse hcode hy hK (by rw [hT]; exact hcB) hoB hclB hg (hsize.trans hml.symm) (argsL := As) (rest := rest) (fun sig h => hn.trans (hlen sig h)) hstack hW (by rw [hb]; exact hdg)
    (fun vm₁ hW₁ => ⟨hf.1, hf.2, hPc (T.setVm vm₁) hT hW₁⟩) with ⟨v, vm₁, ⟨U', l2, c2, s2⟩, hW₁, X', ⟨g', mk, t, L, e1, e2, hq, h1, hL, h2, h3⟩, st⟩ | ⟨q, vm₁, ⟨U', l2, c2, s2⟩, hW₁, X', ⟨g', mk, t, L, E, ce, e1, e2, hq, hce, hcv, hcl, h1, hL, h2, h3⟩, st⟩
  · dsimp only [Pt.U, Pt.locs, Pt.cells, Pt.slots] at X' e1 e2 h1 h2 h3 st
    subst h1; subst h2; subst h3
    exact Or.inl ⟨v, (T.setVm vm₁).calling g' mk (Value.ref b :: As).toArray, t, U', L, hT, X', hL, e1, e2, hq, st⟩
  · dsimp only [Pt.U, Pt.locs, Pt.cells, Pt.slots] at X' e1 e2 h1 h2 h3 st hcl
    subst h1; subst h2; subst h3
    exact Or.inr ⟨q, (T.setVm vm₁).calling g' mk (Value.ref b :: As).toArray, t, U', L, E, ce, hT, X', hL, e1, e2, hq, hce, hcv, vx_cls hW₁ hcl, st⟩
theorem vx_runS (S : CallFix p m c cc nL s args Ts own) (hM : vx_Met l y ws rm Pc Qc XC mc ms free) (cw : CallB R s args own index y bytes maxL ret ws rm mc ms n ∧ (Cond.static y).before args s = true) (hp : PreS s H Pc As)
    (hg : g.method = m) (hn : As.length = n) (hsize : g.locals.size = nL) (hstack : g.stack = As.reverse ++ rest) (hW : 2 * g.monitorRoom + (rest.map fun v => v.category).sum ≤ 8) (hdg : decode cc g.pc = .ok (.invokestatic index, 3)) (hf : cells + mc ≤ R.cells ∧ slots + ms ≤ R.slots) :
    vx_Run p l e R s m args below meth c H locs cells slots mc ms g rest (Qc As.toArray) XC free := by
  have hK : vx_Back l R p e below s args y 3 8 (PreOf R mc ms Pc) (PostOf Qc mc ms free) (vx_Post XC mc ms free) := vx_callBack cw.1 hM hp.1
  obtain ⟨⟨-, -, -, -, -, -, hcode, hini, hy, hlen, hl⟩, hstt⟩ := cw
  obtain ⟨hx, hb, hml, ho, -⟩ := S
  intro T hT X
  rcases vx_callS X hx (bytes := bytes) (maxL := maxL) (ret := ret) ho hl hstt hini hcode hy hK hg (hsize.trans hml.symm) (argsL := As) (rest := rest) (fun sig h => hn.trans (hlen sig h)) hstack hW (by rw [hb]; exact hdg)
    (fun vm₁ hW₁ => ⟨hf.1, hf.2, hp.2 (T.setVm vm₁) hT hW₁⟩) with ⟨v, vm₁, ⟨U', l2, c2, s2⟩, hW₁, X', ⟨g', mk, t, L, e1, e2, hq, h1, hL, h2, h3⟩, st⟩ | ⟨q, vm₁, ⟨U', l2, c2, s2⟩, hW₁, X', ⟨g', mk, t, L, E, ce, e1, e2, hq, hce, hcv, hcl, h1, hL, h2, h3⟩, st⟩
  · dsimp only [Pt.U, Pt.locs, Pt.cells, Pt.slots] at X' e1 e2 h1 h2 h3 st
    subst h1; subst h2; subst h3
    exact Or.inl ⟨v, (T.setVm vm₁).calling g' mk As.toArray, t, U', L, hT, X', hL, e1, e2, hq, st⟩
  · dsimp only [Pt.U, Pt.locs, Pt.cells, Pt.slots] at X' e1 e2 h1 h2 h3 st hcl
    subst h1; subst h2; subst h3
    exact Or.inr ⟨q, (T.setVm vm₁).calling g' mk As.toArray, t, U', L, E, ce, hT, X', hL, e1, e2, hq, hce, hcv, vx_cls hW₁ hcl, st⟩
end Runs
section Rows
variable {p : Program} {l : Launch} {e : Env} {R : Room} {s : State} {m : MethodId} {args : Array Value} {below : List Frame} {meth : Method} {c : Code} {H : Heap} {locs : List Loc} {cells slots : Nat} {Q : State → Prop}
variable {mc ms : Nat} {free : Addr → Prop} {A0 A1 : Nat → Prop} {H0 : Heap} {a : Array Value} {pc : Nat} {ls : Array Slot} {st0 rest : List Value}
theorem vx_keep {st₀ t T' : State} {L : List Loc} (h0 : st₀.heap = H) (e1 : T'.heap = t.heap) (hS : va_S A0 H0 H locs) (hA : ∀ q, q < H.size → A1 q → A0 q) (hf : ∀ q, free q → A0 q) (hL : ∀ q ∈ L, free q.base) (hF : va_F A1 st₀ t) :
    H.size ≤ T'.heap.size ∧ (∀ q : Nat, q < H.size → ¬ A1 q → T'.heap[q]? = H[q]?) ∧ va_S A0 H0 T'.heap (locs ++ L) := by
  obtain ⟨hz, hk⟩ := hF
  rw [h0] at hz hk
  exact ⟨by rw [e1]; exact hz, fun q h1 h2 => by rw [e1]; exact hk q h1 h2,
    ⟨Nat.le_trans hS.1 (by rw [e1]; exact hz), fun q h1 h2 => by rw [e1, hk q (Nat.lt_of_lt_of_le h1 hS.1) (fun z => h2 (hA q (Nat.lt_of_lt_of_le h1 hS.1) z))]; exact hS.2.1 q h1 h2, fun q hq => by
      rcases List.mem_append.mp hq with h | h
      · exact hS.2.2 q h
      · exact hf _ (hL q h)⟩⟩
theorem vx_calli {S SX : Type} {post : Int32 → S → Prop} {px : SX → Prop} {B : S → State → Prop} {BX : String → SX → State → Prop} {AX : Nat → Prop} (hr : vx_Run p l e R s m args below meth c H locs cells slots mc ms (F0 m pc ls st0) rest (va_Qi post B A1 a) (vx_X px BX AX) free) (hS : va_S A0 H0 H locs) (hA : ∀ q, q < H.size → A1 q → A0 q) (hf : ∀ q, free q → A0 q) (hAX : ∀ q, q < H.size → AX q → A0 q)
    (kx : ∀ (E : String) (ce : Cell) (q9 : Addr) (u : SX) (t : State) (H1 : Heap) (locs1 : List Loc), t.heap = H1 → s.vm.Alike t.vm → px u → BX E u t → H.size ≤ H1.size → (∀ q : Nat, q < H.size → ¬ AX q → H1[q]? = H[q]?) → va_S A0 H0 H1 locs1 → H1[q9]? = some ce → ce.vm = .none → s.vm.findClass E = some ce.cls → vx_W p l e R s m args below meth c H1 locs1 (cells + mc) (slots + ms) Q (F0 m pc ls rest) q9)
    (kk : ∀ (r : Int32) (u : S) (t : State) (H1 : Heap) (locs1 : List Loc), t.heap = H1 → s.vm.Alike t.vm → post r u → B u t → H.size ≤ H1.size → (∀ q : Nat, q < H.size → ¬ A1 q → H1[q]? = H[q]?) → va_S A0 H0 H1 locs1 → W p l e R s m args below meth c H1 locs1 (cells + mc) (slots + ms) Q (F0 m (pc + 3) ls (.int r :: rest))) : W p l e R s m args below meth c H locs cells slots Q (F0 m pc ls st0) := by
  intro T hT X
  rcases hr T hT X with ⟨v, st₀, t, T', L, h0, X', hL, e1, e2, ⟨⟨r, u, hv, hp, hb⟩, hF⟩, st⟩ | ⟨q, st₀, t, T', L, E, ce, h0, X', hL, e1, e2, ⟨u, hp, hb, hF⟩, hce, hcv, hcl, st⟩
  · cases hv
    obtain ⟨k1, k2, k3⟩ := vx_keep h0 e1 hS hA hf hL hF
    obtain ⟨t2, a1, b1⟩ := kk r u t T'.heap (locs ++ L) e1.symm (by rw [← e2]; exact X'.warmed.alike) hp hb k1 k2 k3 T' rfl X'
    exact ⟨t2, st t2 a1, b1⟩
  · obtain ⟨k1, k2, k3⟩ := vx_keep h0 e1 hS hAX hf hL hF
    obtain ⟨t2, a1, b1⟩ := kx E ce q u t T'.heap (locs ++ L) e1.symm (by rw [← e2]; exact X'.warmed.alike) hp hb k1 k2 k3 (by rw [e1]; exact hce) hcv hcl T' rfl X'
    exact ⟨t2, st.trans a1, b1⟩
theorem vx_calll {S SX : Type} {post : Int64 → S → Prop} {px : SX → Prop} {B : S → State → Prop} {BX : String → SX → State → Prop} {AX : Nat → Prop} (hr : vx_Run p l e R s m args below meth c H locs cells slots mc ms (F0 m pc ls st0) rest (va_Ql post B A1 a) (vx_X px BX AX) free) (hS : va_S A0 H0 H locs) (hA : ∀ q, q < H.size → A1 q → A0 q) (hf : ∀ q, free q → A0 q) (hAX : ∀ q, q < H.size → AX q → A0 q)
    (kx : ∀ (E : String) (ce : Cell) (q9 : Addr) (u : SX) (t : State) (H1 : Heap) (locs1 : List Loc), t.heap = H1 → s.vm.Alike t.vm → px u → BX E u t → H.size ≤ H1.size → (∀ q : Nat, q < H.size → ¬ AX q → H1[q]? = H[q]?) → va_S A0 H0 H1 locs1 → H1[q9]? = some ce → ce.vm = .none → s.vm.findClass E = some ce.cls → vx_W p l e R s m args below meth c H1 locs1 (cells + mc) (slots + ms) Q (F0 m pc ls rest) q9)
    (kk : ∀ (r : Int64) (u : S) (t : State) (H1 : Heap) (locs1 : List Loc), t.heap = H1 → s.vm.Alike t.vm → post r u → B u t → H.size ≤ H1.size → (∀ q : Nat, q < H.size → ¬ A1 q → H1[q]? = H[q]?) → va_S A0 H0 H1 locs1 → W p l e R s m args below meth c H1 locs1 (cells + mc) (slots + ms) Q (F0 m (pc + 3) ls (.long r :: rest))) : W p l e R s m args below meth c H locs cells slots Q (F0 m pc ls st0) := by
  intro T hT X
  rcases hr T hT X with ⟨v, st₀, t, T', L, h0, X', hL, e1, e2, ⟨⟨r, u, hv, hp, hb⟩, hF⟩, st⟩ | ⟨q, st₀, t, T', L, E, ce, h0, X', hL, e1, e2, ⟨u, hp, hb, hF⟩, hce, hcv, hcl, st⟩
  · cases hv
    obtain ⟨k1, k2, k3⟩ := vx_keep h0 e1 hS hA hf hL hF
    obtain ⟨t2, a1, b1⟩ := kk r u t T'.heap (locs ++ L) e1.symm (by rw [← e2]; exact X'.warmed.alike) hp hb k1 k2 k3 T' rfl X'
    exact ⟨t2, st t2 a1, b1⟩
  · obtain ⟨k1, k2, k3⟩ := vx_keep h0 e1 hS hAX hf hL hF
    obtain ⟨t2, a1, b1⟩ := kx E ce q u t T'.heap (locs ++ L) e1.symm (by rw [← e2]; exact X'.warmed.alike) hp hb k1 k2 k3 (by rw [e1]; exact hce) hcv hcl T' rfl X'
    exact ⟨t2, st.trans a1, b1⟩
theorem vx_callf {S SX : Type} {post : UInt32 → S → Prop} {px : SX → Prop} {B : S → State → Prop} {BX : String → SX → State → Prop} {AX : Nat → Prop} (hr : vx_Run p l e R s m args below meth c H locs cells slots mc ms (F0 m pc ls st0) rest (va_Qf post B A1 a) (vx_X px BX AX) free) (hS : va_S A0 H0 H locs) (hA : ∀ q, q < H.size → A1 q → A0 q) (hf : ∀ q, free q → A0 q) (hAX : ∀ q, q < H.size → AX q → A0 q)
    (kx : ∀ (E : String) (ce : Cell) (q9 : Addr) (u : SX) (t : State) (H1 : Heap) (locs1 : List Loc), t.heap = H1 → s.vm.Alike t.vm → px u → BX E u t → H.size ≤ H1.size → (∀ q : Nat, q < H.size → ¬ AX q → H1[q]? = H[q]?) → va_S A0 H0 H1 locs1 → H1[q9]? = some ce → ce.vm = .none → s.vm.findClass E = some ce.cls → vx_W p l e R s m args below meth c H1 locs1 (cells + mc) (slots + ms) Q (F0 m pc ls rest) q9)
    (kk : ∀ (r : UInt32) (u : S) (t : State) (H1 : Heap) (locs1 : List Loc), t.heap = H1 → s.vm.Alike t.vm → post r u → B u t → H.size ≤ H1.size → (∀ q : Nat, q < H.size → ¬ A1 q → H1[q]? = H[q]?) → va_S A0 H0 H1 locs1 → W p l e R s m args below meth c H1 locs1 (cells + mc) (slots + ms) Q (F0 m (pc + 3) ls (.float r :: rest))) : W p l e R s m args below meth c H locs cells slots Q (F0 m pc ls st0) := by
  intro T hT X
  rcases hr T hT X with ⟨v, st₀, t, T', L, h0, X', hL, e1, e2, ⟨⟨r, u, hv, hp, hb⟩, hF⟩, st⟩ | ⟨q, st₀, t, T', L, E, ce, h0, X', hL, e1, e2, ⟨u, hp, hb, hF⟩, hce, hcv, hcl, st⟩
  · cases hv
    obtain ⟨k1, k2, k3⟩ := vx_keep h0 e1 hS hA hf hL hF
    obtain ⟨t2, a1, b1⟩ := kk r u t T'.heap (locs ++ L) e1.symm (by rw [← e2]; exact X'.warmed.alike) hp hb k1 k2 k3 T' rfl X'
    exact ⟨t2, st t2 a1, b1⟩
  · obtain ⟨k1, k2, k3⟩ := vx_keep h0 e1 hS hAX hf hL hF
    obtain ⟨t2, a1, b1⟩ := kx E ce q u t T'.heap (locs ++ L) e1.symm (by rw [← e2]; exact X'.warmed.alike) hp hb k1 k2 k3 (by rw [e1]; exact hce) hcv hcl T' rfl X'
    exact ⟨t2, st.trans a1, b1⟩
theorem vx_calld {S SX : Type} {post : UInt64 → S → Prop} {px : SX → Prop} {B : S → State → Prop} {BX : String → SX → State → Prop} {AX : Nat → Prop} (hr : vx_Run p l e R s m args below meth c H locs cells slots mc ms (F0 m pc ls st0) rest (va_Qd post B A1 a) (vx_X px BX AX) free) (hS : va_S A0 H0 H locs) (hA : ∀ q, q < H.size → A1 q → A0 q) (hf : ∀ q, free q → A0 q) (hAX : ∀ q, q < H.size → AX q → A0 q)
    (kx : ∀ (E : String) (ce : Cell) (q9 : Addr) (u : SX) (t : State) (H1 : Heap) (locs1 : List Loc), t.heap = H1 → s.vm.Alike t.vm → px u → BX E u t → H.size ≤ H1.size → (∀ q : Nat, q < H.size → ¬ AX q → H1[q]? = H[q]?) → va_S A0 H0 H1 locs1 → H1[q9]? = some ce → ce.vm = .none → s.vm.findClass E = some ce.cls → vx_W p l e R s m args below meth c H1 locs1 (cells + mc) (slots + ms) Q (F0 m pc ls rest) q9)
    (kk : ∀ (r : UInt64) (u : S) (t : State) (H1 : Heap) (locs1 : List Loc), t.heap = H1 → s.vm.Alike t.vm → post r u → B u t → H.size ≤ H1.size → (∀ q : Nat, q < H.size → ¬ A1 q → H1[q]? = H[q]?) → va_S A0 H0 H1 locs1 → W p l e R s m args below meth c H1 locs1 (cells + mc) (slots + ms) Q (F0 m (pc + 3) ls (.double r :: rest))) : W p l e R s m args below meth c H locs cells slots Q (F0 m pc ls st0) := by
  intro T hT X
  rcases hr T hT X with ⟨v, st₀, t, T', L, h0, X', hL, e1, e2, ⟨⟨r, u, hv, hp, hb⟩, hF⟩, st⟩ | ⟨q, st₀, t, T', L, E, ce, h0, X', hL, e1, e2, ⟨u, hp, hb, hF⟩, hce, hcv, hcl, st⟩
  · cases hv
    obtain ⟨k1, k2, k3⟩ := vx_keep h0 e1 hS hA hf hL hF
    obtain ⟨t2, a1, b1⟩ := kk r u t T'.heap (locs ++ L) e1.symm (by rw [← e2]; exact X'.warmed.alike) hp hb k1 k2 k3 T' rfl X'
    exact ⟨t2, st t2 a1, b1⟩
  · obtain ⟨k1, k2, k3⟩ := vx_keep h0 e1 hS hAX hf hL hF
    obtain ⟨t2, a1, b1⟩ := kx E ce q u t T'.heap (locs ++ L) e1.symm (by rw [← e2]; exact X'.warmed.alike) hp hb k1 k2 k3 (by rw [e1]; exact hce) hcv hcl T' rfl X'
    exact ⟨t2, st.trans a1, b1⟩
theorem vx_callv {S SX : Type} {post : S → Prop} {px : SX → Prop} {B : S → State → Prop} {BX : String → SX → State → Prop} {AX : Nat → Prop} (hr : vx_Run p l e R s m args below meth c H locs cells slots mc ms (F0 m pc ls st0) rest (va_Qv post B A1 a) (vx_X px BX AX) free) (hS : va_S A0 H0 H locs) (hA : ∀ q, q < H.size → A1 q → A0 q) (hf : ∀ q, free q → A0 q) (hAX : ∀ q, q < H.size → AX q → A0 q)
    (kx : ∀ (E : String) (ce : Cell) (q9 : Addr) (u : SX) (t : State) (H1 : Heap) (locs1 : List Loc), t.heap = H1 → s.vm.Alike t.vm → px u → BX E u t → H.size ≤ H1.size → (∀ q : Nat, q < H.size → ¬ AX q → H1[q]? = H[q]?) → va_S A0 H0 H1 locs1 → H1[q9]? = some ce → ce.vm = .none → s.vm.findClass E = some ce.cls → vx_W p l e R s m args below meth c H1 locs1 (cells + mc) (slots + ms) Q (F0 m pc ls rest) q9)
    (kk : ∀ (u : S) (t : State) (H1 : Heap) (locs1 : List Loc), t.heap = H1 → s.vm.Alike t.vm → post u → B u t → H.size ≤ H1.size → (∀ q : Nat, q < H.size → ¬ A1 q → H1[q]? = H[q]?) → va_S A0 H0 H1 locs1 → W p l e R s m args below meth c H1 locs1 (cells + mc) (slots + ms) Q (F0 m (pc + 3) ls (rest))) : W p l e R s m args below meth c H locs cells slots Q (F0 m pc ls st0) := by
  intro T hT X
  rcases hr T hT X with ⟨v, st₀, t, T', L, h0, X', hL, e1, e2, ⟨⟨u, hv, hp, hb⟩, hF⟩, st⟩ | ⟨q, st₀, t, T', L, E, ce, h0, X', hL, e1, e2, ⟨u, hp, hb, hF⟩, hce, hcv, hcl, st⟩
  · cases hv
    obtain ⟨k1, k2, k3⟩ := vx_keep h0 e1 hS hA hf hL hF
    obtain ⟨t2, a1, b1⟩ := kk u t T'.heap (locs ++ L) e1.symm (by rw [← e2]; exact X'.warmed.alike) hp hb k1 k2 k3 T' rfl X'
    exact ⟨t2, st t2 a1, b1⟩
  · obtain ⟨k1, k2, k3⟩ := vx_keep h0 e1 hS hAX hf hL hF
    obtain ⟨t2, a1, b1⟩ := kx E ce q u t T'.heap (locs ++ L) e1.symm (by rw [← e2]; exact X'.warmed.alike) hp hb k1 k2 k3 (by rw [e1]; exact hce) hcv hcl T' rfl X'
    exact ⟨t2, st.trans a1, b1⟩
/-- caught by the row x of this method's table; the rows ahead don't take it -/
theorem vx_catch {own name : String} {E : String} {ce : Cell} {q : Addr} (hown : s.vm.findClass own = some m.cls) (pre : List ExceptionTableEntry) (x : ExceptionTableEntry) (suf : List ExceptionTableEntry) (hsplit : c.exceptionTable.toList = pre ++ x :: suf)
    (hpass : ∀ z ∈ pre, covers z pc = false ∨ (z.catchType ≠ 0 ∧ ∃ nm : String, (Cond.classLink own z.catchType nm).before args s = true ∧ va_Nc E nm s)) (hx : covers x pc = true) (h0 : x.catchType ≠ 0)
    (hlink : (Cond.classLink own x.catchType name).before args s = true) (hcast : (Cond.castable E name).before args s = true) (hcell : H[q]? = some ce) (hv : ce.vm = .none) (hcl : s.vm.findClass E = some ce.cls)
    (kk : W p l e R s m args below meth c H locs cells slots Q (F0 m x.handlerPc ls [.ref q])) : vx_W p l e R s m args below meth c H locs cells slots Q (F0 m pc ls rest) q := by
  intro T hT X
  have hpl : e.platform.magicAccessors = ({} : Platform).magicAccessors := by rw [X.admits.platform]
  obtain ⟨c3, c4, hc3, hc4, hasg⟩ := Cond.castable_spec hcast
  cases Option.some.inj (hc3.symm.trans hcl)
  obtain ⟨c5, hc5, hcl5⟩ := Cond.classLink_spec hown hlink e.platform hpl
  cases Option.some.inj (hc4.symm.trans hc5)
  obtain ⟨vm', X', st⟩ := X.thenCaughtThrough q (g := F0 m pc ls rest) rfl (Steps.refl _) (by rw [hT]; exact hcell) (by rw [hv]; rfl) (by obtain ⟨k9, h9, -⟩ := Vm.findClass_spec hcl; exact ⟨k9, h9⟩) pre x suf hsplit
    (fun z hz => by
      rcases hpass z hz with h | ⟨hz0, nm, hl1, hn1⟩
      · exact Or.inl h
      · obtain ⟨c6, hc6, hcl6⟩ := Cond.classLink_spec hown hl1 e.platform hpl
        obtain ⟨a8, b8, h1, h2, h3⟩ := hn1
        cases Option.some.inj (h1.symm.trans hcl)
        cases Option.some.inj (h2.symm.trans hc6)
        exact Or.inr ⟨hz0, _, hcl6, h3⟩) hx (Or.inr ⟨h0, c4, hcl5, hasg⟩)
  obtain ⟨t, a1, b1⟩ := kk (T.setVm vm') hT X'
  exact ⟨t, st.trans a1, b1⟩
end Rows
section Ends
variable {p : Program} {l : Launch} {e : Env} {R : Room} {s : State} {m : MethodId} {args : Array Value} {below : List Frame} {meth : Method} {c : Code} {H : Heap} {locs : List Loc} {cells slots : Nat} {Q : State → Prop}
variable {mc ms : Nat} {free : Addr → Prop} {A0 A1 : Nat → Prop} {H0 : Heap} {a : Array Value} {ls : Array Slot} {st0 rest : List Value}
variable {Qc : Array Value → State → Outcome → State → Prop} {XC : String → State → State → Prop}
/-- what a body that may throw owes at its end -/
def vx_MQ (below : List Frame) (Qc : Array Value → State → Outcome → State → Prop) (XC : String → State → State → Prop) (a : Array Value) (s : State) (mc ms : Nat) (free : Addr → Prop) : State → Prop := fun t =>
  ∃ o, t.status = .running ∧ Ended t below o ∧ vx_Q Qc XC mc ms free a s o t
theorem vx_ret {g : JFrame} {mc ms : Nat} (k : W p l e R s m args below meth c H locs cells slots (MQ below Qc args s mc ms free) g) : W p l e R s m args below meth c H locs cells slots (vx_MQ below Qc XC args s mc ms free) g := by
  intro T hT X
  obtain ⟨t, a1, o, b1, b2, b3, b4⟩ := k T hT X
  exact ⟨t, a1, o, b1, b2, Or.inl ⟨b3, b4⟩⟩
/-- not caught here: it goes on to the caller -/
theorem vx_widen {g : JFrame} {q : Addr} {k n : Nat} (h1 : cells ≤ k) (h2 : slots ≤ n) (kk : vx_W p l e R s m args below meth c H locs k n Q g q) : vx_W p l e R s m args below meth c H locs cells slots Q g q := fun T hT X => kk T hT (stand_widen X h1 h2)
theorem vx_out {pc : Nat} {E : String} {ce : Cell} {q : Addr} {mc ms : Nat} (hout : ∀ x ∈ c.exceptionTable.toList, covers x pc = false) (hlocks : meth.locks = false) (hcell : H[q]? = some ce) (hv : ce.vm = .none) (hcl : s.vm.findClass E = some ce.cls)
    (hx : ∀ t : State, t.heap = H → s.vm.Alike t.vm → XC E s t) (hf : ∀ z ∈ locs, free z.base) (hc : cells ≤ mc) (hs : slots ≤ ms) :
    vx_W p l e R s m args below meth c H locs cells slots (vx_MQ below Qc XC args s mc ms free) (F0 m pc ls rest) q := by
  intro T hT X
  obtain ⟨st1, hrun, hend, hW, hsm⟩ := X.leaveThrown q (g := F0 m pc ls rest) rfl rfl rfl hout hlocks
  have hcell9 : (T.setFrames (.throwing q :: below)).heap[q]? = some ce := by
    show T.heap[q]? = some ce
    rw [hT]; exact hcell
  exact ⟨_, st1, .threw q, hrun, hend, Or.inr ⟨q, rfl, E, ce, locs, hx _ hT hW.alike, hcell9, hv, hcl, hW, hsm.mono hc hs, hf⟩⟩
theorem vx_frame {U : State} {k n : Nat} (h : s.sameButNew ({ U with vm := s.vm } : State) locs k n) : s.heap.size ≤ U.heap.size ∧ ∀ q : Nat, q < s.heap.size → (∀ z ∈ locs, z.base ≠ q) → U.heap[q]? = s.heap[q]? := by
  obtain ⟨-, h2, -, -, -, h6⟩ := h
  refine ⟨h2, fun q hq hz => ?_⟩
  obtain ⟨c9, e1, e2, e3, e4⟩ := h6 q _ (Array.getElem?_eq_getElem hq)
  have hs : c9.slots = (s.heap[q]).slots := Array.ext_getElem? fun i => e4 i fun hm => hz _ hm rfl
  have h9 : c9 = s.heap[q] := by
    rw [hs] at e2
    exact e2
  have e5 : U.heap[q]? = some c9 := e1
  rw [e5, h9, Array.getElem?_eq_getElem hq]
/-- the words of a throw but the four that speak of the heap -/
def vx_no (w : Cond) : Bool := decide (w ≠ .isRef (.static Bundle.tN "UNASSIGNED_STACK" Bundle.steD)) && decide (w ≠ .isRef (.static Bundle.tN "SUPPRESSED_SENTINEL" Bundle.listD)) && decide (w ≠ .laysStatic Bundle.tN "UNASSIGNED_STACK" Bundle.steD) && decide (w ≠ .laysStatic Bundle.tN "SUPPRESSED_SENTINEL" Bundle.listD)
def vx_at0 (own : String) (ic : Nat) (X : String) (names : List String) : List Cond := (Bundle.ownAtoms0 own ic X names).filter vx_no
def vx_atS (own : String) (ic : Nat) (X : String) (names : List String) : List Cond := (Bundle.ownAtoms own ic X names).filter vx_no
/-- a word that the tables alone decide, or a good one -/
def vx_ot (w : Cond) : Bool := w.onTables || goodWord w
theorem vx_ot_at {args a' : Array Value} {s U : State} {w : Cond} (hW : s.WarmedH U.vm) (hvm : s.vm = U.vm) (hg : vx_ot w = true) (h : w.before args s = true) : w.before a' U = true := by
  simp only [vx_ot, Bool.or_eq_true] at hg
  rcases hg with hg | hg
  · exact va_tabs hg hvm h
  · exact word_at hW (good_of_word hg) h
/-- a list's words: the good ones out of the method's own list, the others by premises of their own -/
theorem vx_hat {args : Array Value} {s : State} {L B : List Cond} (h1 : ∀ w ∈ L.filter goodWord, w.before args s = true) (h2 : ∀ w ∈ L.filter (fun w => !goodWord w), w ∈ B) (h3 : ∀ w ∈ B, w.before args s = true) : ∀ w ∈ L, w.before args s = true := by
  intro w hw
  by_cases g : goodWord w = true
  · exact h1 w (List.mem_filter.mpr ⟨hw, g⟩)
  · refine h3 w (h2 w (List.mem_filter.mpr ⟨hw, ?_⟩))
    show (!goodWord w) = true
    cases hgw : goodWord w
    · rfl
    · exact absurd hgw g
theorem vx_c {args : Array Value} {s : State} {w : Cond} {B : List Cond} (h : w.before args s = true) (t : ∀ w ∈ B, w.before args s = true) : ∀ w' ∈ w :: B, w'.before args s = true := fun w' h' => (List.mem_cons.mp h').elim (fun e => by rw [e]; exact h) (t w')
theorem vx_n {args : Array Value} {s : State} : ∀ w ∈ ([] : List Cond), w.before args s = true := fun _ h => nomatch h
theorem vx_own {args : Array Value} {s : State} {L : List Cond} (h1 : ∀ w ∈ L.filter vx_no, w.before args s = true)
    (hU : (Cond.isRef (.static Bundle.tN "UNASSIGNED_STACK" Bundle.steD)).before args s = true) (hN : (Cond.isRef (.static Bundle.tN "SUPPRESSED_SENTINEL" Bundle.listD)).before args s = true)
    (lU : (Cond.laysStatic Bundle.tN "UNASSIGNED_STACK" Bundle.steD).before args s = true) (lN : (Cond.laysStatic Bundle.tN "SUPPRESSED_SENTINEL" Bundle.listD).before args s = true) : ∀ w ∈ L, w.before args s = true := by
  intro w hw
  by_cases e1 : w = .isRef (.static Bundle.tN "UNASSIGNED_STACK" Bundle.steD)
  · rw [e1]; exact hU
  · by_cases e2 : w = .isRef (.static Bundle.tN "SUPPRESSED_SENTINEL" Bundle.listD)
    · rw [e2]; exact hN
    · by_cases e3 : w = .laysStatic Bundle.tN "UNASSIGNED_STACK" Bundle.steD
      · rw [e3]; exact lU
      · by_cases e4 : w = .laysStatic Bundle.tN "SUPPRESSED_SENTINEL" Bundle.listD
        · rw [e4]; exact lN
        · exact h1 w (List.mem_filter.mpr ⟨hw, by unfold vx_no; rw [decide_eq_true e1, decide_eq_true e2, decide_eq_true e3, decide_eq_true e4]; rfl⟩)
/-- where a static field lies, its class's statics cell in H -/
def vx_L (C n d : String) (A : Nat → Prop) (U : State) (H : Heap) : Prop := ∃ (c : ClassId) (k : Class) (i : Nat) (f : Field) (a : Nat) (cell : Cell), U.vm.findClass C = some c ∧ U.fieldFound? C n d = some (c, k, i, f) ∧ f.isStatic = true ∧ k.statics = some a ∧ H[a]? = some cell ∧ cell.vm.isStatics = true ∧ cell.cls = c ∧ f.slot < cell.slots.size ∧ k.staticTypes[f.slot]? = some f.type ∧ ¬ A a
theorem vx_L.moved {C n d : String} {A : Nat → Prop} {u U : State} {H : Heap} (hvm : u.vm.Alike U.vm) (h : vx_L C n d A u H) : vx_L C n d A U H := by
  obtain ⟨c, k, i, f, a, cell, h1, h2, h3, h4, h5, h6, h7, h8, h9, h10⟩ := h
  obtain ⟨k', hi', he⟩ := State.fieldFound?_setVm hvm h2
  exact ⟨c, k', i, f, a, cell, by rw [hvm.findClass]; exact h1, hi', h3, by rw [he]; exact h4, h5, h6, h7, h8, by rw [he]; exact h9, h10⟩
theorem vx_L.kept {C n d : String} {A : Nat → Prop} {U : State} {H H1 : Heap} (h : vx_L C n d A U H) (hq : ∀ a : Nat, a < H.size → ¬ A a → H1[a]? = H[a]?) : vx_L C n d A U H1 := by
  obtain ⟨c, k, i, f, a, cell, h1, h2, h3, h4, h5, h6, h7, h8, h9, h10⟩ := h
  exact ⟨c, k, i, f, a, cell, h1, h2, h3, h4, by rw [hq a (Array.getElem?_eq_some_iff.mp h5).1 h10]; exact h5, h6, h7, h8, h9, h10⟩
theorem vx_L.narrow {C n d : String} {A B : Nat → Prop} {U : State} {H : Heap} (h : vx_L C n d A U H) (hAB : ∀ q, B q → A q) : vx_L C n d B U H := by
  obtain ⟨c, k, i, f, a, cell, h1, h2, h3, h4, h5, h6, h7, h8, h9, h10⟩ := h
  exact ⟨c, k, i, f, a, cell, h1, h2, h3, h4, h5, h6, h7, h8, h9, fun z => h10 (hAB _ z)⟩
theorem vx_L.word {C n d : String} {A : Nat → Prop} {s : State} {args : Array Value} (h : vx_L C n d A s s.heap) : (Cond.laysStatic C n d).before args s = true := by
  obtain ⟨c, k, i, f, a, cell, h1, h2, h3, h4, h5, h6, h7, h8, h9, -⟩ := h
  show (Cond.laysStatic C n d).holds args s none s [] = true
  exact Cond.laysStatic_of h1 h2 h3 h4 h5 h6 h7 h8 h9
/-- .. and what it holds: null or some reference -/
def vx_Zq (C n d : String) (A : Nat → Prop) (U : State) (H : Heap) : Prop := va_Zq C n d A U H ∧ vx_L C n d A U H
theorem vx_Zq.moved {C n d : String} {A : Nat → Prop} {u U : State} {H : Heap} (hvm : u.vm.Alike U.vm) (h : vx_Zq C n d A u H) : vx_Zq C n d A U H := ⟨va_Zq.moved hvm h.1, vx_L.moved hvm h.2⟩
theorem vx_Zq.kept {C n d : String} {A : Nat → Prop} {U : State} {H H1 : Heap} (h : vx_Zq C n d A U H) (hq : ∀ a : Nat, a < H.size → ¬ A a → H1[a]? = H[a]?) : vx_Zq C n d A U H1 := ⟨va_Zq.kept h.1 hq, vx_L.kept h.2 hq⟩
theorem vx_Zq.narrow {C n d : String} {A B : Nat → Prop} {U : State} {H : Heap} (h : vx_Zq C n d A U H) (hAB : ∀ q, B q → A q) : vx_Zq C n d B U H := ⟨va_Zq.narrow h.1 hAB, vx_L.narrow h.2 hAB⟩
theorem vx_Zqof {args : Array Value} {s : State} {C n d : String} {A : Nat → Prop} (hl : (Cond.laysStatic C n d).before args s = true) (hini : (Cond.initialized C).before args s = true) (h : (Cond.isRef (.static C n d)).before args s = true) (hA : ∀ a : Nat, a < s.heap.size → ¬ A a) : vx_Zq C n d A s s.heap := by
  refine ⟨va_Zqof hl hini h hA, ?_⟩
  obtain ⟨c, k, i, f, a, cell, h1, h2, h3, h4, h5, h6, h7, h8, h9⟩ := Cond.laysStatic_spec hl
  exact ⟨c, k, i, f, a, cell, h1, h2, h3, h4, h5, h6, h7, h8, h9, hA a (Array.getElem?_eq_some_iff.mp h5).1⟩
theorem vx_isRef {C n d : String} {v : Value} {A : Nat → Prop} {s : State} {args : Array Value} (h : va_Z C n d v A s s.heap) (hv : v.isRef = true) : (Cond.isRef (.static C n d)).before args s = true := by
  obtain ⟨cf, kf, fi, f, a, cell, h1, h2, h3, h4, h5, h6, h7, -⟩ := h
  have he : (Term.static C n d).eval args s none [] s = some v := by
    simp [Term.eval, State.fieldNamed?, h1, h2, h4, h5, h6, h7]
  simp only [Cond.before, Cond.holds, Cond.value, he]
  cases v <;> simp_all [Value.isRef]
theorem vx_isRefq {C n d : String} {A : Nat → Prop} {s : State} {args : Array Value} (h : va_Zq C n d A s s.heap) : (Cond.isRef (.static C n d)).before args s = true := by
  rcases h with h | ⟨t, h⟩
  · exact vx_isRef h rfl
  · exact vx_isRef h rfl
/-- the same frame, seen from here: as if the method were called anew in this heap -/
theorem vx_rebase {T : State} (X : Stand p l e R s m args below meth c T locs cells slots) {R' : Room} (hf : R'.frames ≤ R.frames) (hl : R'.locals ≤ R.locals) (hc : cells + R'.cells ≤ R.cells) (hs : slots + R'.slots ≤ R.slots) :
    Stand p l e R' ((T.setVm s.vm).setFrames (.invoking m args :: below)) m args below meth c T [] 0 0 := by
  have htop : (T.setVm s.vm).topJava?.isSome := X.here.top
  have hF : ((T.setVm s.vm).setFrames (.invoking m args :: below)).frames = .invoking m args :: below := State.frames_setFrames _ (State.cur_lt_of_top htop)
  obtain ⟨g₀, hg0⟩ := Option.isSome_iff_exists.mp htop
  obtain ⟨r, hr⟩ := State.topJava?_eq_some.mp hg0
  have hl9 : e.platform.stackLimits (T.setVm s.vm).me = e.platform.stackLimits s.me := X.limits
  have hb9 : (T.setVm s.vm).me.stackBytes = s.me.stackBytes := X.bytes
  refine ⟨X.admits, X.cas, X.clock, hF, ?_, X.hears, X.method, X.code, X.here, X.tail, X.warmed, ?_, ?_, ?_⟩
  · have h := X.room
    have hU : ((T.setVm s.vm).setFrames (.invoking m args :: below)).localsInUse = s.localsInUse := by
      rw [State.localsInUse_invoking hF (meth := meth) (c := c) X.method X.code, State.localsInUse_invoking X.frames X.method X.code]
    simp only [State.hasRoom, Bool.and_eq_true, decide_eq_true_eq] at h ⊢
    obtain ⟨⟨⟨⟨h1, h2, h3, h4, h5, h6⟩, h7⟩, h8⟩, h9⟩ := h
    rw [X.frames, List.length_cons] at h2 h3
    have q1 := X.heapSize
    have q2 := X.used
    simp only [hF, hU, List.length_cons, State.stackLimits_setFrames, State.stackBytes_setFrames, hl9, hb9]
    refine ⟨⟨⟨⟨by omega, by omega, by omega, by omega, by omega, h6⟩, ?_⟩, ?_⟩, X.book⟩
    · show T.heap.size + R'.cells ≤ e.platform.maxCells
      omega
    · show T.slotsUsed + R'.slots ≤ e.platform.maxSlots
      omega
  · rw [State.stackLimits_setFrames]; rfl
  · rw [State.stackBytes_setFrames]; rfl
  · refine ⟨?_, Nat.le_refl _, Nat.le_refl _, ?_, ?_, fun a c9 h9 => ⟨c9, h9, rfl, rfl, fun _ _ => rfl⟩⟩
    · obtain ⟨t, ht, -⟩ := State.frames_cons hr
      show T.setVm s.vm = { ((T.setVm s.vm).setFrames (.invoking m args :: below)).setFrames (T.setVm s.vm).frames with heap := T.heap, slotsUsed := T.slotsUsed }
      rw [State.setFrames_setFrames, State.setFrames_self ht]
      rfl
    · show T.slotsUsed = T.slotsUsed + ((T.heap.toList.drop T.heap.size).map (·.slots.size)).sum
      rw [List.drop_eq_nil_of_le (Nat.le_of_eq Array.length_toList)]
      rfl
    · show ((T.heap.toList.drop T.heap.size).map (·.slots.size)).sum ≤ 0
      rw [List.drop_eq_nil_of_le (Nat.le_of_eq Array.length_toList)]
      exact Nat.le_refl _
/-- 'throw new E()': new; dup; invokespecial; athrow -/
theorem vx_throw0 {cc : ByteArray} {pc : Nat} (hexec : p.tables.exec = Jvm.exec) (hb : c.code = cc) (hl : l.stackTraces = false) {own cls : String} {names : List String} {ik ic mc ms : Nat} {A : Nat → Prop}
    (hown : s.vm.findClass own = some m.cls) (hcls : Bundle.fit cls = true) (hnames : ∀ n ∈ names, Bundle.fit n = true)
    (hk : (Cond.classLink own ik cls).before args s = true) (hini : (Cond.initialized cls).before args s = true) (hat : ∀ w ∈ vx_at0 own ic cls names, w.before args s = true)
    (hgood : ∀ w ∈ Cond.classLink own ik cls :: Cond.initialized cls :: vx_at0 own ic cls names, vx_ot w = true)
    (hU : vx_Zq Bundle.tN "UNASSIGNED_STACK" Bundle.steD A s s.heap) (hN : vx_Zq Bundle.tN "SUPPRESSED_SENTINEL" Bundle.listD A s s.heap) (hS : va_S A s.heap H locs) (hsize : ls.size = c.maxLocals)
    (d0 : decode cc pc = .ok (.new ik, 3)) (d3 : decode cc (pc + 3) = .ok (.dup, 1)) (d4 : decode cc (pc + 4) = .ok (.invokespecial ic, 3)) (d7 : decode cc (pc + 7) = .ok (.athrow, 1))
    (hout : ∀ x ∈ c.exceptionTable.toList, covers x (pc + 7) = false)
    (hRframes : names.length + 3 < R.frames) (hRlocals : (rest.map fun v => v.category).sum + (13 * (names.length + 1) + 42) ≤ R.locals) (hRcells : cells + 1 ≤ R.cells) (hRslots : slots + 6 ≤ R.slots) (hlocks : meth.locks = false)
    (hx : ∀ t : State, s.vm.Alike t.vm → H.size ≤ t.heap.size → (∀ q : Nat, q < H.size → t.heap[q]? = H[q]?) → XC cls s t)
    (hf : ∀ z ∈ locs, free z.base) (hc : cells + 1 ≤ mc) (hs : slots + 6 ≤ ms) :
    W p l e R s m args below meth c H locs cells slots (vx_MQ below Qc XC args s mc ms free) (F0 m pc ls rest) := by
  intro T hT X
  have htr : e.platform.stackTraces = false := (show e.platform.stackTraces = l.stackTraces by rw [X.admits.platform]).trans hl
  have Y := vx_rebase X (R' := { frames := R.frames, locals := R.locals, cells := 1, slots := 6 }) (Nat.le_refl _) (Nat.le_refl _) hRcells hRslots
  obtain ⟨s', hA⟩ : ∃ z, z = (T.setVm s.vm).setFrames (.invoking m args :: below) := ⟨_, rfl⟩
  rw [← hA] at Y
  have hvm : s'.vm = s.vm := by rw [hA]; rfl
  have hhp : s'.heap = H := by rw [hA]; exact hT
  have hW0 : s.WarmedH s'.vm := by rw [hvm]; exact State.WarmedH.refl s
  have hat' : ∀ w ∈ vx_at0 own ic cls names, w.before args s' = true := fun w hw => vx_ot_at hW0 hvm.symm (hgood w (List.mem_cons_of_mem _ (List.mem_cons_of_mem _ hw))) (hat w hw)
  have hk' : (Cond.classLink own ik cls).before args s' = true := vx_ot_at hW0 hvm.symm (hgood _ List.mem_cons_self) hk
  have hini' : (Cond.initialized cls).before args s' = true := vx_ot_at hW0 hvm.symm (hgood _ (List.mem_cons_of_mem _ List.mem_cons_self)) hini
  have hU' : vx_Zq Bundle.tN "UNASSIGNED_STACK" Bundle.steD A s' s'.heap := by rw [hhp]; exact vx_Zq.moved hW0.alike (hU.kept hS.2.1)
  have hN' : vx_Zq Bundle.tN "SUPPRESSED_SENTINEL" Bundle.listD A s' s'.heap := by rw [hhp]; exact vx_Zq.moved hW0.alike (hN.kept hS.2.1)
  have h : ∀ w ∈ Bundle.ownAtoms0 own ic cls names, w.before args s' = true := vx_own hat' (vx_isRefq hU'.1) (vx_isRefq hN'.1) hU'.2.word hN'.2.word
  have hown' : s'.vm.findClass own = some m.cls := by rw [hvm]; exact hown
  have hins : (Cond.instantiable cls 6).before args s' = true := h _ (by simp [Bundle.ownAtoms0])
  obtain ⟨vm₁, cX, kX, hfX, hkX, -, -, X₁, st1⟩ := Y.newCold hexec (own := own) (C := cls) (index := ik) (n := 6) hown' hk' hins hini'
    (g := F0 m pc ls rest) rfl (by rw [hb]; exact d0) (Nat.le_refl _) (Nat.le_refl _)
  generalize hT1 : (T.setVm vm₁).pushCell { cls := cX, slots := kX.instanceTypes.map defaultValue, vm := .none } = T1 at X₁ st1
  have hcat : (Value.ref T.heap.size).category = 1 := rfl
  have hcellA : T1.heap[T.heap.size]? = some (freshCell cX kX) := by rw [← hT1]; exact State.heap_pushCell_size _ _
  have d3' : decode c.code (pc + 3) = .ok (.dup, 1) := by rw [hb]; exact d3
  obtain ⟨U, hsteps, hrun, hend, hW, hsame, ce, hce, hO⟩ := X₁.ctorThrow0 hexec htr (own := own) (cls := cls) (names := names) (ic := ic) hown' hcls hnames h (fun x hx => nomatch hx) hfX hkX hcellA (by rw [hhp, hT]; exact Nat.le_refl _)
    (g := { method := m, pc := pc + 4, locals := ls, stack := .ref T.heap.size :: .ref T.heap.size :: rest, locked := none }) rfl hsize rfl rfl (rest := rest) rfl
    (by rw [hb]; exact d4) (by rw [hb]; exact d7) hout hRframes (by simp only [List.map_cons, List.sum_cons, hcat]; omega) hlocks
  obtain ⟨f1, f2⟩ := vx_frame hsame
  rw [hhp] at f1 f2
  have hWs : s.WarmedH U.vm := State.WarmedH.trans hW0 hW
  have hcl : s.vm.findClass cls = some ce.cls := by
    have h9 := hO.cls
    rw [hvm] at h9
    exact h9
  have hall : s.sameButNew ({ U with vm := s.vm } : State) locs mc ms := by
    subst hA
    obtain ⟨e1, e2⟩ := hsame
    rw [State.setFrames_setFrames] at e1
    have h2 : (T.setVm s.vm).sameButNew ({ U with vm := s.vm } : State) [] (0 + 1) (0 + 6) := ⟨e1, e2⟩
    have h3 := X.same.trans h2
    rw [List.append_nil] at h3
    exact h3.mono hc hs
  refine ⟨U, ?_, .threw T.heap.size, hrun, hend, Or.inr ⟨T.heap.size, rfl, cls, ce, locs, hx U hWs.alike f1 (fun q hq => f2 q hq (fun z hz => nomatch hz)), hce, hO.vm, hcl, hWs, hall, hf⟩⟩
  refine st1 _ ?_
  show Steps p.tables e below (T1.setTop { method := m, pc := pc + 3, locals := ls, stack := .ref T.heap.size :: rest, locked := none }) _
  jvm_step X₁.here [X₁.here.top, hexec, d3', Value.category]
  exact hsteps
/-- 'throw new E("text")': new; dup; ldc; invokespecial; athrow -/
theorem vx_throwS {cc : ByteArray} {pc : Nat} (hexec : p.tables.exec = Jvm.exec) (hb : c.code = cc) (hl : l.stackTraces = false) {own cls text : String} {names : List String} {ik is ic mc ms sa : Nat} {A : Nat → Prop}
    (hown : s.vm.findClass own = some m.cls) (hcls : Bundle.fit cls = true) (hnames : ∀ n ∈ names, Bundle.fit n = true)
    (hk : (Cond.classLink own ik cls).before args s = true) (hini : (Cond.initialized cls).before args s = true) (hstr : vk_R own is text sa s) (hat : ∀ w ∈ vx_atS own ic cls names, w.before args s = true)
    (hgood : ∀ w ∈ Cond.classLink own ik cls :: Cond.initialized cls :: vx_atS own ic cls names, vx_ot w = true)
    (hU : vx_Zq Bundle.tN "UNASSIGNED_STACK" Bundle.steD A s s.heap) (hN : vx_Zq Bundle.tN "SUPPRESSED_SENTINEL" Bundle.listD A s s.heap) (hS : va_S A s.heap H locs) (hsize : ls.size = c.maxLocals)
    (d0 : decode cc pc = .ok (.new ik, 3)) (d3 : decode cc (pc + 3) = .ok (.dup, 1)) (d4 : decode cc (pc + 4) = .ok (.ldc is, 2)) (d6 : decode cc (pc + 6) = .ok (.invokespecial ic, 3)) (d9 : decode cc (pc + 9) = .ok (.athrow, 1))
    (hout : ∀ x ∈ c.exceptionTable.toList, covers x (pc + 9) = false)
    (hRframes : names.length + 3 < R.frames) (hRlocals : (rest.map fun v => v.category).sum + (13 * (names.length + 1) + 43) ≤ R.locals) (hRcells : cells + 1 ≤ R.cells) (hRslots : slots + 6 ≤ R.slots) (hlocks : meth.locks = false)
    (hx : ∀ t : State, s.vm.Alike t.vm → H.size ≤ t.heap.size → (∀ q : Nat, q < H.size → t.heap[q]? = H[q]?) → XC cls s t)
    (hf : ∀ z ∈ locs, free z.base) (hc : cells + 1 ≤ mc) (hs : slots + 6 ≤ ms) :
    W p l e R s m args below meth c H locs cells slots (vx_MQ below Qc XC args s mc ms free) (F0 m pc ls rest) := by
  intro T hT X
  have htr : e.platform.stackTraces = false := (show e.platform.stackTraces = l.stackTraces by rw [X.admits.platform]).trans hl
  have Y := vx_rebase X (R' := { frames := R.frames, locals := R.locals, cells := 1, slots := 6 }) (Nat.le_refl _) (Nat.le_refl _) hRcells hRslots
  obtain ⟨s', hA⟩ : ∃ z, z = (T.setVm s.vm).setFrames (.invoking m args :: below) := ⟨_, rfl⟩
  rw [← hA] at Y
  have hvm : s'.vm = s.vm := by rw [hA]; rfl
  have hhp : s'.heap = H := by rw [hA]; exact hT
  have hW0 : s.WarmedH s'.vm := by rw [hvm]; exact State.WarmedH.refl s
  have hat' : ∀ w ∈ vx_atS own ic cls names, w.before args s' = true := fun w hw => vx_ot_at hW0 hvm.symm (hgood w (List.mem_cons_of_mem _ (List.mem_cons_of_mem _ hw))) (hat w hw)
  have hk' : (Cond.classLink own ik cls).before args s' = true := vx_ot_at hW0 hvm.symm (hgood _ List.mem_cons_self) hk
  have hini' : (Cond.initialized cls).before args s' = true := vx_ot_at hW0 hvm.symm (hgood _ (List.mem_cons_of_mem _ List.mem_cons_self)) hini
  have hU' : vx_Zq Bundle.tN "UNASSIGNED_STACK" Bundle.steD A s' s'.heap := by rw [hhp]; exact vx_Zq.moved hW0.alike (hU.kept hS.2.1)
  have hN' : vx_Zq Bundle.tN "SUPPRESSED_SENTINEL" Bundle.listD A s' s'.heap := by rw [hhp]; exact vx_Zq.moved hW0.alike (hN.kept hS.2.1)
  have h : ∀ w ∈ Bundle.ownAtoms own ic cls names, w.before args s' = true := vx_own hat' (vx_isRefq hU'.1) (vx_isRefq hN'.1) hU'.2.word hN'.2.word
  have hown' : s'.vm.findClass own = some m.cls := by rw [hvm]; exact hown
  have hins : (Cond.instantiable cls 6).before args s' = true := h _ (by simp [Bundle.ownAtoms])
  obtain ⟨vm₁, cX, kX, hfX, hkX, -, -, X₁, st1⟩ := Y.newCold hexec (own := own) (C := cls) (index := ik) (n := 6) hown' hk' hins hini'
    (g := F0 m pc ls rest) rfl (by rw [hb]; exact d0) (Nat.le_refl _) (Nat.le_refl _)
  generalize hT1 : (T.setVm vm₁).pushCell { cls := cX, slots := kX.instanceTypes.map defaultValue, vm := .none } = T1 at X₁ st1
  have hcat : (Value.ref T.heap.size).category = 1 := rfl
  have hcellA : T1.heap[T.heap.size]? = some (freshCell cX kX) := by rw [← hT1]; exact State.heap_pushCell_size _ _
  have d3' : decode c.code (pc + 3) = .ok (.dup, 1) := by rw [hb]; exact d3
  have d4' : decode c.code (pc + 4) = .ok (.ldc is, 2) := by rw [hb]; exact d4
  have hstr' : vk_R own is text sa s' := vk_R.warm hW0 hstr
  obtain ⟨U, hsteps, hrun, hend, hW, hsame, ce, hce, hO⟩ := X₁.ctorThrowS hexec htr (own := own) (cls := cls) (names := names) (ic := ic) hown' hcls hnames h (fun x hx => nomatch hx) hfX hkX hcellA (by rw [hhp, hT]; exact Nat.le_refl _) (msg := .ref sa) rfl
    (g := { method := m, pc := pc + 6, locals := ls, stack := .ref sa :: .ref T.heap.size :: .ref T.heap.size :: rest, locked := none }) rfl hsize rfl rfl (rest := rest) rfl
    (by rw [hb]; exact d6) (by rw [hb]; exact d9) hout hRframes (by simp only [List.map_cons, List.sum_cons, hcat]; omega) hlocks
  obtain ⟨f1, f2⟩ := vx_frame hsame
  rw [hhp] at f1 f2
  have hWs : s.WarmedH U.vm := State.WarmedH.trans hW0 hW
  have hcl : s.vm.findClass cls = some ce.cls := by
    have h9 := hO.cls
    rw [hvm] at h9
    exact h9
  have hall : s.sameButNew ({ U with vm := s.vm } : State) locs mc ms := by
    subst hA
    obtain ⟨e1, e2⟩ := hsame
    rw [State.setFrames_setFrames] at e1
    have h2 : (T.setVm s.vm).sameButNew ({ U with vm := s.vm } : State) [] (0 + 1) (0 + 6) := ⟨e1, e2⟩
    have h3 := X.same.trans h2
    rw [List.append_nil] at h3
    exact h3.mono hc hs
  refine ⟨U, ?_, .threw T.heap.size, hrun, hend, Or.inr ⟨T.heap.size, rfl, cls, ce, locs, hx U hWs.alike f1 (fun q hq => f2 q hq (fun z hz => nomatch hz)), hce, hO.vm, hcl, hWs, hall, hf⟩⟩
  refine st1 _ ?_
  show Steps p.tables e below (T1.setTop { method := m, pc := pc + 3, locals := ls, stack := .ref T.heap.size :: rest, locked := none }) _
  jvm_step X₁.here [X₁.here.top, hexec, d3', Value.category]
  exact X₁.ldcString hexec (own := own) (text := text) (index := is) (a := sa) hown' hstr'.1 hstr'.2
    (g := { method := m, pc := pc + 4, locals := ls, stack := .ref T.heap.size :: .ref T.heap.size :: rest, locked := none }) rfl d4' _ hsteps
/-- 'throw new E("text")', the text by a wide index -/
theorem vx_throwSW {cc : ByteArray} {pc : Nat} (hexec : p.tables.exec = Jvm.exec) (hb : c.code = cc) (hl : l.stackTraces = false) {own cls text : String} {names : List String} {ik is ic mc ms sa : Nat} {A : Nat → Prop}
    (hown : s.vm.findClass own = some m.cls) (hcls : Bundle.fit cls = true) (hnames : ∀ n ∈ names, Bundle.fit n = true)
    (hk : (Cond.classLink own ik cls).before args s = true) (hini : (Cond.initialized cls).before args s = true) (hstr : vk_R own is text sa s) (hat : ∀ w ∈ vx_atS own ic cls names, w.before args s = true)
    (hgood : ∀ w ∈ Cond.classLink own ik cls :: Cond.initialized cls :: vx_atS own ic cls names, vx_ot w = true)
    (hU : vx_Zq Bundle.tN "UNASSIGNED_STACK" Bundle.steD A s s.heap) (hN : vx_Zq Bundle.tN "SUPPRESSED_SENTINEL" Bundle.listD A s s.heap) (hS : va_S A s.heap H locs) (hsize : ls.size = c.maxLocals)
    (d0 : decode cc pc = .ok (.new ik, 3)) (d3 : decode cc (pc + 3) = .ok (.dup, 1)) (d4 : decode cc (pc + 4) = .ok (.ldc_w is, 3)) (d7 : decode cc (pc + 7) = .ok (.invokespecial ic, 3)) (d10 : decode cc (pc + 10) = .ok (.athrow, 1))
    (hout : ∀ x ∈ c.exceptionTable.toList, covers x (pc + 10) = false)
    (hRframes : names.length + 3 < R.frames) (hRlocals : (rest.map fun v => v.category).sum + (13 * (names.length + 1) + 43) ≤ R.locals) (hRcells : cells + 1 ≤ R.cells) (hRslots : slots + 6 ≤ R.slots) (hlocks : meth.locks = false)
    (hx : ∀ t : State, s.vm.Alike t.vm → H.size ≤ t.heap.size → (∀ q : Nat, q < H.size → t.heap[q]? = H[q]?) → XC cls s t)
    (hf : ∀ z ∈ locs, free z.base) (hc : cells + 1 ≤ mc) (hs : slots + 6 ≤ ms) :
    W p l e R s m args below meth c H locs cells slots (vx_MQ below Qc XC args s mc ms free) (F0 m pc ls rest) := by
  intro T hT X
  have htr : e.platform.stackTraces = false := (show e.platform.stackTraces = l.stackTraces by rw [X.admits.platform]).trans hl
  have Y := vx_rebase X (R' := { frames := R.frames, locals := R.locals, cells := 1, slots := 6 }) (Nat.le_refl _) (Nat.le_refl _) hRcells hRslots
  obtain ⟨s', hA⟩ : ∃ z, z = (T.setVm s.vm).setFrames (.invoking m args :: below) := ⟨_, rfl⟩
  rw [← hA] at Y
  have hvm : s'.vm = s.vm := by rw [hA]; rfl
  have hhp : s'.heap = H := by rw [hA]; exact hT
  have hW0 : s.WarmedH s'.vm := by rw [hvm]; exact State.WarmedH.refl s
  have hat' : ∀ w ∈ vx_atS own ic cls names, w.before args s' = true := fun w hw => vx_ot_at hW0 hvm.symm (hgood w (List.mem_cons_of_mem _ (List.mem_cons_of_mem _ hw))) (hat w hw)
  have hk' : (Cond.classLink own ik cls).before args s' = true := vx_ot_at hW0 hvm.symm (hgood _ List.mem_cons_self) hk
  have hini' : (Cond.initialized cls).before args s' = true := vx_ot_at hW0 hvm.symm (hgood _ (List.mem_cons_of_mem _ List.mem_cons_self)) hini
  have hU' : vx_Zq Bundle.tN "UNASSIGNED_STACK" Bundle.steD A s' s'.heap := by rw [hhp]; exact vx_Zq.moved hW0.alike (hU.kept hS.2.1)
  have hN' : vx_Zq Bundle.tN "SUPPRESSED_SENTINEL" Bundle.listD A s' s'.heap := by rw [hhp]; exact vx_Zq.moved hW0.alike (hN.kept hS.2.1)
  have h : ∀ w ∈ Bundle.ownAtoms own ic cls names, w.before args s' = true := vx_own hat' (vx_isRefq hU'.1) (vx_isRefq hN'.1) hU'.2.word hN'.2.word
  have hown' : s'.vm.findClass own = some m.cls := by rw [hvm]; exact hown
  have hins : (Cond.instantiable cls 6).before args s' = true := h _ (by simp [Bundle.ownAtoms])
  obtain ⟨vm₁, cX, kX, hfX, hkX, -, -, X₁, st1⟩ := Y.newCold hexec (own := own) (C := cls) (index := ik) (n := 6) hown' hk' hins hini'
    (g := F0 m pc ls rest) rfl (by rw [hb]; exact d0) (Nat.le_refl _) (Nat.le_refl _)
  generalize hT1 : (T.setVm vm₁).pushCell { cls := cX, slots := kX.instanceTypes.map defaultValue, vm := .none } = T1 at X₁ st1
  have hcat : (Value.ref T.heap.size).category = 1 := rfl
  have hcellA : T1.heap[T.heap.size]? = some (freshCell cX kX) := by rw [← hT1]; exact State.heap_pushCell_size _ _
  have d3' : decode c.code (pc + 3) = .ok (.dup, 1) := by rw [hb]; exact d3
  have d4' : decode c.code (pc + 4) = .ok (.ldc_w is, 3) := by rw [hb]; exact d4
  have hstr' : vk_R own is text sa s' := vk_R.warm hW0 hstr
  obtain ⟨U, hsteps, hrun, hend, hW, hsame, ce, hce, hO⟩ := X₁.ctorThrowS hexec htr (own := own) (cls := cls) (names := names) (ic := ic) hown' hcls hnames h (fun x hx => nomatch hx) hfX hkX hcellA (by rw [hhp, hT]; exact Nat.le_refl _) (msg := .ref sa) rfl
    (g := { method := m, pc := pc + 7, locals := ls, stack := .ref sa :: .ref T.heap.size :: .ref T.heap.size :: rest, locked := none }) rfl hsize rfl rfl (rest := rest) rfl
    (by rw [hb]; exact d7) (by rw [hb]; exact d10) hout hRframes (by simp only [List.map_cons, List.sum_cons, hcat]; omega) hlocks
  obtain ⟨f1, f2⟩ := vx_frame hsame
  rw [hhp] at f1 f2
  have hWs : s.WarmedH U.vm := State.WarmedH.trans hW0 hW
  have hcl : s.vm.findClass cls = some ce.cls := by
    have h9 := hO.cls
    rw [hvm] at h9
    exact h9
  have hall : s.sameButNew ({ U with vm := s.vm } : State) locs mc ms := by
    subst hA
    obtain ⟨e1, e2⟩ := hsame
    rw [State.setFrames_setFrames] at e1
    have h2 : (T.setVm s.vm).sameButNew ({ U with vm := s.vm } : State) [] (0 + 1) (0 + 6) := ⟨e1, e2⟩
    have h3 := X.same.trans h2
    rw [List.append_nil] at h3
    exact h3.mono hc hs
  refine ⟨U, ?_, .threw T.heap.size, hrun, hend, Or.inr ⟨T.heap.size, rfl, cls, ce, locs, hx U hWs.alike f1 (fun q hq => f2 q hq (fun z hz => nomatch hz)), hce, hO.vm, hcl, hWs, hall, hf⟩⟩
  refine st1 _ ?_
  show Steps p.tables e below (T1.setTop { method := m, pc := pc + 3, locals := ls, stack := .ref T.heap.size :: rest, locked := none }) _
  jvm_step X₁.here [X₁.here.top, hexec, d3', Value.category]
  exact X₁.ldcStringW hexec (own := own) (text := text) (index := is) (a := sa) hown' hstr'.1 hstr'.2
    (g := { method := m, pc := pc + 4, locals := ls, stack := .ref T.heap.size :: .ref T.heap.size :: rest, locked := none }) rfl d4' _ hsteps
end Ends
section Bodies
variable {l : Launch}
theorem vx_ofW {y : MethodName} {ws ws' : List Cond} {rm : Room} {Pc : Array Value → State → Prop} {Qc : Array Value → State → Outcome → State → Prop} {XC : String → State → State → Prop} {mc ms : Nat} {free : Addr → Prop} {cc : ByteArray} {maxL : Nat} {ret : Option FieldType}
    (hy : plainName y.cls = true) (hw : ws = Cond.code y cc maxL ret :: ws')
    (body : ∀ p e s m args below meth c s₁, BodyLoose p l y (headSpec ws rm) cc maxL ret e s m args below meth c s₁ → c.maxLocals = maxL → (∀ x ∈ c.exceptionTable.toList, False) → Pc args s →
      W p l e (headSpec ws rm).room s m args below meth c s.heap [] 0 0 (vx_MQ below Qc XC args s mc ms free) (entryFrame m args maxL)) : vx_Met l y ws rm Pc Qc XC mc ms free := by
  refine MetFree.of_bodyS (code := cc) (maxLocals := maxL) (ret := ret) hy ?_ ?_
  · intro args s m h hn
    obtain ⟨meth, c, h1, h2, h3, h4, h5, h6, -, -⟩ := Cond.code_spec hn (atoms_spec (ws := ws) h _ (by rw [hw]; exact List.mem_cons_self))
    exact ⟨meth, c, h1, h2, h3, h4, h5, h6⟩
  · intro p e s m args below meth c s₁ B hml hP _
    have hh0 : s₁.heap = s.heap := by rw [B.state]; rfl
    have ht : ∀ x ∈ c.exceptionTable.toList, False := by
      obtain ⟨meth9, c9, h1, h2, -, -, -, -, h7, -⟩ := Cond.code_spec B.named (atoms_spec (ws := ws) B.pre _ (by rw [hw]; exact List.mem_cons_self))
      cases Option.some.inj (h1.symm.trans B.method)
      cases Option.some.inj (h2.symm.trans (Stand.of_body B).code)
      intro x hx
      rw [Array.isEmpty_iff.mp h7] at hx
      cases hx
    obtain ⟨t, a1, o, b1, b2, b3⟩ := body p e s m args below meth c s₁ B hml ht hP s₁ hh0 (Stand.of_body B)
    exact ⟨t, o, a1, b1, b2, b3⟩
/-- the table of a body with handlers -/
theorem vx_table {p : Program} {x y : MethodName} {S : Spec} {cc bytes : ByteArray} {maxL maxL' : Nat} {ret ret' : Option FieldType} {e : Env} {s s₁ : State} {m : MethodId} {args : Array Value} {below : List Frame} {meth : Method} {c : Code} {hh : List (Nat × Nat × Nat × Nat)}
    (B : BodyLoose p l y S cc maxL ret e s m args below meth c s₁) (h : (Cond.codeWith y bytes maxL' ret' hh).before args s = true) : c.exceptionTable.toList = tableOf hh := by
  obtain ⟨m9, meth9, c9, hn9, h1, h2, -, -, h6, -⟩ := Cond.codeWith_spec h
  cases Option.some.inj (hn9.symm.trans B.named)
  cases Option.some.inj (h1.symm.trans B.method)
  cases Option.some.inj (h2.symm.trans (Stand.of_body B).code)
  rw [← h6, table_eq]
end Bodies
end VXA
/-! ===== END ===== -/
/-! ===== BEGIN a static call of a method with an exception table ===== -/
section VXS
variable {p : Program} {l : Launch} {e : Env} {R : Room} {s : State} {m : MethodId} {args : Array Value} {below : List Frame} {meth : Method} {c : Code} {T : State} {H : Heap} {locs : List Loc} {cells slots : Nat}
abbrev vx_CSW (R : Room) (s : State) (args : Array Value) (own : String) (index : Nat) (y : MethodName) (bytes : ByteArray) (maxL : Nat) (ret : Option FieldType) (hh : List (Nat × Nat × Nat × Nat)) (ws : List Cond) (rm : Room) (mc ms n : Nat) : Prop :=
  (rm.cells = mc ∧ rm.slots = ms ∧ rm.frames + 1 ≤ R.frames ∧ 8 + (maxL + 11) + rm.locals ≤ R.locals ∧ (∀ w ∈ ws, ∀ (a' : Array Value) (U : State), s.WarmedH U.vm → w.before a' U = true) ∧ Cond.codeWith y bytes maxL ret hh ∈ ws) ∧
  (Cond.codeWith y bytes maxL ret hh).before args s = true ∧ (Cond.initialized y.cls).before args s = true ∧ (y.cls ≠ "java/lang/invoke/MethodHandle" ∧ y.cls ≠ "java/lang/invoke/VarHandle") ∧
  (∀ sig, parseMethodDescriptor y.desc = some sig → n = sig.parameters.length) ∧ (Cond.methodLink own index y).before args s = true ∧ (Cond.static y).before args s = true
theorem vx_cwSW {own : String} {index maxL mc ms : Nat} {y : MethodName} {bytes : ByteArray} {ret : Option FieldType} {hh : List (Nat × Nat × Nat × Nat)} {Ts ws ws' : List Cond} {rm : Room} (n : Nat) (ht : ∀ w ∈ Ts, w.before args s = true) (hT : GoodIn Ts (va_wsS own index y ws)) (hw : ws = Cond.codeWith y bytes maxL ret hh :: ws') (hrc : rm.cells = mc) (hrs : rm.slots = ms)
    (hd : y.cls ≠ "java/lang/invoke/MethodHandle" ∧ y.cls ≠ "java/lang/invoke/VarHandle" ∧ (parseMethodDescriptor y.desc).map (fun d => d.parameters.length) = some n) (hR : rm.frames + 1 ≤ R.frames ∧ 8 + (maxL + 11) + rm.locals ≤ R.locals) :
    vx_CSW R s args own index y bytes maxL ret hh ws rm mc ms n := by
  have ok : ∀ w ∈ va_wsS own index y ws, w.before args s = true := fun w h => ht w (hT w h).1
  have hG : GoodIn Ts ws := fun w h => hT w (by unfold va_wsS; exact List.mem_append_right _ h)
  have hc : Cond.codeWith y bytes maxL ret hh ∈ ws := by rw [hw]; exact List.mem_cons_self
  refine ⟨⟨hrc, hrs, hR.1, hR.2, pay_in ht hG, hc⟩, ht _ (hG _ hc).1, ok _ (by simp [va_wsS]), ⟨hd.1, hd.2.1⟩, fun sig h => ?_, ok _ (by simp [va_wsS]), ok _ (by simp [va_wsS])⟩
  have h2 := hd.2.2
  rw [h] at h2
  exact (Option.some.inj h2).symm
theorem vx_callSW (X : Stand p l e R s m args below meth c T locs cells slots) (hexec : p.tables.exec = Jvm.exec) {own : String} {index : Nat} {y : MethodName} {bytes : ByteArray} {maxL : Nat} {ret : Option FieldType} {hh : List (Nat × Nat × Nat × Nat)}
    (hown : s.vm.findClass own = some m.cls) (hlink : (Cond.methodLink own index y).before args s = true) (hstat : (Cond.static y).before args s = true) (hinit : (Cond.initialized y.cls).before args s = true)
    (hcode : (Cond.codeWith y bytes maxL ret hh).before args s = true) (hy : y.cls ≠ "java/lang/invoke/MethodHandle" ∧ y.cls ≠ "java/lang/invoke/VarHandle")
    {W9 : Nat} {Pre : Pt → Array Value → Prop} {Post : Pt → Array Value → Option Value → Pt → Prop} (hK : Back l R p e below s args y 3 W9 Pre Post)
    {g : JFrame} (hg : g.method = m) (hsize : g.locals.size = c.maxLocals) {argsL rest : List Value} (hlen : ∀ sig, parseMethodDescriptor y.desc = some sig → argsL.length = sig.parameters.length)
    (hstack : g.stack = argsL.reverse ++ rest) (hW : 2 * g.monitorRoom + (rest.map fun v => v.category).sum ≤ W9) (hdg : decode c.code g.pc = .ok (.invokestatic index, 3))
    (hpre : ∀ vm₁, s.WarmedH vm₁ → Pre ⟨T.setVm vm₁, locs, cells, slots⟩ argsL.toArray) :
    ∃ (v : Option Value) (vm₁ : Vm) (B : Pt), s.WarmedH vm₁ ∧ Stand p l e R s m args below meth c B.U B.locs B.cells B.slots ∧ Post ⟨T.setVm vm₁, locs, cells, slots⟩ argsL.toArray v B ∧
      ∀ target, Steps p.tables e below (B.U.setTop { g with pc := g.pc + 3, stack := v.toList ++ rest }) target → Steps p.tables e below (T.setTop g) target := by
  obtain ⟨mk, methM, cM, hnamed, hmethM, -, -, -, -, -, -, hsigM⟩ := Cond.codeWith_spec hcode
  have hstatic : methM.isStatic = true := Cond.static_spec hnamed hmethM hstat
  obtain ⟨kP, hkP, -⟩ := className_of_methodNamed hnamed
  have hinitP : kP.init = .initialized := Cond.initialized_spec (findClass_of_methodNamed hnamed) hkP hinit
  obtain ⟨vm₁, X₁, hstep₁⟩ := X.invokestatic hexec hown hlink hnamed hmethM hstatic hkP hinitP hy (g := g) hg (argsL := argsL) (rest := rest) (hlen _ hsigM) hstack hdg
  obtain ⟨v, B, X', hpost, hsteps⟩ := hK m meth c ⟨T.setVm vm₁, locs, cells, slots⟩ { g with stack := rest } (.invokestatic index) mk argsL.toArray X₁ hg hsize hdg hW (X₁.named hnamed) (hpre vm₁ X₁.warmed)
  exact ⟨v, vm₁, B, X₁.warmed, X', hpost, fun target h => hstep₁ _ fun acts => by rw [doInvoke_state]; exact hsteps.trans h⟩
theorem vx_runSW {y : MethodName} {bytes cc : ByteArray} {maxL nL mc ms n index : Nat} {ret : Option FieldType} {hh : List (Nat × Nat × Nat × Nat)} {ws : List Cond} {rm : Room} {Pc : Array Value → State → Prop} {Qc : Array Value → State → Outcome → State → Prop} {free : Addr → Prop} {Ts : List Cond} {own : String} {As rest : List Value} {g : JFrame}
    (S : CallFix p m c cc nL s args Ts own) (hM : Met l y ws rm Pc Qc mc ms free) (cw : vx_CSW R s args own index y bytes maxL ret hh ws rm mc ms n) (hp : PreS s H Pc As)
    (hg : g.method = m) (hn : As.length = n) (hsize : g.locals.size = nL) (hstack : g.stack = As.reverse ++ rest) (hW : 2 * g.monitorRoom + (rest.map fun v => v.category).sum ≤ 8) (hdg : decode cc g.pc = .ok (.invokestatic index, 3)) (hf : cells + mc ≤ R.cells ∧ slots + ms ≤ R.slots) :
    va_Run p l e R s m args below meth c H locs cells slots mc ms g rest (Qc As.toArray) (free) := by
  obtain ⟨⟨hrc, hrs, hfr, hlo, hws, hcw⟩, hcode, hini, hy, hlen, hl, hstt⟩ := cw
  have hK : Back l R p e below s args y 3 8 (PreOf R mc ms Pc) (PostOf Qc mc ms free) := va_backW (hh := hh) (bytes := bytes) (maxL := maxL) (ret := ret) hM hp.1 hrc hrs hfr hlo hws hcw (fun a' U hW => word_at hW (Or.inl (by first | rfl | simp [Cond.onTables, Cond.keeps, Cond.steady])) hini)
  obtain ⟨hx, hb, hml, ho, -⟩ := S
  intro T hT X
  obtain ⟨v, vm₁, ⟨U', l2, c2, s2⟩, hW₁, X', ⟨g', mk, t, L, e1, e2, hq, h1, hL, h2, h3⟩, st⟩ := vx_callSW X hx (hh := hh) (bytes := bytes) (maxL := maxL) (ret := ret) ho hl hstt hini hcode hy hK hg (hsize.trans hml.symm) (argsL := As) (rest := rest) (fun sig h => hn.trans (hlen sig h)) hstack hW (by rw [hb]; exact hdg)
    (fun vm₁ hW₁ => ⟨hf.1, hf.2, hp.2 (T.setVm vm₁) hT hW₁⟩)
  dsimp only [Pt.U, Pt.locs, Pt.cells, Pt.slots] at X' e1 e2 h1 h2 h3 st
  subst h1; subst h2; subst h3
  exact ⟨v, (T.setVm vm₁).calling g' mk As.toArray, t, U', L, hT, X', hL, e1, e2, hq, st⟩
/-- not caught here, past rows that name other classes: it goes on to the caller -/
theorem vx_outP {p : Program} {l : Launch} {e : Env} {R : Room} {s : State} {m : MethodId} {args : Array Value} {below : List Frame} {meth : Method} {c : Code} {H : Heap} {locs : List Loc} {cells slots : Nat} {free : Addr → Prop} {ls : Array Slot} {rest : List Value} {Qc : Array Value → State → Outcome → State → Prop} {XC : String → State → State → Prop}
    {pc : Nat} {own E : String} {ce : Cell} {q : Addr} {mc ms : Nat} (hown : s.vm.findClass own = some m.cls) (hlocks : meth.locks = false)
    (hpass : ∀ z ∈ c.exceptionTable.toList, covers z pc = false ∨ (z.catchType ≠ 0 ∧ ∃ nm : String, (Cond.classLink own z.catchType nm).before args s = true ∧ va_Nc E nm s)) (hcell : H[q]? = some ce) (hv : ce.vm = .none) (hcl : s.vm.findClass E = some ce.cls)
    (hx : ∀ t : State, t.heap = H → s.vm.Alike t.vm → XC E s t) (hf : ∀ z ∈ locs, free z.base) (hc : cells ≤ mc) (hs : slots ≤ ms) :
    vx_W p l e R s m args below meth c H locs cells slots (vx_MQ below Qc XC args s mc ms free) (F0 m pc ls rest) q := by
  intro T hT X
  have hpl : e.platform.magicAccessors = ({} : Platform).magicAccessors := by rw [X.admits.platform]
  obtain ⟨vm', hW', X', st⟩ := X.outThrough hlocks q (g := F0 m pc ls rest) rfl rfl rfl (cell := ce) (by rw [hT]; exact hcell) (by rw [hv]; rfl)
    (by obtain ⟨k9, h9, -⟩ := Vm.findClass_spec hcl; exact ⟨k9, h9⟩) (fun z hz => by
      rcases hpass z hz with h | ⟨hz0, nm, hl1, hn1⟩
      · exact Or.inl h
      · obtain ⟨c6, hc6, hcl6⟩ := Cond.classLink_spec hown hl1 e.platform hpl
        obtain ⟨a8, b8, h1, h2, h3⟩ := hn1
        cases Option.some.inj (h1.symm.trans hcl)
        cases Option.some.inj (h2.symm.trans hc6)
        exact Or.inr ⟨hz0, _, hcl6, h3⟩)
  obtain ⟨g₀, hfr⟩ := X'.frames_eq
  have hcell9 : ((T.setVm vm').setFrames (.throwing q :: below)).heap[q]? = some ce := by
    show T.heap[q]? = some ce
    rw [hT]; exact hcell
  have hend : Ended ((T.setVm vm').setFrames (.throwing q :: below)) below (.threw q) := State.frames_setFrames _ (State.cur_lt_of_frames hfr)
  refine ⟨(T.setVm vm').setFrames (.throwing q :: below), ?_, .threw q, X'.here.running, hend, Or.inr ⟨q, rfl, E, ce, locs, hx _ hT (X'.ends _).1.alike, hcell9, hv, hcl, (X'.ends _).1, (X'.ends _).2.mono hc hs, hf⟩⟩
  rw [X.pushThrowing_eq]
  exact st
/-- a thing of a world lies in the heap -/
theorem vx_lt {D : va_G} {cl : List vw_C} {ws : va_W} {H1 : Heap} (h : va_P D cl ws H1) {k : Nat} {q : Nat × va_E} (hk : ws[k]? = some q) : q.1 < H1.size := (h k q hk).lt
end VXS
/-! ===== END ===== -/
/-! ===== BEGIN methods with a table of their own: called by a name, returning or throwing ===== -/
section VXH
/-! vx_backW, vx_callVX, vx_callSX, vx_callVW, vx_runVW, vx_runVX, vx_runSX, vx_ofWH follow the same proofs as their sisters above (Free/Laws.lean, Shelf42/LK1.lean); vx_outP calls Shelf42/NT130.lean (outThrough). -/
section
variable {l : Launch} {R : Room} {p : Program} {e : Env} {below : List Frame} {s : State} {sargs : Array Value} {y : MethodName} {len W9 : Nat}
theorem vx_backW {ws : List Cond} {rm : Room} {Pc : Array Value → State → Prop} {Qc : Array Value → State → Outcome → State → Prop} {XC : String → State → State → Prop} {mc ms : Nat} {free : Addr → Prop} {bytes : ByteArray} {maxL : Nat} {ret : Option FieldType} {hh : List (Nat × Nat × Nat × Nat)}
    (hM : vx_Met l y ws rm Pc Qc XC mc ms free) (hblind : FrameBlind Pc) (hrc : rm.cells = mc) (hrs : rm.slots = ms)
    (hframes : rm.frames + 1 ≤ R.frames) (hlocals : W9 + (maxL + 11) + rm.locals ≤ R.locals)
    (hws : ∀ w ∈ ws, ∀ a' U, s.WarmedH U.vm → w.before a' U = true) (hcode : Cond.codeWith y bytes maxL ret hh ∈ ws) (hinit : ∀ a' U, s.WarmedH U.vm → (Cond.initialized y.cls).before a' U = true) :
    vx_Back l R p e below s sargs y len W9 (PreOf R mc ms Pc) (PostOf Qc mc ms free) (vx_Post XC mc ms free) := by
  intro m meth c A g ig mk a X hg hsize hdg hW hn hp
  have h1 : (headSpec ws rm).pre.before a A.U = true := atoms_intro fun w hw => hws w hw _ _ X.warmed
  have h2 : (Cond.codeWith y bytes maxL ret hh).before a A.U = true := hws _ hcode _ _ X.warmed
  have h3 : (Cond.initialized y.cls).before a A.U = true := hinit _ _ X.warmed
  have h4 : A.cells + (headSpec ws rm).room.cells ≤ R.cells := by rw [show (headSpec ws rm).room.cells = mc from hrc]; exact hp.1
  have h5 : A.slots + (headSpec ws rm).room.slots ≤ R.slots := by rw [show (headSpec ws rm).room.slots = ms from hrs]; exact hp.2.1
  have hPc : Pc a (A.U.calling g mk a) := hblind _ _ _ _ hp.2.2
  obtain ⟨U, Ls, c0, s0⟩ := A
  dsimp only [Pt.U, Pt.locs, Pt.cells, Pt.slots] at h1 h2 h3 h4 h5 X hn hPc ⊢
  obtain ⟨m9, methY, cY, hn9, hmY, hcY, -, hlY, -⟩ := Cond.codeWith_spec h2
  cases Option.some.inj (hn9.symm.trans hn)
  obtain ⟨kY, hkY, -⟩ := className_of_methodNamed hn
  have hinitY : kY.init = .initialized := Cond.initialized_spec (findClass_of_methodNamed hn) hkY h3
  have h : At U g.method c below := by rw [hg]; exact X.here
  have hlocals9 : W9 + (maxL + 11) + (headSpec ws rm).room.locals ≤ R.locals := hlocals
  have happ : (headSpec ws rm).appliesLoose y e.platform (U.calling g mk a) = true :=
    Spec.appliesLoose_calling (g := g) h hdg hn hkY hinitY
      (X.room_calling (g := g) (R' := (headSpec ws rm).room) hsize hmY hcY hframes (by rw [hlY]; omega) h4 h5) h1
  obtain ⟨mid, hmid⟩ := h.above
  have hfr : (U.setTop g).frames = (.java g :: mid) ++ below := by rw [State.frames_setTop' g h.top, hmid]; rfl
  obtain ⟨o, s₂, hsteps, -, hend, hq⟩ := Steps.callFree hM p X.admits X.cas X.clock (acts := []) hfr happ hPc trivial
  have hq' : vx_Q Qc XC mc ms free a (U.calling g mk a) o s₂ := hq
  rw [State.frames_setTop' g h.top] at hend
  obtain ⟨g₀, hg0⟩ := Option.isSome_iff_exists.mp h.top
  obtain ⟨r, hr⟩ := State.topJava?_eq_some.mp hg0
  have hr' : (({ U with heap := s₂.heap, slotsUsed := s₂.slotsUsed } : State).setVm s₂.vm).frames = .java g₀ :: r := hr
  rcases hq' with ⟨hqc, L, hfe, hL⟩ | ⟨q, rfl, E, ce, L, hx, hce, hcv, hcl, hW₂, hsm, hL⟩
  · obtain ⟨⟨v, rfl⟩, hW₂, e2, q2, q3, q4, q5, q6⟩ := id hfe
    have e3 : s₂ = ({ (U.calling g mk a).setFrames s₂.frames with heap := s₂.heap, slotsUsed := s₂.slotsUsed } : State).setVm s₂.vm := by
      have : s₂ = ({ s₂ with vm := (U.calling g mk a).vm } : State).setVm s₂.vm := rfl
      rw [e2] at this
      exact this
    obtain ⟨c₂, i₂, len₂, hc₂, hd₂, hf₂⟩ := hend
    have hW' : U.WarmedH s₂.vm := hW₂
    have hcc : c₂ = c := by
      have h1 : s₂.code? g.method = U.code? g.method := by
        rw [State.code?_eq, State.code?_eq, hW'.alike.method?]
      exact Option.some.inj (hc₂.symm.trans (h1.trans h.code))
    subst hcc
    have hlen : len₂ = len := by rw [hdg] at hd₂; cases hd₂; rfl
    subst hlen
    have hs₂ : s₂ = (({ U with heap := s₂.heap, slotsUsed := s₂.slotsUsed } : State).setVm s₂.vm).setTop { g with pc := g.pc + len₂, stack := v.toList ++ g.stack } := by
      refine e3.trans ?_
      rw [hf₂, State.calling_eq h.top, State.setFrames_setFrames, State.setTop_of_frames _ hr', hr]
      rfl
    have hsame : U.sameButNew ({ U with heap := s₂.heap, slotsUsed := s₂.slotsUsed } : State) L mc ms := by
      refine ⟨?_, q2, q3, q4, q5, q6⟩
      obtain ⟨t, ht, -⟩ := State.frames_cons hr
      show ({ U with heap := s₂.heap, slotsUsed := s₂.slotsUsed } : State) = { U.setFrames U.frames with heap := s₂.heap, slotsUsed := s₂.slotsUsed }
      rw [State.setFrames_self ht]
    subst hg
    refine Or.inl ⟨v, ⟨(({ U with heap := s₂.heap, slotsUsed := s₂.slotsUsed } : State).setVm s₂.vm), Ls ++ L, c0 + mc, s0 + ms⟩,
      ⟨X.admits, X.cas, X.clock, X.frames, X.room, X.hears, X.method, X.code, (X.here.setHeapUsed s₂.heap s₂.slotsUsed).setVm hW'.alike, X.tail, State.WarmedH.trans X.warmed hW', X.limits, X.bytes, X.same.trans (hsame.setVm s.vm)⟩,
      ⟨g, mk, s₂, L, rfl, rfl, hqc, rfl, hL, rfl, rfl⟩, ?_⟩
    show Steps p.tables e below _ ((({ U with heap := s₂.heap, slotsUsed := s₂.slotsUsed } : State).setVm s₂.vm).setTop { g with pc := g.pc + len₂, stack := v.toList ++ g.stack })
    rw [← hs₂]
    exact hsteps
  · obtain ⟨e2, q2, q3, q4, q5, q6⟩ := id hsm
    have e3 : s₂ = ({ (U.calling g mk a).setFrames s₂.frames with heap := s₂.heap, slotsUsed := s₂.slotsUsed } : State).setVm s₂.vm := by
      have : s₂ = ({ s₂ with vm := (U.calling g mk a).vm } : State).setVm s₂.vm := rfl
      rw [e2] at this
      exact this
    have hf₂ : s₂.frames = .throwing q :: .java g :: U.frames.tail := hend
    have hW' : U.WarmedH s₂.vm := hW₂
    have hs₂ : s₂ = ((({ U with heap := s₂.heap, slotsUsed := s₂.slotsUsed } : State).setVm s₂.vm).setTop g).pushFrame (.throwing q) := by
      refine e3.trans ?_
      rw [hf₂, State.calling_eq h.top, State.setFrames_setFrames, State.pushFrame, State.frames_setTop _ hr', State.setTop_of_frames _ hr', State.setFrames_setFrames, hr]
      rfl
    have hsame : U.sameButNew ({ U with heap := s₂.heap, slotsUsed := s₂.slotsUsed } : State) L mc ms := by
      refine ⟨?_, q2, q3, q4, q5, q6⟩
      obtain ⟨t, ht, -⟩ := State.frames_cons hr
      show ({ U with heap := s₂.heap, slotsUsed := s₂.slotsUsed } : State) = { U.setFrames U.frames with heap := s₂.heap, slotsUsed := s₂.slotsUsed }
      rw [State.setFrames_self ht]
    subst hg
    refine Or.inr ⟨q, ⟨(({ U with heap := s₂.heap, slotsUsed := s₂.slotsUsed } : State).setVm s₂.vm), Ls ++ L, c0 + mc, s0 + ms⟩,
      ⟨X.admits, X.cas, X.clock, X.frames, X.room, X.hears, X.method, X.code, (X.here.setHeapUsed s₂.heap s₂.slotsUsed).setVm hW'.alike, X.tail, State.WarmedH.trans X.warmed hW', X.limits, X.bytes, X.same.trans (hsame.setVm s.vm)⟩,
      ⟨g, mk, s₂, L, E, ce, rfl, rfl, hx, hce, hcv, hcl, rfl, hL, rfl, rfl⟩, ?_⟩
    show Steps p.tables e below _ (((({ U with heap := s₂.heap, slotsUsed := s₂.slotsUsed } : State).setVm s₂.vm).setTop g).pushFrame (.throwing q))
    rw [← hs₂]
    exact hsteps
end
variable {p : Program} {l : Launch} {e : Env} {R : Room} {s : State} {m : MethodId} {args : Array Value} {below : List Frame} {meth : Method} {c : Code} {T : State} {H : Heap} {locs : List Loc} {cells slots : Nat}
theorem vx_callVX (X : Stand p l e R s m args below meth c T locs cells slots) (hexec : p.tables.exec = Jvm.exec) {own C : String} {index : Nat} {y : MethodName} {bytes : ByteArray} {maxL : Nat} {ret : Option FieldType} {hh : List (Nat × Nat × Nat × Nat)}
    (hown : s.vm.findClass own = some m.cls) (hlink : (Cond.methodLink own index y).before args s = true) (hinst : (Cond.instanceMethod y).before args s = true) (hsel : (Cond.selects C y y).before args s = true)
    (hcode : (Cond.codeWith y bytes maxL ret hh).before args s = true) (hy : y.cls ≠ "java/lang/invoke/MethodHandle" ∧ y.cls ≠ "java/lang/invoke/VarHandle")
    {W9 : Nat} {Pre : Pt → Array Value → Prop} {Post : Pt → Array Value → Option Value → Pt → Prop} {PostX : Pt → Array Value → Addr → Pt → Prop} (hK : vx_Back l R p e below s args y 3 W9 Pre Post PostX)
    {b : Addr} {cellB : Cell} (hcell : T.heap[b]? = some cellB) (hobj : cellB.vm.isStatics = false) (hcls : s.vm.findClass C = some cellB.cls)
    {g : JFrame} (hg : g.method = m) (hsize : g.locals.size = c.maxLocals) {argsL rest : List Value} (hlen : ∀ sig, parseMethodDescriptor y.desc = some sig → argsL.length = sig.parameters.length)
    (hstack : g.stack = argsL.reverse ++ .ref b :: rest) (hW : 2 * g.monitorRoom + (rest.map fun v => v.category).sum ≤ W9) (hdg : decode c.code g.pc = .ok (.invokevirtual index, 3))
    (hpre : ∀ vm₁, s.WarmedH vm₁ → Pre ⟨T.setVm vm₁, locs, cells, slots⟩ (Value.ref b :: argsL).toArray) :
    (∃ (v : Option Value) (vm₁ : Vm) (B : Pt), s.WarmedH vm₁ ∧ Stand p l e R s m args below meth c B.U B.locs B.cells B.slots ∧ Post ⟨T.setVm vm₁, locs, cells, slots⟩ (Value.ref b :: argsL).toArray v B ∧
      ∀ target, Steps p.tables e below (B.U.setTop { g with pc := g.pc + 3, stack := v.toList ++ rest }) target → Steps p.tables e below (T.setTop g) target) ∨
    (∃ (q : Addr) (vm₁ : Vm) (B : Pt), s.WarmedH vm₁ ∧ Stand p l e R s m args below meth c B.U B.locs B.cells B.slots ∧ PostX ⟨T.setVm vm₁, locs, cells, slots⟩ (Value.ref b :: argsL).toArray q B ∧
      Steps p.tables e below (T.setTop g) ((B.U.setTop { g with stack := rest }).pushFrame (.throwing q))) := by
  obtain ⟨mk, methM, hnamed, hmethM, hstM, habM⟩ := Cond.instanceMethod_spec hinst
  obtain ⟨m8, methM', cM, hn8, hmethM', -, -, -, -, -, -, hsigM⟩ := Cond.codeWith_spec hcode
  cases Option.some.inj (hn8.symm.trans hnamed)
  cases hmethM.symm.trans hmethM'
  obtain ⟨c2, r2, m2, q1, q2, q3, q4, kP, hkP, hkPi⟩ := Cond.selects_spec hsel
  cases hcls.symm.trans q1
  cases (State.methodFound?_of_named hnamed hy).symm.trans q2
  cases hnamed.symm.trans q3
  have hselP : selectMethod e.platform s.vm cellB.cls mk = .method mk := by rw [Launch.admits_selectMethod X.admits]; exact q4
  obtain ⟨vm₁, X₁, hstep₁⟩ := X.invokevirtual hexec hown hlink hnamed hmethM hstM hkP hkPi hy (a := b) (cell := cellB) hcell
    (fun z h => by rw [h] at hobj; cases hobj) hselP hmethM habM hkP hkPi (g := g) hg (argsL := argsL) (rest := rest) (hlen _ hsigM) hstack hdg
  rcases hK m meth c ⟨T.setVm vm₁, locs, cells, slots⟩ { g with stack := rest } (.invokevirtual index) mk (Value.ref b :: argsL).toArray X₁ hg hsize hdg hW (X₁.named hnamed) (hpre vm₁ X₁.warmed) with ⟨v, B, X', hpost, hsteps⟩ | ⟨q, B, X', hpost, hsteps⟩
  · exact Or.inl ⟨v, vm₁, B, X₁.warmed, X', hpost, fun target h => hstep₁ _ fun acts => by rw [doInvoke_state]; exact hsteps.trans h⟩
  · exact Or.inr ⟨q, vm₁, B, X₁.warmed, X', hpost, hstep₁ _ fun acts => by rw [doInvoke_state]; exact hsteps⟩
theorem vx_callSX (X : Stand p l e R s m args below meth c T locs cells slots) (hexec : p.tables.exec = Jvm.exec) {own : String} {index : Nat} {y : MethodName} {bytes : ByteArray} {maxL : Nat} {ret : Option FieldType} {hh : List (Nat × Nat × Nat × Nat)}
    (hown : s.vm.findClass own = some m.cls) (hlink : (Cond.methodLink own index y).before args s = true) (hstat : (Cond.static y).before args s = true) (hinit : (Cond.initialized y.cls).before args s = true)
    (hcode : (Cond.codeWith y bytes maxL ret hh).before args s = true) (hy : y.cls ≠ "java/lang/invoke/MethodHandle" ∧ y.cls ≠ "java/lang/invoke/VarHandle")
    {W9 : Nat} {Pre : Pt → Array Value → Prop} {Post : Pt → Array Value → Option Value → Pt → Prop} {PostX : Pt → Array Value → Addr → Pt → Prop} (hK : vx_Back l R p e below s args y 3 W9 Pre Post PostX)
    {g : JFrame} (hg : g.method = m) (hsize : g.locals.size = c.maxLocals) {argsL rest : List Value} (hlen : ∀ sig, parseMethodDescriptor y.desc = some sig → argsL.length = sig.parameters.length)
    (hstack : g.stack = argsL.reverse ++ rest) (hW : 2 * g.monitorRoom + (rest.map fun v => v.category).sum ≤ W9) (hdg : decode c.code g.pc = .ok (.invokestatic index, 3))
    (hpre : ∀ vm₁, s.WarmedH vm₁ → Pre ⟨T.setVm vm₁, locs, cells, slots⟩ argsL.toArray) :
    (∃ (v : Option Value) (vm₁ : Vm) (B : Pt), s.WarmedH vm₁ ∧ Stand p l e R s m args below meth c B.U B.locs B.cells B.slots ∧ Post ⟨T.setVm vm₁, locs, cells, slots⟩ argsL.toArray v B ∧
      ∀ target, Steps p.tables e below (B.U.setTop { g with pc := g.pc + 3, stack := v.toList ++ rest }) target → Steps p.tables e below (T.setTop g) target) ∨
    (∃ (q : Addr) (vm₁ : Vm) (B : Pt), s.WarmedH vm₁ ∧ Stand p l e R s m args below meth c B.U B.locs B.cells B.slots ∧ PostX ⟨T.setVm vm₁, locs, cells, slots⟩ argsL.toArray q B ∧
      Steps p.tables e below (T.setTop g) ((B.U.setTop { g with stack := rest }).pushFrame (.throwing q))) := by
  obtain ⟨mk, methM, cM, hnamed, hmethM, -, -, -, -, -, -, hsigM⟩ := Cond.codeWith_spec hcode
  have hstatic : methM.isStatic = true := Cond.static_spec hnamed hmethM hstat
  obtain ⟨kP, hkP, -⟩ := className_of_methodNamed hnamed
  have hinitP : kP.init = .initialized := Cond.initialized_spec (findClass_of_methodNamed hnamed) hkP hinit
  obtain ⟨vm₁, X₁, hstep₁⟩ := X.invokestatic hexec hown hlink hnamed hmethM hstatic hkP hinitP hy (g := g) hg (argsL := argsL) (rest := rest) (hlen _ hsigM) hstack hdg
  rcases hK m meth c ⟨T.setVm vm₁, locs, cells, slots⟩ { g with stack := rest } (.invokestatic index) mk argsL.toArray X₁ hg hsize hdg hW (X₁.named hnamed) (hpre vm₁ X₁.warmed) with ⟨v, B, X', hpost, hsteps⟩ | ⟨q, B, X', hpost, hsteps⟩
  · exact Or.inl ⟨v, vm₁, B, X₁.warmed, X', hpost, fun target h => hstep₁ _ fun acts => by rw [doInvoke_state]; exact hsteps.trans h⟩
  · exact Or.inr ⟨q, vm₁, B, X₁.warmed, X', hpost, hstep₁ _ fun acts => by rw [doInvoke_state]; exact hsteps⟩
theorem vx_callVW (X : Stand p l e R s m args below meth c T locs cells slots) (hexec : p.tables.exec = Jvm.exec) {own C : String} {index : Nat} {y : MethodName} {bytes : ByteArray} {maxL : Nat} {ret : Option FieldType} {hh : List (Nat × Nat × Nat × Nat)}
    (hown : s.vm.findClass own = some m.cls) (hlink : (Cond.methodLink own index y).before args s = true) (hinst : (Cond.instanceMethod y).before args s = true) (hsel : (Cond.selects C y y).before args s = true)
    (hcode : (Cond.codeWith y bytes maxL ret hh).before args s = true) (hy : y.cls ≠ "java/lang/invoke/MethodHandle" ∧ y.cls ≠ "java/lang/invoke/VarHandle")
    {W9 : Nat} {Pre : Pt → Array Value → Prop} {Post : Pt → Array Value → Option Value → Pt → Prop} (hK : Back l R p e below s args y 3 W9 Pre Post)
    {b : Addr} {cellB : Cell} (hcell : T.heap[b]? = some cellB) (hobj : cellB.vm.isStatics = false) (hcls : s.vm.findClass C = some cellB.cls)
    {g : JFrame} (hg : g.method = m) (hsize : g.locals.size = c.maxLocals) {argsL rest : List Value} (hlen : ∀ sig, parseMethodDescriptor y.desc = some sig → argsL.length = sig.parameters.length)
    (hstack : g.stack = argsL.reverse ++ .ref b :: rest) (hW : 2 * g.monitorRoom + (rest.map fun v => v.category).sum ≤ W9) (hdg : decode c.code g.pc = .ok (.invokevirtual index, 3))
    (hpre : ∀ vm₁, s.WarmedH vm₁ → Pre ⟨T.setVm vm₁, locs, cells, slots⟩ (Value.ref b :: argsL).toArray) :
    ∃ (v : Option Value) (vm₁ : Vm) (B : Pt), s.WarmedH vm₁ ∧ Stand p l e R s m args below meth c B.U B.locs B.cells B.slots ∧ Post ⟨T.setVm vm₁, locs, cells, slots⟩ (Value.ref b :: argsL).toArray v B ∧
      ∀ target, Steps p.tables e below (B.U.setTop { g with pc := g.pc + 3, stack := v.toList ++ rest }) target → Steps p.tables e below (T.setTop g) target := by
  obtain ⟨mk, methM, hnamed, hmethM, hstM, habM⟩ := Cond.instanceMethod_spec hinst
  obtain ⟨m8, methM', cM, hn8, hmethM', -, -, -, -, -, -, hsigM⟩ := Cond.codeWith_spec hcode
  cases Option.some.inj (hn8.symm.trans hnamed)
  cases hmethM.symm.trans hmethM'
  obtain ⟨c2, r2, m2, q1, q2, q3, q4, kP, hkP, hkPi⟩ := Cond.selects_spec hsel
  cases hcls.symm.trans q1
  cases (State.methodFound?_of_named hnamed hy).symm.trans q2
  cases hnamed.symm.trans q3
  have hselP : selectMethod e.platform s.vm cellB.cls mk = .method mk := by rw [Launch.admits_selectMethod X.admits]; exact q4
  obtain ⟨vm₁, X₁, hstep₁⟩ := X.invokevirtual hexec hown hlink hnamed hmethM hstM hkP hkPi hy (a := b) (cell := cellB) hcell
    (fun z h => by rw [h] at hobj; cases hobj) hselP hmethM habM hkP hkPi (g := g) hg (argsL := argsL) (rest := rest) (hlen _ hsigM) hstack hdg
  obtain ⟨v, B, X', hpost, hsteps⟩ := hK m meth c ⟨T.setVm vm₁, locs, cells, slots⟩ { g with stack := rest } (.invokevirtual index) mk (Value.ref b :: argsL).toArray X₁ hg hsize hdg hW (X₁.named hnamed) (hpre vm₁ X₁.warmed)
  exact ⟨v, vm₁, B, X₁.warmed, X', hpost, fun target h => hstep₁ _ fun acts => by rw [doInvoke_state]; exact hsteps.trans h⟩
abbrev vx_CVW (R : Room) (s : State) (args : Array Value) (own C : String) (index : Nat) (y : MethodName) (bytes : ByteArray) (maxL : Nat) (ret : Option FieldType) (hh : List (Nat × Nat × Nat × Nat)) (ws : List Cond) (rm : Room) (mc ms n : Nat) : Prop :=
  (rm.cells = mc ∧ rm.slots = ms ∧ rm.frames + 1 ≤ R.frames ∧ 8 + (maxL + 11) + rm.locals ≤ R.locals ∧ (∀ w ∈ ws, ∀ (a' : Array Value) (U : State), s.WarmedH U.vm → w.before a' U = true) ∧ Cond.codeWith y bytes maxL ret hh ∈ ws) ∧
  (Cond.codeWith y bytes maxL ret hh).before args s = true ∧ (Cond.initialized y.cls).before args s = true ∧ (y.cls ≠ "java/lang/invoke/MethodHandle" ∧ y.cls ≠ "java/lang/invoke/VarHandle") ∧
  (∀ sig, parseMethodDescriptor y.desc = some sig → n = sig.parameters.length) ∧ (Cond.methodLink own index y).before args s = true ∧ (Cond.instanceMethod y).before args s = true ∧ (Cond.selects C y y).before args s = true
theorem vx_cwVW {own C : String} {index maxL mc ms : Nat} {y : MethodName} {bytes : ByteArray} {ret : Option FieldType} {hh : List (Nat × Nat × Nat × Nat)} {Ts ws ws' : List Cond} {rm : Room} (n : Nat) (ht : ∀ w ∈ Ts, w.before args s = true) (hT : GoodIn Ts (wsV own index C y ws)) (hw : ws = Cond.codeWith y bytes maxL ret hh :: ws') (hrc : rm.cells = mc) (hrs : rm.slots = ms)
    (hd : y.cls = C ∧ y.cls ≠ "java/lang/invoke/MethodHandle" ∧ y.cls ≠ "java/lang/invoke/VarHandle" ∧ (parseMethodDescriptor y.desc).map (fun d => d.parameters.length) = some n) (hR : rm.frames + 1 ≤ R.frames ∧ 8 + (maxL + 11) + rm.locals ≤ R.locals) :
    vx_CVW R s args own C index y bytes maxL ret hh ws rm mc ms n := by
  obtain ⟨hC, hd⟩ := hd
  subst hC
  have ok : ∀ w ∈ wsV own index y.cls y ws, w.before args s = true := fun w h => ht w (hT w h).1
  have hG : GoodIn Ts ws := fun w h => hT w (by unfold wsV; exact List.mem_append_right _ h)
  have hc : Cond.codeWith y bytes maxL ret hh ∈ ws := by rw [hw]; exact List.mem_cons_self
  refine ⟨⟨hrc, hrs, hR.1, hR.2, pay_in ht hG, hc⟩, ht _ (hG _ hc).1, ok _ (by simp [wsV]), ⟨hd.1, hd.2.1⟩, fun sig h => ?_, ok _ (by simp [wsV]), ok _ (by simp [wsV]), ok _ (by simp [wsV])⟩
  have h2 := hd.2.2
  rw [h] at h2
  exact (Option.some.inj h2).symm
theorem vx_runVW {y : MethodName} {bytes cc : ByteArray} {maxL nL mc ms n index : Nat} {ret : Option FieldType} {hh : List (Nat × Nat × Nat × Nat)} {ws : List Cond} {rm : Room} {Pc : Array Value → State → Prop} {Qc : Array Value → State → Outcome → State → Prop} {free : Addr → Prop} {Ts : List Cond} {own C : String} {b : Addr} {As rest : List Value} {g : JFrame}
    (S : CallFix p m c cc nL s args Ts own) (hM : Met l y ws rm Pc Qc mc ms free) (cw : vx_CVW R s args own C index y bytes maxL ret hh ws rm mc ms n) (hp : PreV s H C b Pc As)
    (hg : g.method = m) (hn : As.length = n) (hsize : g.locals.size = nL) (hstack : g.stack = As.reverse ++ .ref b :: rest) (hW : 2 * g.monitorRoom + (rest.map fun v => v.category).sum ≤ 8) (hdg : decode cc g.pc = .ok (.invokevirtual index, 3)) (hf : cells + mc ≤ R.cells ∧ slots + ms ≤ R.slots) :
    va_Run p l e R s m args below meth c H locs cells slots mc ms g rest (Qc (Value.ref b :: As).toArray) free := by
  obtain ⟨⟨hrc, hrs, hfr, hlo, hws, hcw⟩, hcode, hini, hy, hlen, hl, hin, hse⟩ := cw
  have hK : Back l R p e below s args y 3 8 (PreOf R mc ms Pc) (PostOf Qc mc ms free) := va_backW (hh := hh) (bytes := bytes) (maxL := maxL) (ret := ret) hM hp.1 hrc hrs hfr hlo hws hcw (fun a' U hW => word_at hW (Or.inl (by first | rfl | simp [Cond.onTables, Cond.keeps, Cond.steady])) hini)
  obtain ⟨hx, hb, hml, ho, -⟩ := S
  obtain ⟨-, ⟨cellB, hcB, hoB, hclB⟩, hPc⟩ := hp
  intro T hT X
  obtain ⟨v, vm₁, ⟨U', l2, c2, s2⟩, hW₁, X', ⟨g', mk, t, L, e1, e2, hq, h1, hL, h2, h3⟩, st⟩ := vx_callVW X hx (C := C) (hh := hh) (bytes := bytes) (maxL := maxL) (ret := ret) ho hl hin hse hcode hy hK (by rw [hT]; exact hcB) hoB hclB hg (hsize.trans hml.symm) (argsL := As) (rest := rest) (fun sig h => hn.trans (hlen sig h)) hstack hW (by rw [hb]; exact hdg)
    (fun vm₁ hW₁ => ⟨hf.1, hf.2, hPc (T.setVm vm₁) hT hW₁⟩)
  dsimp only [Pt.U, Pt.locs, Pt.cells, Pt.slots] at X' e1 e2 h1 h2 h3 st
  subst h1; subst h2; subst h3
  exact ⟨v, (T.setVm vm₁).calling g' mk (Value.ref b :: As).toArray, t, U', L, hT, X', hL, e1, e2, hq, st⟩
section
variable {y : MethodName} {bytes cc : ByteArray} {maxL nL mc ms n index : Nat} {ret : Option FieldType} {ws : List Cond} {rm : Room} {Pc : Array Value → State → Prop} {Qc : Array Value → State → Outcome → State → Prop} {XC : String → State → State → Prop} {free : Addr → Prop} {Ts : List Cond} {own C : String} {b : Addr} {As rest : List Value} {g : JFrame}
theorem vx_runVX {hh : List (Nat × Nat × Nat × Nat)} (S : CallFix p m c cc nL s args Ts own) (hM : vx_Met l y ws rm Pc Qc XC mc ms free) (cw : vx_CVW R s args own C index y bytes maxL ret hh ws rm mc ms n) (hp : PreV s H C b Pc As)
    (hg : g.method = m) (hn : As.length = n) (hsize : g.locals.size = nL) (hstack : g.stack = As.reverse ++ .ref b :: rest) (hW : 2 * g.monitorRoom + (rest.map fun v => v.category).sum ≤ 8) (hdg : decode cc g.pc = .ok (.invokevirtual index, 3)) (hf : cells + mc ≤ R.cells ∧ slots + ms ≤ R.slots) :
    vx_Run p l e R s m args below meth c H locs cells slots mc ms g rest (Qc (Value.ref b :: As).toArray) XC free := by
  obtain ⟨⟨hrc, hrs, hfr, hlo, hws, hcw⟩, hcode, hini, hy, hlen, hl, hin, hse⟩ := cw
  have hK : vx_Back l R p e below s args y 3 8 (PreOf R mc ms Pc) (PostOf Qc mc ms free) (vx_Post XC mc ms free) := vx_backW (hh := hh) (bytes := bytes) (maxL := maxL) (ret := ret) hM hp.1 hrc hrs hfr hlo hws hcw (fun a' U hW => word_at hW (Or.inl (by first | rfl | simp [Cond.onTables, Cond.keeps, Cond.steady])) hini)
  obtain ⟨hx, hb, hml, ho, -⟩ := S
  obtain ⟨-, ⟨cellB, hcB, hoB, hclB⟩, hPc⟩ := hp
  intro T hT X
  rcases vx_callVX X hx (C := C) (hh := hh) (bytes := bytes) (maxL := maxL) (ret := ret) ho hl hin hse hcode hy hK (by rw [hT]; exact hcB) hoB hclB hg (hsize.trans hml.symm) (argsL := As) (rest := rest) (fun sig h => hn.trans (hlen sig h)) hstack hW (by rw [hb]; exact hdg)
    (fun vm₁ hW₁ => ⟨hf.1, hf.2, hPc (T.setVm vm₁) hT hW₁⟩) with ⟨v, vm₁, ⟨U', l2, c2, s2⟩, hW₁, X', ⟨g', mk, t, L, e1, e2, hq, h1, hL, h2, h3⟩, st⟩ | ⟨q, vm₁, ⟨U', l2, c2, s2⟩, hW₁, X', ⟨g', mk, t, L, E, ce, e1, e2, hq, hce, hcv, hcl, h1, hL, h2, h3⟩, st⟩
  · dsimp only [Pt.U, Pt.locs, Pt.cells, Pt.slots] at X' e1 e2 h1 h2 h3 st
    subst h1; subst h2; subst h3
    exact Or.inl ⟨v, (T.setVm vm₁).calling g' mk (Value.ref b :: As).toArray, t, U', L, hT, X', hL, e1, e2, hq, st⟩
  · dsimp only [Pt.U, Pt.locs, Pt.cells, Pt.slots] at X' e1 e2 h1 h2 h3 st hcl
    subst h1; subst h2; subst h3
    exact Or.inr ⟨q, (T.setVm vm₁).calling g' mk (Value.ref b :: As).toArray, t, U', L, E, ce, hT, X', hL, e1, e2, hq, hce, hcv, vx_cls hW₁ hcl, st⟩
theorem vx_runSX {hh : List (Nat × Nat × Nat × Nat)} (S : CallFix p m c cc nL s args Ts own) (hM : vx_Met l y ws rm Pc Qc XC mc ms free) (cw : vx_CSW R s args own index y bytes maxL ret hh ws rm mc ms n) (hp : PreS s H Pc As)
    (hg : g.method = m) (hn : As.length = n) (hsize : g.locals.size = nL) (hstack : g.stack = As.reverse ++ rest) (hW : 2 * g.monitorRoom + (rest.map fun v => v.category).sum ≤ 8) (hdg : decode cc g.pc = .ok (.invokestatic index, 3)) (hf : cells + mc ≤ R.cells ∧ slots + ms ≤ R.slots) :
    vx_Run p l e R s m args below meth c H locs cells slots mc ms g rest (Qc As.toArray) XC free := by
  obtain ⟨⟨hrc, hrs, hfr, hlo, hws, hcw⟩, hcode, hini, hy, hlen, hl, hstt⟩ := cw
  have hK : vx_Back l R p e below s args y 3 8 (PreOf R mc ms Pc) (PostOf Qc mc ms free) (vx_Post XC mc ms free) := vx_backW (hh := hh) (bytes := bytes) (maxL := maxL) (ret := ret) hM hp.1 hrc hrs hfr hlo hws hcw (fun a' U hW => word_at hW (Or.inl (by first | rfl | simp [Cond.onTables, Cond.keeps, Cond.steady])) hini)
  obtain ⟨hx, hb, hml, ho, -⟩ := S
  intro T hT X
  rcases vx_callSX X hx (hh := hh) (bytes := bytes) (maxL := maxL) (ret := ret) ho hl hstt hini hcode hy hK hg (hsize.trans hml.symm) (argsL := As) (rest := rest) (fun sig h => hn.trans (hlen sig h)) hstack hW (by rw [hb]; exact hdg)
    (fun vm₁ hW₁ => ⟨hf.1, hf.2, hp.2 (T.setVm vm₁) hT hW₁⟩) with ⟨v, vm₁, ⟨U', l2, c2, s2⟩, hW₁, X', ⟨g', mk, t, L, e1, e2, hq, h1, hL, h2, h3⟩, st⟩ | ⟨q, vm₁, ⟨U', l2, c2, s2⟩, hW₁, X', ⟨g', mk, t, L, E, ce, e1, e2, hq, hce, hcv, hcl, h1, hL, h2, h3⟩, st⟩
  · dsimp only [Pt.U, Pt.locs, Pt.cells, Pt.slots] at X' e1 e2 h1 h2 h3 st
    subst h1; subst h2; subst h3
    exact Or.inl ⟨v, (T.setVm vm₁).calling g' mk As.toArray, t, U', L, hT, X', hL, e1, e2, hq, st⟩
  · dsimp only [Pt.U, Pt.locs, Pt.cells, Pt.slots] at X' e1 e2 h1 h2 h3 st hcl
    subst h1; subst h2; subst h3
    exact Or.inr ⟨q, (T.setVm vm₁).calling g' mk As.toArray, t, U', L, E, ce, hT, X', hL, e1, e2, hq, hce, hcv, vx_cls hW₁ hcl, st⟩
end
end VXH
theorem vx_ofWH {l : Launch} {y : MethodName} {ws ws' : List Cond} {rm : Room} {Pc : Array Value → State → Prop} {Qc : Array Value → State → Outcome → State → Prop} {XC : String → State → State → Prop} {mc ms : Nat} {free : Addr → Prop} {cc : ByteArray} {maxL : Nat} {ret : Option FieldType} {hh : List (Nat × Nat × Nat × Nat)}
    (hy : plainName y.cls = true) (hw : ws = Cond.codeWith y cc maxL ret hh :: ws')
    (body : ∀ p e s m args below meth c s₁, BodyLoose p l y (headSpec ws rm) cc maxL ret e s m args below meth c s₁ → c.maxLocals = maxL → Pc args s →
      W p l e (headSpec ws rm).room s m args below meth c s.heap [] 0 0 (vx_MQ below Qc XC args s mc ms free) (entryFrame m args maxL)) : vx_Met l y ws rm Pc Qc XC mc ms free := by
  refine MetFree.of_bodyS (code := cc) (maxLocals := maxL) (ret := ret) hy ?_ ?_
  · intro args s m h hn
    obtain ⟨m9, meth, c, hn9, h1, h2, h3, h4, -, h5, h6, -⟩ := Cond.codeWith_spec (atoms_spec (ws := ws) h _ (by rw [hw]; exact List.mem_cons_self))
    cases hn.symm.trans hn9
    exact ⟨meth, c, h1, h2, h3, h4, h5, h6⟩
  · intro p e s m args below meth c s₁ B hml hP _
    have hh0 : s₁.heap = s.heap := by rw [B.state]; rfl
    obtain ⟨t, a1, o, b1, b2, b3⟩ := body p e s m args below meth c s₁ B hml hP s₁ hh0 (Stand.of_body B)
    exact ⟨t, o, a1, b1, b2, b3⟩
/-! ===== END ===== -/
end
section
/-! ===== BEGIN printed: names, fields, word lists, decode rows ===== -/
def RX0 : String := "ChocolateMoulds$Bowl"
def TX0 : u_T := fun k => match k with
  | 0 => ("ChocolateMoulds$Bowl", "crystals", "LChocolateMoulds$Crystals;", true)
  | 1 => ("ChocolateMoulds$Bowl", "grams", "I", false)
  | _ => ("ChocolateMoulds$Bowl", "warmth", "I", false)
def tyX0 : Nat → FieldType := fun k => match k with
  | 0 => .object "ChocolateMoulds$Crystals"
  | 1 => .int
  | _ => .int
abbrev wsX00 : List Cond := u_ws RX0 TX0 3
theorem nmX0 : ∀ a, a < 3 → ∀ b, b < 3 → a ≠ b → (TX0 a).2.1 ≠ (TX0 b).2.1 := by decide +kernel
theorem tyX0_ok : ∀ k, k < 3 → parseFieldDescriptor (TX0 k).2.2.1 = some (tyX0 k) := by decide +kernel
abbrev cX0_init : ByteArray := prog_2_method_1_code
def yX0_init : MethodName := ⟨RX0, "<init>", "(I)V"⟩
abbrev cX0_takeIn : ByteArray := prog_2_method_2_code
def yX0_takeIn : MethodName := ⟨RX0, "takeIn", "(LChocolateMoulds$Bowl;)V"⟩
abbrev cX0_mixed : ByteArray := prog_2_method_3_code
def yX0_mixed : MethodName := ⟨RX0, "mixed", "(III)I"⟩
def RX1 : String := "ChocolateMoulds$Box"
def TX1 : u_T := fun k => match k with
  | 0 => ("ChocolateMoulds$Box", "squares", "I", true)
  | 1 => ("ChocolateMoulds$Box", "temper", "I", true)
  | 2 => ("ChocolateMoulds$Box", "isFilled", "Z", false)
  | 3 => ("ChocolateMoulds$Box", "slabTemper", "I", false)
  | _ => ("ChocolateMoulds$Box", "slabBloom", "I", false)
def tyX1 : Nat → FieldType := fun k => match k with
  | 0 => .int
  | 1 => .int
  | 2 => .boolean
  | 3 => .int
  | _ => .int
abbrev wsX10 : List Cond := u_ws RX1 TX1 5
theorem nmX1 : ∀ a, a < 5 → ∀ b, b < 5 → a ≠ b → (TX1 a).2.1 ≠ (TX1 b).2.1 := by decide +kernel
theorem tyX1_ok : ∀ k, k < 5 → parseFieldDescriptor (TX1 k).2.2.1 = some (tyX1 k) := by decide +kernel
abbrev cX1_init : ByteArray := prog_3_method_1_code
def yX1_init : MethodName := ⟨RX1, "<init>", "(II)V"⟩
abbrev cX1_suits : ByteArray := prog_3_method_2_code
def yX1_suits : MethodName := ⟨RX1, "suits", "(LChocolateMoulds$Slab;I)Z"⟩
abbrev cX1_take : ByteArray := prog_3_method_3_code
def yX1_take : MethodName := ⟨RX1, "take", "(LChocolateMoulds$Slab;)V"⟩
def RX2 : String := "ChocolateMoulds$Crystals"
def TX2 : u_T := fun k => match k with
  | _ => ("ChocolateMoulds$Crystals", "many", "[I", true)
def tyX2 : Nat → FieldType := fun k => match k with
  | _ => .array .int
abbrev wsX20 : List Cond := u_ws RX2 TX2 1
theorem nmX2 : ∀ a, a < 1 → ∀ b, b < 1 → a ≠ b → (TX2 a).2.1 ≠ (TX2 b).2.1 := by decide +kernel
theorem tyX2_ok : ∀ k, k < 1 → parseFieldDescriptor (TX2 k).2.2.1 = some (tyX2 k) := by decide +kernel
abbrev cX2_init : ByteArray := prog_4_method_1_code
def yX2_init : MethodName := ⟨RX2, "<init>", "()V"⟩
abbrev cX2_becomeLike : ByteArray := prog_4_method_2_code
def yX2_becomeLike : MethodName := ⟨RX2, "becomeLike", "(LChocolateMoulds$Crystals;)V"⟩
abbrev cX2_vanish : ByteArray := prog_4_method_3_code
def yX2_vanish : MethodName := ⟨RX2, "vanish", "()V"⟩
abbrev cX2_keepAt : ByteArray := prog_4_method_4_code
def yX2_keepAt : MethodName := ⟨RX2, "keepAt", "(II)V"⟩
abbrev cX2_halveWhatMelts : ByteArray := prog_4_method_5_code
def yX2_halveWhatMelts : MethodName := ⟨RX2, "halveWhatMelts", "(I)V"⟩
abbrev cX2_letGrow : ByteArray := prog_4_method_6_code
def yX2_letGrow : MethodName := ⟨RX2, "letGrow", "(I)V"⟩
abbrev cX2_meltingPoint : ByteArray := prog_4_method_7_code
def yX2_meltingPoint : MethodName := ⟨RX2, "meltingPoint", "(I)I"⟩
abbrev cX2_growingSort : ByteArray := prog_4_method_8_code
def yX2_growingSort : MethodName := ⟨RX2, "growingSort", "(I)I"⟩
abbrev cX2_increase : ByteArray := prog_4_method_9_code
def yX2_increase : MethodName := ⟨RX2, "increase", "(II)V"⟩
abbrev cX2_total : ByteArray := prog_4_method_10_code
def yX2_total : MethodName := ⟨RX2, "total", "()I"⟩
abbrev cX2_temper : ByteArray := prog_4_method_11_code
def yX2_temper : MethodName := ⟨RX2, "temper", "()I"⟩
def RX3 : String := "ChocolateMoulds$Slab"
def TX3 : u_T := fun k => match k with
  | 0 => ("ChocolateMoulds$Slab", "temper", "I", true)
  | 1 => ("ChocolateMoulds$Slab", "columns", "I", false)
  | 2 => ("ChocolateMoulds$Slab", "rows", "I", false)
  | 3 => ("ChocolateMoulds$Slab", "bloom", "I", false)
  | _ => ("ChocolateMoulds$Slab", "age", "I", false)
def tyX3 : Nat → FieldType := fun k => match k with
  | 0 => .int
  | 1 => .int
  | 2 => .int
  | 3 => .int
  | _ => .int
abbrev wsX30 : List Cond := u_ws RX3 TX3 5
theorem nmX3 : ∀ a, a < 5 → ∀ b, b < 5 → a ≠ b → (TX3 a).2.1 ≠ (TX3 b).2.1 := by decide +kernel
theorem tyX3_ok : ∀ k, k < 5 → parseFieldDescriptor (TX3 k).2.2.1 = some (tyX3 k) := by decide +kernel
abbrev cX3_init : ByteArray := prog_5_method_1_code
def yX3_init : MethodName := ⟨RX3, "<init>", "(III)V"⟩
abbrev cX3_squares : ByteArray := prog_5_method_2_code
def yX3_squares : MethodName := ⟨RX3, "squares", "()I"⟩
abbrev cX3_grams : ByteArray := prog_5_method_3_code
def yX3_grams : MethodName := ⟨RX3, "grams", "()I"⟩
abbrev cX3_isBloomed : ByteArray := prog_5_method_4_code
def yX3_isBloomed : MethodName := ⟨RX3, "isBloomed", "()Z"⟩
abbrev cX3_bloomBehindPolish : ByteArray := prog_5_method_5_code
def yX3_bloomBehindPolish : MethodName := ⟨RX3, "bloomBehindPolish", "()I"⟩
abbrev cX3_bloomOfADay : ByteArray := prog_5_method_6_code
def yX3_bloomOfADay : MethodName := ⟨RX3, "bloomOfADay", "(I)I"⟩
abbrev cX3_standFor : ByteArray := prog_5_method_7_code
def yX3_standFor : MethodName := ⟨RX3, "standFor", "(II)V"⟩
abbrev cX3_partBehind : ByteArray := prog_5_method_8_code
def yX3_partBehind : MethodName := ⟨RX3, "partBehind", "(IZ)LChocolateMoulds$Slab;"⟩
abbrev cX3_cutDownTo : ByteArray := prog_5_method_9_code
def yX3_cutDownTo : MethodName := ⟨RX3, "cutDownTo", "(IZ)V"⟩
def RX4 : String := "ChocolateMoulds"
def TX4 : u_T := fun k => match k with
  | 0 => ("ChocolateMoulds", "bowls", "[LChocolateMoulds$Bowl;", true)
  | 1 => ("ChocolateMoulds", "slabs", "[LChocolateMoulds$Slab;", true)
  | 2 => ("ChocolateMoulds", "boxes", "[LChocolateMoulds$Box;", true)
  | 3 => ("ChocolateMoulds", "bowlCount", "I", false)
  | 4 => ("ChocolateMoulds", "slabCount", "I", false)
  | 5 => ("ChocolateMoulds", "boxCount", "I", false)
  | 6 => ("ChocolateMoulds", "day", "I", false)
  | 7 => ("ChocolateMoulds", "firstTrial", "LChocolateMoulds$Crystals;", true)
  | 8 => ("ChocolateMoulds", "secondTrial", "LChocolateMoulds$Crystals;", true)
  | 9 => ("ChocolateMoulds", "slabForBox", "[I", true)
  | _ => ("ChocolateMoulds", "isPlanned", "[Z", true)
def tyX4 : Nat → FieldType := fun k => match k with
  | 0 => .array (.object "ChocolateMoulds$Bowl")
  | 1 => .array (.object "ChocolateMoulds$Slab")
  | 2 => .array (.object "ChocolateMoulds$Box")
  | 3 => .int
  | 4 => .int
  | 5 => .int
  | 6 => .int
  | 7 => .object "ChocolateMoulds$Crystals"
  | 8 => .object "ChocolateMoulds$Crystals"
  | 9 => .array .int
  | _ => .array .boolean
abbrev wsX40 : List Cond := u_ws RX4 TX4 11
theorem nmX4 : ∀ a, a < 11 → ∀ b, b < 11 → a ≠ b → (TX4 a).2.1 ≠ (TX4 b).2.1 := by decide +kernel
theorem tyX4_ok : ∀ k, k < 11 → parseFieldDescriptor (TX4 k).2.2.1 = some (tyX4 k) := by decide +kernel
abbrev cX4_init : ByteArray := prog_1_method_1_code
def yX4_init : MethodName := ⟨RX4, "<init>", "()V"⟩
abbrev cX4_bowl : ByteArray := prog_1_method_2_code
def yX4_bowl : MethodName := ⟨RX4, "bowl", "(I)I"⟩
abbrev cX4_warm : ByteArray := prog_1_method_3_code
def yX4_warm : MethodName := ⟨RX4, "warm", "(III)I"⟩
abbrev cX4_seed : ByteArray := prog_1_method_4_code
def yX4_seed : MethodName := ⟨RX4, "seed", "(II)I"⟩
abbrev cX4_pour : ByteArray := prog_1_method_5_code
def yX4_pour : MethodName := ⟨RX4, "pour", "(II)I"⟩
abbrev cX4_cast : ByteArray := prog_1_method_6_code
def yX4_cast : MethodName := ⟨RX4, "cast", "(III)I"⟩
abbrev cX4_polish : ByteArray := prog_1_method_7_code
def yX4_polish : MethodName := ⟨RX4, "polish", "(I)I"⟩
abbrev cX4_split : ByteArray := prog_1_method_8_code
def yX4_split : MethodName := ⟨RX4, "split", "(IIZ)I"⟩
abbrev cX4_melt : ByteArray := prog_1_method_9_code
def yX4_melt : MethodName := ⟨RX4, "melt", "(II)I"⟩
abbrev cX4_box : ByteArray := prog_1_method_10_code
def yX4_box : MethodName := ⟨RX4, "box", "(II)I"⟩
abbrev cX4_fill : ByteArray := prog_1_method_11_code
def yX4_fill : MethodName := ⟨RX4, "fill", "()I"⟩
abbrev cX4_pass : ByteArray := prog_1_method_12_code
def yX4_pass : MethodName := ⟨RX4, "pass", "(II)I"⟩
abbrev cX4_told : ByteArray := prog_1_method_13_code
def yX4_told : MethodName := ⟨RX4, "told", "(II)I"⟩
abbrev cX4_about : ByteArray := prog_1_method_14_code
def yX4_about : MethodName := ⟨RX4, "about", "(II)I"⟩
abbrev cX4_order : ByteArray := prog_1_method_15_code
def yX4_order : MethodName := ⟨RX4, "order", "(II)I"⟩
abbrev cX4_count : ByteArray := prog_1_method_16_code
def yX4_count : MethodName := ⟨RX4, "count", "(I)I"⟩
abbrev cX4_would : ByteArray := prog_1_method_17_code
def yX4_would : MethodName := ⟨RX4, "would", "(III)I"⟩
abbrev cX4_best : ByteArray := prog_1_method_18_code
def yX4_best : MethodName := ⟨RX4, "best", "(III)I"⟩
abbrev cX4_until : ByteArray := prog_1_method_19_code
def yX4_until : MethodName := ⟨RX4, "until", "(II)I"⟩
abbrev cX4_advise : ByteArray := prog_1_method_20_code
def yX4_advise : MethodName := ⟨RX4, "advise", "()I"⟩
abbrev cX4_mean : ByteArray := prog_1_method_21_code
def yX4_mean : MethodName := ⟨RX4, "mean", "()D"⟩
abbrev cX4_digest : ByteArray := prog_1_method_22_code
def yX4_digest : MethodName := ⟨RX4, "digest", "()J"⟩
abbrev cX4_checkWarming : ByteArray := prog_1_method_23_code
def yX4_checkWarming : MethodName := ⟨RX4, "checkWarming", "(II)V"⟩
abbrev cX4_checkRoom : ByteArray := prog_1_method_24_code
def yX4_checkRoom : MethodName := ⟨RX4, "checkRoom", "(I)V"⟩
abbrev cX4_checkWhat : ByteArray := prog_1_method_25_code
def yX4_checkWhat : MethodName := ⟨RX4, "checkWhat", "(II)V"⟩
abbrev cX4_bowlAt : ByteArray := prog_1_method_26_code
def yX4_bowlAt : MethodName := ⟨RX4, "bowlAt", "(I)LChocolateMoulds$Bowl;"⟩
abbrev cX4_slabAt : ByteArray := prog_1_method_27_code
def yX4_slabAt : MethodName := ⟨RX4, "slabAt", "(I)LChocolateMoulds$Slab;"⟩
abbrev cX4_findSlab : ByteArray := prog_1_method_28_code
def yX4_findSlab : MethodName := ⟨RX4, "findSlab", "(I)LChocolateMoulds$Slab;"⟩
abbrev cX4_boxAt : ByteArray := prog_1_method_29_code
def yX4_boxAt : MethodName := ⟨RX4, "boxAt", "(I)LChocolateMoulds$Box;"⟩
abbrev cX4_addSlab : ByteArray := prog_1_method_30_code
def yX4_addSlab : MethodName := ⟨RX4, "addSlab", "(LChocolateMoulds$Slab;)I"⟩
abbrev cX4_closeGaps : ByteArray := prog_1_method_31_code
def yX4_closeGaps : MethodName := ⟨RX4, "closeGaps", "()V"⟩
abbrev cX4_filledBoxes : ByteArray := prog_1_method_32_code
def yX4_filledBoxes : MethodName := ⟨RX4, "filledBoxes", "()I"⟩
abbrev cX4_gramsOfBowls : ByteArray := prog_1_method_33_code
def yX4_gramsOfBowls : MethodName := ⟨RX4, "gramsOfBowls", "()I"⟩
abbrev cX4_squaresOfSlabs : ByteArray := prog_1_method_34_code
def yX4_squaresOfSlabs : MethodName := ⟨RX4, "squaresOfSlabs", "()I"⟩
abbrev cX4_bloomedSlabs : ByteArray := prog_1_method_35_code
def yX4_bloomedSlabs : MethodName := ⟨RX4, "bloomedSlabs", "()I"⟩
abbrev cX4_firstEmptyBoxFor : ByteArray := prog_1_method_36_code
def yX4_firstEmptyBoxFor : MethodName := ⟨RX4, "firstEmptyBoxFor", "(LChocolateMoulds$Slab;)I"⟩
abbrev cX4_planFilling : ByteArray := prog_1_method_37_code
def yX4_planFilling : MethodName := ⟨RX4, "planFilling", "(I)I"⟩
abbrev cX4_planSlab : ByteArray := prog_1_method_38_code
def yX4_planSlab : MethodName := ⟨RX4, "planSlab", "(LChocolateMoulds$Box;I)I"⟩
abbrev cX4_moveIntoBox : ByteArray := prog_1_method_39_code
def yX4_moveIntoBox : MethodName := ⟨RX4, "moveIntoBox", "(ILChocolateMoulds$Box;)V"⟩
def RX5 : String := "ChocolateMouldsModel"
def TX5 : u_T := fun k => match k with
  | 0 => ("ChocolateMouldsModel", "thrown", "I", false)
  | 1 => ("ChocolateMouldsModel", "day", "I", false)
  | 2 => ("ChocolateMouldsModel", "bowls", "I", false)
  | 3 => ("ChocolateMouldsModel", "slabs", "I", false)
  | 4 => ("ChocolateMouldsModel", "boxes", "I", false)
  | 5 => ("ChocolateMouldsModel", "bowlRow", "[I", true)
  | 6 => ("ChocolateMouldsModel", "slabRow", "[I", true)
  | 7 => ("ChocolateMouldsModel", "boxRow", "[I", true)
  | 8 => ("ChocolateMouldsModel", "keptSlabs", "[I", true)
  | 9 => ("ChocolateMouldsModel", "keptBoxes", "[I", true)
  | 10 => ("ChocolateMouldsModel", "tried", "[I", true)
  | _ => ("ChocolateMouldsModel", "first", "[I", true)
def tyX5 : Nat → FieldType := fun k => match k with
  | 0 => .int
  | 1 => .int
  | 2 => .int
  | 3 => .int
  | 4 => .int
  | 5 => .array .int
  | 6 => .array .int
  | 7 => .array .int
  | 8 => .array .int
  | 9 => .array .int
  | 10 => .array .int
  | _ => .array .int
abbrev wsX50 : List Cond := u_ws RX5 TX5 12
theorem nmX5 : ∀ a, a < 12 → ∀ b, b < 12 → a ≠ b → (TX5 a).2.1 ≠ (TX5 b).2.1 := by decide +kernel
theorem tyX5_ok : ∀ k, k < 12 → parseFieldDescriptor (TX5 k).2.2.1 = some (tyX5 k) := by decide +kernel
abbrev cX5_init : ByteArray := prog_7_method_1_code
def yX5_init : MethodName := ⟨RX5, "<init>", "()V"⟩
abbrev cX5_thrown : ByteArray := prog_7_method_2_code
def yX5_thrown : MethodName := ⟨RX5, "thrown", "()I"⟩
abbrev cX5_fail : ByteArray := prog_7_method_3_code
def yX5_fail : MethodName := ⟨RX5, "fail", "(I)I"⟩
abbrev cX5_isIn : ByteArray := prog_7_method_4_code
def yX5_isIn : MethodName := ⟨RX5, "isIn", "(III)Z"⟩
abbrev cX5_isBowl : ByteArray := prog_7_method_5_code
def yX5_isBowl : MethodName := ⟨RX5, "isBowl", "(I)Z"⟩
abbrev cX5_isSlab : ByteArray := prog_7_method_6_code
def yX5_isSlab : MethodName := ⟨RX5, "isSlab", "(I)Z"⟩
abbrev cX5_bo : ByteArray := prog_7_method_7_code
def yX5_bo : MethodName := ⟨RX5, "bo", "(II)I"⟩
abbrev cX5_letBowl : ByteArray := prog_7_method_8_code
def yX5_letBowl : MethodName := ⟨RX5, "letBowl", "(III)V"⟩
abbrev cX5_sl : ByteArray := prog_7_method_9_code
def yX5_sl : MethodName := ⟨RX5, "sl", "(II)I"⟩
abbrev cX5_letSlab : ByteArray := prog_7_method_10_code
def yX5_letSlab : MethodName := ⟨RX5, "letSlab", "(III)V"⟩
abbrev cX5_bx : ByteArray := prog_7_method_11_code
def yX5_bx : MethodName := ⟨RX5, "bx", "(II)I"⟩
abbrev cX5_meltsAt : ByteArray := prog_7_method_12_code
def yX5_meltsAt : MethodName := ⟨RX5, "meltsAt", "(I)I"⟩
abbrev cX5_sum : ByteArray := prog_7_method_13_code
def yX5_sum : MethodName := ⟨RX5, "sum", "([I)I"⟩
abbrev cX5_turn : ByteArray := prog_7_method_14_code
def yX5_turn : MethodName := ⟨RX5, "turn", "([II)V"⟩
abbrev cX5_turns : ByteArray := prog_7_method_15_code
def yX5_turns : MethodName := ⟨RX5, "turns", "([III)V"⟩
abbrev cX5_temper : ByteArray := prog_7_method_16_code
def yX5_temper : MethodName := ⟨RX5, "temper", "([I)I"⟩
abbrev cX5_look : ByteArray := prog_7_method_17_code
def yX5_look : MethodName := ⟨RX5, "look", "(I)V"⟩
abbrev cX5_temperOf : ByteArray := prog_7_method_18_code
def yX5_temperOf : MethodName := ⟨RX5, "temperOf", "(I)I"⟩
abbrev cX5_bowl : ByteArray := prog_7_method_19_code
def yX5_bowl : MethodName := ⟨RX5, "bowl", "(I)I"⟩
abbrev cX5_isWarmth : ByteArray := prog_7_method_20_code
def yX5_isWarmth : MethodName := ⟨RX5, "isWarmth", "(II)Z"⟩
abbrev cX5_warm : ByteArray := prog_7_method_21_code
def yX5_warm : MethodName := ⟨RX5, "warm", "(III)I"⟩
abbrev cX5_seed : ByteArray := prog_7_method_22_code
def yX5_seed : MethodName := ⟨RX5, "seed", "(II)I"⟩
abbrev cX5_pour : ByteArray := prog_7_method_23_code
def yX5_pour : MethodName := ⟨RX5, "pour", "(II)I"⟩
abbrev cX5_put : ByteArray := prog_7_method_24_code
def yX5_put : MethodName := ⟨RX5, "put", "(IIIIII)V"⟩
abbrev cX5_squares : ByteArray := prog_7_method_25_code
def yX5_squares : MethodName := ⟨RX5, "squares", "(I)I"⟩
abbrev cX5_away : ByteArray := prog_7_method_26_code
def yX5_away : MethodName := ⟨RX5, "away", "(I)V"⟩
abbrev cX5_cast : ByteArray := prog_7_method_27_code
def yX5_cast : MethodName := ⟨RX5, "cast", "(III)I"⟩
abbrev cX5_polish : ByteArray := prog_7_method_28_code
def yX5_polish : MethodName := ⟨RX5, "polish", "(I)I"⟩
abbrev cX5_split : ByteArray := prog_7_method_29_code
def yX5_split : MethodName := ⟨RX5, "split", "(IIZ)I"⟩
abbrev cX5_melt : ByteArray := prog_7_method_30_code
def yX5_melt : MethodName := ⟨RX5, "melt", "(II)I"⟩
abbrev cX5_box : ByteArray := prog_7_method_31_code
def yX5_box : MethodName := ⟨RX5, "box", "(II)I"⟩
abbrev cX5_fits : ByteArray := prog_7_method_32_code
def yX5_fits : MethodName := ⟨RX5, "fits", "(II)Z"⟩
abbrev cX5_fillOne : ByteArray := prog_7_method_33_code
def yX5_fillOne : MethodName := ⟨RX5, "fillOne", "(I)Z"⟩
abbrev cX5_fillAll : ByteArray := prog_7_method_34_code
def yX5_fillAll : MethodName := ⟨RX5, "fillAll", "()I"⟩
abbrev cX5_fill : ByteArray := prog_7_method_35_code
def yX5_fill : MethodName := ⟨RX5, "fill", "()I"⟩
abbrev cX5_more : ByteArray := prog_7_method_36_code
def yX5_more : MethodName := ⟨RX5, "more", "(II)I"⟩
abbrev cX5_bloomed : ByteArray := prog_7_method_37_code
def yX5_bloomed : MethodName := ⟨RX5, "bloomed", "()I"⟩
abbrev cX5_pass : ByteArray := prog_7_method_38_code
def yX5_pass : MethodName := ⟨RX5, "pass", "(II)I"⟩
abbrev cX5_bowlTold : ByteArray := prog_7_method_39_code
def yX5_bowlTold : MethodName := ⟨RX5, "bowlTold", "(II)I"⟩
abbrev cX5_told : ByteArray := prog_7_method_40_code
def yX5_told : MethodName := ⟨RX5, "told", "(II)I"⟩
abbrev cX5_slabTold : ByteArray := prog_7_method_41_code
def yX5_slabTold : MethodName := ⟨RX5, "slabTold", "(II)I"⟩
abbrev cX5_about : ByteArray := prog_7_method_42_code
def yX5_about : MethodName := ⟨RX5, "about", "(II)I"⟩
abbrev cX5_order : ByteArray := prog_7_method_43_code
def yX5_order : MethodName := ⟨RX5, "order", "(II)I"⟩
abbrev cX5_counted : ByteArray := prog_7_method_44_code
def yX5_counted : MethodName := ⟨RX5, "counted", "(I)I"⟩
abbrev cX5_count : ByteArray := prog_7_method_45_code
def yX5_count : MethodName := ⟨RX5, "count", "(I)I"⟩
abbrev cX5_would : ByteArray := prog_7_method_46_code
def yX5_would : MethodName := ⟨RX5, "would", "(III)I"⟩
abbrev cX5_best : ByteArray := prog_7_method_47_code
def yX5_best : MethodName := ⟨RX5, "best", "(III)I"⟩
abbrev cX5_until : ByteArray := prog_7_method_48_code
def yX5_until : MethodName := ⟨RX5, "until", "(II)I"⟩
abbrev cX5_filledBy : ByteArray := prog_7_method_49_code
def yX5_filledBy : MethodName := ⟨RX5, "filledBy", "(I)I"⟩
abbrev cX5_advise : ByteArray := prog_7_method_50_code
def yX5_advise : MethodName := ⟨RX5, "advise", "()I"⟩
abbrev cX5_mean : ByteArray := prog_7_method_51_code
def yX5_mean : MethodName := ⟨RX5, "mean", "()D"⟩
abbrev cX5_digest : ByteArray := prog_7_method_52_code
def yX5_digest : MethodName := ⟨RX5, "digest", "()J"⟩
def RJ9 : String := "java/lang/Math"
def TJ9 : u_T := fun k => match k with
  | _ => ("", "", "", false)
def tyJ9 : Nat → FieldType := fun k => match k with
  | _ => .int
abbrev wsJ90 : List Cond := u_ws RJ9 TJ9 0
theorem nmJ9 : ∀ a, a < 0 → ∀ b, b < 0 → a ≠ b → (TJ9 a).2.1 ≠ (TJ9 b).2.1 := by decide +kernel
theorem tyJ9_ok : ∀ k, k < 0 → parseFieldDescriptor (TJ9 k).2.2.1 = some (tyJ9 k) := by decide +kernel
abbrev cJ9_max_7cf53 : ByteArray := prog_12_method_65_code
def yJ9_max_7cf53 : MethodName := ⟨RJ9, "max", "(II)I"⟩
abbrev cJ9_min_7cf53 : ByteArray := prog_12_method_69_code
def yJ9_min_7cf53 : MethodName := ⟨RJ9, "min", "(II)I"⟩
def RJ0 : String := "java/lang/String"
def TJ0 : u_T := fun k => match k with
  | _ => ("", "", "", false)
def tyJ0 : Nat → FieldType := fun k => match k with
  | _ => .int
abbrev wsJ00 : List Cond := u_ws RJ0 TJ0 0
theorem nmJ0 : ∀ a, a < 0 → ∀ b, b < 0 → a ≠ b → (TJ0 a).2.1 ≠ (TJ0 b).2.1 := by decide +kernel
theorem tyJ0_ok : ∀ k, k < 0 → parseFieldDescriptor (TJ0 k).2.2.1 = some (tyJ0 k) := by decide +kernel
def RJ10 : String := "java/lang/System"
def TJ10 : u_T := fun k => match k with
  | _ => ("", "", "", false)
def tyJ10 : Nat → FieldType := fun k => match k with
  | _ => .int
abbrev wsJ100 : List Cond := u_ws RJ10 TJ10 0
theorem nmJ10 : ∀ a, a < 0 → ∀ b, b < 0 → a ≠ b → (TJ10 a).2.1 ≠ (TJ10 b).2.1 := by decide +kernel
theorem tyJ10_ok : ∀ k, k < 0 → parseFieldDescriptor (TJ10 k).2.2.1 = some (tyJ10 k) := by decide +kernel
def RL : String := "ChocolateMouldsLaw"
abbrev cL_bowl : ByteArray := method_3_code
def yL_bowl : MethodName := ⟨RL, "bowl", "(LChocolateMoulds;I[J)I"⟩
abbrev cL_warm : ByteArray := method_4_code
def yL_warm : MethodName := ⟨RL, "warm", "(LChocolateMoulds;III[J)I"⟩
abbrev cL_seed : ByteArray := method_5_code
def yL_seed : MethodName := ⟨RL, "seed", "(LChocolateMoulds;II[J)I"⟩
abbrev cL_pour : ByteArray := method_6_code
def yL_pour : MethodName := ⟨RL, "pour", "(LChocolateMoulds;II[J)I"⟩
abbrev cL_cast : ByteArray := method_7_code
def yL_cast : MethodName := ⟨RL, "cast", "(LChocolateMoulds;III[J)I"⟩
abbrev cL_polish : ByteArray := method_8_code
def yL_polish : MethodName := ⟨RL, "polish", "(LChocolateMoulds;I[J)I"⟩
abbrev cL_split : ByteArray := method_9_code
def yL_split : MethodName := ⟨RL, "split", "(LChocolateMoulds;IIZ[J)I"⟩
abbrev cL_melt : ByteArray := method_10_code
def yL_melt : MethodName := ⟨RL, "melt", "(LChocolateMoulds;II[J)I"⟩
abbrev cL_box : ByteArray := method_11_code
def yL_box : MethodName := ⟨RL, "box", "(LChocolateMoulds;II[J)I"⟩
abbrev cL_pass : ByteArray := method_12_code
def yL_pass : MethodName := ⟨RL, "pass", "(LChocolateMoulds;II[J)I"⟩
abbrev cL_told : ByteArray := method_13_code
def yL_told : MethodName := ⟨RL, "told", "(LChocolateMoulds;II[J)I"⟩
abbrev cL_about : ByteArray := method_14_code
def yL_about : MethodName := ⟨RL, "about", "(LChocolateMoulds;II[J)I"⟩
abbrev cL_order : ByteArray := method_15_code
def yL_order : MethodName := ⟨RL, "order", "(LChocolateMoulds;II[J)I"⟩
abbrev cL_count : ByteArray := method_16_code
def yL_count : MethodName := ⟨RL, "count", "(LChocolateMoulds;I[J)I"⟩
abbrev cL_would : ByteArray := method_17_code
def yL_would : MethodName := ⟨RL, "would", "(LChocolateMoulds;III[J)I"⟩
abbrev cL_best : ByteArray := method_18_code
def yL_best : MethodName := ⟨RL, "best", "(LChocolateMoulds;III[J)I"⟩
abbrev cL_until : ByteArray := method_19_code
def yL_until : MethodName := ⟨RL, "until", "(LChocolateMoulds;II[J)I"⟩
abbrev cL_law : ByteArray := code
def yL_law : MethodName := ⟨RL, "law", "([I)Z"⟩
theorem wsL_law_x0 : ∀ w ∈ (vx_atS RX4 49 "java/lang/IllegalArgumentException" ["java/lang/RuntimeException", "java/lang/Exception"]).filter goodWord, w ∈ lw_tbl := by decide +kernel
theorem wsL_law_x1 : ∀ w ∈ (vx_atS RX4 60 "java/lang/IllegalStateException" ["java/lang/RuntimeException", "java/lang/Exception"]).filter goodWord, w ∈ lw_tbl := by decide +kernel
theorem wsL_law_x2 : ∀ w ∈ (vx_atS RX4 135 "java/lang/IndexOutOfBoundsException" ["java/lang/RuntimeException", "java/lang/Exception"]).filter goodWord, w ∈ lw_tbl := by decide +kernel
abbrev vwCl : List vw_C := [(RX0, TX0, 3), (RX1, TX1, 5), (RX2, TX2, 1), (RX3, TX3, 5), (RX4, TX4, 11), (RX5, TX5, 12)]
end
section
theorem dX0_init_0 : decode cX0_init 0 = .ok (.aload_n 0, 1) := by decide +kernel
theorem dX0_init_1 : decode cX0_init 1 = .ok (.invokespecial 1, 3) := by decide +kernel
theorem dX0_init_4 : decode cX0_init 4 = .ok (.aload_n 0, 1) := by decide +kernel
theorem dX0_init_5 : decode cX0_init 5 = .ok (.new 7, 3) := by decide +kernel
theorem dX0_init_8 : decode cX0_init 8 = .ok (.dup, 1) := by decide +kernel
theorem dX0_init_9 : decode cX0_init 9 = .ok (.invokespecial 9, 3) := by decide +kernel
theorem dX0_init_12 : decode cX0_init 12 = .ok (.putfield 10, 3) := by decide +kernel
theorem dX0_init_15 : decode cX0_init 15 = .ok (.aload_n 0, 1) := by decide +kernel
theorem dX0_init_16 : decode cX0_init 16 = .ok (.iload_n 1, 1) := by decide +kernel
theorem dX0_init_17 : decode cX0_init 17 = .ok (.putfield 16, 3) := by decide +kernel
theorem dX0_init_20 : decode cX0_init 20 = .ok (.aload_n 0, 1) := by decide +kernel
theorem dX0_init_21 : decode cX0_init 21 = .ok (.bipush 20, 2) := by decide +kernel
theorem dX0_init_23 : decode cX0_init 23 = .ok (.putfield 20, 3) := by decide +kernel
theorem dX0_init_26 : decode cX0_init 26 = .ok (.return_, 1) := by decide +kernel
theorem dX0_takeIn_0 : decode cX0_takeIn 0 = .ok (.iconst 1, 1) := by decide +kernel
theorem dX0_takeIn_1 : decode cX0_takeIn 1 = .ok (.istore_n 2, 1) := by decide +kernel
theorem dX0_takeIn_2 : decode cX0_takeIn 2 = .ok (.iload_n 2, 1) := by decide +kernel
theorem dX0_takeIn_3 : decode cX0_takeIn 3 = .ok (.iconst 5, 1) := by decide +kernel
theorem dX0_takeIn_4 : decode cX0_takeIn 4 = .ok (.if_icmp .gt 44, 3) := by decide +kernel
theorem dX0_takeIn_7 : decode cX0_takeIn 7 = .ok (.aload_n 0, 1) := by decide +kernel
theorem dX0_takeIn_8 : decode cX0_takeIn 8 = .ok (.getfield 10, 3) := by decide +kernel
theorem dX0_takeIn_11 : decode cX0_takeIn 11 = .ok (.getfield 23, 3) := by decide +kernel
theorem dX0_takeIn_14 : decode cX0_takeIn 14 = .ok (.iload_n 2, 1) := by decide +kernel
theorem dX0_takeIn_15 : decode cX0_takeIn 15 = .ok (.aload_n 0, 1) := by decide +kernel
theorem dX0_takeIn_16 : decode cX0_takeIn 16 = .ok (.aload_n 0, 1) := by decide +kernel
theorem dX0_takeIn_17 : decode cX0_takeIn 17 = .ok (.getfield 10, 3) := by decide +kernel
theorem dX0_takeIn_20 : decode cX0_takeIn 20 = .ok (.getfield 23, 3) := by decide +kernel
theorem dX0_takeIn_23 : decode cX0_takeIn 23 = .ok (.iload_n 2, 1) := by decide +kernel
theorem dX0_takeIn_24 : decode cX0_takeIn 24 = .ok (.iaload, 1) := by decide +kernel
theorem dX0_takeIn_25 : decode cX0_takeIn 25 = .ok (.aload_n 1, 1) := by decide +kernel
theorem dX0_takeIn_26 : decode cX0_takeIn 26 = .ok (.getfield 10, 3) := by decide +kernel
theorem dX0_takeIn_29 : decode cX0_takeIn 29 = .ok (.getfield 23, 3) := by decide +kernel
theorem dX0_takeIn_32 : decode cX0_takeIn 32 = .ok (.iload_n 2, 1) := by decide +kernel
theorem dX0_takeIn_33 : decode cX0_takeIn 33 = .ok (.iaload, 1) := by decide +kernel
theorem dX0_takeIn_34 : decode cX0_takeIn 34 = .ok (.aload_n 1, 1) := by decide +kernel
theorem dX0_takeIn_35 : decode cX0_takeIn 35 = .ok (.getfield 16, 3) := by decide +kernel
theorem dX0_takeIn_38 : decode cX0_takeIn 38 = .ok (.invokevirtual 27, 3) := by decide +kernel
theorem dX0_takeIn_41 : decode cX0_takeIn 41 = .ok (.iastore, 1) := by decide +kernel
theorem dX0_takeIn_42 : decode cX0_takeIn 42 = .ok (.iinc 2 1, 3) := by decide +kernel
theorem dX0_takeIn_45 : decode cX0_takeIn 45 = .ok (.goto (-43), 3) := by decide +kernel
theorem dX0_takeIn_48 : decode cX0_takeIn 48 = .ok (.aload_n 0, 1) := by decide +kernel
theorem dX0_takeIn_49 : decode cX0_takeIn 49 = .ok (.aload_n 0, 1) := by decide +kernel
theorem dX0_takeIn_50 : decode cX0_takeIn 50 = .ok (.aload_n 0, 1) := by decide +kernel
theorem dX0_takeIn_51 : decode cX0_takeIn 51 = .ok (.getfield 20, 3) := by decide +kernel
theorem dX0_takeIn_54 : decode cX0_takeIn 54 = .ok (.aload_n 1, 1) := by decide +kernel
theorem dX0_takeIn_55 : decode cX0_takeIn 55 = .ok (.getfield 20, 3) := by decide +kernel
theorem dX0_takeIn_58 : decode cX0_takeIn 58 = .ok (.aload_n 1, 1) := by decide +kernel
theorem dX0_takeIn_59 : decode cX0_takeIn 59 = .ok (.getfield 16, 3) := by decide +kernel
theorem dX0_takeIn_62 : decode cX0_takeIn 62 = .ok (.invokevirtual 27, 3) := by decide +kernel
theorem dX0_takeIn_65 : decode cX0_takeIn 65 = .ok (.putfield 20, 3) := by decide +kernel
theorem dX0_takeIn_68 : decode cX0_takeIn 68 = .ok (.aload_n 0, 1) := by decide +kernel
theorem dX0_takeIn_69 : decode cX0_takeIn 69 = .ok (.dup, 1) := by decide +kernel
theorem dX0_takeIn_70 : decode cX0_takeIn 70 = .ok (.getfield 16, 3) := by decide +kernel
theorem dX0_takeIn_73 : decode cX0_takeIn 73 = .ok (.aload_n 1, 1) := by decide +kernel
theorem dX0_takeIn_74 : decode cX0_takeIn 74 = .ok (.getfield 16, 3) := by decide +kernel
theorem dX0_takeIn_77 : decode cX0_takeIn 77 = .ok (.iadd, 1) := by decide +kernel
theorem dX0_takeIn_78 : decode cX0_takeIn 78 = .ok (.putfield 16, 3) := by decide +kernel
theorem dX0_takeIn_81 : decode cX0_takeIn 81 = .ok (.aload_n 1, 1) := by decide +kernel
theorem dX0_takeIn_82 : decode cX0_takeIn 82 = .ok (.iconst 0, 1) := by decide +kernel
theorem dX0_takeIn_83 : decode cX0_takeIn 83 = .ok (.putfield 16, 3) := by decide +kernel
theorem dX0_takeIn_86 : decode cX0_takeIn 86 = .ok (.aload_n 1, 1) := by decide +kernel
theorem dX0_takeIn_87 : decode cX0_takeIn 87 = .ok (.getfield 10, 3) := by decide +kernel
theorem dX0_takeIn_90 : decode cX0_takeIn 90 = .ok (.invokevirtual 31, 3) := by decide +kernel
theorem dX0_takeIn_93 : decode cX0_takeIn 93 = .ok (.return_, 1) := by decide +kernel
theorem dX0_mixed_0 : decode cX0_mixed 0 = .ok (.aload_n 0, 1) := by decide +kernel
theorem dX0_mixed_1 : decode cX0_mixed 1 = .ok (.getfield 16, 3) := by decide +kernel
theorem dX0_mixed_4 : decode cX0_mixed 4 = .ok (.iload_n 3, 1) := by decide +kernel
theorem dX0_mixed_5 : decode cX0_mixed 5 = .ok (.iadd, 1) := by decide +kernel
theorem dX0_mixed_6 : decode cX0_mixed 6 = .ok (.istore 4, 2) := by decide +kernel
theorem dX0_mixed_8 : decode cX0_mixed 8 = .ok (.iload 4, 2) := by decide +kernel
theorem dX0_mixed_10 : decode cX0_mixed 10 = .ok (.ifCond .gt 7, 3) := by decide +kernel
theorem dX0_mixed_13 : decode cX0_mixed 13 = .ok (.iload_n 1, 1) := by decide +kernel
theorem dX0_mixed_14 : decode cX0_mixed 14 = .ok (.goto 16, 3) := by decide +kernel
theorem dX0_mixed_17 : decode cX0_mixed 17 = .ok (.iload_n 1, 1) := by decide +kernel
theorem dX0_mixed_18 : decode cX0_mixed 18 = .ok (.aload_n 0, 1) := by decide +kernel
theorem dX0_mixed_19 : decode cX0_mixed 19 = .ok (.getfield 16, 3) := by decide +kernel
theorem dX0_mixed_22 : decode cX0_mixed 22 = .ok (.imul, 1) := by decide +kernel
theorem dX0_mixed_23 : decode cX0_mixed 23 = .ok (.iload_n 2, 1) := by decide +kernel
theorem dX0_mixed_24 : decode cX0_mixed 24 = .ok (.iload_n 3, 1) := by decide +kernel
theorem dX0_mixed_25 : decode cX0_mixed 25 = .ok (.imul, 1) := by decide +kernel
theorem dX0_mixed_26 : decode cX0_mixed 26 = .ok (.iadd, 1) := by decide +kernel
theorem dX0_mixed_27 : decode cX0_mixed 27 = .ok (.iload 4, 2) := by decide +kernel
theorem dX0_mixed_29 : decode cX0_mixed 29 = .ok (.idiv, 1) := by decide +kernel
theorem dX0_mixed_30 : decode cX0_mixed 30 = .ok (.ireturn, 1) := by decide +kernel
theorem dX1_init_0 : decode cX1_init 0 = .ok (.aload_n 0, 1) := by decide +kernel
theorem dX1_init_1 : decode cX1_init 1 = .ok (.invokespecial 3, 3) := by decide +kernel
theorem dX1_init_4 : decode cX1_init 4 = .ok (.aload_n 0, 1) := by decide +kernel
theorem dX1_init_5 : decode cX1_init 5 = .ok (.iload_n 1, 1) := by decide +kernel
theorem dX1_init_6 : decode cX1_init 6 = .ok (.putfield 9, 3) := by decide +kernel
theorem dX1_init_9 : decode cX1_init 9 = .ok (.aload_n 0, 1) := by decide +kernel
theorem dX1_init_10 : decode cX1_init 10 = .ok (.iload_n 2, 1) := by decide +kernel
theorem dX1_init_11 : decode cX1_init 11 = .ok (.putfield 15, 3) := by decide +kernel
theorem dX1_init_14 : decode cX1_init 14 = .ok (.aload_n 0, 1) := by decide +kernel
theorem dX1_init_15 : decode cX1_init 15 = .ok (.iconst (-1), 1) := by decide +kernel
theorem dX1_init_16 : decode cX1_init 16 = .ok (.putfield 18, 3) := by decide +kernel
theorem dX1_init_19 : decode cX1_init 19 = .ok (.aload_n 0, 1) := by decide +kernel
theorem dX1_init_20 : decode cX1_init 20 = .ok (.iconst (-1), 1) := by decide +kernel
theorem dX1_init_21 : decode cX1_init 21 = .ok (.putfield 21, 3) := by decide +kernel
theorem dX1_init_24 : decode cX1_init 24 = .ok (.return_, 1) := by decide +kernel
theorem dX1_suits_0 : decode cX1_suits 0 = .ok (.aload_n 1, 1) := by decide +kernel
theorem dX1_suits_1 : decode cX1_suits 1 = .ok (.invokevirtual 24, 3) := by decide +kernel
theorem dX1_suits_4 : decode cX1_suits 4 = .ok (.aload_n 0, 1) := by decide +kernel
theorem dX1_suits_5 : decode cX1_suits 5 = .ok (.getfield 9, 3) := by decide +kernel
theorem dX1_suits_8 : decode cX1_suits 8 = .ok (.if_icmp .ne 24, 3) := by decide +kernel
theorem dX1_suits_11 : decode cX1_suits 11 = .ok (.aload_n 1, 1) := by decide +kernel
theorem dX1_suits_12 : decode cX1_suits 12 = .ok (.getfield 29, 3) := by decide +kernel
theorem dX1_suits_15 : decode cX1_suits 15 = .ok (.aload_n 0, 1) := by decide +kernel
theorem dX1_suits_16 : decode cX1_suits 16 = .ok (.getfield 15, 3) := by decide +kernel
theorem dX1_suits_19 : decode cX1_suits 19 = .ok (.if_icmp .lt 13, 3) := by decide +kernel
theorem dX1_suits_22 : decode cX1_suits 22 = .ok (.iload_n 2, 1) := by decide +kernel
theorem dX1_suits_23 : decode cX1_suits 23 = .ok (.bipush 20, 2) := by decide +kernel
theorem dX1_suits_25 : decode cX1_suits 25 = .ok (.if_icmp .gt 7, 3) := by decide +kernel
theorem dX1_suits_28 : decode cX1_suits 28 = .ok (.iconst 1, 1) := by decide +kernel
theorem dX1_suits_29 : decode cX1_suits 29 = .ok (.goto 4, 3) := by decide +kernel
theorem dX1_suits_32 : decode cX1_suits 32 = .ok (.iconst 0, 1) := by decide +kernel
theorem dX1_suits_33 : decode cX1_suits 33 = .ok (.ireturn, 1) := by decide +kernel
theorem dX1_take_0 : decode cX1_take 0 = .ok (.aload_n 0, 1) := by decide +kernel
theorem dX1_take_1 : decode cX1_take 1 = .ok (.iconst 1, 1) := by decide +kernel
theorem dX1_take_2 : decode cX1_take 2 = .ok (.putfield 30, 3) := by decide +kernel
theorem dX1_take_5 : decode cX1_take 5 = .ok (.aload_n 0, 1) := by decide +kernel
theorem dX1_take_6 : decode cX1_take 6 = .ok (.aload_n 1, 1) := by decide +kernel
theorem dX1_take_7 : decode cX1_take 7 = .ok (.getfield 29, 3) := by decide +kernel
theorem dX1_take_10 : decode cX1_take 10 = .ok (.putfield 18, 3) := by decide +kernel
theorem dX1_take_13 : decode cX1_take 13 = .ok (.aload_n 0, 1) := by decide +kernel
theorem dX1_take_14 : decode cX1_take 14 = .ok (.aload_n 1, 1) := by decide +kernel
theorem dX1_take_15 : decode cX1_take 15 = .ok (.getfield 34, 3) := by decide +kernel
theorem dX1_take_18 : decode cX1_take 18 = .ok (.putfield 21, 3) := by decide +kernel
theorem dX1_take_21 : decode cX1_take 21 = .ok (.return_, 1) := by decide +kernel
theorem dX2_init_0 : decode cX2_init 0 = .ok (.aload_n 0, 1) := by decide +kernel
theorem dX2_init_1 : decode cX2_init 1 = .ok (.invokespecial 3, 3) := by decide +kernel
theorem dX2_init_4 : decode cX2_init 4 = .ok (.aload_n 0, 1) := by decide +kernel
theorem dX2_init_5 : decode cX2_init 5 = .ok (.bipush 6, 2) := by decide +kernel
theorem dX2_init_7 : decode cX2_init 7 = .ok (.newarray .int, 2) := by decide +kernel
theorem dX2_init_9 : decode cX2_init 9 = .ok (.putfield 11, 3) := by decide +kernel
theorem dX2_init_12 : decode cX2_init 12 = .ok (.return_, 1) := by decide +kernel
theorem dX2_becomeLike_0 : decode cX2_becomeLike 0 = .ok (.iconst 1, 1) := by decide +kernel
theorem dX2_becomeLike_1 : decode cX2_becomeLike 1 = .ok (.istore_n 2, 1) := by decide +kernel
theorem dX2_becomeLike_2 : decode cX2_becomeLike 2 = .ok (.iload_n 2, 1) := by decide +kernel
theorem dX2_becomeLike_3 : decode cX2_becomeLike 3 = .ok (.iconst 5, 1) := by decide +kernel
theorem dX2_becomeLike_4 : decode cX2_becomeLike 4 = .ok (.if_icmp .gt 21, 3) := by decide +kernel
theorem dX2_becomeLike_7 : decode cX2_becomeLike 7 = .ok (.aload_n 0, 1) := by decide +kernel
theorem dX2_becomeLike_8 : decode cX2_becomeLike 8 = .ok (.getfield 11, 3) := by decide +kernel
theorem dX2_becomeLike_11 : decode cX2_becomeLike 11 = .ok (.iload_n 2, 1) := by decide +kernel
theorem dX2_becomeLike_12 : decode cX2_becomeLike 12 = .ok (.aload_n 1, 1) := by decide +kernel
theorem dX2_becomeLike_13 : decode cX2_becomeLike 13 = .ok (.getfield 11, 3) := by decide +kernel
theorem dX2_becomeLike_16 : decode cX2_becomeLike 16 = .ok (.iload_n 2, 1) := by decide +kernel
theorem dX2_becomeLike_17 : decode cX2_becomeLike 17 = .ok (.iaload, 1) := by decide +kernel
theorem dX2_becomeLike_18 : decode cX2_becomeLike 18 = .ok (.iastore, 1) := by decide +kernel
theorem dX2_becomeLike_19 : decode cX2_becomeLike 19 = .ok (.iinc 2 1, 3) := by decide +kernel
theorem dX2_becomeLike_22 : decode cX2_becomeLike 22 = .ok (.goto (-20), 3) := by decide +kernel
theorem dX2_becomeLike_25 : decode cX2_becomeLike 25 = .ok (.return_, 1) := by decide +kernel
theorem dX2_vanish_0 : decode cX2_vanish 0 = .ok (.iconst 1, 1) := by decide +kernel
theorem dX2_vanish_1 : decode cX2_vanish 1 = .ok (.istore_n 1, 1) := by decide +kernel
theorem dX2_vanish_2 : decode cX2_vanish 2 = .ok (.iload_n 1, 1) := by decide +kernel
theorem dX2_vanish_3 : decode cX2_vanish 3 = .ok (.iconst 5, 1) := by decide +kernel
theorem dX2_vanish_4 : decode cX2_vanish 4 = .ok (.if_icmp .gt 16, 3) := by decide +kernel
theorem dX2_vanish_7 : decode cX2_vanish 7 = .ok (.aload_n 0, 1) := by decide +kernel
theorem dX2_vanish_8 : decode cX2_vanish 8 = .ok (.getfield 11, 3) := by decide +kernel
theorem dX2_vanish_11 : decode cX2_vanish 11 = .ok (.iload_n 1, 1) := by decide +kernel
theorem dX2_vanish_12 : decode cX2_vanish 12 = .ok (.iconst 0, 1) := by decide +kernel
theorem dX2_vanish_13 : decode cX2_vanish 13 = .ok (.iastore, 1) := by decide +kernel
theorem dX2_vanish_14 : decode cX2_vanish 14 = .ok (.iinc 1 1, 3) := by decide +kernel
theorem dX2_vanish_17 : decode cX2_vanish 17 = .ok (.goto (-15), 3) := by decide +kernel
theorem dX2_vanish_20 : decode cX2_vanish 20 = .ok (.return_, 1) := by decide +kernel
theorem dX2_keepAt_0 : decode cX2_keepAt 0 = .ok (.iconst 0, 1) := by decide +kernel
theorem dX2_keepAt_1 : decode cX2_keepAt 1 = .ok (.istore_n 3, 1) := by decide +kernel
theorem dX2_keepAt_2 : decode cX2_keepAt 2 = .ok (.iload_n 3, 1) := by decide +kernel
theorem dX2_keepAt_3 : decode cX2_keepAt 3 = .ok (.iload_n 2, 1) := by decide +kernel
theorem dX2_keepAt_4 : decode cX2_keepAt 4 = .ok (.if_icmp .ge 19, 3) := by decide +kernel
theorem dX2_keepAt_7 : decode cX2_keepAt 7 = .ok (.aload_n 0, 1) := by decide +kernel
theorem dX2_keepAt_8 : decode cX2_keepAt 8 = .ok (.iload_n 1, 1) := by decide +kernel
theorem dX2_keepAt_9 : decode cX2_keepAt 9 = .ok (.invokevirtual 15, 3) := by decide +kernel
theorem dX2_keepAt_12 : decode cX2_keepAt 12 = .ok (.aload_n 0, 1) := by decide +kernel
theorem dX2_keepAt_13 : decode cX2_keepAt 13 = .ok (.iload_n 1, 1) := by decide +kernel
theorem dX2_keepAt_14 : decode cX2_keepAt 14 = .ok (.invokevirtual 19, 3) := by decide +kernel
theorem dX2_keepAt_17 : decode cX2_keepAt 17 = .ok (.iinc 3 1, 3) := by decide +kernel
theorem dX2_keepAt_20 : decode cX2_keepAt 20 = .ok (.goto (-18), 3) := by decide +kernel
theorem dX2_keepAt_23 : decode cX2_keepAt 23 = .ok (.return_, 1) := by decide +kernel
theorem dX2_halveWhatMelts_0 : decode cX2_halveWhatMelts 0 = .ok (.iconst 1, 1) := by decide +kernel
theorem dX2_halveWhatMelts_1 : decode cX2_halveWhatMelts 1 = .ok (.istore_n 2, 1) := by decide +kernel
theorem dX2_halveWhatMelts_2 : decode cX2_halveWhatMelts 2 = .ok (.iload_n 2, 1) := by decide +kernel
theorem dX2_halveWhatMelts_3 : decode cX2_halveWhatMelts 3 = .ok (.iconst 5, 1) := by decide +kernel
theorem dX2_halveWhatMelts_4 : decode cX2_halveWhatMelts 4 = .ok (.if_icmp .gt 27, 3) := by decide +kernel
theorem dX2_halveWhatMelts_7 : decode cX2_halveWhatMelts 7 = .ok (.iload_n 1, 1) := by decide +kernel
theorem dX2_halveWhatMelts_8 : decode cX2_halveWhatMelts 8 = .ok (.iload_n 2, 1) := by decide +kernel
theorem dX2_halveWhatMelts_9 : decode cX2_halveWhatMelts 9 = .ok (.invokestatic 22, 3) := by decide +kernel
theorem dX2_halveWhatMelts_12 : decode cX2_halveWhatMelts 12 = .ok (.if_icmp .lt 13, 3) := by decide +kernel
theorem dX2_halveWhatMelts_15 : decode cX2_halveWhatMelts 15 = .ok (.aload_n 0, 1) := by decide +kernel
theorem dX2_halveWhatMelts_16 : decode cX2_halveWhatMelts 16 = .ok (.getfield 11, 3) := by decide +kernel
theorem dX2_halveWhatMelts_19 : decode cX2_halveWhatMelts 19 = .ok (.iload_n 2, 1) := by decide +kernel
theorem dX2_halveWhatMelts_20 : decode cX2_halveWhatMelts 20 = .ok (.dup2, 1) := by decide +kernel
theorem dX2_halveWhatMelts_21 : decode cX2_halveWhatMelts 21 = .ok (.iaload, 1) := by decide +kernel
theorem dX2_halveWhatMelts_22 : decode cX2_halveWhatMelts 22 = .ok (.iconst 2, 1) := by decide +kernel
theorem dX2_halveWhatMelts_23 : decode cX2_halveWhatMelts 23 = .ok (.idiv, 1) := by decide +kernel
theorem dX2_halveWhatMelts_24 : decode cX2_halveWhatMelts 24 = .ok (.iastore, 1) := by decide +kernel
theorem dX2_halveWhatMelts_25 : decode cX2_halveWhatMelts 25 = .ok (.iinc 2 1, 3) := by decide +kernel
theorem dX2_halveWhatMelts_28 : decode cX2_halveWhatMelts 28 = .ok (.goto (-26), 3) := by decide +kernel
theorem dX2_halveWhatMelts_31 : decode cX2_halveWhatMelts 31 = .ok (.return_, 1) := by decide +kernel
theorem dX2_letGrow_0 : decode cX2_letGrow 0 = .ok (.iload_n 1, 1) := by decide +kernel
theorem dX2_letGrow_1 : decode cX2_letGrow 1 = .ok (.bipush 34, 2) := by decide +kernel
theorem dX2_letGrow_3 : decode cX2_letGrow 3 = .ok (.if_icmp .ge 24, 3) := by decide +kernel
theorem dX2_letGrow_6 : decode cX2_letGrow 6 = .ok (.iload_n 1, 1) := by decide +kernel
theorem dX2_letGrow_7 : decode cX2_letGrow 7 = .ok (.invokestatic 26, 3) := by decide +kernel
theorem dX2_letGrow_10 : decode cX2_letGrow 10 = .ok (.istore_n 2, 1) := by decide +kernel
theorem dX2_letGrow_11 : decode cX2_letGrow 11 = .ok (.aload_n 0, 1) := by decide +kernel
theorem dX2_letGrow_12 : decode cX2_letGrow 12 = .ok (.iload_n 2, 1) := by decide +kernel
theorem dX2_letGrow_13 : decode cX2_letGrow 13 = .ok (.bipush 8, 2) := by decide +kernel
theorem dX2_letGrow_15 : decode cX2_letGrow 15 = .ok (.aload_n 0, 1) := by decide +kernel
theorem dX2_letGrow_16 : decode cX2_letGrow 16 = .ok (.getfield 11, 3) := by decide +kernel
theorem dX2_letGrow_19 : decode cX2_letGrow 19 = .ok (.iload_n 2, 1) := by decide +kernel
theorem dX2_letGrow_20 : decode cX2_letGrow 20 = .ok (.iaload, 1) := by decide +kernel
theorem dX2_letGrow_21 : decode cX2_letGrow 21 = .ok (.iconst 4, 1) := by decide +kernel
theorem dX2_letGrow_22 : decode cX2_letGrow 22 = .ok (.idiv, 1) := by decide +kernel
theorem dX2_letGrow_23 : decode cX2_letGrow 23 = .ok (.iadd, 1) := by decide +kernel
theorem dX2_letGrow_24 : decode cX2_letGrow 24 = .ok (.invokevirtual 29, 3) := by decide +kernel
theorem dX2_letGrow_27 : decode cX2_letGrow 27 = .ok (.return_, 1) := by decide +kernel
theorem dX2_meltingPoint_0 : decode cX2_meltingPoint 0 = .ok (.bipush 15, 2) := by decide +kernel
theorem dX2_meltingPoint_2 : decode cX2_meltingPoint 2 = .ok (.iconst 4, 1) := by decide +kernel
theorem dX2_meltingPoint_3 : decode cX2_meltingPoint 3 = .ok (.iload_n 0, 1) := by decide +kernel
theorem dX2_meltingPoint_4 : decode cX2_meltingPoint 4 = .ok (.imul, 1) := by decide +kernel
theorem dX2_meltingPoint_5 : decode cX2_meltingPoint 5 = .ok (.iadd, 1) := by decide +kernel
theorem dX2_meltingPoint_6 : decode cX2_meltingPoint 6 = .ok (.ireturn, 1) := by decide +kernel
theorem dX2_growingSort_0 : decode cX2_growingSort 0 = .ok (.iconst 1, 1) := by decide +kernel
theorem dX2_growingSort_1 : decode cX2_growingSort 1 = .ok (.istore_n 1, 1) := by decide +kernel
theorem dX2_growingSort_2 : decode cX2_growingSort 2 = .ok (.iload_n 1, 1) := by decide +kernel
theorem dX2_growingSort_3 : decode cX2_growingSort 3 = .ok (.iconst 5, 1) := by decide +kernel
theorem dX2_growingSort_4 : decode cX2_growingSort 4 = .ok (.if_icmp .gt 21, 3) := by decide +kernel
theorem dX2_growingSort_7 : decode cX2_growingSort 7 = .ok (.iload_n 1, 1) := by decide +kernel
theorem dX2_growingSort_8 : decode cX2_growingSort 8 = .ok (.invokestatic 22, 3) := by decide +kernel
theorem dX2_growingSort_11 : decode cX2_growingSort 11 = .ok (.iload_n 0, 1) := by decide +kernel
theorem dX2_growingSort_12 : decode cX2_growingSort 12 = .ok (.iconst 3, 1) := by decide +kernel
theorem dX2_growingSort_13 : decode cX2_growingSort 13 = .ok (.iadd, 1) := by decide +kernel
theorem dX2_growingSort_14 : decode cX2_growingSort 14 = .ok (.if_icmp .le 5, 3) := by decide +kernel
theorem dX2_growingSort_17 : decode cX2_growingSort 17 = .ok (.iload_n 1, 1) := by decide +kernel
theorem dX2_growingSort_18 : decode cX2_growingSort 18 = .ok (.ireturn, 1) := by decide +kernel
theorem dX2_growingSort_19 : decode cX2_growingSort 19 = .ok (.iinc 1 1, 3) := by decide +kernel
theorem dX2_growingSort_22 : decode cX2_growingSort 22 = .ok (.goto (-20), 3) := by decide +kernel
theorem dX2_growingSort_25 : decode cX2_growingSort 25 = .ok (.iconst 5, 1) := by decide +kernel
theorem dX2_growingSort_26 : decode cX2_growingSort 26 = .ok (.ireturn, 1) := by decide +kernel
theorem dX2_increase_0 : decode cX2_increase 0 = .ok (.aload_n 0, 1) := by decide +kernel
theorem dX2_increase_1 : decode cX2_increase 1 = .ok (.getfield 11, 3) := by decide +kernel
theorem dX2_increase_4 : decode cX2_increase 4 = .ok (.iload_n 1, 1) := by decide +kernel
theorem dX2_increase_5 : decode cX2_increase 5 = .ok (.dup2, 1) := by decide +kernel
theorem dX2_increase_6 : decode cX2_increase 6 = .ok (.iaload, 1) := by decide +kernel
theorem dX2_increase_7 : decode cX2_increase 7 = .ok (.iconst 0, 1) := by decide +kernel
theorem dX2_increase_8 : decode cX2_increase 8 = .ok (.iload_n 2, 1) := by decide +kernel
theorem dX2_increase_9 : decode cX2_increase 9 = .ok (.bipush 100, 2) := by decide +kernel
theorem dX2_increase_11 : decode cX2_increase 11 = .ok (.aload_n 0, 1) := by decide +kernel
theorem dX2_increase_12 : decode cX2_increase 12 = .ok (.invokevirtual 33, 3) := by decide +kernel
theorem dX2_increase_15 : decode cX2_increase 15 = .ok (.isub, 1) := by decide +kernel
theorem dX2_increase_16 : decode cX2_increase 16 = .ok (.invokestatic 37, 3) := by decide +kernel
theorem dX2_increase_19 : decode cX2_increase 19 = .ok (.invokestatic 43, 3) := by decide +kernel
theorem dX2_increase_22 : decode cX2_increase 22 = .ok (.iadd, 1) := by decide +kernel
theorem dX2_increase_23 : decode cX2_increase 23 = .ok (.iastore, 1) := by decide +kernel
theorem dX2_increase_24 : decode cX2_increase 24 = .ok (.return_, 1) := by decide +kernel
theorem dX2_total_0 : decode cX2_total 0 = .ok (.iconst 0, 1) := by decide +kernel
theorem dX2_total_1 : decode cX2_total 1 = .ok (.istore_n 1, 1) := by decide +kernel
theorem dX2_total_2 : decode cX2_total 2 = .ok (.iconst 1, 1) := by decide +kernel
theorem dX2_total_3 : decode cX2_total 3 = .ok (.istore_n 2, 1) := by decide +kernel
theorem dX2_total_4 : decode cX2_total 4 = .ok (.iload_n 2, 1) := by decide +kernel
theorem dX2_total_5 : decode cX2_total 5 = .ok (.iconst 5, 1) := by decide +kernel
theorem dX2_total_6 : decode cX2_total 6 = .ok (.if_icmp .gt 18, 3) := by decide +kernel
theorem dX2_total_9 : decode cX2_total 9 = .ok (.iload_n 1, 1) := by decide +kernel
theorem dX2_total_10 : decode cX2_total 10 = .ok (.aload_n 0, 1) := by decide +kernel
theorem dX2_total_11 : decode cX2_total 11 = .ok (.getfield 11, 3) := by decide +kernel
theorem dX2_total_14 : decode cX2_total 14 = .ok (.iload_n 2, 1) := by decide +kernel
theorem dX2_total_15 : decode cX2_total 15 = .ok (.iaload, 1) := by decide +kernel
theorem dX2_total_16 : decode cX2_total 16 = .ok (.iadd, 1) := by decide +kernel
theorem dX2_total_17 : decode cX2_total 17 = .ok (.istore_n 1, 1) := by decide +kernel
theorem dX2_total_18 : decode cX2_total 18 = .ok (.iinc 2 1, 3) := by decide +kernel
theorem dX2_total_21 : decode cX2_total 21 = .ok (.goto (-17), 3) := by decide +kernel
theorem dX2_total_24 : decode cX2_total 24 = .ok (.iload_n 1, 1) := by decide +kernel
theorem dX2_total_25 : decode cX2_total 25 = .ok (.ireturn, 1) := by decide +kernel
theorem dX2_temper_0 : decode cX2_temper 0 = .ok (.iconst 2, 1) := by decide +kernel
theorem dX2_temper_1 : decode cX2_temper 1 = .ok (.aload_n 0, 1) := by decide +kernel
theorem dX2_temper_2 : decode cX2_temper 2 = .ok (.getfield 11, 3) := by decide +kernel
theorem dX2_temper_5 : decode cX2_temper 5 = .ok (.iconst 5, 1) := by decide +kernel
theorem dX2_temper_6 : decode cX2_temper 6 = .ok (.iaload, 1) := by decide +kernel
theorem dX2_temper_7 : decode cX2_temper 7 = .ok (.imul, 1) := by decide +kernel
theorem dX2_temper_8 : decode cX2_temper 8 = .ok (.aload_n 0, 1) := by decide +kernel
theorem dX2_temper_9 : decode cX2_temper 9 = .ok (.getfield 11, 3) := by decide +kernel
theorem dX2_temper_12 : decode cX2_temper 12 = .ok (.iconst 4, 1) := by decide +kernel
theorem dX2_temper_13 : decode cX2_temper 13 = .ok (.iaload, 1) := by decide +kernel
theorem dX2_temper_14 : decode cX2_temper 14 = .ok (.iadd, 1) := by decide +kernel
theorem dX2_temper_15 : decode cX2_temper 15 = .ok (.aload_n 0, 1) := by decide +kernel
theorem dX2_temper_16 : decode cX2_temper 16 = .ok (.getfield 11, 3) := by decide +kernel
theorem dX2_temper_19 : decode cX2_temper 19 = .ok (.iconst 1, 1) := by decide +kernel
theorem dX2_temper_20 : decode cX2_temper 20 = .ok (.iaload, 1) := by decide +kernel
theorem dX2_temper_21 : decode cX2_temper 21 = .ok (.isub, 1) := by decide +kernel
theorem dX2_temper_22 : decode cX2_temper 22 = .ok (.aload_n 0, 1) := by decide +kernel
theorem dX2_temper_23 : decode cX2_temper 23 = .ok (.getfield 11, 3) := by decide +kernel
theorem dX2_temper_26 : decode cX2_temper 26 = .ok (.iconst 2, 1) := by decide +kernel
theorem dX2_temper_27 : decode cX2_temper 27 = .ok (.iaload, 1) := by decide +kernel
theorem dX2_temper_28 : decode cX2_temper 28 = .ok (.isub, 1) := by decide +kernel
theorem dX2_temper_29 : decode cX2_temper 29 = .ok (.aload_n 0, 1) := by decide +kernel
theorem dX2_temper_30 : decode cX2_temper 30 = .ok (.getfield 11, 3) := by decide +kernel
theorem dX2_temper_33 : decode cX2_temper 33 = .ok (.iconst 3, 1) := by decide +kernel
theorem dX2_temper_34 : decode cX2_temper 34 = .ok (.iaload, 1) := by decide +kernel
theorem dX2_temper_35 : decode cX2_temper 35 = .ok (.isub, 1) := by decide +kernel
theorem dX2_temper_36 : decode cX2_temper 36 = .ok (.istore_n 1, 1) := by decide +kernel
theorem dX2_temper_37 : decode cX2_temper 37 = .ok (.iconst 0, 1) := by decide +kernel
theorem dX2_temper_38 : decode cX2_temper 38 = .ok (.iload_n 1, 1) := by decide +kernel
theorem dX2_temper_39 : decode cX2_temper 39 = .ok (.bipush 100, 2) := by decide +kernel
theorem dX2_temper_41 : decode cX2_temper 41 = .ok (.invokestatic 37, 3) := by decide +kernel
theorem dX2_temper_44 : decode cX2_temper 44 = .ok (.invokestatic 43, 3) := by decide +kernel
theorem dX2_temper_47 : decode cX2_temper 47 = .ok (.ireturn, 1) := by decide +kernel
theorem dX3_init_0 : decode cX3_init 0 = .ok (.aload_n 0, 1) := by decide +kernel
theorem dX3_init_1 : decode cX3_init 1 = .ok (.invokespecial 3, 3) := by decide +kernel
theorem dX3_init_4 : decode cX3_init 4 = .ok (.aload_n 0, 1) := by decide +kernel
theorem dX3_init_5 : decode cX3_init 5 = .ok (.iload_n 1, 1) := by decide +kernel
theorem dX3_init_6 : decode cX3_init 6 = .ok (.putfield 9, 3) := by decide +kernel
theorem dX3_init_9 : decode cX3_init 9 = .ok (.aload_n 0, 1) := by decide +kernel
theorem dX3_init_10 : decode cX3_init 10 = .ok (.iload_n 2, 1) := by decide +kernel
theorem dX3_init_11 : decode cX3_init 11 = .ok (.putfield 15, 3) := by decide +kernel
theorem dX3_init_14 : decode cX3_init 14 = .ok (.aload_n 0, 1) := by decide +kernel
theorem dX3_init_15 : decode cX3_init 15 = .ok (.iload_n 3, 1) := by decide +kernel
theorem dX3_init_16 : decode cX3_init 16 = .ok (.putfield 18, 3) := by decide +kernel
theorem dX3_init_19 : decode cX3_init 19 = .ok (.return_, 1) := by decide +kernel
theorem dX3_squares_0 : decode cX3_squares 0 = .ok (.aload_n 0, 1) := by decide +kernel
theorem dX3_squares_1 : decode cX3_squares 1 = .ok (.getfield 9, 3) := by decide +kernel
theorem dX3_squares_4 : decode cX3_squares 4 = .ok (.aload_n 0, 1) := by decide +kernel
theorem dX3_squares_5 : decode cX3_squares 5 = .ok (.getfield 15, 3) := by decide +kernel
theorem dX3_squares_8 : decode cX3_squares 8 = .ok (.imul, 1) := by decide +kernel
theorem dX3_squares_9 : decode cX3_squares 9 = .ok (.ireturn, 1) := by decide +kernel
theorem dX3_grams_0 : decode cX3_grams 0 = .ok (.aload_n 0, 1) := by decide +kernel
theorem dX3_grams_1 : decode cX3_grams 1 = .ok (.invokevirtual 21, 3) := by decide +kernel
theorem dX3_grams_4 : decode cX3_grams 4 = .ok (.bipush 10, 2) := by decide +kernel
theorem dX3_grams_6 : decode cX3_grams 6 = .ok (.imul, 1) := by decide +kernel
theorem dX3_grams_7 : decode cX3_grams 7 = .ok (.ireturn, 1) := by decide +kernel
theorem dX3_isBloomed_0 : decode cX3_isBloomed 0 = .ok (.aload_n 0, 1) := by decide +kernel
theorem dX3_isBloomed_1 : decode cX3_isBloomed 1 = .ok (.getfield 25, 3) := by decide +kernel
theorem dX3_isBloomed_4 : decode cX3_isBloomed 4 = .ok (.bipush 20, 2) := by decide +kernel
theorem dX3_isBloomed_6 : decode cX3_isBloomed 6 = .ok (.if_icmp .le 7, 3) := by decide +kernel
theorem dX3_isBloomed_9 : decode cX3_isBloomed 9 = .ok (.iconst 1, 1) := by decide +kernel
theorem dX3_isBloomed_10 : decode cX3_isBloomed 10 = .ok (.goto 4, 3) := by decide +kernel
theorem dX3_isBloomed_13 : decode cX3_isBloomed 13 = .ok (.iconst 0, 1) := by decide +kernel
theorem dX3_isBloomed_14 : decode cX3_isBloomed 14 = .ok (.ireturn, 1) := by decide +kernel
theorem dX3_bloomBehindPolish_0 : decode cX3_bloomBehindPolish 0 = .ok (.iconst 0, 1) := by decide +kernel
theorem dX3_bloomBehindPolish_1 : decode cX3_bloomBehindPolish 1 = .ok (.aload_n 0, 1) := by decide +kernel
theorem dX3_bloomBehindPolish_2 : decode cX3_bloomBehindPolish 2 = .ok (.getfield 25, 3) := by decide +kernel
theorem dX3_bloomBehindPolish_5 : decode cX3_bloomBehindPolish 5 = .ok (.bipush 15, 2) := by decide +kernel
theorem dX3_bloomBehindPolish_7 : decode cX3_bloomBehindPolish 7 = .ok (.isub, 1) := by decide +kernel
theorem dX3_bloomBehindPolish_8 : decode cX3_bloomBehindPolish 8 = .ok (.invokestatic 28, 3) := by decide +kernel
theorem dX3_bloomBehindPolish_11 : decode cX3_bloomBehindPolish 11 = .ok (.ireturn, 1) := by decide +kernel
theorem dX3_bloomOfADay_0 : decode cX3_bloomOfADay 0 = .ok (.bipush 100, 2) := by decide +kernel
theorem dX3_bloomOfADay_2 : decode cX3_bloomOfADay 2 = .ok (.aload_n 0, 1) := by decide +kernel
theorem dX3_bloomOfADay_3 : decode cX3_bloomOfADay 3 = .ok (.getfield 18, 3) := by decide +kernel
theorem dX3_bloomOfADay_6 : decode cX3_bloomOfADay 6 = .ok (.isub, 1) := by decide +kernel
theorem dX3_bloomOfADay_7 : decode cX3_bloomOfADay 7 = .ok (.bipush 10, 2) := by decide +kernel
theorem dX3_bloomOfADay_9 : decode cX3_bloomOfADay 9 = .ok (.idiv, 1) := by decide +kernel
theorem dX3_bloomOfADay_10 : decode cX3_bloomOfADay 10 = .ok (.iconst 2, 1) := by decide +kernel
theorem dX3_bloomOfADay_11 : decode cX3_bloomOfADay 11 = .ok (.iconst 0, 1) := by decide +kernel
theorem dX3_bloomOfADay_12 : decode cX3_bloomOfADay 12 = .ok (.iload_n 1, 1) := by decide +kernel
theorem dX3_bloomOfADay_13 : decode cX3_bloomOfADay 13 = .ok (.bipush 24, 2) := by decide +kernel
theorem dX3_bloomOfADay_15 : decode cX3_bloomOfADay 15 = .ok (.isub, 1) := by decide +kernel
theorem dX3_bloomOfADay_16 : decode cX3_bloomOfADay 16 = .ok (.invokestatic 28, 3) := by decide +kernel
theorem dX3_bloomOfADay_19 : decode cX3_bloomOfADay 19 = .ok (.imul, 1) := by decide +kernel
theorem dX3_bloomOfADay_20 : decode cX3_bloomOfADay 20 = .ok (.iadd, 1) := by decide +kernel
theorem dX3_bloomOfADay_21 : decode cX3_bloomOfADay 21 = .ok (.ireturn, 1) := by decide +kernel
theorem dX3_standFor_0 : decode cX3_standFor 0 = .ok (.aload_n 0, 1) := by decide +kernel
theorem dX3_standFor_1 : decode cX3_standFor 1 = .ok (.bipush 100, 2) := by decide +kernel
theorem dX3_standFor_3 : decode cX3_standFor 3 = .ok (.aload_n 0, 1) := by decide +kernel
theorem dX3_standFor_4 : decode cX3_standFor 4 = .ok (.getfield 25, 3) := by decide +kernel
theorem dX3_standFor_7 : decode cX3_standFor 7 = .ok (.iload_n 1, 1) := by decide +kernel
theorem dX3_standFor_8 : decode cX3_standFor 8 = .ok (.aload_n 0, 1) := by decide +kernel
theorem dX3_standFor_9 : decode cX3_standFor 9 = .ok (.iload_n 2, 1) := by decide +kernel
theorem dX3_standFor_10 : decode cX3_standFor 10 = .ok (.invokevirtual 34, 3) := by decide +kernel
theorem dX3_standFor_13 : decode cX3_standFor 13 = .ok (.imul, 1) := by decide +kernel
theorem dX3_standFor_14 : decode cX3_standFor 14 = .ok (.iadd, 1) := by decide +kernel
theorem dX3_standFor_15 : decode cX3_standFor 15 = .ok (.invokestatic 38, 3) := by decide +kernel
theorem dX3_standFor_18 : decode cX3_standFor 18 = .ok (.putfield 25, 3) := by decide +kernel
theorem dX3_standFor_21 : decode cX3_standFor 21 = .ok (.aload_n 0, 1) := by decide +kernel
theorem dX3_standFor_22 : decode cX3_standFor 22 = .ok (.dup, 1) := by decide +kernel
theorem dX3_standFor_23 : decode cX3_standFor 23 = .ok (.getfield 41, 3) := by decide +kernel
theorem dX3_standFor_26 : decode cX3_standFor 26 = .ok (.iload_n 1, 1) := by decide +kernel
theorem dX3_standFor_27 : decode cX3_standFor 27 = .ok (.iadd, 1) := by decide +kernel
theorem dX3_standFor_28 : decode cX3_standFor 28 = .ok (.putfield 41, 3) := by decide +kernel
theorem dX3_standFor_31 : decode cX3_standFor 31 = .ok (.return_, 1) := by decide +kernel
theorem dX3_partBehind_0 : decode cX3_partBehind 0 = .ok (.iload_n 2, 1) := by decide +kernel
theorem dX3_partBehind_1 : decode cX3_partBehind 1 = .ok (.ifCond .eq 27, 3) := by decide +kernel
theorem dX3_partBehind_4 : decode cX3_partBehind 4 = .ok (.new 10, 3) := by decide +kernel
theorem dX3_partBehind_7 : decode cX3_partBehind 7 = .ok (.dup, 1) := by decide +kernel
theorem dX3_partBehind_8 : decode cX3_partBehind 8 = .ok (.aload_n 0, 1) := by decide +kernel
theorem dX3_partBehind_9 : decode cX3_partBehind 9 = .ok (.getfield 9, 3) := by decide +kernel
theorem dX3_partBehind_12 : decode cX3_partBehind 12 = .ok (.aload_n 0, 1) := by decide +kernel
theorem dX3_partBehind_13 : decode cX3_partBehind 13 = .ok (.getfield 15, 3) := by decide +kernel
theorem dX3_partBehind_16 : decode cX3_partBehind 16 = .ok (.iload_n 1, 1) := by decide +kernel
theorem dX3_partBehind_17 : decode cX3_partBehind 17 = .ok (.isub, 1) := by decide +kernel
theorem dX3_partBehind_18 : decode cX3_partBehind 18 = .ok (.aload_n 0, 1) := by decide +kernel
theorem dX3_partBehind_19 : decode cX3_partBehind 19 = .ok (.getfield 18, 3) := by decide +kernel
theorem dX3_partBehind_22 : decode cX3_partBehind 22 = .ok (.invokespecial 44, 3) := by decide +kernel
theorem dX3_partBehind_25 : decode cX3_partBehind 25 = .ok (.goto 24, 3) := by decide +kernel
theorem dX3_partBehind_28 : decode cX3_partBehind 28 = .ok (.new 10, 3) := by decide +kernel
theorem dX3_partBehind_31 : decode cX3_partBehind 31 = .ok (.dup, 1) := by decide +kernel
theorem dX3_partBehind_32 : decode cX3_partBehind 32 = .ok (.aload_n 0, 1) := by decide +kernel
theorem dX3_partBehind_33 : decode cX3_partBehind 33 = .ok (.getfield 9, 3) := by decide +kernel
theorem dX3_partBehind_36 : decode cX3_partBehind 36 = .ok (.iload_n 1, 1) := by decide +kernel
theorem dX3_partBehind_37 : decode cX3_partBehind 37 = .ok (.isub, 1) := by decide +kernel
theorem dX3_partBehind_38 : decode cX3_partBehind 38 = .ok (.aload_n 0, 1) := by decide +kernel
theorem dX3_partBehind_39 : decode cX3_partBehind 39 = .ok (.getfield 15, 3) := by decide +kernel
theorem dX3_partBehind_42 : decode cX3_partBehind 42 = .ok (.aload_n 0, 1) := by decide +kernel
theorem dX3_partBehind_43 : decode cX3_partBehind 43 = .ok (.getfield 18, 3) := by decide +kernel
theorem dX3_partBehind_46 : decode cX3_partBehind 46 = .ok (.invokespecial 44, 3) := by decide +kernel
theorem dX3_partBehind_49 : decode cX3_partBehind 49 = .ok (.astore_n 3, 1) := by decide +kernel
theorem dX3_partBehind_50 : decode cX3_partBehind 50 = .ok (.aload_n 3, 1) := by decide +kernel
theorem dX3_partBehind_51 : decode cX3_partBehind 51 = .ok (.aload_n 0, 1) := by decide +kernel
theorem dX3_partBehind_52 : decode cX3_partBehind 52 = .ok (.getfield 25, 3) := by decide +kernel
theorem dX3_partBehind_55 : decode cX3_partBehind 55 = .ok (.putfield 25, 3) := by decide +kernel
theorem dX3_partBehind_58 : decode cX3_partBehind 58 = .ok (.aload_n 3, 1) := by decide +kernel
theorem dX3_partBehind_59 : decode cX3_partBehind 59 = .ok (.aload_n 0, 1) := by decide +kernel
theorem dX3_partBehind_60 : decode cX3_partBehind 60 = .ok (.getfield 41, 3) := by decide +kernel
theorem dX3_partBehind_63 : decode cX3_partBehind 63 = .ok (.putfield 41, 3) := by decide +kernel
theorem dX3_partBehind_66 : decode cX3_partBehind 66 = .ok (.aload_n 3, 1) := by decide +kernel
theorem dX3_partBehind_67 : decode cX3_partBehind 67 = .ok (.areturn, 1) := by decide +kernel
theorem dX3_cutDownTo_0 : decode cX3_cutDownTo 0 = .ok (.iload_n 2, 1) := by decide +kernel
theorem dX3_cutDownTo_1 : decode cX3_cutDownTo 1 = .ok (.ifCond .eq 11, 3) := by decide +kernel
theorem dX3_cutDownTo_4 : decode cX3_cutDownTo 4 = .ok (.aload_n 0, 1) := by decide +kernel
theorem dX3_cutDownTo_5 : decode cX3_cutDownTo 5 = .ok (.iload_n 1, 1) := by decide +kernel
theorem dX3_cutDownTo_6 : decode cX3_cutDownTo 6 = .ok (.putfield 15, 3) := by decide +kernel
theorem dX3_cutDownTo_9 : decode cX3_cutDownTo 9 = .ok (.goto 8, 3) := by decide +kernel
theorem dX3_cutDownTo_12 : decode cX3_cutDownTo 12 = .ok (.aload_n 0, 1) := by decide +kernel
theorem dX3_cutDownTo_13 : decode cX3_cutDownTo 13 = .ok (.iload_n 1, 1) := by decide +kernel
theorem dX3_cutDownTo_14 : decode cX3_cutDownTo 14 = .ok (.putfield 9, 3) := by decide +kernel
theorem dX3_cutDownTo_17 : decode cX3_cutDownTo 17 = .ok (.return_, 1) := by decide +kernel
theorem dX4_init_0 : decode cX4_init 0 = .ok (.aload_n 0, 1) := by decide +kernel
theorem dX4_init_1 : decode cX4_init 1 = .ok (.invokespecial 3, 3) := by decide +kernel
theorem dX4_init_4 : decode cX4_init 4 = .ok (.aload_n 0, 1) := by decide +kernel
theorem dX4_init_5 : decode cX4_init 5 = .ok (.iconst 5, 1) := by decide +kernel
theorem dX4_init_6 : decode cX4_init 6 = .ok (.anewarray 9, 3) := by decide +kernel
theorem dX4_init_9 : decode cX4_init 9 = .ok (.putfield 11, 3) := by decide +kernel
theorem dX4_init_12 : decode cX4_init 12 = .ok (.aload_n 0, 1) := by decide +kernel
theorem dX4_init_13 : decode cX4_init 13 = .ok (.bipush 8, 2) := by decide +kernel
theorem dX4_init_15 : decode cX4_init 15 = .ok (.anewarray 15, 3) := by decide +kernel
theorem dX4_init_18 : decode cX4_init 18 = .ok (.putfield 17, 3) := by decide +kernel
theorem dX4_init_21 : decode cX4_init 21 = .ok (.aload_n 0, 1) := by decide +kernel
theorem dX4_init_22 : decode cX4_init 22 = .ok (.bipush 6, 2) := by decide +kernel
theorem dX4_init_24 : decode cX4_init 24 = .ok (.anewarray 21, 3) := by decide +kernel
theorem dX4_init_27 : decode cX4_init 27 = .ok (.putfield 23, 3) := by decide +kernel
theorem dX4_init_30 : decode cX4_init 30 = .ok (.aload_n 0, 1) := by decide +kernel
theorem dX4_init_31 : decode cX4_init 31 = .ok (.new 27, 3) := by decide +kernel
theorem dX4_init_34 : decode cX4_init 34 = .ok (.dup, 1) := by decide +kernel
theorem dX4_init_35 : decode cX4_init 35 = .ok (.invokespecial 29, 3) := by decide +kernel
theorem dX4_init_38 : decode cX4_init 38 = .ok (.putfield 30, 3) := by decide +kernel
theorem dX4_init_41 : decode cX4_init 41 = .ok (.aload_n 0, 1) := by decide +kernel
theorem dX4_init_42 : decode cX4_init 42 = .ok (.new 27, 3) := by decide +kernel
theorem dX4_init_45 : decode cX4_init 45 = .ok (.dup, 1) := by decide +kernel
theorem dX4_init_46 : decode cX4_init 46 = .ok (.invokespecial 29, 3) := by decide +kernel
theorem dX4_init_49 : decode cX4_init 49 = .ok (.putfield 34, 3) := by decide +kernel
theorem dX4_init_52 : decode cX4_init 52 = .ok (.aload_n 0, 1) := by decide +kernel
theorem dX4_init_53 : decode cX4_init 53 = .ok (.bipush 6, 2) := by decide +kernel
theorem dX4_init_55 : decode cX4_init 55 = .ok (.newarray .int, 2) := by decide +kernel
theorem dX4_init_57 : decode cX4_init 57 = .ok (.putfield 37, 3) := by decide +kernel
theorem dX4_init_60 : decode cX4_init 60 = .ok (.aload_n 0, 1) := by decide +kernel
theorem dX4_init_61 : decode cX4_init 61 = .ok (.bipush 8, 2) := by decide +kernel
theorem dX4_init_63 : decode cX4_init 63 = .ok (.newarray .boolean, 2) := by decide +kernel
theorem dX4_init_65 : decode cX4_init 65 = .ok (.putfield 41, 3) := by decide +kernel
theorem dX4_init_68 : decode cX4_init 68 = .ok (.return_, 1) := by decide +kernel
theorem dX4_bowl_0 : decode cX4_bowl 0 = .ok (.iload_n 1, 1) := by decide +kernel
theorem dX4_bowl_1 : decode cX4_bowl 1 = .ok (.ifCond .lt 10, 3) := by decide +kernel
theorem dX4_bowl_4 : decode cX4_bowl 4 = .ok (.iload_n 1, 1) := by decide +kernel
theorem dX4_bowl_5 : decode cX4_bowl 5 = .ok (.sipush 2000, 3) := by decide +kernel
theorem dX4_bowl_8 : decode cX4_bowl 8 = .ok (.if_icmp .le 13, 3) := by decide +kernel
theorem dX4_bowl_11 : decode cX4_bowl 11 = .ok (.new 45, 3) := by decide +kernel
theorem dX4_bowl_14 : decode cX4_bowl 14 = .ok (.dup, 1) := by decide +kernel
theorem dX4_bowl_15 : decode cX4_bowl 15 = .ok (.ldc 47, 2) := by decide +kernel
theorem dX4_bowl_17 : decode cX4_bowl 17 = .ok (.invokespecial 49, 3) := by decide +kernel
theorem dX4_bowl_20 : decode cX4_bowl 20 = .ok (.athrow, 1) := by decide +kernel
theorem dX4_bowl_21 : decode cX4_bowl 21 = .ok (.aload_n 0, 1) := by decide +kernel
theorem dX4_bowl_22 : decode cX4_bowl 22 = .ok (.getfield 52, 3) := by decide +kernel
theorem dX4_bowl_25 : decode cX4_bowl 25 = .ok (.istore_n 2, 1) := by decide +kernel
theorem dX4_bowl_26 : decode cX4_bowl 26 = .ok (.iload_n 2, 1) := by decide +kernel
theorem dX4_bowl_27 : decode cX4_bowl 27 = .ok (.iconst 5, 1) := by decide +kernel
theorem dX4_bowl_28 : decode cX4_bowl 28 = .ok (.if_icmp .lt 13, 3) := by decide +kernel
theorem dX4_bowl_31 : decode cX4_bowl 31 = .ok (.new 56, 3) := by decide +kernel
theorem dX4_bowl_34 : decode cX4_bowl 34 = .ok (.dup, 1) := by decide +kernel
theorem dX4_bowl_35 : decode cX4_bowl 35 = .ok (.ldc 58, 2) := by decide +kernel
theorem dX4_bowl_37 : decode cX4_bowl 37 = .ok (.invokespecial 60, 3) := by decide +kernel
theorem dX4_bowl_40 : decode cX4_bowl 40 = .ok (.athrow, 1) := by decide +kernel
theorem dX4_bowl_41 : decode cX4_bowl 41 = .ok (.aload_n 0, 1) := by decide +kernel
theorem dX4_bowl_42 : decode cX4_bowl 42 = .ok (.getfield 11, 3) := by decide +kernel
theorem dX4_bowl_45 : decode cX4_bowl 45 = .ok (.iload_n 2, 1) := by decide +kernel
theorem dX4_bowl_46 : decode cX4_bowl 46 = .ok (.new 9, 3) := by decide +kernel
theorem dX4_bowl_49 : decode cX4_bowl 49 = .ok (.dup, 1) := by decide +kernel
theorem dX4_bowl_50 : decode cX4_bowl 50 = .ok (.iload_n 1, 1) := by decide +kernel
theorem dX4_bowl_51 : decode cX4_bowl 51 = .ok (.invokespecial 61, 3) := by decide +kernel
theorem dX4_bowl_54 : decode cX4_bowl 54 = .ok (.aastore, 1) := by decide +kernel
theorem dX4_bowl_55 : decode cX4_bowl 55 = .ok (.aload_n 0, 1) := by decide +kernel
theorem dX4_bowl_56 : decode cX4_bowl 56 = .ok (.iload_n 2, 1) := by decide +kernel
theorem dX4_bowl_57 : decode cX4_bowl 57 = .ok (.iconst 1, 1) := by decide +kernel
theorem dX4_bowl_58 : decode cX4_bowl 58 = .ok (.iadd, 1) := by decide +kernel
theorem dX4_bowl_59 : decode cX4_bowl 59 = .ok (.putfield 52, 3) := by decide +kernel
theorem dX4_bowl_62 : decode cX4_bowl 62 = .ok (.iload_n 2, 1) := by decide +kernel
theorem dX4_bowl_63 : decode cX4_bowl 63 = .ok (.ireturn, 1) := by decide +kernel
theorem dX4_warm_0 : decode cX4_warm 0 = .ok (.aload_n 0, 1) := by decide +kernel
theorem dX4_warm_1 : decode cX4_warm 1 = .ok (.iload_n 1, 1) := by decide +kernel
theorem dX4_warm_2 : decode cX4_warm 2 = .ok (.invokevirtual 64, 3) := by decide +kernel
theorem dX4_warm_5 : decode cX4_warm 5 = .ok (.astore 4, 2) := by decide +kernel
theorem dX4_warm_7 : decode cX4_warm 7 = .ok (.iload_n 2, 1) := by decide +kernel
theorem dX4_warm_8 : decode cX4_warm 8 = .ok (.iload_n 3, 1) := by decide +kernel
theorem dX4_warm_9 : decode cX4_warm 9 = .ok (.invokestatic 68, 3) := by decide +kernel
theorem dX4_warm_12 : decode cX4_warm 12 = .ok (.aload 4, 2) := by decide +kernel
theorem dX4_warm_14 : decode cX4_warm 14 = .ok (.iload_n 2, 1) := by decide +kernel
theorem dX4_warm_15 : decode cX4_warm 15 = .ok (.putfield 72, 3) := by decide +kernel
theorem dX4_warm_18 : decode cX4_warm 18 = .ok (.aload 4, 2) := by decide +kernel
theorem dX4_warm_20 : decode cX4_warm 20 = .ok (.getfield 75, 3) := by decide +kernel
theorem dX4_warm_23 : decode cX4_warm 23 = .ok (.iload_n 2, 1) := by decide +kernel
theorem dX4_warm_24 : decode cX4_warm 24 = .ok (.iload_n 3, 1) := by decide +kernel
theorem dX4_warm_25 : decode cX4_warm 25 = .ok (.invokevirtual 78, 3) := by decide +kernel
theorem dX4_warm_28 : decode cX4_warm 28 = .ok (.aload 4, 2) := by decide +kernel
theorem dX4_warm_30 : decode cX4_warm 30 = .ok (.getfield 75, 3) := by decide +kernel
theorem dX4_warm_33 : decode cX4_warm 33 = .ok (.invokevirtual 81, 3) := by decide +kernel
theorem dX4_warm_36 : decode cX4_warm 36 = .ok (.ireturn, 1) := by decide +kernel
theorem dX4_seed_0 : decode cX4_seed 0 = .ok (.aload_n 0, 1) := by decide +kernel
theorem dX4_seed_1 : decode cX4_seed 1 = .ok (.iload_n 1, 1) := by decide +kernel
theorem dX4_seed_2 : decode cX4_seed 2 = .ok (.invokevirtual 64, 3) := by decide +kernel
theorem dX4_seed_5 : decode cX4_seed 5 = .ok (.astore_n 3, 1) := by decide +kernel
theorem dX4_seed_6 : decode cX4_seed 6 = .ok (.iload_n 2, 1) := by decide +kernel
theorem dX4_seed_7 : decode cX4_seed 7 = .ok (.iconst 1, 1) := by decide +kernel
theorem dX4_seed_8 : decode cX4_seed 8 = .ok (.if_icmp .lt 9, 3) := by decide +kernel
theorem dX4_seed_11 : decode cX4_seed 11 = .ok (.iload_n 2, 1) := by decide +kernel
theorem dX4_seed_12 : decode cX4_seed 12 = .ok (.bipush 30, 2) := by decide +kernel
theorem dX4_seed_14 : decode cX4_seed 14 = .ok (.if_icmp .le 13, 3) := by decide +kernel
theorem dX4_seed_17 : decode cX4_seed 17 = .ok (.new 45, 3) := by decide +kernel
theorem dX4_seed_20 : decode cX4_seed 20 = .ok (.dup, 1) := by decide +kernel
theorem dX4_seed_21 : decode cX4_seed 21 = .ok (.ldc 85, 2) := by decide +kernel
theorem dX4_seed_23 : decode cX4_seed 23 = .ok (.invokespecial 49, 3) := by decide +kernel
theorem dX4_seed_26 : decode cX4_seed 26 = .ok (.athrow, 1) := by decide +kernel
theorem dX4_seed_27 : decode cX4_seed 27 = .ok (.aload_n 3, 1) := by decide +kernel
theorem dX4_seed_28 : decode cX4_seed 28 = .ok (.getfield 75, 3) := by decide +kernel
theorem dX4_seed_31 : decode cX4_seed 31 = .ok (.iconst 5, 1) := by decide +kernel
theorem dX4_seed_32 : decode cX4_seed 32 = .ok (.iload_n 2, 1) := by decide +kernel
theorem dX4_seed_33 : decode cX4_seed 33 = .ok (.invokevirtual 87, 3) := by decide +kernel
theorem dX4_seed_36 : decode cX4_seed 36 = .ok (.aload_n 3, 1) := by decide +kernel
theorem dX4_seed_37 : decode cX4_seed 37 = .ok (.getfield 75, 3) := by decide +kernel
theorem dX4_seed_40 : decode cX4_seed 40 = .ok (.getfield 90, 3) := by decide +kernel
theorem dX4_seed_43 : decode cX4_seed 43 = .ok (.iconst 5, 1) := by decide +kernel
theorem dX4_seed_44 : decode cX4_seed 44 = .ok (.iaload, 1) := by decide +kernel
theorem dX4_seed_45 : decode cX4_seed 45 = .ok (.ireturn, 1) := by decide +kernel
theorem dX4_pour_0 : decode cX4_pour 0 = .ok (.aload_n 0, 1) := by decide +kernel
theorem dX4_pour_1 : decode cX4_pour 1 = .ok (.iload_n 1, 1) := by decide +kernel
theorem dX4_pour_2 : decode cX4_pour 2 = .ok (.invokevirtual 64, 3) := by decide +kernel
theorem dX4_pour_5 : decode cX4_pour 5 = .ok (.astore_n 3, 1) := by decide +kernel
theorem dX4_pour_6 : decode cX4_pour 6 = .ok (.aload_n 0, 1) := by decide +kernel
theorem dX4_pour_7 : decode cX4_pour 7 = .ok (.iload_n 2, 1) := by decide +kernel
theorem dX4_pour_8 : decode cX4_pour 8 = .ok (.invokevirtual 64, 3) := by decide +kernel
theorem dX4_pour_11 : decode cX4_pour 11 = .ok (.astore 4, 2) := by decide +kernel
theorem dX4_pour_13 : decode cX4_pour 13 = .ok (.aload_n 3, 1) := by decide +kernel
theorem dX4_pour_14 : decode cX4_pour 14 = .ok (.getfield 93, 3) := by decide +kernel
theorem dX4_pour_17 : decode cX4_pour 17 = .ok (.aload 4, 2) := by decide +kernel
theorem dX4_pour_19 : decode cX4_pour 19 = .ok (.getfield 93, 3) := by decide +kernel
theorem dX4_pour_22 : decode cX4_pour 22 = .ok (.iadd, 1) := by decide +kernel
theorem dX4_pour_23 : decode cX4_pour 23 = .ok (.istore 5, 2) := by decide +kernel
theorem dX4_pour_25 : decode cX4_pour 25 = .ok (.iload_n 1, 1) := by decide +kernel
theorem dX4_pour_26 : decode cX4_pour 26 = .ok (.iload_n 2, 1) := by decide +kernel
theorem dX4_pour_27 : decode cX4_pour 27 = .ok (.if_icmp .eq 16, 3) := by decide +kernel
theorem dX4_pour_30 : decode cX4_pour 30 = .ok (.iload 5, 2) := by decide +kernel
theorem dX4_pour_32 : decode cX4_pour 32 = .ok (.ifCond .eq 11, 3) := by decide +kernel
theorem dX4_pour_35 : decode cX4_pour 35 = .ok (.iload 5, 2) := by decide +kernel
theorem dX4_pour_37 : decode cX4_pour 37 = .ok (.sipush 2000, 3) := by decide +kernel
theorem dX4_pour_40 : decode cX4_pour 40 = .ok (.if_icmp .le 13, 3) := by decide +kernel
theorem dX4_pour_43 : decode cX4_pour 43 = .ok (.new 45, 3) := by decide +kernel
theorem dX4_pour_46 : decode cX4_pour 46 = .ok (.dup, 1) := by decide +kernel
theorem dX4_pour_47 : decode cX4_pour 47 = .ok (.ldc 96, 2) := by decide +kernel
theorem dX4_pour_49 : decode cX4_pour 49 = .ok (.invokespecial 49, 3) := by decide +kernel
theorem dX4_pour_52 : decode cX4_pour 52 = .ok (.athrow, 1) := by decide +kernel
theorem dX4_pour_53 : decode cX4_pour 53 = .ok (.aload 4, 2) := by decide +kernel
theorem dX4_pour_55 : decode cX4_pour 55 = .ok (.aload_n 3, 1) := by decide +kernel
theorem dX4_pour_56 : decode cX4_pour 56 = .ok (.invokevirtual 98, 3) := by decide +kernel
theorem dX4_pour_59 : decode cX4_pour 59 = .ok (.aload 4, 2) := by decide +kernel
theorem dX4_pour_61 : decode cX4_pour 61 = .ok (.getfield 93, 3) := by decide +kernel
theorem dX4_pour_64 : decode cX4_pour 64 = .ok (.ireturn, 1) := by decide +kernel
theorem dX4_cast_0 : decode cX4_cast 0 = .ok (.aload_n 0, 1) := by decide +kernel
theorem dX4_cast_1 : decode cX4_cast 1 = .ok (.iload_n 1, 1) := by decide +kernel
theorem dX4_cast_2 : decode cX4_cast 2 = .ok (.invokevirtual 64, 3) := by decide +kernel
theorem dX4_cast_5 : decode cX4_cast 5 = .ok (.astore 4, 2) := by decide +kernel
theorem dX4_cast_7 : decode cX4_cast 7 = .ok (.iload_n 2, 1) := by decide +kernel
theorem dX4_cast_8 : decode cX4_cast 8 = .ok (.iconst 1, 1) := by decide +kernel
theorem dX4_cast_9 : decode cX4_cast 9 = .ok (.if_icmp .lt 20, 3) := by decide +kernel
theorem dX4_cast_12 : decode cX4_cast 12 = .ok (.iload_n 2, 1) := by decide +kernel
theorem dX4_cast_13 : decode cX4_cast 13 = .ok (.bipush 6, 2) := by decide +kernel
theorem dX4_cast_15 : decode cX4_cast 15 = .ok (.if_icmp .gt 14, 3) := by decide +kernel
theorem dX4_cast_18 : decode cX4_cast 18 = .ok (.iload_n 3, 1) := by decide +kernel
theorem dX4_cast_19 : decode cX4_cast 19 = .ok (.iconst 1, 1) := by decide +kernel
theorem dX4_cast_20 : decode cX4_cast 20 = .ok (.if_icmp .lt 9, 3) := by decide +kernel
theorem dX4_cast_23 : decode cX4_cast 23 = .ok (.iload_n 3, 1) := by decide +kernel
theorem dX4_cast_24 : decode cX4_cast 24 = .ok (.bipush 6, 2) := by decide +kernel
theorem dX4_cast_26 : decode cX4_cast 26 = .ok (.if_icmp .le 13, 3) := by decide +kernel
theorem dX4_cast_29 : decode cX4_cast 29 = .ok (.new 45, 3) := by decide +kernel
theorem dX4_cast_32 : decode cX4_cast 32 = .ok (.dup, 1) := by decide +kernel
theorem dX4_cast_33 : decode cX4_cast 33 = .ok (.ldc 102, 2) := by decide +kernel
theorem dX4_cast_35 : decode cX4_cast 35 = .ok (.invokespecial 49, 3) := by decide +kernel
theorem dX4_cast_38 : decode cX4_cast 38 = .ok (.athrow, 1) := by decide +kernel
theorem dX4_cast_39 : decode cX4_cast 39 = .ok (.new 15, 3) := by decide +kernel
theorem dX4_cast_42 : decode cX4_cast 42 = .ok (.dup, 1) := by decide +kernel
theorem dX4_cast_43 : decode cX4_cast 43 = .ok (.iload_n 2, 1) := by decide +kernel
theorem dX4_cast_44 : decode cX4_cast 44 = .ok (.iload_n 3, 1) := by decide +kernel
theorem dX4_cast_45 : decode cX4_cast 45 = .ok (.aload 4, 2) := by decide +kernel
theorem dX4_cast_47 : decode cX4_cast 47 = .ok (.getfield 75, 3) := by decide +kernel
theorem dX4_cast_50 : decode cX4_cast 50 = .ok (.invokevirtual 81, 3) := by decide +kernel
theorem dX4_cast_53 : decode cX4_cast 53 = .ok (.invokespecial 104, 3) := by decide +kernel
theorem dX4_cast_56 : decode cX4_cast 56 = .ok (.astore 5, 2) := by decide +kernel
theorem dX4_cast_58 : decode cX4_cast 58 = .ok (.aload 4, 2) := by decide +kernel
theorem dX4_cast_60 : decode cX4_cast 60 = .ok (.getfield 93, 3) := by decide +kernel
theorem dX4_cast_63 : decode cX4_cast 63 = .ok (.aload 5, 2) := by decide +kernel
theorem dX4_cast_65 : decode cX4_cast 65 = .ok (.invokevirtual 107, 3) := by decide +kernel
theorem dX4_cast_68 : decode cX4_cast 68 = .ok (.if_icmp .ge 13, 3) := by decide +kernel
theorem dX4_cast_71 : decode cX4_cast 71 = .ok (.new 56, 3) := by decide +kernel
theorem dX4_cast_74 : decode cX4_cast 74 = .ok (.dup, 1) := by decide +kernel
theorem dX4_cast_75 : decode cX4_cast 75 = .ok (.ldc 109, 2) := by decide +kernel
theorem dX4_cast_77 : decode cX4_cast 77 = .ok (.invokespecial 60, 3) := by decide +kernel
theorem dX4_cast_80 : decode cX4_cast 80 = .ok (.athrow, 1) := by decide +kernel
theorem dX4_cast_81 : decode cX4_cast 81 = .ok (.aload_n 0, 1) := by decide +kernel
theorem dX4_cast_82 : decode cX4_cast 82 = .ok (.aload 5, 2) := by decide +kernel
theorem dX4_cast_84 : decode cX4_cast 84 = .ok (.invokevirtual 111, 3) := by decide +kernel
theorem dX4_cast_87 : decode cX4_cast 87 = .ok (.istore 6, 2) := by decide +kernel
theorem dX4_cast_89 : decode cX4_cast 89 = .ok (.aload 4, 2) := by decide +kernel
theorem dX4_cast_91 : decode cX4_cast 91 = .ok (.dup, 1) := by decide +kernel
theorem dX4_cast_92 : decode cX4_cast 92 = .ok (.getfield 93, 3) := by decide +kernel
theorem dX4_cast_95 : decode cX4_cast 95 = .ok (.aload 5, 2) := by decide +kernel
theorem dX4_cast_97 : decode cX4_cast 97 = .ok (.invokevirtual 107, 3) := by decide +kernel
theorem dX4_cast_100 : decode cX4_cast 100 = .ok (.isub, 1) := by decide +kernel
theorem dX4_cast_101 : decode cX4_cast 101 = .ok (.putfield 93, 3) := by decide +kernel
theorem dX4_cast_104 : decode cX4_cast 104 = .ok (.iload 6, 2) := by decide +kernel
theorem dX4_cast_106 : decode cX4_cast 106 = .ok (.ireturn, 1) := by decide +kernel
theorem dX4_polish_0 : decode cX4_polish 0 = .ok (.aload_n 0, 1) := by decide +kernel
theorem dX4_polish_1 : decode cX4_polish 1 = .ok (.iload_n 1, 1) := by decide +kernel
theorem dX4_polish_2 : decode cX4_polish 2 = .ok (.invokevirtual 115, 3) := by decide +kernel
theorem dX4_polish_5 : decode cX4_polish 5 = .ok (.astore_n 2, 1) := by decide +kernel
theorem dX4_polish_6 : decode cX4_polish 6 = .ok (.aload_n 2, 1) := by decide +kernel
theorem dX4_polish_7 : decode cX4_polish 7 = .ok (.aload_n 2, 1) := by decide +kernel
theorem dX4_polish_8 : decode cX4_polish 8 = .ok (.invokevirtual 119, 3) := by decide +kernel
theorem dX4_polish_11 : decode cX4_polish 11 = .ok (.putfield 122, 3) := by decide +kernel
theorem dX4_polish_14 : decode cX4_polish 14 = .ok (.aload_n 2, 1) := by decide +kernel
theorem dX4_polish_15 : decode cX4_polish 15 = .ok (.getfield 122, 3) := by decide +kernel
theorem dX4_polish_18 : decode cX4_polish 18 = .ok (.ireturn, 1) := by decide +kernel
theorem dX4_split_0 : decode cX4_split 0 = .ok (.aload_n 0, 1) := by decide +kernel
theorem dX4_split_1 : decode cX4_split 1 = .ok (.iload_n 1, 1) := by decide +kernel
theorem dX4_split_2 : decode cX4_split 2 = .ok (.invokevirtual 115, 3) := by decide +kernel
theorem dX4_split_5 : decode cX4_split 5 = .ok (.astore 4, 2) := by decide +kernel
theorem dX4_split_7 : decode cX4_split 7 = .ok (.iload_n 3, 1) := by decide +kernel
theorem dX4_split_8 : decode cX4_split 8 = .ok (.ifCond .eq 11, 3) := by decide +kernel
theorem dX4_split_11 : decode cX4_split 11 = .ok (.aload 4, 2) := by decide +kernel
theorem dX4_split_13 : decode cX4_split 13 = .ok (.getfield 125, 3) := by decide +kernel
theorem dX4_split_16 : decode cX4_split 16 = .ok (.goto 8, 3) := by decide +kernel
theorem dX4_split_19 : decode cX4_split 19 = .ok (.aload 4, 2) := by decide +kernel
theorem dX4_split_21 : decode cX4_split 21 = .ok (.getfield 128, 3) := by decide +kernel
theorem dX4_split_24 : decode cX4_split 24 = .ok (.istore 5, 2) := by decide +kernel
theorem dX4_split_26 : decode cX4_split 26 = .ok (.iload_n 2, 1) := by decide +kernel
theorem dX4_split_27 : decode cX4_split 27 = .ok (.iconst 1, 1) := by decide +kernel
theorem dX4_split_28 : decode cX4_split 28 = .ok (.if_icmp .lt 9, 3) := by decide +kernel
theorem dX4_split_31 : decode cX4_split 31 = .ok (.iload_n 2, 1) := by decide +kernel
theorem dX4_split_32 : decode cX4_split 32 = .ok (.iload 5, 2) := by decide +kernel
theorem dX4_split_34 : decode cX4_split 34 = .ok (.if_icmp .lt 13, 3) := by decide +kernel
theorem dX4_split_37 : decode cX4_split 37 = .ok (.new 131, 3) := by decide +kernel
theorem dX4_split_40 : decode cX4_split 40 = .ok (.dup, 1) := by decide +kernel
theorem dX4_split_41 : decode cX4_split 41 = .ok (.ldc 133, 2) := by decide +kernel
theorem dX4_split_43 : decode cX4_split 43 = .ok (.invokespecial 135, 3) := by decide +kernel
theorem dX4_split_46 : decode cX4_split 46 = .ok (.athrow, 1) := by decide +kernel
theorem dX4_split_47 : decode cX4_split 47 = .ok (.aload_n 0, 1) := by decide +kernel
theorem dX4_split_48 : decode cX4_split 48 = .ok (.aload 4, 2) := by decide +kernel
theorem dX4_split_50 : decode cX4_split 50 = .ok (.iload_n 2, 1) := by decide +kernel
theorem dX4_split_51 : decode cX4_split 51 = .ok (.iload_n 3, 1) := by decide +kernel
theorem dX4_split_52 : decode cX4_split 52 = .ok (.invokevirtual 136, 3) := by decide +kernel
theorem dX4_split_55 : decode cX4_split 55 = .ok (.invokevirtual 111, 3) := by decide +kernel
theorem dX4_split_58 : decode cX4_split 58 = .ok (.istore 6, 2) := by decide +kernel
theorem dX4_split_60 : decode cX4_split 60 = .ok (.aload 4, 2) := by decide +kernel
theorem dX4_split_62 : decode cX4_split 62 = .ok (.iload_n 2, 1) := by decide +kernel
theorem dX4_split_63 : decode cX4_split 63 = .ok (.iload_n 3, 1) := by decide +kernel
theorem dX4_split_64 : decode cX4_split 64 = .ok (.invokevirtual 140, 3) := by decide +kernel
theorem dX4_split_67 : decode cX4_split 67 = .ok (.iload 6, 2) := by decide +kernel
theorem dX4_split_69 : decode cX4_split 69 = .ok (.ireturn, 1) := by decide +kernel
theorem dX4_melt_0 : decode cX4_melt 0 = .ok (.aload_n 0, 1) := by decide +kernel
theorem dX4_melt_1 : decode cX4_melt 1 = .ok (.iload_n 1, 1) := by decide +kernel
theorem dX4_melt_2 : decode cX4_melt 2 = .ok (.invokevirtual 115, 3) := by decide +kernel
theorem dX4_melt_5 : decode cX4_melt 5 = .ok (.invokevirtual 107, 3) := by decide +kernel
theorem dX4_melt_8 : decode cX4_melt 8 = .ok (.istore_n 3, 1) := by decide +kernel
theorem dX4_melt_9 : decode cX4_melt 9 = .ok (.aload_n 0, 1) := by decide +kernel
theorem dX4_melt_10 : decode cX4_melt 10 = .ok (.iload_n 2, 1) := by decide +kernel
theorem dX4_melt_11 : decode cX4_melt 11 = .ok (.invokevirtual 64, 3) := by decide +kernel
theorem dX4_melt_14 : decode cX4_melt 14 = .ok (.astore 4, 2) := by decide +kernel
theorem dX4_melt_16 : decode cX4_melt 16 = .ok (.aload 4, 2) := by decide +kernel
theorem dX4_melt_18 : decode cX4_melt 18 = .ok (.getfield 93, 3) := by decide +kernel
theorem dX4_melt_21 : decode cX4_melt 21 = .ok (.iload_n 3, 1) := by decide +kernel
theorem dX4_melt_22 : decode cX4_melt 22 = .ok (.iadd, 1) := by decide +kernel
theorem dX4_melt_23 : decode cX4_melt 23 = .ok (.sipush 2000, 3) := by decide +kernel
theorem dX4_melt_26 : decode cX4_melt 26 = .ok (.if_icmp .le 13, 3) := by decide +kernel
theorem dX4_melt_29 : decode cX4_melt 29 = .ok (.new 45, 3) := by decide +kernel
theorem dX4_melt_32 : decode cX4_melt 32 = .ok (.dup, 1) := by decide +kernel
theorem dX4_melt_33 : decode cX4_melt 33 = .ok (.ldc 144, 2) := by decide +kernel
theorem dX4_melt_35 : decode cX4_melt 35 = .ok (.invokespecial 49, 3) := by decide +kernel
theorem dX4_melt_38 : decode cX4_melt 38 = .ok (.athrow, 1) := by decide +kernel
theorem dX4_melt_39 : decode cX4_melt 39 = .ok (.aload 4, 2) := by decide +kernel
theorem dX4_melt_41 : decode cX4_melt 41 = .ok (.dup, 1) := by decide +kernel
theorem dX4_melt_42 : decode cX4_melt 42 = .ok (.getfield 93, 3) := by decide +kernel
theorem dX4_melt_45 : decode cX4_melt 45 = .ok (.iload_n 3, 1) := by decide +kernel
theorem dX4_melt_46 : decode cX4_melt 46 = .ok (.iadd, 1) := by decide +kernel
theorem dX4_melt_47 : decode cX4_melt 47 = .ok (.putfield 93, 3) := by decide +kernel
theorem dX4_melt_50 : decode cX4_melt 50 = .ok (.aload_n 0, 1) := by decide +kernel
theorem dX4_melt_51 : decode cX4_melt 51 = .ok (.getfield 17, 3) := by decide +kernel
theorem dX4_melt_54 : decode cX4_melt 54 = .ok (.iload_n 1, 1) := by decide +kernel
theorem dX4_melt_55 : decode cX4_melt 55 = .ok (.aconst_null, 1) := by decide +kernel
theorem dX4_melt_56 : decode cX4_melt 56 = .ok (.aastore, 1) := by decide +kernel
theorem dX4_melt_57 : decode cX4_melt 57 = .ok (.aload_n 0, 1) := by decide +kernel
theorem dX4_melt_58 : decode cX4_melt 58 = .ok (.invokevirtual 146, 3) := by decide +kernel
theorem dX4_melt_61 : decode cX4_melt 61 = .ok (.aload 4, 2) := by decide +kernel
theorem dX4_melt_63 : decode cX4_melt 63 = .ok (.getfield 93, 3) := by decide +kernel
theorem dX4_melt_66 : decode cX4_melt 66 = .ok (.ireturn, 1) := by decide +kernel
theorem dX4_box_0 : decode cX4_box 0 = .ok (.iload_n 1, 1) := by decide +kernel
theorem dX4_box_1 : decode cX4_box 1 = .ok (.iconst 1, 1) := by decide +kernel
theorem dX4_box_2 : decode cX4_box 2 = .ok (.if_icmp .lt 19, 3) := by decide +kernel
theorem dX4_box_5 : decode cX4_box 5 = .ok (.iload_n 1, 1) := by decide +kernel
theorem dX4_box_6 : decode cX4_box 6 = .ok (.bipush 36, 2) := by decide +kernel
theorem dX4_box_8 : decode cX4_box 8 = .ok (.if_icmp .gt 13, 3) := by decide +kernel
theorem dX4_box_11 : decode cX4_box 11 = .ok (.iload_n 2, 1) := by decide +kernel
theorem dX4_box_12 : decode cX4_box 12 = .ok (.ifCond .lt 9, 3) := by decide +kernel
theorem dX4_box_15 : decode cX4_box 15 = .ok (.iload_n 2, 1) := by decide +kernel
theorem dX4_box_16 : decode cX4_box 16 = .ok (.bipush 100, 2) := by decide +kernel
theorem dX4_box_18 : decode cX4_box 18 = .ok (.if_icmp .le 13, 3) := by decide +kernel
theorem dX4_box_21 : decode cX4_box 21 = .ok (.new 45, 3) := by decide +kernel
theorem dX4_box_24 : decode cX4_box 24 = .ok (.dup, 1) := by decide +kernel
theorem dX4_box_25 : decode cX4_box 25 = .ok (.ldc 149, 2) := by decide +kernel
theorem dX4_box_27 : decode cX4_box 27 = .ok (.invokespecial 49, 3) := by decide +kernel
theorem dX4_box_30 : decode cX4_box 30 = .ok (.athrow, 1) := by decide +kernel
theorem dX4_box_31 : decode cX4_box 31 = .ok (.aload_n 0, 1) := by decide +kernel
theorem dX4_box_32 : decode cX4_box 32 = .ok (.getfield 151, 3) := by decide +kernel
theorem dX4_box_35 : decode cX4_box 35 = .ok (.istore_n 3, 1) := by decide +kernel
theorem dX4_box_36 : decode cX4_box 36 = .ok (.iload_n 3, 1) := by decide +kernel
theorem dX4_box_37 : decode cX4_box 37 = .ok (.bipush 6, 2) := by decide +kernel
theorem dX4_box_39 : decode cX4_box 39 = .ok (.if_icmp .lt 13, 3) := by decide +kernel
theorem dX4_box_42 : decode cX4_box 42 = .ok (.new 56, 3) := by decide +kernel
theorem dX4_box_45 : decode cX4_box 45 = .ok (.dup, 1) := by decide +kernel
theorem dX4_box_46 : decode cX4_box 46 = .ok (.ldc 154, 2) := by decide +kernel
theorem dX4_box_48 : decode cX4_box 48 = .ok (.invokespecial 60, 3) := by decide +kernel
theorem dX4_box_51 : decode cX4_box 51 = .ok (.athrow, 1) := by decide +kernel
theorem dX4_box_52 : decode cX4_box 52 = .ok (.aload_n 0, 1) := by decide +kernel
theorem dX4_box_53 : decode cX4_box 53 = .ok (.getfield 23, 3) := by decide +kernel
theorem dX4_box_56 : decode cX4_box 56 = .ok (.iload_n 3, 1) := by decide +kernel
theorem dX4_box_57 : decode cX4_box 57 = .ok (.new 21, 3) := by decide +kernel
theorem dX4_box_60 : decode cX4_box 60 = .ok (.dup, 1) := by decide +kernel
theorem dX4_box_61 : decode cX4_box 61 = .ok (.iload_n 1, 1) := by decide +kernel
theorem dX4_box_62 : decode cX4_box 62 = .ok (.iload_n 2, 1) := by decide +kernel
theorem dX4_box_63 : decode cX4_box 63 = .ok (.invokespecial 156, 3) := by decide +kernel
theorem dX4_box_66 : decode cX4_box 66 = .ok (.aastore, 1) := by decide +kernel
theorem dX4_box_67 : decode cX4_box 67 = .ok (.aload_n 0, 1) := by decide +kernel
theorem dX4_box_68 : decode cX4_box 68 = .ok (.iload_n 3, 1) := by decide +kernel
theorem dX4_box_69 : decode cX4_box 69 = .ok (.iconst 1, 1) := by decide +kernel
theorem dX4_box_70 : decode cX4_box 70 = .ok (.iadd, 1) := by decide +kernel
theorem dX4_box_71 : decode cX4_box 71 = .ok (.putfield 151, 3) := by decide +kernel
theorem dX4_box_74 : decode cX4_box 74 = .ok (.iload_n 3, 1) := by decide +kernel
theorem dX4_box_75 : decode cX4_box 75 = .ok (.ireturn, 1) := by decide +kernel
theorem dX4_fill_0 : decode cX4_fill 0 = .ok (.aload_n 0, 1) := by decide +kernel
theorem dX4_fill_1 : decode cX4_fill 1 = .ok (.iconst (-1), 1) := by decide +kernel
theorem dX4_fill_2 : decode cX4_fill 2 = .ok (.invokevirtual 158, 3) := by decide +kernel
theorem dX4_fill_5 : decode cX4_fill 5 = .ok (.istore_n 1, 1) := by decide +kernel
theorem dX4_fill_6 : decode cX4_fill 6 = .ok (.iconst 0, 1) := by decide +kernel
theorem dX4_fill_7 : decode cX4_fill 7 = .ok (.istore_n 2, 1) := by decide +kernel
theorem dX4_fill_8 : decode cX4_fill 8 = .ok (.iload_n 2, 1) := by decide +kernel
theorem dX4_fill_9 : decode cX4_fill 9 = .ok (.bipush 6, 2) := by decide +kernel
theorem dX4_fill_11 : decode cX4_fill 11 = .ok (.if_icmp .ge 25, 3) := by decide +kernel
theorem dX4_fill_14 : decode cX4_fill 14 = .ok (.aload_n 0, 1) := by decide +kernel
theorem dX4_fill_15 : decode cX4_fill 15 = .ok (.aload_n 0, 1) := by decide +kernel
theorem dX4_fill_16 : decode cX4_fill 16 = .ok (.getfield 37, 3) := by decide +kernel
theorem dX4_fill_19 : decode cX4_fill 19 = .ok (.iload_n 2, 1) := by decide +kernel
theorem dX4_fill_20 : decode cX4_fill 20 = .ok (.iaload, 1) := by decide +kernel
theorem dX4_fill_21 : decode cX4_fill 21 = .ok (.aload_n 0, 1) := by decide +kernel
theorem dX4_fill_22 : decode cX4_fill 22 = .ok (.getfield 23, 3) := by decide +kernel
theorem dX4_fill_25 : decode cX4_fill 25 = .ok (.iload_n 2, 1) := by decide +kernel
theorem dX4_fill_26 : decode cX4_fill 26 = .ok (.aaload, 1) := by decide +kernel
theorem dX4_fill_27 : decode cX4_fill 27 = .ok (.invokevirtual 162, 3) := by decide +kernel
theorem dX4_fill_30 : decode cX4_fill 30 = .ok (.iinc 2 1, 3) := by decide +kernel
theorem dX4_fill_33 : decode cX4_fill 33 = .ok (.goto (-25), 3) := by decide +kernel
theorem dX4_fill_36 : decode cX4_fill 36 = .ok (.aload_n 0, 1) := by decide +kernel
theorem dX4_fill_37 : decode cX4_fill 37 = .ok (.invokevirtual 146, 3) := by decide +kernel
theorem dX4_fill_40 : decode cX4_fill 40 = .ok (.iload_n 1, 1) := by decide +kernel
theorem dX4_fill_41 : decode cX4_fill 41 = .ok (.ireturn, 1) := by decide +kernel
theorem dX4_pass_0 : decode cX4_pass 0 = .ok (.iload_n 1, 1) := by decide +kernel
theorem dX4_pass_1 : decode cX4_pass 1 = .ok (.invokestatic 166, 3) := by decide +kernel
theorem dX4_pass_4 : decode cX4_pass 4 = .ok (.iload_n 2, 1) := by decide +kernel
theorem dX4_pass_5 : decode cX4_pass 5 = .ok (.iconst 1, 1) := by decide +kernel
theorem dX4_pass_6 : decode cX4_pass 6 = .ok (.if_icmp .lt 9, 3) := by decide +kernel
theorem dX4_pass_9 : decode cX4_pass 9 = .ok (.iload_n 2, 1) := by decide +kernel
theorem dX4_pass_10 : decode cX4_pass 10 = .ok (.bipush 60, 2) := by decide +kernel
theorem dX4_pass_12 : decode cX4_pass 12 = .ok (.if_icmp .le 13, 3) := by decide +kernel
theorem dX4_pass_15 : decode cX4_pass 15 = .ok (.new 45, 3) := by decide +kernel
theorem dX4_pass_18 : decode cX4_pass 18 = .ok (.dup, 1) := by decide +kernel
theorem dX4_pass_19 : decode cX4_pass 19 = .ok (.ldc 169, 2) := by decide +kernel
theorem dX4_pass_21 : decode cX4_pass 21 = .ok (.invokespecial 49, 3) := by decide +kernel
theorem dX4_pass_24 : decode cX4_pass 24 = .ok (.athrow, 1) := by decide +kernel
theorem dX4_pass_25 : decode cX4_pass 25 = .ok (.aload_n 0, 1) := by decide +kernel
theorem dX4_pass_26 : decode cX4_pass 26 = .ok (.getfield 17, 3) := by decide +kernel
theorem dX4_pass_29 : decode cX4_pass 29 = .ok (.astore_n 3, 1) := by decide +kernel
theorem dX4_pass_30 : decode cX4_pass 30 = .ok (.aload_n 3, 1) := by decide +kernel
theorem dX4_pass_31 : decode cX4_pass 31 = .ok (.arraylength, 1) := by decide +kernel
theorem dX4_pass_32 : decode cX4_pass 32 = .ok (.istore 4, 2) := by decide +kernel
theorem dX4_pass_34 : decode cX4_pass 34 = .ok (.iconst 0, 1) := by decide +kernel
theorem dX4_pass_35 : decode cX4_pass 35 = .ok (.istore 5, 2) := by decide +kernel
theorem dX4_pass_37 : decode cX4_pass 37 = .ok (.iload 5, 2) := by decide +kernel
theorem dX4_pass_39 : decode cX4_pass 39 = .ok (.iload 4, 2) := by decide +kernel
theorem dX4_pass_41 : decode cX4_pass 41 = .ok (.if_icmp .ge 27, 3) := by decide +kernel
theorem dX4_pass_44 : decode cX4_pass 44 = .ok (.aload_n 3, 1) := by decide +kernel
theorem dX4_pass_45 : decode cX4_pass 45 = .ok (.iload 5, 2) := by decide +kernel
theorem dX4_pass_47 : decode cX4_pass 47 = .ok (.aaload, 1) := by decide +kernel
theorem dX4_pass_48 : decode cX4_pass 48 = .ok (.astore 6, 2) := by decide +kernel
theorem dX4_pass_50 : decode cX4_pass 50 = .ok (.aload 6, 2) := by decide +kernel
theorem dX4_pass_52 : decode cX4_pass 52 = .ok (.ifnull 10, 3) := by decide +kernel
theorem dX4_pass_55 : decode cX4_pass 55 = .ok (.aload 6, 2) := by decide +kernel
theorem dX4_pass_57 : decode cX4_pass 57 = .ok (.iload_n 2, 1) := by decide +kernel
theorem dX4_pass_58 : decode cX4_pass 58 = .ok (.iload_n 1, 1) := by decide +kernel
theorem dX4_pass_59 : decode cX4_pass 59 = .ok (.invokevirtual 171, 3) := by decide +kernel
theorem dX4_pass_62 : decode cX4_pass 62 = .ok (.iinc 5 1, 3) := by decide +kernel
theorem dX4_pass_65 : decode cX4_pass 65 = .ok (.goto (-28), 3) := by decide +kernel
theorem dX4_pass_68 : decode cX4_pass 68 = .ok (.aload_n 0, 1) := by decide +kernel
theorem dX4_pass_69 : decode cX4_pass 69 = .ok (.dup, 1) := by decide +kernel
theorem dX4_pass_70 : decode cX4_pass 70 = .ok (.getfield 174, 3) := by decide +kernel
theorem dX4_pass_73 : decode cX4_pass 73 = .ok (.iload_n 2, 1) := by decide +kernel
theorem dX4_pass_74 : decode cX4_pass 74 = .ok (.iadd, 1) := by decide +kernel
theorem dX4_pass_75 : decode cX4_pass 75 = .ok (.putfield 174, 3) := by decide +kernel
theorem dX4_pass_78 : decode cX4_pass 78 = .ok (.aload_n 0, 1) := by decide +kernel
theorem dX4_pass_79 : decode cX4_pass 79 = .ok (.invokevirtual 177, 3) := by decide +kernel
theorem dX4_pass_82 : decode cX4_pass 82 = .ok (.ireturn, 1) := by decide +kernel
theorem dX4_told_0 : decode cX4_told 0 = .ok (.aload_n 0, 1) := by decide +kernel
theorem dX4_told_1 : decode cX4_told 1 = .ok (.iload_n 1, 1) := by decide +kernel
theorem dX4_told_2 : decode cX4_told 2 = .ok (.invokevirtual 64, 3) := by decide +kernel
theorem dX4_told_5 : decode cX4_told 5 = .ok (.astore_n 3, 1) := by decide +kernel
theorem dX4_told_6 : decode cX4_told 6 = .ok (.iload_n 2, 1) := by decide +kernel
theorem dX4_told_7 : decode cX4_told 7 = .ok (.bipush 7, 2) := by decide +kernel
theorem dX4_told_9 : decode cX4_told 9 = .ok (.invokestatic 180, 3) := by decide +kernel
theorem dX4_told_12 : decode cX4_told 12 = .ok (.iload_n 2, 1) := by decide +kernel
theorem dX4_told_13 : decode cX4_told 13 = .ok (.ifCond .ne 8, 3) := by decide +kernel
theorem dX4_told_16 : decode cX4_told 16 = .ok (.aload_n 3, 1) := by decide +kernel
theorem dX4_told_17 : decode cX4_told 17 = .ok (.getfield 93, 3) := by decide +kernel
theorem dX4_told_20 : decode cX4_told 20 = .ok (.ireturn, 1) := by decide +kernel
theorem dX4_told_21 : decode cX4_told 21 = .ok (.iload_n 2, 1) := by decide +kernel
theorem dX4_told_22 : decode cX4_told 22 = .ok (.iconst 5, 1) := by decide +kernel
theorem dX4_told_23 : decode cX4_told 23 = .ok (.if_icmp .gt 13, 3) := by decide +kernel
theorem dX4_told_26 : decode cX4_told 26 = .ok (.aload_n 3, 1) := by decide +kernel
theorem dX4_told_27 : decode cX4_told 27 = .ok (.getfield 75, 3) := by decide +kernel
theorem dX4_told_30 : decode cX4_told 30 = .ok (.getfield 90, 3) := by decide +kernel
theorem dX4_told_33 : decode cX4_told 33 = .ok (.iload_n 2, 1) := by decide +kernel
theorem dX4_told_34 : decode cX4_told 34 = .ok (.iaload, 1) := by decide +kernel
theorem dX4_told_35 : decode cX4_told 35 = .ok (.ireturn, 1) := by decide +kernel
theorem dX4_told_36 : decode cX4_told 36 = .ok (.iload_n 2, 1) := by decide +kernel
theorem dX4_told_37 : decode cX4_told 37 = .ok (.bipush 6, 2) := by decide +kernel
theorem dX4_told_39 : decode cX4_told 39 = .ok (.if_icmp .ne 10, 3) := by decide +kernel
theorem dX4_told_42 : decode cX4_told 42 = .ok (.aload_n 3, 1) := by decide +kernel
theorem dX4_told_43 : decode cX4_told 43 = .ok (.getfield 72, 3) := by decide +kernel
theorem dX4_told_46 : decode cX4_told 46 = .ok (.goto 10, 3) := by decide +kernel
theorem dX4_told_49 : decode cX4_told 49 = .ok (.aload_n 3, 1) := by decide +kernel
theorem dX4_told_50 : decode cX4_told 50 = .ok (.getfield 75, 3) := by decide +kernel
theorem dX4_told_53 : decode cX4_told 53 = .ok (.invokevirtual 81, 3) := by decide +kernel
theorem dX4_told_56 : decode cX4_told 56 = .ok (.ireturn, 1) := by decide +kernel
theorem dX4_about_0 : decode cX4_about 0 = .ok (.aload_n 0, 1) := by decide +kernel
theorem dX4_about_1 : decode cX4_about 1 = .ok (.iload_n 1, 1) := by decide +kernel
theorem dX4_about_2 : decode cX4_about 2 = .ok (.invokevirtual 115, 3) := by decide +kernel
theorem dX4_about_5 : decode cX4_about 5 = .ok (.astore_n 3, 1) := by decide +kernel
theorem dX4_about_6 : decode cX4_about 6 = .ok (.iload_n 2, 1) := by decide +kernel
theorem dX4_about_7 : decode cX4_about 7 = .ok (.bipush 6, 2) := by decide +kernel
theorem dX4_about_9 : decode cX4_about 9 = .ok (.invokestatic 180, 3) := by decide +kernel
theorem dX4_about_12 : decode cX4_about 12 = .ok (.iload_n 2, 1) := by decide +kernel
theorem dX4_about_13 : decode cX4_about 13 = .ok (.tableswitch 69 0 5 #[39, 44, 49, 54, 59, 64], 39) := by decide +kernel
theorem dX4_about_52 : decode cX4_about 52 = .ok (.aload_n 3, 1) := by decide +kernel
theorem dX4_about_53 : decode cX4_about 53 = .ok (.getfield 128, 3) := by decide +kernel
theorem dX4_about_56 : decode cX4_about 56 = .ok (.ireturn, 1) := by decide +kernel
theorem dX4_about_57 : decode cX4_about 57 = .ok (.aload_n 3, 1) := by decide +kernel
theorem dX4_about_58 : decode cX4_about 58 = .ok (.getfield 125, 3) := by decide +kernel
theorem dX4_about_61 : decode cX4_about 61 = .ok (.ireturn, 1) := by decide +kernel
theorem dX4_about_62 : decode cX4_about 62 = .ok (.aload_n 3, 1) := by decide +kernel
theorem dX4_about_63 : decode cX4_about 63 = .ok (.getfield 183, 3) := by decide +kernel
theorem dX4_about_66 : decode cX4_about 66 = .ok (.ireturn, 1) := by decide +kernel
theorem dX4_about_67 : decode cX4_about 67 = .ok (.aload_n 3, 1) := by decide +kernel
theorem dX4_about_68 : decode cX4_about 68 = .ok (.getfield 122, 3) := by decide +kernel
theorem dX4_about_71 : decode cX4_about 71 = .ok (.ireturn, 1) := by decide +kernel
theorem dX4_about_72 : decode cX4_about 72 = .ok (.aload_n 3, 1) := by decide +kernel
theorem dX4_about_73 : decode cX4_about 73 = .ok (.getfield 185, 3) := by decide +kernel
theorem dX4_about_76 : decode cX4_about 76 = .ok (.ireturn, 1) := by decide +kernel
theorem dX4_about_77 : decode cX4_about 77 = .ok (.aload_n 3, 1) := by decide +kernel
theorem dX4_about_78 : decode cX4_about 78 = .ok (.invokevirtual 188, 3) := by decide +kernel
theorem dX4_about_81 : decode cX4_about 81 = .ok (.ireturn, 1) := by decide +kernel
theorem dX4_about_82 : decode cX4_about 82 = .ok (.aload_n 0, 1) := by decide +kernel
theorem dX4_about_83 : decode cX4_about 83 = .ok (.aload_n 3, 1) := by decide +kernel
theorem dX4_about_84 : decode cX4_about 84 = .ok (.invokevirtual 191, 3) := by decide +kernel
theorem dX4_about_87 : decode cX4_about 87 = .ok (.ireturn, 1) := by decide +kernel
theorem dX4_order_0 : decode cX4_order 0 = .ok (.aload_n 0, 1) := by decide +kernel
theorem dX4_order_1 : decode cX4_order 1 = .ok (.iload_n 1, 1) := by decide +kernel
theorem dX4_order_2 : decode cX4_order 2 = .ok (.invokevirtual 194, 3) := by decide +kernel
theorem dX4_order_5 : decode cX4_order 5 = .ok (.astore_n 3, 1) := by decide +kernel
theorem dX4_order_6 : decode cX4_order 6 = .ok (.iload_n 2, 1) := by decide +kernel
theorem dX4_order_7 : decode cX4_order 7 = .ok (.iconst 4, 1) := by decide +kernel
theorem dX4_order_8 : decode cX4_order 8 = .ok (.invokestatic 180, 3) := by decide +kernel
theorem dX4_order_11 : decode cX4_order 11 = .ok (.iload_n 2, 1) := by decide +kernel
theorem dX4_order_12 : decode cX4_order 12 = .ok (.tableswitch 60 0 3 #[32, 37, 42, 55], 32) := by decide +kernel
theorem dX4_order_44 : decode cX4_order 44 = .ok (.aload_n 3, 1) := by decide +kernel
theorem dX4_order_45 : decode cX4_order 45 = .ok (.getfield 198, 3) := by decide +kernel
theorem dX4_order_48 : decode cX4_order 48 = .ok (.ireturn, 1) := by decide +kernel
theorem dX4_order_49 : decode cX4_order 49 = .ok (.aload_n 3, 1) := by decide +kernel
theorem dX4_order_50 : decode cX4_order 50 = .ok (.getfield 200, 3) := by decide +kernel
theorem dX4_order_53 : decode cX4_order 53 = .ok (.ireturn, 1) := by decide +kernel
theorem dX4_order_54 : decode cX4_order 54 = .ok (.aload_n 3, 1) := by decide +kernel
theorem dX4_order_55 : decode cX4_order 55 = .ok (.getfield 201, 3) := by decide +kernel
theorem dX4_order_58 : decode cX4_order 58 = .ok (.ifCond .eq 7, 3) := by decide +kernel
theorem dX4_order_61 : decode cX4_order 61 = .ok (.iconst 1, 1) := by decide +kernel
theorem dX4_order_62 : decode cX4_order 62 = .ok (.goto 4, 3) := by decide +kernel
theorem dX4_order_65 : decode cX4_order 65 = .ok (.iconst 0, 1) := by decide +kernel
theorem dX4_order_66 : decode cX4_order 66 = .ok (.ireturn, 1) := by decide +kernel
theorem dX4_order_67 : decode cX4_order 67 = .ok (.aload_n 3, 1) := by decide +kernel
theorem dX4_order_68 : decode cX4_order 68 = .ok (.getfield 205, 3) := by decide +kernel
theorem dX4_order_71 : decode cX4_order 71 = .ok (.ireturn, 1) := by decide +kernel
theorem dX4_order_72 : decode cX4_order 72 = .ok (.aload_n 3, 1) := by decide +kernel
theorem dX4_order_73 : decode cX4_order 73 = .ok (.getfield 208, 3) := by decide +kernel
theorem dX4_order_76 : decode cX4_order 76 = .ok (.ireturn, 1) := by decide +kernel
theorem dX4_count_0 : decode cX4_count 0 = .ok (.iload_n 1, 1) := by decide +kernel
theorem dX4_count_1 : decode cX4_count 1 = .ok (.bipush 7, 2) := by decide +kernel
theorem dX4_count_3 : decode cX4_count 3 = .ok (.invokestatic 180, 3) := by decide +kernel
theorem dX4_count_6 : decode cX4_count 6 = .ok (.iload_n 1, 1) := by decide +kernel
theorem dX4_count_7 : decode cX4_count 7 = .ok (.tableswitch 76 0 6 #[41, 46, 51, 56, 61, 66, 71], 41) := by decide +kernel
theorem dX4_count_48 : decode cX4_count 48 = .ok (.aload_n 0, 1) := by decide +kernel
theorem dX4_count_49 : decode cX4_count 49 = .ok (.getfield 174, 3) := by decide +kernel
theorem dX4_count_52 : decode cX4_count 52 = .ok (.ireturn, 1) := by decide +kernel
theorem dX4_count_53 : decode cX4_count 53 = .ok (.aload_n 0, 1) := by decide +kernel
theorem dX4_count_54 : decode cX4_count 54 = .ok (.getfield 52, 3) := by decide +kernel
theorem dX4_count_57 : decode cX4_count 57 = .ok (.ireturn, 1) := by decide +kernel
theorem dX4_count_58 : decode cX4_count 58 = .ok (.aload_n 0, 1) := by decide +kernel
theorem dX4_count_59 : decode cX4_count 59 = .ok (.getfield 211, 3) := by decide +kernel
theorem dX4_count_62 : decode cX4_count 62 = .ok (.ireturn, 1) := by decide +kernel
theorem dX4_count_63 : decode cX4_count 63 = .ok (.aload_n 0, 1) := by decide +kernel
theorem dX4_count_64 : decode cX4_count 64 = .ok (.getfield 151, 3) := by decide +kernel
theorem dX4_count_67 : decode cX4_count 67 = .ok (.ireturn, 1) := by decide +kernel
theorem dX4_count_68 : decode cX4_count 68 = .ok (.aload_n 0, 1) := by decide +kernel
theorem dX4_count_69 : decode cX4_count 69 = .ok (.invokevirtual 214, 3) := by decide +kernel
theorem dX4_count_72 : decode cX4_count 72 = .ok (.ireturn, 1) := by decide +kernel
theorem dX4_count_73 : decode cX4_count 73 = .ok (.aload_n 0, 1) := by decide +kernel
theorem dX4_count_74 : decode cX4_count 74 = .ok (.invokevirtual 217, 3) := by decide +kernel
theorem dX4_count_77 : decode cX4_count 77 = .ok (.ireturn, 1) := by decide +kernel
theorem dX4_count_78 : decode cX4_count 78 = .ok (.aload_n 0, 1) := by decide +kernel
theorem dX4_count_79 : decode cX4_count 79 = .ok (.invokevirtual 220, 3) := by decide +kernel
theorem dX4_count_82 : decode cX4_count 82 = .ok (.ireturn, 1) := by decide +kernel
theorem dX4_count_83 : decode cX4_count 83 = .ok (.aload_n 0, 1) := by decide +kernel
theorem dX4_count_84 : decode cX4_count 84 = .ok (.invokevirtual 177, 3) := by decide +kernel
theorem dX4_count_87 : decode cX4_count 87 = .ok (.ireturn, 1) := by decide +kernel
theorem dX4_would_0 : decode cX4_would 0 = .ok (.aload_n 0, 1) := by decide +kernel
theorem dX4_would_1 : decode cX4_would 1 = .ok (.iload_n 1, 1) := by decide +kernel
theorem dX4_would_2 : decode cX4_would 2 = .ok (.invokevirtual 64, 3) := by decide +kernel
theorem dX4_would_5 : decode cX4_would 5 = .ok (.astore 4, 2) := by decide +kernel
theorem dX4_would_7 : decode cX4_would 7 = .ok (.iload_n 2, 1) := by decide +kernel
theorem dX4_would_8 : decode cX4_would 8 = .ok (.iload_n 3, 1) := by decide +kernel
theorem dX4_would_9 : decode cX4_would 9 = .ok (.invokestatic 68, 3) := by decide +kernel
theorem dX4_would_12 : decode cX4_would 12 = .ok (.aload_n 0, 1) := by decide +kernel
theorem dX4_would_13 : decode cX4_would 13 = .ok (.getfield 30, 3) := by decide +kernel
theorem dX4_would_16 : decode cX4_would 16 = .ok (.aload 4, 2) := by decide +kernel
theorem dX4_would_18 : decode cX4_would 18 = .ok (.getfield 75, 3) := by decide +kernel
theorem dX4_would_21 : decode cX4_would 21 = .ok (.invokevirtual 223, 3) := by decide +kernel
theorem dX4_would_24 : decode cX4_would 24 = .ok (.aload_n 0, 1) := by decide +kernel
theorem dX4_would_25 : decode cX4_would 25 = .ok (.getfield 30, 3) := by decide +kernel
theorem dX4_would_28 : decode cX4_would 28 = .ok (.iload_n 2, 1) := by decide +kernel
theorem dX4_would_29 : decode cX4_would 29 = .ok (.iload_n 3, 1) := by decide +kernel
theorem dX4_would_30 : decode cX4_would 30 = .ok (.invokevirtual 78, 3) := by decide +kernel
theorem dX4_would_33 : decode cX4_would 33 = .ok (.aload_n 0, 1) := by decide +kernel
theorem dX4_would_34 : decode cX4_would 34 = .ok (.getfield 30, 3) := by decide +kernel
theorem dX4_would_37 : decode cX4_would 37 = .ok (.invokevirtual 81, 3) := by decide +kernel
theorem dX4_would_40 : decode cX4_would 40 = .ok (.ireturn, 1) := by decide +kernel
theorem dX4_best_0 : decode cX4_best 0 = .ok (.aload_n 0, 1) := by decide +kernel
theorem dX4_best_1 : decode cX4_best 1 = .ok (.iload_n 1, 1) := by decide +kernel
theorem dX4_best_2 : decode cX4_best 2 = .ok (.invokevirtual 64, 3) := by decide +kernel
theorem dX4_best_5 : decode cX4_best 5 = .ok (.astore 4, 2) := by decide +kernel
theorem dX4_best_7 : decode cX4_best 7 = .ok (.iload_n 3, 1) := by decide +kernel
theorem dX4_best_8 : decode cX4_best 8 = .ok (.iconst 2, 1) := by decide +kernel
theorem dX4_best_9 : decode cX4_best 9 = .ok (.invokestatic 180, 3) := by decide +kernel
theorem dX4_best_12 : decode cX4_best 12 = .ok (.iload_n 2, 1) := by decide +kernel
theorem dX4_best_13 : decode cX4_best 13 = .ok (.iconst 1, 1) := by decide +kernel
theorem dX4_best_14 : decode cX4_best 14 = .ok (.if_icmp .lt 9, 3) := by decide +kernel
theorem dX4_best_17 : decode cX4_best 17 = .ok (.iload_n 2, 1) := by decide +kernel
theorem dX4_best_18 : decode cX4_best 18 = .ok (.bipush 10, 2) := by decide +kernel
theorem dX4_best_20 : decode cX4_best 20 = .ok (.if_icmp .le 13, 3) := by decide +kernel
theorem dX4_best_23 : decode cX4_best 23 = .ok (.new 45, 3) := by decide +kernel
theorem dX4_best_26 : decode cX4_best 26 = .ok (.dup, 1) := by decide +kernel
theorem dX4_best_27 : decode cX4_best 27 = .ok (.ldc 227, 2) := by decide +kernel
theorem dX4_best_29 : decode cX4_best 29 = .ok (.invokespecial 49, 3) := by decide +kernel
theorem dX4_best_32 : decode cX4_best 32 = .ok (.athrow, 1) := by decide +kernel
theorem dX4_best_33 : decode cX4_best 33 = .ok (.iconst (-1), 1) := by decide +kernel
theorem dX4_best_34 : decode cX4_best 34 = .ok (.istore 5, 2) := by decide +kernel
theorem dX4_best_36 : decode cX4_best 36 = .ok (.iconst (-1), 1) := by decide +kernel
theorem dX4_best_37 : decode cX4_best 37 = .ok (.istore 6, 2) := by decide +kernel
theorem dX4_best_39 : decode cX4_best 39 = .ok (.iconst (-1), 1) := by decide +kernel
theorem dX4_best_40 : decode cX4_best 40 = .ok (.istore 7, 2) := by decide +kernel
theorem dX4_best_42 : decode cX4_best 42 = .ok (.bipush 15, 2) := by decide +kernel
theorem dX4_best_44 : decode cX4_best 44 = .ok (.istore 8, 2) := by decide +kernel
theorem dX4_best_46 : decode cX4_best 46 = .ok (.iload 8, 2) := by decide +kernel
theorem dX4_best_48 : decode cX4_best 48 = .ok (.bipush 50, 2) := by decide +kernel
theorem dX4_best_50 : decode cX4_best 50 = .ok (.if_icmp .gt 111, 3) := by decide +kernel
theorem dX4_best_53 : decode cX4_best 53 = .ok (.iload 7, 2) := by decide +kernel
theorem dX4_best_55 : decode cX4_best 55 = .ok (.bipush 100, 2) := by decide +kernel
theorem dX4_best_57 : decode cX4_best 57 = .ok (.if_icmp .ge 104, 3) := by decide +kernel
theorem dX4_best_60 : decode cX4_best 60 = .ok (.aload_n 0, 1) := by decide +kernel
theorem dX4_best_61 : decode cX4_best 61 = .ok (.getfield 30, 3) := by decide +kernel
theorem dX4_best_64 : decode cX4_best 64 = .ok (.aload 4, 2) := by decide +kernel
theorem dX4_best_66 : decode cX4_best 66 = .ok (.getfield 75, 3) := by decide +kernel
theorem dX4_best_69 : decode cX4_best 69 = .ok (.invokevirtual 223, 3) := by decide +kernel
theorem dX4_best_72 : decode cX4_best 72 = .ok (.aload_n 0, 1) := by decide +kernel
theorem dX4_best_73 : decode cX4_best 73 = .ok (.getfield 30, 3) := by decide +kernel
theorem dX4_best_76 : decode cX4_best 76 = .ok (.iload 8, 2) := by decide +kernel
theorem dX4_best_78 : decode cX4_best 78 = .ok (.iload_n 2, 1) := by decide +kernel
theorem dX4_best_79 : decode cX4_best 79 = .ok (.invokevirtual 78, 3) := by decide +kernel
theorem dX4_best_82 : decode cX4_best 82 = .ok (.bipush 15, 2) := by decide +kernel
theorem dX4_best_84 : decode cX4_best 84 = .ok (.istore 9, 2) := by decide +kernel
theorem dX4_best_86 : decode cX4_best 86 = .ok (.iload 9, 2) := by decide +kernel
theorem dX4_best_88 : decode cX4_best 88 = .ok (.bipush 50, 2) := by decide +kernel
theorem dX4_best_90 : decode cX4_best 90 = .ok (.if_icmp .gt 65, 3) := by decide +kernel
theorem dX4_best_93 : decode cX4_best 93 = .ok (.iload 7, 2) := by decide +kernel
theorem dX4_best_95 : decode cX4_best 95 = .ok (.bipush 100, 2) := by decide +kernel
theorem dX4_best_97 : decode cX4_best 97 = .ok (.if_icmp .ge 58, 3) := by decide +kernel
theorem dX4_best_100 : decode cX4_best 100 = .ok (.aload_n 0, 1) := by decide +kernel
theorem dX4_best_101 : decode cX4_best 101 = .ok (.getfield 34, 3) := by decide +kernel
theorem dX4_best_104 : decode cX4_best 104 = .ok (.aload_n 0, 1) := by decide +kernel
theorem dX4_best_105 : decode cX4_best 105 = .ok (.getfield 30, 3) := by decide +kernel
theorem dX4_best_108 : decode cX4_best 108 = .ok (.invokevirtual 223, 3) := by decide +kernel
theorem dX4_best_111 : decode cX4_best 111 = .ok (.aload_n 0, 1) := by decide +kernel
theorem dX4_best_112 : decode cX4_best 112 = .ok (.getfield 34, 3) := by decide +kernel
theorem dX4_best_115 : decode cX4_best 115 = .ok (.iload 9, 2) := by decide +kernel
theorem dX4_best_117 : decode cX4_best 117 = .ok (.iload_n 2, 1) := by decide +kernel
theorem dX4_best_118 : decode cX4_best 118 = .ok (.invokevirtual 78, 3) := by decide +kernel
theorem dX4_best_121 : decode cX4_best 121 = .ok (.aload_n 0, 1) := by decide +kernel
theorem dX4_best_122 : decode cX4_best 122 = .ok (.getfield 34, 3) := by decide +kernel
theorem dX4_best_125 : decode cX4_best 125 = .ok (.invokevirtual 81, 3) := by decide +kernel
theorem dX4_best_128 : decode cX4_best 128 = .ok (.istore 10, 2) := by decide +kernel
theorem dX4_best_130 : decode cX4_best 130 = .ok (.iload 10, 2) := by decide +kernel
theorem dX4_best_132 : decode cX4_best 132 = .ok (.iload 7, 2) := by decide +kernel
theorem dX4_best_134 : decode cX4_best 134 = .ok (.if_icmp .le 15, 3) := by decide +kernel
theorem dX4_best_137 : decode cX4_best 137 = .ok (.iload 8, 2) := by decide +kernel
theorem dX4_best_139 : decode cX4_best 139 = .ok (.istore 5, 2) := by decide +kernel
theorem dX4_best_141 : decode cX4_best 141 = .ok (.iload 9, 2) := by decide +kernel
theorem dX4_best_143 : decode cX4_best 143 = .ok (.istore 6, 2) := by decide +kernel
theorem dX4_best_145 : decode cX4_best 145 = .ok (.iload 10, 2) := by decide +kernel
theorem dX4_best_147 : decode cX4_best 147 = .ok (.istore 7, 2) := by decide +kernel
theorem dX4_best_149 : decode cX4_best 149 = .ok (.iinc 9 1, 3) := by decide +kernel
theorem dX4_best_152 : decode cX4_best 152 = .ok (.goto (-66), 3) := by decide +kernel
theorem dX4_best_155 : decode cX4_best 155 = .ok (.iinc 8 1, 3) := by decide +kernel
theorem dX4_best_158 : decode cX4_best 158 = .ok (.goto (-112), 3) := by decide +kernel
theorem dX4_best_161 : decode cX4_best 161 = .ok (.iload_n 3, 1) := by decide +kernel
theorem dX4_best_162 : decode cX4_best 162 = .ok (.ifCond .ne 6, 3) := by decide +kernel
theorem dX4_best_165 : decode cX4_best 165 = .ok (.iload 5, 2) := by decide +kernel
theorem dX4_best_167 : decode cX4_best 167 = .ok (.ireturn, 1) := by decide +kernel
theorem dX4_best_168 : decode cX4_best 168 = .ok (.iload_n 3, 1) := by decide +kernel
theorem dX4_best_169 : decode cX4_best 169 = .ok (.iconst 1, 1) := by decide +kernel
theorem dX4_best_170 : decode cX4_best 170 = .ok (.if_icmp .ne 8, 3) := by decide +kernel
theorem dX4_best_173 : decode cX4_best 173 = .ok (.iload 6, 2) := by decide +kernel
theorem dX4_best_175 : decode cX4_best 175 = .ok (.goto 5, 3) := by decide +kernel
theorem dX4_best_178 : decode cX4_best 178 = .ok (.iload 7, 2) := by decide +kernel
theorem dX4_best_180 : decode cX4_best 180 = .ok (.ireturn, 1) := by decide +kernel
theorem dX4_until_0 : decode cX4_until 0 = .ok (.aload_n 0, 1) := by decide +kernel
theorem dX4_until_1 : decode cX4_until 1 = .ok (.iload_n 1, 1) := by decide +kernel
theorem dX4_until_2 : decode cX4_until 2 = .ok (.invokevirtual 115, 3) := by decide +kernel
theorem dX4_until_5 : decode cX4_until 5 = .ok (.astore_n 3, 1) := by decide +kernel
theorem dX4_until_6 : decode cX4_until 6 = .ok (.iload_n 2, 1) := by decide +kernel
theorem dX4_until_7 : decode cX4_until 7 = .ok (.invokestatic 166, 3) := by decide +kernel
theorem dX4_until_10 : decode cX4_until 10 = .ok (.aload_n 3, 1) := by decide +kernel
theorem dX4_until_11 : decode cX4_until 11 = .ok (.invokevirtual 229, 3) := by decide +kernel
theorem dX4_until_14 : decode cX4_until 14 = .ok (.ifCond .eq 5, 3) := by decide +kernel
theorem dX4_until_17 : decode cX4_until 17 = .ok (.iconst 0, 1) := by decide +kernel
theorem dX4_until_18 : decode cX4_until 18 = .ok (.ireturn, 1) := by decide +kernel
theorem dX4_until_19 : decode cX4_until 19 = .ok (.aload_n 3, 1) := by decide +kernel
theorem dX4_until_20 : decode cX4_until 20 = .ok (.iload_n 2, 1) := by decide +kernel
theorem dX4_until_21 : decode cX4_until 21 = .ok (.invokevirtual 233, 3) := by decide +kernel
theorem dX4_until_24 : decode cX4_until 24 = .ok (.istore 4, 2) := by decide +kernel
theorem dX4_until_26 : decode cX4_until 26 = .ok (.iload 4, 2) := by decide +kernel
theorem dX4_until_28 : decode cX4_until 28 = .ok (.ifCond .gt 5, 3) := by decide +kernel
theorem dX4_until_31 : decode cX4_until 31 = .ok (.iconst (-1), 1) := by decide +kernel
theorem dX4_until_32 : decode cX4_until 32 = .ok (.ireturn, 1) := by decide +kernel
theorem dX4_until_33 : decode cX4_until 33 = .ok (.bipush 20, 2) := by decide +kernel
theorem dX4_until_35 : decode cX4_until 35 = .ok (.aload_n 3, 1) := by decide +kernel
theorem dX4_until_36 : decode cX4_until 36 = .ok (.getfield 122, 3) := by decide +kernel
theorem dX4_until_39 : decode cX4_until 39 = .ok (.isub, 1) := by decide +kernel
theorem dX4_until_40 : decode cX4_until 40 = .ok (.iload 4, 2) := by decide +kernel
theorem dX4_until_42 : decode cX4_until 42 = .ok (.idiv, 1) := by decide +kernel
theorem dX4_until_43 : decode cX4_until 43 = .ok (.iconst 1, 1) := by decide +kernel
theorem dX4_until_44 : decode cX4_until 44 = .ok (.iadd, 1) := by decide +kernel
theorem dX4_until_45 : decode cX4_until 45 = .ok (.ireturn, 1) := by decide +kernel
theorem dX4_advise_0 : decode cX4_advise 0 = .ok (.iconst (-1), 1) := by decide +kernel
theorem dX4_advise_1 : decode cX4_advise 1 = .ok (.istore_n 1, 1) := by decide +kernel
theorem dX4_advise_2 : decode cX4_advise 2 = .ok (.aload_n 0, 1) := by decide +kernel
theorem dX4_advise_3 : decode cX4_advise 3 = .ok (.iconst (-1), 1) := by decide +kernel
theorem dX4_advise_4 : decode cX4_advise 4 = .ok (.invokevirtual 158, 3) := by decide +kernel
theorem dX4_advise_7 : decode cX4_advise 7 = .ok (.istore_n 2, 1) := by decide +kernel
theorem dX4_advise_8 : decode cX4_advise 8 = .ok (.iconst 0, 1) := by decide +kernel
theorem dX4_advise_9 : decode cX4_advise 9 = .ok (.istore_n 3, 1) := by decide +kernel
theorem dX4_advise_10 : decode cX4_advise 10 = .ok (.iload_n 3, 1) := by decide +kernel
theorem dX4_advise_11 : decode cX4_advise 11 = .ok (.aload_n 0, 1) := by decide +kernel
theorem dX4_advise_12 : decode cX4_advise 12 = .ok (.getfield 211, 3) := by decide +kernel
theorem dX4_advise_15 : decode cX4_advise 15 = .ok (.if_icmp .ge 27, 3) := by decide +kernel
theorem dX4_advise_18 : decode cX4_advise 18 = .ok (.aload_n 0, 1) := by decide +kernel
theorem dX4_advise_19 : decode cX4_advise 19 = .ok (.iload_n 3, 1) := by decide +kernel
theorem dX4_advise_20 : decode cX4_advise 20 = .ok (.invokevirtual 158, 3) := by decide +kernel
theorem dX4_advise_23 : decode cX4_advise 23 = .ok (.istore 4, 2) := by decide +kernel
theorem dX4_advise_25 : decode cX4_advise 25 = .ok (.iload 4, 2) := by decide +kernel
theorem dX4_advise_27 : decode cX4_advise 27 = .ok (.iload_n 2, 1) := by decide +kernel
theorem dX4_advise_28 : decode cX4_advise 28 = .ok (.if_icmp .le 8, 3) := by decide +kernel
theorem dX4_advise_31 : decode cX4_advise 31 = .ok (.iload_n 3, 1) := by decide +kernel
theorem dX4_advise_32 : decode cX4_advise 32 = .ok (.istore_n 1, 1) := by decide +kernel
theorem dX4_advise_33 : decode cX4_advise 33 = .ok (.iload 4, 2) := by decide +kernel
theorem dX4_advise_35 : decode cX4_advise 35 = .ok (.istore_n 2, 1) := by decide +kernel
theorem dX4_advise_36 : decode cX4_advise 36 = .ok (.iinc 3 1, 3) := by decide +kernel
theorem dX4_advise_39 : decode cX4_advise 39 = .ok (.goto (-29), 3) := by decide +kernel
theorem dX4_advise_42 : decode cX4_advise 42 = .ok (.iload_n 1, 1) := by decide +kernel
theorem dX4_advise_43 : decode cX4_advise 43 = .ok (.ireturn, 1) := by decide +kernel
theorem dX4_mean_0 : decode cX4_mean 0 = .ok (.iconst 0, 1) := by decide +kernel
theorem dX4_mean_1 : decode cX4_mean 1 = .ok (.istore_n 1, 1) := by decide +kernel
theorem dX4_mean_2 : decode cX4_mean 2 = .ok (.aload_n 0, 1) := by decide +kernel
theorem dX4_mean_3 : decode cX4_mean 3 = .ok (.getfield 17, 3) := by decide +kernel
theorem dX4_mean_6 : decode cX4_mean 6 = .ok (.astore_n 2, 1) := by decide +kernel
theorem dX4_mean_7 : decode cX4_mean 7 = .ok (.aload_n 2, 1) := by decide +kernel
theorem dX4_mean_8 : decode cX4_mean 8 = .ok (.arraylength, 1) := by decide +kernel
theorem dX4_mean_9 : decode cX4_mean 9 = .ok (.istore_n 3, 1) := by decide +kernel
theorem dX4_mean_10 : decode cX4_mean 10 = .ok (.iconst 0, 1) := by decide +kernel
theorem dX4_mean_11 : decode cX4_mean 11 = .ok (.istore 4, 2) := by decide +kernel
theorem dX4_mean_13 : decode cX4_mean 13 = .ok (.iload 4, 2) := by decide +kernel
theorem dX4_mean_15 : decode cX4_mean 15 = .ok (.iload_n 3, 1) := by decide +kernel
theorem dX4_mean_16 : decode cX4_mean 16 = .ok (.if_icmp .ge 28, 3) := by decide +kernel
theorem dX4_mean_19 : decode cX4_mean 19 = .ok (.aload_n 2, 1) := by decide +kernel
theorem dX4_mean_20 : decode cX4_mean 20 = .ok (.iload 4, 2) := by decide +kernel
theorem dX4_mean_22 : decode cX4_mean 22 = .ok (.aaload, 1) := by decide +kernel
theorem dX4_mean_23 : decode cX4_mean 23 = .ok (.astore 5, 2) := by decide +kernel
theorem dX4_mean_25 : decode cX4_mean 25 = .ok (.aload 5, 2) := by decide +kernel
theorem dX4_mean_27 : decode cX4_mean 27 = .ok (.ifnull 11, 3) := by decide +kernel
theorem dX4_mean_30 : decode cX4_mean 30 = .ok (.iload_n 1, 1) := by decide +kernel
theorem dX4_mean_31 : decode cX4_mean 31 = .ok (.aload 5, 2) := by decide +kernel
theorem dX4_mean_33 : decode cX4_mean 33 = .ok (.getfield 122, 3) := by decide +kernel
theorem dX4_mean_36 : decode cX4_mean 36 = .ok (.iadd, 1) := by decide +kernel
theorem dX4_mean_37 : decode cX4_mean 37 = .ok (.istore_n 1, 1) := by decide +kernel
theorem dX4_mean_38 : decode cX4_mean 38 = .ok (.iinc 4 1, 3) := by decide +kernel
theorem dX4_mean_41 : decode cX4_mean 41 = .ok (.goto (-28), 3) := by decide +kernel
theorem dX4_mean_44 : decode cX4_mean 44 = .ok (.aload_n 0, 1) := by decide +kernel
theorem dX4_mean_45 : decode cX4_mean 45 = .ok (.getfield 211, 3) := by decide +kernel
theorem dX4_mean_48 : decode cX4_mean 48 = .ok (.ifCond .gt 7, 3) := by decide +kernel
theorem dX4_mean_51 : decode cX4_mean 51 = .ok (.dconst 0, 1) := by decide +kernel
theorem dX4_mean_52 : decode cX4_mean 52 = .ok (.goto 11, 3) := by decide +kernel
theorem dX4_mean_55 : decode cX4_mean 55 = .ok (.iload_n 1, 1) := by decide +kernel
theorem dX4_mean_56 : decode cX4_mean 56 = .ok (.i2d, 1) := by decide +kernel
theorem dX4_mean_57 : decode cX4_mean 57 = .ok (.aload_n 0, 1) := by decide +kernel
theorem dX4_mean_58 : decode cX4_mean 58 = .ok (.getfield 211, 3) := by decide +kernel
theorem dX4_mean_61 : decode cX4_mean 61 = .ok (.i2d, 1) := by decide +kernel
theorem dX4_mean_62 : decode cX4_mean 62 = .ok (.ddiv, 1) := by decide +kernel
theorem dX4_mean_63 : decode cX4_mean 63 = .ok (.dreturn, 1) := by decide +kernel
theorem dX4_digest_0 : decode cX4_digest 0 = .ok (.ldc2_w 236, 3) := by decide +kernel
theorem dX4_digest_3 : decode cX4_digest 3 = .ok (.lstore_n 1, 1) := by decide +kernel
theorem dX4_digest_4 : decode cX4_digest 4 = .ok (.iconst 0, 1) := by decide +kernel
theorem dX4_digest_5 : decode cX4_digest 5 = .ok (.istore_n 3, 1) := by decide +kernel
theorem dX4_digest_6 : decode cX4_digest 6 = .ok (.iload_n 3, 1) := by decide +kernel
theorem dX4_digest_7 : decode cX4_digest 7 = .ok (.bipush 7, 2) := by decide +kernel
theorem dX4_digest_9 : decode cX4_digest 9 = .ok (.if_icmp .gt 22, 3) := by decide +kernel
theorem dX4_digest_12 : decode cX4_digest 12 = .ok (.lload_n 1, 1) := by decide +kernel
theorem dX4_digest_13 : decode cX4_digest 13 = .ok (.ldc2_w 238, 3) := by decide +kernel
theorem dX4_digest_16 : decode cX4_digest 16 = .ok (.lmul, 1) := by decide +kernel
theorem dX4_digest_17 : decode cX4_digest 17 = .ok (.aload_n 0, 1) := by decide +kernel
theorem dX4_digest_18 : decode cX4_digest 18 = .ok (.iload_n 3, 1) := by decide +kernel
theorem dX4_digest_19 : decode cX4_digest 19 = .ok (.invokevirtual 240, 3) := by decide +kernel
theorem dX4_digest_22 : decode cX4_digest 22 = .ok (.i2l, 1) := by decide +kernel
theorem dX4_digest_23 : decode cX4_digest 23 = .ok (.ladd, 1) := by decide +kernel
theorem dX4_digest_24 : decode cX4_digest 24 = .ok (.lstore_n 1, 1) := by decide +kernel
theorem dX4_digest_25 : decode cX4_digest 25 = .ok (.iinc 3 1, 3) := by decide +kernel
theorem dX4_digest_28 : decode cX4_digest 28 = .ok (.goto (-22), 3) := by decide +kernel
theorem dX4_digest_31 : decode cX4_digest 31 = .ok (.iconst 0, 1) := by decide +kernel
theorem dX4_digest_32 : decode cX4_digest 32 = .ok (.istore_n 3, 1) := by decide +kernel
theorem dX4_digest_33 : decode cX4_digest 33 = .ok (.iload_n 3, 1) := by decide +kernel
theorem dX4_digest_34 : decode cX4_digest 34 = .ok (.aload_n 0, 1) := by decide +kernel
theorem dX4_digest_35 : decode cX4_digest 35 = .ok (.getfield 52, 3) := by decide +kernel
theorem dX4_digest_38 : decode cX4_digest 38 = .ok (.if_icmp .ge 40, 3) := by decide +kernel
theorem dX4_digest_41 : decode cX4_digest 41 = .ok (.iconst 0, 1) := by decide +kernel
theorem dX4_digest_42 : decode cX4_digest 42 = .ok (.istore 4, 2) := by decide +kernel
theorem dX4_digest_44 : decode cX4_digest 44 = .ok (.iload 4, 2) := by decide +kernel
theorem dX4_digest_46 : decode cX4_digest 46 = .ok (.bipush 7, 2) := by decide +kernel
theorem dX4_digest_48 : decode cX4_digest 48 = .ok (.if_icmp .gt 24, 3) := by decide +kernel
theorem dX4_digest_51 : decode cX4_digest 51 = .ok (.lload_n 1, 1) := by decide +kernel
theorem dX4_digest_52 : decode cX4_digest 52 = .ok (.ldc2_w 238, 3) := by decide +kernel
theorem dX4_digest_55 : decode cX4_digest 55 = .ok (.lmul, 1) := by decide +kernel
theorem dX4_digest_56 : decode cX4_digest 56 = .ok (.aload_n 0, 1) := by decide +kernel
theorem dX4_digest_57 : decode cX4_digest 57 = .ok (.iload_n 3, 1) := by decide +kernel
theorem dX4_digest_58 : decode cX4_digest 58 = .ok (.iload 4, 2) := by decide +kernel
theorem dX4_digest_60 : decode cX4_digest 60 = .ok (.invokevirtual 243, 3) := by decide +kernel
theorem dX4_digest_63 : decode cX4_digest 63 = .ok (.i2l, 1) := by decide +kernel
theorem dX4_digest_64 : decode cX4_digest 64 = .ok (.ladd, 1) := by decide +kernel
theorem dX4_digest_65 : decode cX4_digest 65 = .ok (.lstore_n 1, 1) := by decide +kernel
theorem dX4_digest_66 : decode cX4_digest 66 = .ok (.iinc 4 1, 3) := by decide +kernel
theorem dX4_digest_69 : decode cX4_digest 69 = .ok (.goto (-25), 3) := by decide +kernel
theorem dX4_digest_72 : decode cX4_digest 72 = .ok (.iinc 3 1, 3) := by decide +kernel
theorem dX4_digest_75 : decode cX4_digest 75 = .ok (.goto (-42), 3) := by decide +kernel
theorem dX4_digest_78 : decode cX4_digest 78 = .ok (.iconst 0, 1) := by decide +kernel
theorem dX4_digest_79 : decode cX4_digest 79 = .ok (.istore_n 3, 1) := by decide +kernel
theorem dX4_digest_80 : decode cX4_digest 80 = .ok (.iload_n 3, 1) := by decide +kernel
theorem dX4_digest_81 : decode cX4_digest 81 = .ok (.aload_n 0, 1) := by decide +kernel
theorem dX4_digest_82 : decode cX4_digest 82 = .ok (.getfield 211, 3) := by decide +kernel
theorem dX4_digest_85 : decode cX4_digest 85 = .ok (.if_icmp .ge 40, 3) := by decide +kernel
theorem dX4_digest_88 : decode cX4_digest 88 = .ok (.iconst 0, 1) := by decide +kernel
theorem dX4_digest_89 : decode cX4_digest 89 = .ok (.istore 4, 2) := by decide +kernel
theorem dX4_digest_91 : decode cX4_digest 91 = .ok (.iload 4, 2) := by decide +kernel
theorem dX4_digest_93 : decode cX4_digest 93 = .ok (.bipush 6, 2) := by decide +kernel
theorem dX4_digest_95 : decode cX4_digest 95 = .ok (.if_icmp .gt 24, 3) := by decide +kernel
theorem dX4_digest_98 : decode cX4_digest 98 = .ok (.lload_n 1, 1) := by decide +kernel
theorem dX4_digest_99 : decode cX4_digest 99 = .ok (.ldc2_w 238, 3) := by decide +kernel
theorem dX4_digest_102 : decode cX4_digest 102 = .ok (.lmul, 1) := by decide +kernel
theorem dX4_digest_103 : decode cX4_digest 103 = .ok (.aload_n 0, 1) := by decide +kernel
theorem dX4_digest_104 : decode cX4_digest 104 = .ok (.iload_n 3, 1) := by decide +kernel
theorem dX4_digest_105 : decode cX4_digest 105 = .ok (.iload 4, 2) := by decide +kernel
theorem dX4_digest_107 : decode cX4_digest 107 = .ok (.invokevirtual 247, 3) := by decide +kernel
theorem dX4_digest_110 : decode cX4_digest 110 = .ok (.i2l, 1) := by decide +kernel
theorem dX4_digest_111 : decode cX4_digest 111 = .ok (.ladd, 1) := by decide +kernel
theorem dX4_digest_112 : decode cX4_digest 112 = .ok (.lstore_n 1, 1) := by decide +kernel
theorem dX4_digest_113 : decode cX4_digest 113 = .ok (.iinc 4 1, 3) := by decide +kernel
theorem dX4_digest_116 : decode cX4_digest 116 = .ok (.goto (-25), 3) := by decide +kernel
theorem dX4_digest_119 : decode cX4_digest 119 = .ok (.iinc 3 1, 3) := by decide +kernel
theorem dX4_digest_122 : decode cX4_digest 122 = .ok (.goto (-42), 3) := by decide +kernel
theorem dX4_digest_125 : decode cX4_digest 125 = .ok (.iconst 0, 1) := by decide +kernel
theorem dX4_digest_126 : decode cX4_digest 126 = .ok (.istore_n 3, 1) := by decide +kernel
theorem dX4_digest_127 : decode cX4_digest 127 = .ok (.iload_n 3, 1) := by decide +kernel
theorem dX4_digest_128 : decode cX4_digest 128 = .ok (.aload_n 0, 1) := by decide +kernel
theorem dX4_digest_129 : decode cX4_digest 129 = .ok (.getfield 151, 3) := by decide +kernel
theorem dX4_digest_132 : decode cX4_digest 132 = .ok (.if_icmp .ge 39, 3) := by decide +kernel
theorem dX4_digest_135 : decode cX4_digest 135 = .ok (.iconst 0, 1) := by decide +kernel
theorem dX4_digest_136 : decode cX4_digest 136 = .ok (.istore 4, 2) := by decide +kernel
theorem dX4_digest_138 : decode cX4_digest 138 = .ok (.iload 4, 2) := by decide +kernel
theorem dX4_digest_140 : decode cX4_digest 140 = .ok (.iconst 4, 1) := by decide +kernel
theorem dX4_digest_141 : decode cX4_digest 141 = .ok (.if_icmp .gt 24, 3) := by decide +kernel
theorem dX4_digest_144 : decode cX4_digest 144 = .ok (.lload_n 1, 1) := by decide +kernel
theorem dX4_digest_145 : decode cX4_digest 145 = .ok (.ldc2_w 238, 3) := by decide +kernel
theorem dX4_digest_148 : decode cX4_digest 148 = .ok (.lmul, 1) := by decide +kernel
theorem dX4_digest_149 : decode cX4_digest 149 = .ok (.aload_n 0, 1) := by decide +kernel
theorem dX4_digest_150 : decode cX4_digest 150 = .ok (.iload_n 3, 1) := by decide +kernel
theorem dX4_digest_151 : decode cX4_digest 151 = .ok (.iload 4, 2) := by decide +kernel
theorem dX4_digest_153 : decode cX4_digest 153 = .ok (.invokevirtual 250, 3) := by decide +kernel
theorem dX4_digest_156 : decode cX4_digest 156 = .ok (.i2l, 1) := by decide +kernel
theorem dX4_digest_157 : decode cX4_digest 157 = .ok (.ladd, 1) := by decide +kernel
theorem dX4_digest_158 : decode cX4_digest 158 = .ok (.lstore_n 1, 1) := by decide +kernel
theorem dX4_digest_159 : decode cX4_digest 159 = .ok (.iinc 4 1, 3) := by decide +kernel
theorem dX4_digest_162 : decode cX4_digest 162 = .ok (.goto (-24), 3) := by decide +kernel
theorem dX4_digest_165 : decode cX4_digest 165 = .ok (.iinc 3 1, 3) := by decide +kernel
theorem dX4_digest_168 : decode cX4_digest 168 = .ok (.goto (-41), 3) := by decide +kernel
theorem dX4_digest_171 : decode cX4_digest 171 = .ok (.lload_n 1, 1) := by decide +kernel
theorem dX4_digest_172 : decode cX4_digest 172 = .ok (.lreturn, 1) := by decide +kernel
theorem dX4_checkWarming_0 : decode cX4_checkWarming 0 = .ok (.iload_n 0, 1) := by decide +kernel
theorem dX4_checkWarming_1 : decode cX4_checkWarming 1 = .ok (.bipush 15, 2) := by decide +kernel
theorem dX4_checkWarming_3 : decode cX4_checkWarming 3 = .ok (.if_icmp .lt 20, 3) := by decide +kernel
theorem dX4_checkWarming_6 : decode cX4_checkWarming 6 = .ok (.iload_n 0, 1) := by decide +kernel
theorem dX4_checkWarming_7 : decode cX4_checkWarming 7 = .ok (.bipush 50, 2) := by decide +kernel
theorem dX4_checkWarming_9 : decode cX4_checkWarming 9 = .ok (.if_icmp .gt 14, 3) := by decide +kernel
theorem dX4_checkWarming_12 : decode cX4_checkWarming 12 = .ok (.iload_n 1, 1) := by decide +kernel
theorem dX4_checkWarming_13 : decode cX4_checkWarming 13 = .ok (.iconst 1, 1) := by decide +kernel
theorem dX4_checkWarming_14 : decode cX4_checkWarming 14 = .ok (.if_icmp .lt 9, 3) := by decide +kernel
theorem dX4_checkWarming_17 : decode cX4_checkWarming 17 = .ok (.iload_n 1, 1) := by decide +kernel
theorem dX4_checkWarming_18 : decode cX4_checkWarming 18 = .ok (.bipush 40, 2) := by decide +kernel
theorem dX4_checkWarming_20 : decode cX4_checkWarming 20 = .ok (.if_icmp .le 13, 3) := by decide +kernel
theorem dX4_checkWarming_23 : decode cX4_checkWarming 23 = .ok (.new 45, 3) := by decide +kernel
theorem dX4_checkWarming_26 : decode cX4_checkWarming 26 = .ok (.dup, 1) := by decide +kernel
theorem dX4_checkWarming_27 : decode cX4_checkWarming 27 = .ok (.ldc 253, 2) := by decide +kernel
theorem dX4_checkWarming_29 : decode cX4_checkWarming 29 = .ok (.invokespecial 49, 3) := by decide +kernel
theorem dX4_checkWarming_32 : decode cX4_checkWarming 32 = .ok (.athrow, 1) := by decide +kernel
theorem dX4_checkWarming_33 : decode cX4_checkWarming 33 = .ok (.return_, 1) := by decide +kernel
theorem dX4_checkRoom_0 : decode cX4_checkRoom 0 = .ok (.iload_n 0, 1) := by decide +kernel
theorem dX4_checkRoom_1 : decode cX4_checkRoom 1 = .ok (.bipush 10, 2) := by decide +kernel
theorem dX4_checkRoom_3 : decode cX4_checkRoom 3 = .ok (.if_icmp .lt 9, 3) := by decide +kernel
theorem dX4_checkRoom_6 : decode cX4_checkRoom 6 = .ok (.iload_n 0, 1) := by decide +kernel
theorem dX4_checkRoom_7 : decode cX4_checkRoom 7 = .ok (.bipush 40, 2) := by decide +kernel
theorem dX4_checkRoom_9 : decode cX4_checkRoom 9 = .ok (.if_icmp .le 13, 3) := by decide +kernel
theorem dX4_checkRoom_12 : decode cX4_checkRoom 12 = .ok (.new 45, 3) := by decide +kernel
theorem dX4_checkRoom_15 : decode cX4_checkRoom 15 = .ok (.dup, 1) := by decide +kernel
theorem dX4_checkRoom_16 : decode cX4_checkRoom 16 = .ok (.ldc 255, 2) := by decide +kernel
theorem dX4_checkRoom_18 : decode cX4_checkRoom 18 = .ok (.invokespecial 49, 3) := by decide +kernel
theorem dX4_checkRoom_21 : decode cX4_checkRoom 21 = .ok (.athrow, 1) := by decide +kernel
theorem dX4_checkRoom_22 : decode cX4_checkRoom 22 = .ok (.return_, 1) := by decide +kernel
theorem dX4_checkWhat_0 : decode cX4_checkWhat 0 = .ok (.iload_n 0, 1) := by decide +kernel
theorem dX4_checkWhat_1 : decode cX4_checkWhat 1 = .ok (.ifCond .lt 8, 3) := by decide +kernel
theorem dX4_checkWhat_4 : decode cX4_checkWhat 4 = .ok (.iload_n 0, 1) := by decide +kernel
theorem dX4_checkWhat_5 : decode cX4_checkWhat 5 = .ok (.iload_n 1, 1) := by decide +kernel
theorem dX4_checkWhat_6 : decode cX4_checkWhat 6 = .ok (.if_icmp .le 14, 3) := by decide +kernel
theorem dX4_checkWhat_9 : decode cX4_checkWhat 9 = .ok (.new 131, 3) := by decide +kernel
theorem dX4_checkWhat_12 : decode cX4_checkWhat 12 = .ok (.dup, 1) := by decide +kernel
theorem dX4_checkWhat_13 : decode cX4_checkWhat 13 = .ok (.ldc_w 257, 3) := by decide +kernel
theorem dX4_checkWhat_16 : decode cX4_checkWhat 16 = .ok (.invokespecial 135, 3) := by decide +kernel
theorem dX4_checkWhat_19 : decode cX4_checkWhat 19 = .ok (.athrow, 1) := by decide +kernel
theorem dX4_checkWhat_20 : decode cX4_checkWhat 20 = .ok (.return_, 1) := by decide +kernel
theorem dX4_bowlAt_0 : decode cX4_bowlAt 0 = .ok (.iload_n 1, 1) := by decide +kernel
theorem dX4_bowlAt_1 : decode cX4_bowlAt 1 = .ok (.ifCond .lt 8, 3) := by decide +kernel
theorem dX4_bowlAt_4 : decode cX4_bowlAt 4 = .ok (.iload_n 1, 1) := by decide +kernel
theorem dX4_bowlAt_5 : decode cX4_bowlAt 5 = .ok (.iconst 5, 1) := by decide +kernel
theorem dX4_bowlAt_6 : decode cX4_bowlAt 6 = .ok (.if_icmp .lt 7, 3) := by decide +kernel
theorem dX4_bowlAt_9 : decode cX4_bowlAt 9 = .ok (.aconst_null, 1) := by decide +kernel
theorem dX4_bowlAt_10 : decode cX4_bowlAt 10 = .ok (.goto 9, 3) := by decide +kernel
theorem dX4_bowlAt_13 : decode cX4_bowlAt 13 = .ok (.aload_n 0, 1) := by decide +kernel
theorem dX4_bowlAt_14 : decode cX4_bowlAt 14 = .ok (.getfield 11, 3) := by decide +kernel
theorem dX4_bowlAt_17 : decode cX4_bowlAt 17 = .ok (.iload_n 1, 1) := by decide +kernel
theorem dX4_bowlAt_18 : decode cX4_bowlAt 18 = .ok (.aaload, 1) := by decide +kernel
theorem dX4_bowlAt_19 : decode cX4_bowlAt 19 = .ok (.astore_n 2, 1) := by decide +kernel
theorem dX4_bowlAt_20 : decode cX4_bowlAt 20 = .ok (.aload_n 2, 1) := by decide +kernel
theorem dX4_bowlAt_21 : decode cX4_bowlAt 21 = .ok (.ifnonnull 14, 3) := by decide +kernel
theorem dX4_bowlAt_24 : decode cX4_bowlAt 24 = .ok (.new 131, 3) := by decide +kernel
theorem dX4_bowlAt_27 : decode cX4_bowlAt 27 = .ok (.dup, 1) := by decide +kernel
theorem dX4_bowlAt_28 : decode cX4_bowlAt 28 = .ok (.ldc_w 259, 3) := by decide +kernel
theorem dX4_bowlAt_31 : decode cX4_bowlAt 31 = .ok (.invokespecial 135, 3) := by decide +kernel
theorem dX4_bowlAt_34 : decode cX4_bowlAt 34 = .ok (.athrow, 1) := by decide +kernel
theorem dX4_bowlAt_35 : decode cX4_bowlAt 35 = .ok (.aload_n 2, 1) := by decide +kernel
theorem dX4_bowlAt_36 : decode cX4_bowlAt 36 = .ok (.areturn, 1) := by decide +kernel
theorem dX4_slabAt_0 : decode cX4_slabAt 0 = .ok (.aload_n 0, 1) := by decide +kernel
theorem dX4_slabAt_1 : decode cX4_slabAt 1 = .ok (.iload_n 1, 1) := by decide +kernel
theorem dX4_slabAt_2 : decode cX4_slabAt 2 = .ok (.invokevirtual 261, 3) := by decide +kernel
theorem dX4_slabAt_5 : decode cX4_slabAt 5 = .ok (.astore_n 2, 1) := by decide +kernel
theorem dX4_slabAt_6 : decode cX4_slabAt 6 = .ok (.aload_n 2, 1) := by decide +kernel
theorem dX4_slabAt_7 : decode cX4_slabAt 7 = .ok (.ifnonnull 14, 3) := by decide +kernel
theorem dX4_slabAt_10 : decode cX4_slabAt 10 = .ok (.new 131, 3) := by decide +kernel
theorem dX4_slabAt_13 : decode cX4_slabAt 13 = .ok (.dup, 1) := by decide +kernel
theorem dX4_slabAt_14 : decode cX4_slabAt 14 = .ok (.ldc_w 264, 3) := by decide +kernel
theorem dX4_slabAt_17 : decode cX4_slabAt 17 = .ok (.invokespecial 135, 3) := by decide +kernel
theorem dX4_slabAt_20 : decode cX4_slabAt 20 = .ok (.athrow, 1) := by decide +kernel
theorem dX4_slabAt_21 : decode cX4_slabAt 21 = .ok (.aload_n 2, 1) := by decide +kernel
theorem dX4_slabAt_22 : decode cX4_slabAt 22 = .ok (.areturn, 1) := by decide +kernel
theorem dX4_findSlab_0 : decode cX4_findSlab 0 = .ok (.iload_n 1, 1) := by decide +kernel
theorem dX4_findSlab_1 : decode cX4_findSlab 1 = .ok (.ifCond .lt 9, 3) := by decide +kernel
theorem dX4_findSlab_4 : decode cX4_findSlab 4 = .ok (.iload_n 1, 1) := by decide +kernel
theorem dX4_findSlab_5 : decode cX4_findSlab 5 = .ok (.bipush 8, 2) := by decide +kernel
theorem dX4_findSlab_7 : decode cX4_findSlab 7 = .ok (.if_icmp .lt 7, 3) := by decide +kernel
theorem dX4_findSlab_10 : decode cX4_findSlab 10 = .ok (.aconst_null, 1) := by decide +kernel
theorem dX4_findSlab_11 : decode cX4_findSlab 11 = .ok (.goto 9, 3) := by decide +kernel
theorem dX4_findSlab_14 : decode cX4_findSlab 14 = .ok (.aload_n 0, 1) := by decide +kernel
theorem dX4_findSlab_15 : decode cX4_findSlab 15 = .ok (.getfield 17, 3) := by decide +kernel
theorem dX4_findSlab_18 : decode cX4_findSlab 18 = .ok (.iload_n 1, 1) := by decide +kernel
theorem dX4_findSlab_19 : decode cX4_findSlab 19 = .ok (.aaload, 1) := by decide +kernel
theorem dX4_findSlab_20 : decode cX4_findSlab 20 = .ok (.areturn, 1) := by decide +kernel
theorem dX4_boxAt_0 : decode cX4_boxAt 0 = .ok (.iload_n 1, 1) := by decide +kernel
theorem dX4_boxAt_1 : decode cX4_boxAt 1 = .ok (.ifCond .lt 9, 3) := by decide +kernel
theorem dX4_boxAt_4 : decode cX4_boxAt 4 = .ok (.iload_n 1, 1) := by decide +kernel
theorem dX4_boxAt_5 : decode cX4_boxAt 5 = .ok (.bipush 6, 2) := by decide +kernel
theorem dX4_boxAt_7 : decode cX4_boxAt 7 = .ok (.if_icmp .lt 7, 3) := by decide +kernel
theorem dX4_boxAt_10 : decode cX4_boxAt 10 = .ok (.aconst_null, 1) := by decide +kernel
theorem dX4_boxAt_11 : decode cX4_boxAt 11 = .ok (.goto 9, 3) := by decide +kernel
theorem dX4_boxAt_14 : decode cX4_boxAt 14 = .ok (.aload_n 0, 1) := by decide +kernel
theorem dX4_boxAt_15 : decode cX4_boxAt 15 = .ok (.getfield 23, 3) := by decide +kernel
theorem dX4_boxAt_18 : decode cX4_boxAt 18 = .ok (.iload_n 1, 1) := by decide +kernel
theorem dX4_boxAt_19 : decode cX4_boxAt 19 = .ok (.aaload, 1) := by decide +kernel
theorem dX4_boxAt_20 : decode cX4_boxAt 20 = .ok (.astore_n 2, 1) := by decide +kernel
theorem dX4_boxAt_21 : decode cX4_boxAt 21 = .ok (.aload_n 2, 1) := by decide +kernel
theorem dX4_boxAt_22 : decode cX4_boxAt 22 = .ok (.ifnonnull 14, 3) := by decide +kernel
theorem dX4_boxAt_25 : decode cX4_boxAt 25 = .ok (.new 131, 3) := by decide +kernel
theorem dX4_boxAt_28 : decode cX4_boxAt 28 = .ok (.dup, 1) := by decide +kernel
theorem dX4_boxAt_29 : decode cX4_boxAt 29 = .ok (.ldc_w 266, 3) := by decide +kernel
theorem dX4_boxAt_32 : decode cX4_boxAt 32 = .ok (.invokespecial 135, 3) := by decide +kernel
theorem dX4_boxAt_35 : decode cX4_boxAt 35 = .ok (.athrow, 1) := by decide +kernel
theorem dX4_boxAt_36 : decode cX4_boxAt 36 = .ok (.aload_n 2, 1) := by decide +kernel
theorem dX4_boxAt_37 : decode cX4_boxAt 37 = .ok (.areturn, 1) := by decide +kernel
theorem dX4_addSlab_0 : decode cX4_addSlab 0 = .ok (.aload_n 0, 1) := by decide +kernel
theorem dX4_addSlab_1 : decode cX4_addSlab 1 = .ok (.getfield 211, 3) := by decide +kernel
theorem dX4_addSlab_4 : decode cX4_addSlab 4 = .ok (.istore_n 2, 1) := by decide +kernel
theorem dX4_addSlab_5 : decode cX4_addSlab 5 = .ok (.iload_n 2, 1) := by decide +kernel
theorem dX4_addSlab_6 : decode cX4_addSlab 6 = .ok (.bipush 8, 2) := by decide +kernel
theorem dX4_addSlab_8 : decode cX4_addSlab 8 = .ok (.if_icmp .lt 14, 3) := by decide +kernel
theorem dX4_addSlab_11 : decode cX4_addSlab 11 = .ok (.new 56, 3) := by decide +kernel
theorem dX4_addSlab_14 : decode cX4_addSlab 14 = .ok (.dup, 1) := by decide +kernel
theorem dX4_addSlab_15 : decode cX4_addSlab 15 = .ok (.ldc_w 268, 3) := by decide +kernel
theorem dX4_addSlab_18 : decode cX4_addSlab 18 = .ok (.invokespecial 60, 3) := by decide +kernel
theorem dX4_addSlab_21 : decode cX4_addSlab 21 = .ok (.athrow, 1) := by decide +kernel
theorem dX4_addSlab_22 : decode cX4_addSlab 22 = .ok (.aload_n 0, 1) := by decide +kernel
theorem dX4_addSlab_23 : decode cX4_addSlab 23 = .ok (.getfield 17, 3) := by decide +kernel
theorem dX4_addSlab_26 : decode cX4_addSlab 26 = .ok (.iload_n 2, 1) := by decide +kernel
theorem dX4_addSlab_27 : decode cX4_addSlab 27 = .ok (.aload_n 1, 1) := by decide +kernel
theorem dX4_addSlab_28 : decode cX4_addSlab 28 = .ok (.aastore, 1) := by decide +kernel
theorem dX4_addSlab_29 : decode cX4_addSlab 29 = .ok (.aload_n 0, 1) := by decide +kernel
theorem dX4_addSlab_30 : decode cX4_addSlab 30 = .ok (.iload_n 2, 1) := by decide +kernel
theorem dX4_addSlab_31 : decode cX4_addSlab 31 = .ok (.iconst 1, 1) := by decide +kernel
theorem dX4_addSlab_32 : decode cX4_addSlab 32 = .ok (.iadd, 1) := by decide +kernel
theorem dX4_addSlab_33 : decode cX4_addSlab 33 = .ok (.putfield 211, 3) := by decide +kernel
theorem dX4_addSlab_36 : decode cX4_addSlab 36 = .ok (.iload_n 2, 1) := by decide +kernel
theorem dX4_addSlab_37 : decode cX4_addSlab 37 = .ok (.ireturn, 1) := by decide +kernel
theorem dX4_closeGaps_0 : decode cX4_closeGaps 0 = .ok (.iconst 0, 1) := by decide +kernel
theorem dX4_closeGaps_1 : decode cX4_closeGaps 1 = .ok (.istore_n 1, 1) := by decide +kernel
theorem dX4_closeGaps_2 : decode cX4_closeGaps 2 = .ok (.iconst 0, 1) := by decide +kernel
theorem dX4_closeGaps_3 : decode cX4_closeGaps 3 = .ok (.istore_n 2, 1) := by decide +kernel
theorem dX4_closeGaps_4 : decode cX4_closeGaps 4 = .ok (.iload_n 2, 1) := by decide +kernel
theorem dX4_closeGaps_5 : decode cX4_closeGaps 5 = .ok (.bipush 8, 2) := by decide +kernel
theorem dX4_closeGaps_7 : decode cX4_closeGaps 7 = .ok (.if_icmp .ge 37, 3) := by decide +kernel
theorem dX4_closeGaps_10 : decode cX4_closeGaps 10 = .ok (.aload_n 0, 1) := by decide +kernel
theorem dX4_closeGaps_11 : decode cX4_closeGaps 11 = .ok (.getfield 17, 3) := by decide +kernel
theorem dX4_closeGaps_14 : decode cX4_closeGaps 14 = .ok (.iload_n 2, 1) := by decide +kernel
theorem dX4_closeGaps_15 : decode cX4_closeGaps 15 = .ok (.aaload, 1) := by decide +kernel
theorem dX4_closeGaps_16 : decode cX4_closeGaps 16 = .ok (.astore_n 3, 1) := by decide +kernel
theorem dX4_closeGaps_17 : decode cX4_closeGaps 17 = .ok (.aload_n 0, 1) := by decide +kernel
theorem dX4_closeGaps_18 : decode cX4_closeGaps 18 = .ok (.getfield 17, 3) := by decide +kernel
theorem dX4_closeGaps_21 : decode cX4_closeGaps 21 = .ok (.iload_n 2, 1) := by decide +kernel
theorem dX4_closeGaps_22 : decode cX4_closeGaps 22 = .ok (.aconst_null, 1) := by decide +kernel
theorem dX4_closeGaps_23 : decode cX4_closeGaps 23 = .ok (.aastore, 1) := by decide +kernel
theorem dX4_closeGaps_24 : decode cX4_closeGaps 24 = .ok (.aload_n 3, 1) := by decide +kernel
theorem dX4_closeGaps_25 : decode cX4_closeGaps 25 = .ok (.ifnull 13, 3) := by decide +kernel
theorem dX4_closeGaps_28 : decode cX4_closeGaps 28 = .ok (.aload_n 0, 1) := by decide +kernel
theorem dX4_closeGaps_29 : decode cX4_closeGaps 29 = .ok (.getfield 17, 3) := by decide +kernel
theorem dX4_closeGaps_32 : decode cX4_closeGaps 32 = .ok (.iload_n 1, 1) := by decide +kernel
theorem dX4_closeGaps_33 : decode cX4_closeGaps 33 = .ok (.aload_n 3, 1) := by decide +kernel
theorem dX4_closeGaps_34 : decode cX4_closeGaps 34 = .ok (.aastore, 1) := by decide +kernel
theorem dX4_closeGaps_35 : decode cX4_closeGaps 35 = .ok (.iinc 1 1, 3) := by decide +kernel
theorem dX4_closeGaps_38 : decode cX4_closeGaps 38 = .ok (.iinc 2 1, 3) := by decide +kernel
theorem dX4_closeGaps_41 : decode cX4_closeGaps 41 = .ok (.goto (-37), 3) := by decide +kernel
theorem dX4_closeGaps_44 : decode cX4_closeGaps 44 = .ok (.aload_n 0, 1) := by decide +kernel
theorem dX4_closeGaps_45 : decode cX4_closeGaps 45 = .ok (.iload_n 1, 1) := by decide +kernel
theorem dX4_closeGaps_46 : decode cX4_closeGaps 46 = .ok (.putfield 211, 3) := by decide +kernel
theorem dX4_closeGaps_49 : decode cX4_closeGaps 49 = .ok (.return_, 1) := by decide +kernel
theorem dX4_filledBoxes_0 : decode cX4_filledBoxes 0 = .ok (.iconst 0, 1) := by decide +kernel
theorem dX4_filledBoxes_1 : decode cX4_filledBoxes 1 = .ok (.istore_n 1, 1) := by decide +kernel
theorem dX4_filledBoxes_2 : decode cX4_filledBoxes 2 = .ok (.aload_n 0, 1) := by decide +kernel
theorem dX4_filledBoxes_3 : decode cX4_filledBoxes 3 = .ok (.getfield 23, 3) := by decide +kernel
theorem dX4_filledBoxes_6 : decode cX4_filledBoxes 6 = .ok (.astore_n 2, 1) := by decide +kernel
theorem dX4_filledBoxes_7 : decode cX4_filledBoxes 7 = .ok (.aload_n 2, 1) := by decide +kernel
theorem dX4_filledBoxes_8 : decode cX4_filledBoxes 8 = .ok (.arraylength, 1) := by decide +kernel
theorem dX4_filledBoxes_9 : decode cX4_filledBoxes 9 = .ok (.istore_n 3, 1) := by decide +kernel
theorem dX4_filledBoxes_10 : decode cX4_filledBoxes 10 = .ok (.iconst 0, 1) := by decide +kernel
theorem dX4_filledBoxes_11 : decode cX4_filledBoxes 11 = .ok (.istore 4, 2) := by decide +kernel
theorem dX4_filledBoxes_13 : decode cX4_filledBoxes 13 = .ok (.iload 4, 2) := by decide +kernel
theorem dX4_filledBoxes_15 : decode cX4_filledBoxes 15 = .ok (.iload_n 3, 1) := by decide +kernel
theorem dX4_filledBoxes_16 : decode cX4_filledBoxes 16 = .ok (.if_icmp .ge 31, 3) := by decide +kernel
theorem dX4_filledBoxes_19 : decode cX4_filledBoxes 19 = .ok (.aload_n 2, 1) := by decide +kernel
theorem dX4_filledBoxes_20 : decode cX4_filledBoxes 20 = .ok (.iload 4, 2) := by decide +kernel
theorem dX4_filledBoxes_22 : decode cX4_filledBoxes 22 = .ok (.aaload, 1) := by decide +kernel
theorem dX4_filledBoxes_23 : decode cX4_filledBoxes 23 = .ok (.astore 5, 2) := by decide +kernel
theorem dX4_filledBoxes_25 : decode cX4_filledBoxes 25 = .ok (.aload 5, 2) := by decide +kernel
theorem dX4_filledBoxes_27 : decode cX4_filledBoxes 27 = .ok (.ifnull 14, 3) := by decide +kernel
theorem dX4_filledBoxes_30 : decode cX4_filledBoxes 30 = .ok (.aload 5, 2) := by decide +kernel
theorem dX4_filledBoxes_32 : decode cX4_filledBoxes 32 = .ok (.getfield 201, 3) := by decide +kernel
theorem dX4_filledBoxes_35 : decode cX4_filledBoxes 35 = .ok (.ifCond .eq 6, 3) := by decide +kernel
theorem dX4_filledBoxes_38 : decode cX4_filledBoxes 38 = .ok (.iinc 1 1, 3) := by decide +kernel
theorem dX4_filledBoxes_41 : decode cX4_filledBoxes 41 = .ok (.iinc 4 1, 3) := by decide +kernel
theorem dX4_filledBoxes_44 : decode cX4_filledBoxes 44 = .ok (.goto (-31), 3) := by decide +kernel
theorem dX4_filledBoxes_47 : decode cX4_filledBoxes 47 = .ok (.iload_n 1, 1) := by decide +kernel
theorem dX4_filledBoxes_48 : decode cX4_filledBoxes 48 = .ok (.ireturn, 1) := by decide +kernel
theorem dX4_gramsOfBowls_0 : decode cX4_gramsOfBowls 0 = .ok (.iconst 0, 1) := by decide +kernel
theorem dX4_gramsOfBowls_1 : decode cX4_gramsOfBowls 1 = .ok (.istore_n 1, 1) := by decide +kernel
theorem dX4_gramsOfBowls_2 : decode cX4_gramsOfBowls 2 = .ok (.aload_n 0, 1) := by decide +kernel
theorem dX4_gramsOfBowls_3 : decode cX4_gramsOfBowls 3 = .ok (.getfield 11, 3) := by decide +kernel
theorem dX4_gramsOfBowls_6 : decode cX4_gramsOfBowls 6 = .ok (.astore_n 2, 1) := by decide +kernel
theorem dX4_gramsOfBowls_7 : decode cX4_gramsOfBowls 7 = .ok (.aload_n 2, 1) := by decide +kernel
theorem dX4_gramsOfBowls_8 : decode cX4_gramsOfBowls 8 = .ok (.arraylength, 1) := by decide +kernel
theorem dX4_gramsOfBowls_9 : decode cX4_gramsOfBowls 9 = .ok (.istore_n 3, 1) := by decide +kernel
theorem dX4_gramsOfBowls_10 : decode cX4_gramsOfBowls 10 = .ok (.iconst 0, 1) := by decide +kernel
theorem dX4_gramsOfBowls_11 : decode cX4_gramsOfBowls 11 = .ok (.istore 4, 2) := by decide +kernel
theorem dX4_gramsOfBowls_13 : decode cX4_gramsOfBowls 13 = .ok (.iload 4, 2) := by decide +kernel
theorem dX4_gramsOfBowls_15 : decode cX4_gramsOfBowls 15 = .ok (.iload_n 3, 1) := by decide +kernel
theorem dX4_gramsOfBowls_16 : decode cX4_gramsOfBowls 16 = .ok (.if_icmp .ge 28, 3) := by decide +kernel
theorem dX4_gramsOfBowls_19 : decode cX4_gramsOfBowls 19 = .ok (.aload_n 2, 1) := by decide +kernel
theorem dX4_gramsOfBowls_20 : decode cX4_gramsOfBowls 20 = .ok (.iload 4, 2) := by decide +kernel
theorem dX4_gramsOfBowls_22 : decode cX4_gramsOfBowls 22 = .ok (.aaload, 1) := by decide +kernel
theorem dX4_gramsOfBowls_23 : decode cX4_gramsOfBowls 23 = .ok (.astore 5, 2) := by decide +kernel
theorem dX4_gramsOfBowls_25 : decode cX4_gramsOfBowls 25 = .ok (.aload 5, 2) := by decide +kernel
theorem dX4_gramsOfBowls_27 : decode cX4_gramsOfBowls 27 = .ok (.ifnull 11, 3) := by decide +kernel
theorem dX4_gramsOfBowls_30 : decode cX4_gramsOfBowls 30 = .ok (.iload_n 1, 1) := by decide +kernel
theorem dX4_gramsOfBowls_31 : decode cX4_gramsOfBowls 31 = .ok (.aload 5, 2) := by decide +kernel
theorem dX4_gramsOfBowls_33 : decode cX4_gramsOfBowls 33 = .ok (.getfield 93, 3) := by decide +kernel
theorem dX4_gramsOfBowls_36 : decode cX4_gramsOfBowls 36 = .ok (.iadd, 1) := by decide +kernel
theorem dX4_gramsOfBowls_37 : decode cX4_gramsOfBowls 37 = .ok (.istore_n 1, 1) := by decide +kernel
theorem dX4_gramsOfBowls_38 : decode cX4_gramsOfBowls 38 = .ok (.iinc 4 1, 3) := by decide +kernel
theorem dX4_gramsOfBowls_41 : decode cX4_gramsOfBowls 41 = .ok (.goto (-28), 3) := by decide +kernel
theorem dX4_gramsOfBowls_44 : decode cX4_gramsOfBowls 44 = .ok (.iload_n 1, 1) := by decide +kernel
theorem dX4_gramsOfBowls_45 : decode cX4_gramsOfBowls 45 = .ok (.ireturn, 1) := by decide +kernel
theorem dX4_squaresOfSlabs_0 : decode cX4_squaresOfSlabs 0 = .ok (.iconst 0, 1) := by decide +kernel
theorem dX4_squaresOfSlabs_1 : decode cX4_squaresOfSlabs 1 = .ok (.istore_n 1, 1) := by decide +kernel
theorem dX4_squaresOfSlabs_2 : decode cX4_squaresOfSlabs 2 = .ok (.aload_n 0, 1) := by decide +kernel
theorem dX4_squaresOfSlabs_3 : decode cX4_squaresOfSlabs 3 = .ok (.getfield 17, 3) := by decide +kernel
theorem dX4_squaresOfSlabs_6 : decode cX4_squaresOfSlabs 6 = .ok (.astore_n 2, 1) := by decide +kernel
theorem dX4_squaresOfSlabs_7 : decode cX4_squaresOfSlabs 7 = .ok (.aload_n 2, 1) := by decide +kernel
theorem dX4_squaresOfSlabs_8 : decode cX4_squaresOfSlabs 8 = .ok (.arraylength, 1) := by decide +kernel
theorem dX4_squaresOfSlabs_9 : decode cX4_squaresOfSlabs 9 = .ok (.istore_n 3, 1) := by decide +kernel
theorem dX4_squaresOfSlabs_10 : decode cX4_squaresOfSlabs 10 = .ok (.iconst 0, 1) := by decide +kernel
theorem dX4_squaresOfSlabs_11 : decode cX4_squaresOfSlabs 11 = .ok (.istore 4, 2) := by decide +kernel
theorem dX4_squaresOfSlabs_13 : decode cX4_squaresOfSlabs 13 = .ok (.iload 4, 2) := by decide +kernel
theorem dX4_squaresOfSlabs_15 : decode cX4_squaresOfSlabs 15 = .ok (.iload_n 3, 1) := by decide +kernel
theorem dX4_squaresOfSlabs_16 : decode cX4_squaresOfSlabs 16 = .ok (.if_icmp .ge 28, 3) := by decide +kernel
theorem dX4_squaresOfSlabs_19 : decode cX4_squaresOfSlabs 19 = .ok (.aload_n 2, 1) := by decide +kernel
theorem dX4_squaresOfSlabs_20 : decode cX4_squaresOfSlabs 20 = .ok (.iload 4, 2) := by decide +kernel
theorem dX4_squaresOfSlabs_22 : decode cX4_squaresOfSlabs 22 = .ok (.aaload, 1) := by decide +kernel
theorem dX4_squaresOfSlabs_23 : decode cX4_squaresOfSlabs 23 = .ok (.astore 5, 2) := by decide +kernel
theorem dX4_squaresOfSlabs_25 : decode cX4_squaresOfSlabs 25 = .ok (.aload 5, 2) := by decide +kernel
theorem dX4_squaresOfSlabs_27 : decode cX4_squaresOfSlabs 27 = .ok (.ifnull 11, 3) := by decide +kernel
theorem dX4_squaresOfSlabs_30 : decode cX4_squaresOfSlabs 30 = .ok (.iload_n 1, 1) := by decide +kernel
theorem dX4_squaresOfSlabs_31 : decode cX4_squaresOfSlabs 31 = .ok (.aload 5, 2) := by decide +kernel
theorem dX4_squaresOfSlabs_33 : decode cX4_squaresOfSlabs 33 = .ok (.invokevirtual 188, 3) := by decide +kernel
theorem dX4_squaresOfSlabs_36 : decode cX4_squaresOfSlabs 36 = .ok (.iadd, 1) := by decide +kernel
theorem dX4_squaresOfSlabs_37 : decode cX4_squaresOfSlabs 37 = .ok (.istore_n 1, 1) := by decide +kernel
theorem dX4_squaresOfSlabs_38 : decode cX4_squaresOfSlabs 38 = .ok (.iinc 4 1, 3) := by decide +kernel
theorem dX4_squaresOfSlabs_41 : decode cX4_squaresOfSlabs 41 = .ok (.goto (-28), 3) := by decide +kernel
theorem dX4_squaresOfSlabs_44 : decode cX4_squaresOfSlabs 44 = .ok (.iload_n 1, 1) := by decide +kernel
theorem dX4_squaresOfSlabs_45 : decode cX4_squaresOfSlabs 45 = .ok (.ireturn, 1) := by decide +kernel
theorem dX4_bloomedSlabs_0 : decode cX4_bloomedSlabs 0 = .ok (.iconst 0, 1) := by decide +kernel
theorem dX4_bloomedSlabs_1 : decode cX4_bloomedSlabs 1 = .ok (.istore_n 1, 1) := by decide +kernel
theorem dX4_bloomedSlabs_2 : decode cX4_bloomedSlabs 2 = .ok (.aload_n 0, 1) := by decide +kernel
theorem dX4_bloomedSlabs_3 : decode cX4_bloomedSlabs 3 = .ok (.getfield 17, 3) := by decide +kernel
theorem dX4_bloomedSlabs_6 : decode cX4_bloomedSlabs 6 = .ok (.astore_n 2, 1) := by decide +kernel
theorem dX4_bloomedSlabs_7 : decode cX4_bloomedSlabs 7 = .ok (.aload_n 2, 1) := by decide +kernel
theorem dX4_bloomedSlabs_8 : decode cX4_bloomedSlabs 8 = .ok (.arraylength, 1) := by decide +kernel
theorem dX4_bloomedSlabs_9 : decode cX4_bloomedSlabs 9 = .ok (.istore_n 3, 1) := by decide +kernel
theorem dX4_bloomedSlabs_10 : decode cX4_bloomedSlabs 10 = .ok (.iconst 0, 1) := by decide +kernel
theorem dX4_bloomedSlabs_11 : decode cX4_bloomedSlabs 11 = .ok (.istore 4, 2) := by decide +kernel
theorem dX4_bloomedSlabs_13 : decode cX4_bloomedSlabs 13 = .ok (.iload 4, 2) := by decide +kernel
theorem dX4_bloomedSlabs_15 : decode cX4_bloomedSlabs 15 = .ok (.iload_n 3, 1) := by decide +kernel
theorem dX4_bloomedSlabs_16 : decode cX4_bloomedSlabs 16 = .ok (.if_icmp .ge 31, 3) := by decide +kernel
theorem dX4_bloomedSlabs_19 : decode cX4_bloomedSlabs 19 = .ok (.aload_n 2, 1) := by decide +kernel
theorem dX4_bloomedSlabs_20 : decode cX4_bloomedSlabs 20 = .ok (.iload 4, 2) := by decide +kernel
theorem dX4_bloomedSlabs_22 : decode cX4_bloomedSlabs 22 = .ok (.aaload, 1) := by decide +kernel
theorem dX4_bloomedSlabs_23 : decode cX4_bloomedSlabs 23 = .ok (.astore 5, 2) := by decide +kernel
theorem dX4_bloomedSlabs_25 : decode cX4_bloomedSlabs 25 = .ok (.aload 5, 2) := by decide +kernel
theorem dX4_bloomedSlabs_27 : decode cX4_bloomedSlabs 27 = .ok (.ifnull 14, 3) := by decide +kernel
theorem dX4_bloomedSlabs_30 : decode cX4_bloomedSlabs 30 = .ok (.aload 5, 2) := by decide +kernel
theorem dX4_bloomedSlabs_32 : decode cX4_bloomedSlabs 32 = .ok (.invokevirtual 229, 3) := by decide +kernel
theorem dX4_bloomedSlabs_35 : decode cX4_bloomedSlabs 35 = .ok (.ifCond .eq 6, 3) := by decide +kernel
theorem dX4_bloomedSlabs_38 : decode cX4_bloomedSlabs 38 = .ok (.iinc 1 1, 3) := by decide +kernel
theorem dX4_bloomedSlabs_41 : decode cX4_bloomedSlabs 41 = .ok (.iinc 4 1, 3) := by decide +kernel
theorem dX4_bloomedSlabs_44 : decode cX4_bloomedSlabs 44 = .ok (.goto (-31), 3) := by decide +kernel
theorem dX4_bloomedSlabs_47 : decode cX4_bloomedSlabs 47 = .ok (.iload_n 1, 1) := by decide +kernel
theorem dX4_bloomedSlabs_48 : decode cX4_bloomedSlabs 48 = .ok (.ireturn, 1) := by decide +kernel
theorem dX4_firstEmptyBoxFor_0 : decode cX4_firstEmptyBoxFor 0 = .ok (.iconst 0, 1) := by decide +kernel
theorem dX4_firstEmptyBoxFor_1 : decode cX4_firstEmptyBoxFor 1 = .ok (.istore_n 2, 1) := by decide +kernel
theorem dX4_firstEmptyBoxFor_2 : decode cX4_firstEmptyBoxFor 2 = .ok (.iload_n 2, 1) := by decide +kernel
theorem dX4_firstEmptyBoxFor_3 : decode cX4_firstEmptyBoxFor 3 = .ok (.bipush 6, 2) := by decide +kernel
theorem dX4_firstEmptyBoxFor_5 : decode cX4_firstEmptyBoxFor 5 = .ok (.if_icmp .ge 41, 3) := by decide +kernel
theorem dX4_firstEmptyBoxFor_8 : decode cX4_firstEmptyBoxFor 8 = .ok (.aload_n 0, 1) := by decide +kernel
theorem dX4_firstEmptyBoxFor_9 : decode cX4_firstEmptyBoxFor 9 = .ok (.getfield 23, 3) := by decide +kernel
theorem dX4_firstEmptyBoxFor_12 : decode cX4_firstEmptyBoxFor 12 = .ok (.iload_n 2, 1) := by decide +kernel
theorem dX4_firstEmptyBoxFor_13 : decode cX4_firstEmptyBoxFor 13 = .ok (.aaload, 1) := by decide +kernel
theorem dX4_firstEmptyBoxFor_14 : decode cX4_firstEmptyBoxFor 14 = .ok (.astore_n 3, 1) := by decide +kernel
theorem dX4_firstEmptyBoxFor_15 : decode cX4_firstEmptyBoxFor 15 = .ok (.aload_n 3, 1) := by decide +kernel
theorem dX4_firstEmptyBoxFor_16 : decode cX4_firstEmptyBoxFor 16 = .ok (.ifnull 24, 3) := by decide +kernel
theorem dX4_firstEmptyBoxFor_19 : decode cX4_firstEmptyBoxFor 19 = .ok (.aload_n 3, 1) := by decide +kernel
theorem dX4_firstEmptyBoxFor_20 : decode cX4_firstEmptyBoxFor 20 = .ok (.getfield 201, 3) := by decide +kernel
theorem dX4_firstEmptyBoxFor_23 : decode cX4_firstEmptyBoxFor 23 = .ok (.ifCond .ne 17, 3) := by decide +kernel
theorem dX4_firstEmptyBoxFor_26 : decode cX4_firstEmptyBoxFor 26 = .ok (.aload_n 3, 1) := by decide +kernel
theorem dX4_firstEmptyBoxFor_27 : decode cX4_firstEmptyBoxFor 27 = .ok (.aload_n 1, 1) := by decide +kernel
theorem dX4_firstEmptyBoxFor_28 : decode cX4_firstEmptyBoxFor 28 = .ok (.aload_n 1, 1) := by decide +kernel
theorem dX4_firstEmptyBoxFor_29 : decode cX4_firstEmptyBoxFor 29 = .ok (.getfield 122, 3) := by decide +kernel
theorem dX4_firstEmptyBoxFor_32 : decode cX4_firstEmptyBoxFor 32 = .ok (.invokevirtual 270, 3) := by decide +kernel
theorem dX4_firstEmptyBoxFor_35 : decode cX4_firstEmptyBoxFor 35 = .ok (.ifCond .eq 5, 3) := by decide +kernel
theorem dX4_firstEmptyBoxFor_38 : decode cX4_firstEmptyBoxFor 38 = .ok (.iload_n 2, 1) := by decide +kernel
theorem dX4_firstEmptyBoxFor_39 : decode cX4_firstEmptyBoxFor 39 = .ok (.ireturn, 1) := by decide +kernel
theorem dX4_firstEmptyBoxFor_40 : decode cX4_firstEmptyBoxFor 40 = .ok (.iinc 2 1, 3) := by decide +kernel
theorem dX4_firstEmptyBoxFor_43 : decode cX4_firstEmptyBoxFor 43 = .ok (.goto (-41), 3) := by decide +kernel
theorem dX4_firstEmptyBoxFor_46 : decode cX4_firstEmptyBoxFor 46 = .ok (.iconst (-1), 1) := by decide +kernel
theorem dX4_firstEmptyBoxFor_47 : decode cX4_firstEmptyBoxFor 47 = .ok (.ireturn, 1) := by decide +kernel
theorem dX4_planFilling_0 : decode cX4_planFilling 0 = .ok (.iconst 0, 1) := by decide +kernel
theorem dX4_planFilling_1 : decode cX4_planFilling 1 = .ok (.istore_n 2, 1) := by decide +kernel
theorem dX4_planFilling_2 : decode cX4_planFilling 2 = .ok (.iload_n 2, 1) := by decide +kernel
theorem dX4_planFilling_3 : decode cX4_planFilling 3 = .ok (.bipush 8, 2) := by decide +kernel
theorem dX4_planFilling_5 : decode cX4_planFilling 5 = .ok (.if_icmp .ge 16, 3) := by decide +kernel
theorem dX4_planFilling_8 : decode cX4_planFilling 8 = .ok (.aload_n 0, 1) := by decide +kernel
theorem dX4_planFilling_9 : decode cX4_planFilling 9 = .ok (.getfield 41, 3) := by decide +kernel
theorem dX4_planFilling_12 : decode cX4_planFilling 12 = .ok (.iload_n 2, 1) := by decide +kernel
theorem dX4_planFilling_13 : decode cX4_planFilling 13 = .ok (.iconst 0, 1) := by decide +kernel
theorem dX4_planFilling_14 : decode cX4_planFilling 14 = .ok (.bastore, 1) := by decide +kernel
theorem dX4_planFilling_15 : decode cX4_planFilling 15 = .ok (.iinc 2 1, 3) := by decide +kernel
theorem dX4_planFilling_18 : decode cX4_planFilling 18 = .ok (.goto (-16), 3) := by decide +kernel
theorem dX4_planFilling_21 : decode cX4_planFilling 21 = .ok (.iconst 0, 1) := by decide +kernel
theorem dX4_planFilling_22 : decode cX4_planFilling 22 = .ok (.istore_n 2, 1) := by decide +kernel
theorem dX4_planFilling_23 : decode cX4_planFilling 23 = .ok (.iconst 0, 1) := by decide +kernel
theorem dX4_planFilling_24 : decode cX4_planFilling 24 = .ok (.istore_n 3, 1) := by decide +kernel
theorem dX4_planFilling_25 : decode cX4_planFilling 25 = .ok (.iload_n 3, 1) := by decide +kernel
theorem dX4_planFilling_26 : decode cX4_planFilling 26 = .ok (.bipush 6, 2) := by decide +kernel
theorem dX4_planFilling_28 : decode cX4_planFilling 28 = .ok (.if_icmp .ge 60, 3) := by decide +kernel
theorem dX4_planFilling_31 : decode cX4_planFilling 31 = .ok (.aload_n 0, 1) := by decide +kernel
theorem dX4_planFilling_32 : decode cX4_planFilling 32 = .ok (.getfield 23, 3) := by decide +kernel
theorem dX4_planFilling_35 : decode cX4_planFilling 35 = .ok (.iload_n 3, 1) := by decide +kernel
theorem dX4_planFilling_36 : decode cX4_planFilling 36 = .ok (.aaload, 1) := by decide +kernel
theorem dX4_planFilling_37 : decode cX4_planFilling 37 = .ok (.astore 4, 2) := by decide +kernel
theorem dX4_planFilling_39 : decode cX4_planFilling 39 = .ok (.aload_n 0, 1) := by decide +kernel
theorem dX4_planFilling_40 : decode cX4_planFilling 40 = .ok (.getfield 37, 3) := by decide +kernel
theorem dX4_planFilling_43 : decode cX4_planFilling 43 = .ok (.iload_n 3, 1) := by decide +kernel
theorem dX4_planFilling_44 : decode cX4_planFilling 44 = .ok (.aload 4, 2) := by decide +kernel
theorem dX4_planFilling_46 : decode cX4_planFilling 46 = .ok (.ifnull 11, 3) := by decide +kernel
theorem dX4_planFilling_49 : decode cX4_planFilling 49 = .ok (.aload 4, 2) := by decide +kernel
theorem dX4_planFilling_51 : decode cX4_planFilling 51 = .ok (.getfield 201, 3) := by decide +kernel
theorem dX4_planFilling_54 : decode cX4_planFilling 54 = .ok (.ifCond .eq 7, 3) := by decide +kernel
theorem dX4_planFilling_57 : decode cX4_planFilling 57 = .ok (.iconst (-1), 1) := by decide +kernel
theorem dX4_planFilling_58 : decode cX4_planFilling 58 = .ok (.goto 10, 3) := by decide +kernel
theorem dX4_planFilling_61 : decode cX4_planFilling 61 = .ok (.aload_n 0, 1) := by decide +kernel
theorem dX4_planFilling_62 : decode cX4_planFilling 62 = .ok (.aload 4, 2) := by decide +kernel
theorem dX4_planFilling_64 : decode cX4_planFilling 64 = .ok (.iload_n 1, 1) := by decide +kernel
theorem dX4_planFilling_65 : decode cX4_planFilling 65 = .ok (.invokevirtual 274, 3) := by decide +kernel
theorem dX4_planFilling_68 : decode cX4_planFilling 68 = .ok (.iastore, 1) := by decide +kernel
theorem dX4_planFilling_69 : decode cX4_planFilling 69 = .ok (.aload_n 0, 1) := by decide +kernel
theorem dX4_planFilling_70 : decode cX4_planFilling 70 = .ok (.getfield 37, 3) := by decide +kernel
theorem dX4_planFilling_73 : decode cX4_planFilling 73 = .ok (.iload_n 3, 1) := by decide +kernel
theorem dX4_planFilling_74 : decode cX4_planFilling 74 = .ok (.iaload, 1) := by decide +kernel
theorem dX4_planFilling_75 : decode cX4_planFilling 75 = .ok (.iconst (-1), 1) := by decide +kernel
theorem dX4_planFilling_76 : decode cX4_planFilling 76 = .ok (.if_icmp .eq 6, 3) := by decide +kernel
theorem dX4_planFilling_79 : decode cX4_planFilling 79 = .ok (.iinc 2 1, 3) := by decide +kernel
theorem dX4_planFilling_82 : decode cX4_planFilling 82 = .ok (.iinc 3 1, 3) := by decide +kernel
theorem dX4_planFilling_85 : decode cX4_planFilling 85 = .ok (.goto (-60), 3) := by decide +kernel
theorem dX4_planFilling_88 : decode cX4_planFilling 88 = .ok (.iload_n 2, 1) := by decide +kernel
theorem dX4_planFilling_89 : decode cX4_planFilling 89 = .ok (.ireturn, 1) := by decide +kernel
theorem dX4_planSlab_0 : decode cX4_planSlab 0 = .ok (.iconst 0, 1) := by decide +kernel
theorem dX4_planSlab_1 : decode cX4_planSlab 1 = .ok (.istore_n 3, 1) := by decide +kernel
theorem dX4_planSlab_2 : decode cX4_planSlab 2 = .ok (.iload_n 3, 1) := by decide +kernel
theorem dX4_planSlab_3 : decode cX4_planSlab 3 = .ok (.bipush 8, 2) := by decide +kernel
theorem dX4_planSlab_5 : decode cX4_planSlab 5 = .ok (.if_icmp .ge 71, 3) := by decide +kernel
theorem dX4_planSlab_8 : decode cX4_planSlab 8 = .ok (.aload_n 0, 1) := by decide +kernel
theorem dX4_planSlab_9 : decode cX4_planSlab 9 = .ok (.getfield 17, 3) := by decide +kernel
theorem dX4_planSlab_12 : decode cX4_planSlab 12 = .ok (.iload_n 3, 1) := by decide +kernel
theorem dX4_planSlab_13 : decode cX4_planSlab 13 = .ok (.aaload, 1) := by decide +kernel
theorem dX4_planSlab_14 : decode cX4_planSlab 14 = .ok (.astore 4, 2) := by decide +kernel
theorem dX4_planSlab_16 : decode cX4_planSlab 16 = .ok (.aload 4, 2) := by decide +kernel
theorem dX4_planSlab_18 : decode cX4_planSlab 18 = .ok (.ifnull 52, 3) := by decide +kernel
theorem dX4_planSlab_21 : decode cX4_planSlab 21 = .ok (.aload_n 0, 1) := by decide +kernel
theorem dX4_planSlab_22 : decode cX4_planSlab 22 = .ok (.getfield 41, 3) := by decide +kernel
theorem dX4_planSlab_25 : decode cX4_planSlab 25 = .ok (.iload_n 3, 1) := by decide +kernel
theorem dX4_planSlab_26 : decode cX4_planSlab 26 = .ok (.baload, 1) := by decide +kernel
theorem dX4_planSlab_27 : decode cX4_planSlab 27 = .ok (.ifCond .ne 43, 3) := by decide +kernel
theorem dX4_planSlab_30 : decode cX4_planSlab 30 = .ok (.iload_n 3, 1) := by decide +kernel
theorem dX4_planSlab_31 : decode cX4_planSlab 31 = .ok (.iload_n 2, 1) := by decide +kernel
theorem dX4_planSlab_32 : decode cX4_planSlab 32 = .ok (.if_icmp .ne 11, 3) := by decide +kernel
theorem dX4_planSlab_35 : decode cX4_planSlab 35 = .ok (.aload 4, 2) := by decide +kernel
theorem dX4_planSlab_37 : decode cX4_planSlab 37 = .ok (.invokevirtual 119, 3) := by decide +kernel
theorem dX4_planSlab_40 : decode cX4_planSlab 40 = .ok (.goto 8, 3) := by decide +kernel
theorem dX4_planSlab_43 : decode cX4_planSlab 43 = .ok (.aload 4, 2) := by decide +kernel
theorem dX4_planSlab_45 : decode cX4_planSlab 45 = .ok (.getfield 122, 3) := by decide +kernel
theorem dX4_planSlab_48 : decode cX4_planSlab 48 = .ok (.istore 5, 2) := by decide +kernel
theorem dX4_planSlab_50 : decode cX4_planSlab 50 = .ok (.aload_n 1, 1) := by decide +kernel
theorem dX4_planSlab_51 : decode cX4_planSlab 51 = .ok (.aload 4, 2) := by decide +kernel
theorem dX4_planSlab_53 : decode cX4_planSlab 53 = .ok (.iload 5, 2) := by decide +kernel
theorem dX4_planSlab_55 : decode cX4_planSlab 55 = .ok (.invokevirtual 270, 3) := by decide +kernel
theorem dX4_planSlab_58 : decode cX4_planSlab 58 = .ok (.ifCond .eq 12, 3) := by decide +kernel
theorem dX4_planSlab_61 : decode cX4_planSlab 61 = .ok (.aload_n 0, 1) := by decide +kernel
theorem dX4_planSlab_62 : decode cX4_planSlab 62 = .ok (.getfield 41, 3) := by decide +kernel
theorem dX4_planSlab_65 : decode cX4_planSlab 65 = .ok (.iload_n 3, 1) := by decide +kernel
theorem dX4_planSlab_66 : decode cX4_planSlab 66 = .ok (.iconst 1, 1) := by decide +kernel
theorem dX4_planSlab_67 : decode cX4_planSlab 67 = .ok (.bastore, 1) := by decide +kernel
theorem dX4_planSlab_68 : decode cX4_planSlab 68 = .ok (.iload_n 3, 1) := by decide +kernel
theorem dX4_planSlab_69 : decode cX4_planSlab 69 = .ok (.ireturn, 1) := by decide +kernel
theorem dX4_planSlab_70 : decode cX4_planSlab 70 = .ok (.iinc 3 1, 3) := by decide +kernel
theorem dX4_planSlab_73 : decode cX4_planSlab 73 = .ok (.goto (-71), 3) := by decide +kernel
theorem dX4_planSlab_76 : decode cX4_planSlab 76 = .ok (.iconst (-1), 1) := by decide +kernel
theorem dX4_planSlab_77 : decode cX4_planSlab 77 = .ok (.ireturn, 1) := by decide +kernel
theorem dX4_moveIntoBox_0 : decode cX4_moveIntoBox 0 = .ok (.aload_n 0, 1) := by decide +kernel
theorem dX4_moveIntoBox_1 : decode cX4_moveIntoBox 1 = .ok (.iload_n 1, 1) := by decide +kernel
theorem dX4_moveIntoBox_2 : decode cX4_moveIntoBox 2 = .ok (.invokevirtual 261, 3) := by decide +kernel
theorem dX4_moveIntoBox_5 : decode cX4_moveIntoBox 5 = .ok (.astore_n 3, 1) := by decide +kernel
theorem dX4_moveIntoBox_6 : decode cX4_moveIntoBox 6 = .ok (.aload_n 3, 1) := by decide +kernel
theorem dX4_moveIntoBox_7 : decode cX4_moveIntoBox 7 = .ok (.ifnull 19, 3) := by decide +kernel
theorem dX4_moveIntoBox_10 : decode cX4_moveIntoBox 10 = .ok (.aload_n 2, 1) := by decide +kernel
theorem dX4_moveIntoBox_11 : decode cX4_moveIntoBox 11 = .ok (.ifnull 15, 3) := by decide +kernel
theorem dX4_moveIntoBox_14 : decode cX4_moveIntoBox 14 = .ok (.aload_n 2, 1) := by decide +kernel
theorem dX4_moveIntoBox_15 : decode cX4_moveIntoBox 15 = .ok (.aload_n 3, 1) := by decide +kernel
theorem dX4_moveIntoBox_16 : decode cX4_moveIntoBox 16 = .ok (.invokevirtual 278, 3) := by decide +kernel
theorem dX4_moveIntoBox_19 : decode cX4_moveIntoBox 19 = .ok (.aload_n 0, 1) := by decide +kernel
theorem dX4_moveIntoBox_20 : decode cX4_moveIntoBox 20 = .ok (.getfield 17, 3) := by decide +kernel
theorem dX4_moveIntoBox_23 : decode cX4_moveIntoBox 23 = .ok (.iload_n 1, 1) := by decide +kernel
theorem dX4_moveIntoBox_24 : decode cX4_moveIntoBox 24 = .ok (.aconst_null, 1) := by decide +kernel
theorem dX4_moveIntoBox_25 : decode cX4_moveIntoBox 25 = .ok (.aastore, 1) := by decide +kernel
theorem dX4_moveIntoBox_26 : decode cX4_moveIntoBox 26 = .ok (.return_, 1) := by decide +kernel
theorem dX5_init_0 : decode cX5_init 0 = .ok (.aload_n 0, 1) := by decide +kernel
theorem dX5_init_1 : decode cX5_init 1 = .ok (.invokespecial 1, 3) := by decide +kernel
theorem dX5_init_4 : decode cX5_init 4 = .ok (.aload_n 0, 1) := by decide +kernel
theorem dX5_init_5 : decode cX5_init 5 = .ok (.bipush 35, 2) := by decide +kernel
theorem dX5_init_7 : decode cX5_init 7 = .ok (.newarray .int, 2) := by decide +kernel
theorem dX5_init_9 : decode cX5_init 9 = .ok (.putfield 9, 3) := by decide +kernel
theorem dX5_init_12 : decode cX5_init 12 = .ok (.aload_n 0, 1) := by decide +kernel
theorem dX5_init_13 : decode cX5_init 13 = .ok (.bipush 40, 2) := by decide +kernel
theorem dX5_init_15 : decode cX5_init 15 = .ok (.newarray .int, 2) := by decide +kernel
theorem dX5_init_17 : decode cX5_init 17 = .ok (.putfield 13, 3) := by decide +kernel
theorem dX5_init_20 : decode cX5_init 20 = .ok (.aload_n 0, 1) := by decide +kernel
theorem dX5_init_21 : decode cX5_init 21 = .ok (.bipush 30, 2) := by decide +kernel
theorem dX5_init_23 : decode cX5_init 23 = .ok (.newarray .int, 2) := by decide +kernel
theorem dX5_init_25 : decode cX5_init 25 = .ok (.putfield 16, 3) := by decide +kernel
theorem dX5_init_28 : decode cX5_init 28 = .ok (.aload_n 0, 1) := by decide +kernel
theorem dX5_init_29 : decode cX5_init 29 = .ok (.bipush 40, 2) := by decide +kernel
theorem dX5_init_31 : decode cX5_init 31 = .ok (.newarray .int, 2) := by decide +kernel
theorem dX5_init_33 : decode cX5_init 33 = .ok (.putfield 19, 3) := by decide +kernel
theorem dX5_init_36 : decode cX5_init 36 = .ok (.aload_n 0, 1) := by decide +kernel
theorem dX5_init_37 : decode cX5_init 37 = .ok (.bipush 30, 2) := by decide +kernel
theorem dX5_init_39 : decode cX5_init 39 = .ok (.newarray .int, 2) := by decide +kernel
theorem dX5_init_41 : decode cX5_init 41 = .ok (.putfield 22, 3) := by decide +kernel
theorem dX5_init_44 : decode cX5_init 44 = .ok (.aload_n 0, 1) := by decide +kernel
theorem dX5_init_45 : decode cX5_init 45 = .ok (.bipush 6, 2) := by decide +kernel
theorem dX5_init_47 : decode cX5_init 47 = .ok (.newarray .int, 2) := by decide +kernel
theorem dX5_init_49 : decode cX5_init 49 = .ok (.putfield 25, 3) := by decide +kernel
theorem dX5_init_52 : decode cX5_init 52 = .ok (.aload_n 0, 1) := by decide +kernel
theorem dX5_init_53 : decode cX5_init 53 = .ok (.bipush 6, 2) := by decide +kernel
theorem dX5_init_55 : decode cX5_init 55 = .ok (.newarray .int, 2) := by decide +kernel
theorem dX5_init_57 : decode cX5_init 57 = .ok (.putfield 28, 3) := by decide +kernel
theorem dX5_init_60 : decode cX5_init 60 = .ok (.return_, 1) := by decide +kernel
theorem dX5_thrown_0 : decode cX5_thrown 0 = .ok (.aload_n 0, 1) := by decide +kernel
theorem dX5_thrown_1 : decode cX5_thrown 1 = .ok (.getfield 31, 3) := by decide +kernel
theorem dX5_thrown_4 : decode cX5_thrown 4 = .ok (.ireturn, 1) := by decide +kernel
theorem dX5_fail_0 : decode cX5_fail 0 = .ok (.aload_n 0, 1) := by decide +kernel
theorem dX5_fail_1 : decode cX5_fail 1 = .ok (.iload_n 1, 1) := by decide +kernel
theorem dX5_fail_2 : decode cX5_fail 2 = .ok (.putfield 31, 3) := by decide +kernel
theorem dX5_fail_5 : decode cX5_fail 5 = .ok (.iconst 0, 1) := by decide +kernel
theorem dX5_fail_6 : decode cX5_fail 6 = .ok (.ireturn, 1) := by decide +kernel
theorem dX5_isIn_0 : decode cX5_isIn 0 = .ok (.iload_n 0, 1) := by decide +kernel
theorem dX5_isIn_1 : decode cX5_isIn 1 = .ok (.iload_n 1, 1) := by decide +kernel
theorem dX5_isIn_2 : decode cX5_isIn 2 = .ok (.if_icmp .lt 12, 3) := by decide +kernel
theorem dX5_isIn_5 : decode cX5_isIn 5 = .ok (.iload_n 0, 1) := by decide +kernel
theorem dX5_isIn_6 : decode cX5_isIn 6 = .ok (.iload_n 2, 1) := by decide +kernel
theorem dX5_isIn_7 : decode cX5_isIn 7 = .ok (.if_icmp .gt 7, 3) := by decide +kernel
theorem dX5_isIn_10 : decode cX5_isIn 10 = .ok (.iconst 1, 1) := by decide +kernel
theorem dX5_isIn_11 : decode cX5_isIn 11 = .ok (.goto 4, 3) := by decide +kernel
theorem dX5_isIn_14 : decode cX5_isIn 14 = .ok (.iconst 0, 1) := by decide +kernel
theorem dX5_isIn_15 : decode cX5_isIn 15 = .ok (.ireturn, 1) := by decide +kernel
theorem dX5_isBowl_0 : decode cX5_isBowl 0 = .ok (.iload_n 1, 1) := by decide +kernel
theorem dX5_isBowl_1 : decode cX5_isBowl 1 = .ok (.iconst 0, 1) := by decide +kernel
theorem dX5_isBowl_2 : decode cX5_isBowl 2 = .ok (.aload_n 0, 1) := by decide +kernel
theorem dX5_isBowl_3 : decode cX5_isBowl 3 = .ok (.getfield 35, 3) := by decide +kernel
theorem dX5_isBowl_6 : decode cX5_isBowl 6 = .ok (.iconst 1, 1) := by decide +kernel
theorem dX5_isBowl_7 : decode cX5_isBowl 7 = .ok (.isub, 1) := by decide +kernel
theorem dX5_isBowl_8 : decode cX5_isBowl 8 = .ok (.invokestatic 38, 3) := by decide +kernel
theorem dX5_isBowl_11 : decode cX5_isBowl 11 = .ok (.ireturn, 1) := by decide +kernel
theorem dX5_isSlab_0 : decode cX5_isSlab 0 = .ok (.iload_n 1, 1) := by decide +kernel
theorem dX5_isSlab_1 : decode cX5_isSlab 1 = .ok (.iconst 0, 1) := by decide +kernel
theorem dX5_isSlab_2 : decode cX5_isSlab 2 = .ok (.aload_n 0, 1) := by decide +kernel
theorem dX5_isSlab_3 : decode cX5_isSlab 3 = .ok (.getfield 42, 3) := by decide +kernel
theorem dX5_isSlab_6 : decode cX5_isSlab 6 = .ok (.iconst 1, 1) := by decide +kernel
theorem dX5_isSlab_7 : decode cX5_isSlab 7 = .ok (.isub, 1) := by decide +kernel
theorem dX5_isSlab_8 : decode cX5_isSlab 8 = .ok (.invokestatic 38, 3) := by decide +kernel
theorem dX5_isSlab_11 : decode cX5_isSlab 11 = .ok (.ireturn, 1) := by decide +kernel
theorem dX5_bo_0 : decode cX5_bo 0 = .ok (.aload_n 0, 1) := by decide +kernel
theorem dX5_bo_1 : decode cX5_bo 1 = .ok (.getfield 9, 3) := by decide +kernel
theorem dX5_bo_4 : decode cX5_bo 4 = .ok (.bipush 7, 2) := by decide +kernel
theorem dX5_bo_6 : decode cX5_bo 6 = .ok (.iload_n 1, 1) := by decide +kernel
theorem dX5_bo_7 : decode cX5_bo 7 = .ok (.imul, 1) := by decide +kernel
theorem dX5_bo_8 : decode cX5_bo 8 = .ok (.iload_n 2, 1) := by decide +kernel
theorem dX5_bo_9 : decode cX5_bo 9 = .ok (.iadd, 1) := by decide +kernel
theorem dX5_bo_10 : decode cX5_bo 10 = .ok (.iaload, 1) := by decide +kernel
theorem dX5_bo_11 : decode cX5_bo 11 = .ok (.ireturn, 1) := by decide +kernel
theorem dX5_letBowl_0 : decode cX5_letBowl 0 = .ok (.aload_n 0, 1) := by decide +kernel
theorem dX5_letBowl_1 : decode cX5_letBowl 1 = .ok (.getfield 9, 3) := by decide +kernel
theorem dX5_letBowl_4 : decode cX5_letBowl 4 = .ok (.bipush 7, 2) := by decide +kernel
theorem dX5_letBowl_6 : decode cX5_letBowl 6 = .ok (.iload_n 1, 1) := by decide +kernel
theorem dX5_letBowl_7 : decode cX5_letBowl 7 = .ok (.imul, 1) := by decide +kernel
theorem dX5_letBowl_8 : decode cX5_letBowl 8 = .ok (.iload_n 2, 1) := by decide +kernel
theorem dX5_letBowl_9 : decode cX5_letBowl 9 = .ok (.iadd, 1) := by decide +kernel
theorem dX5_letBowl_10 : decode cX5_letBowl 10 = .ok (.iload_n 3, 1) := by decide +kernel
theorem dX5_letBowl_11 : decode cX5_letBowl 11 = .ok (.iastore, 1) := by decide +kernel
theorem dX5_letBowl_12 : decode cX5_letBowl 12 = .ok (.return_, 1) := by decide +kernel
theorem dX5_sl_0 : decode cX5_sl 0 = .ok (.aload_n 0, 1) := by decide +kernel
theorem dX5_sl_1 : decode cX5_sl 1 = .ok (.getfield 13, 3) := by decide +kernel
theorem dX5_sl_4 : decode cX5_sl 4 = .ok (.iconst 5, 1) := by decide +kernel
theorem dX5_sl_5 : decode cX5_sl 5 = .ok (.iload_n 1, 1) := by decide +kernel
theorem dX5_sl_6 : decode cX5_sl 6 = .ok (.imul, 1) := by decide +kernel
theorem dX5_sl_7 : decode cX5_sl 7 = .ok (.iload_n 2, 1) := by decide +kernel
theorem dX5_sl_8 : decode cX5_sl 8 = .ok (.iadd, 1) := by decide +kernel
theorem dX5_sl_9 : decode cX5_sl 9 = .ok (.iaload, 1) := by decide +kernel
theorem dX5_sl_10 : decode cX5_sl 10 = .ok (.ireturn, 1) := by decide +kernel
theorem dX5_letSlab_0 : decode cX5_letSlab 0 = .ok (.aload_n 0, 1) := by decide +kernel
theorem dX5_letSlab_1 : decode cX5_letSlab 1 = .ok (.getfield 13, 3) := by decide +kernel
theorem dX5_letSlab_4 : decode cX5_letSlab 4 = .ok (.iconst 5, 1) := by decide +kernel
theorem dX5_letSlab_5 : decode cX5_letSlab 5 = .ok (.iload_n 1, 1) := by decide +kernel
theorem dX5_letSlab_6 : decode cX5_letSlab 6 = .ok (.imul, 1) := by decide +kernel
theorem dX5_letSlab_7 : decode cX5_letSlab 7 = .ok (.iload_n 2, 1) := by decide +kernel
theorem dX5_letSlab_8 : decode cX5_letSlab 8 = .ok (.iadd, 1) := by decide +kernel
theorem dX5_letSlab_9 : decode cX5_letSlab 9 = .ok (.iload_n 3, 1) := by decide +kernel
theorem dX5_letSlab_10 : decode cX5_letSlab 10 = .ok (.iastore, 1) := by decide +kernel
theorem dX5_letSlab_11 : decode cX5_letSlab 11 = .ok (.return_, 1) := by decide +kernel
theorem dX5_bx_0 : decode cX5_bx 0 = .ok (.aload_n 0, 1) := by decide +kernel
theorem dX5_bx_1 : decode cX5_bx 1 = .ok (.getfield 16, 3) := by decide +kernel
theorem dX5_bx_4 : decode cX5_bx 4 = .ok (.iconst 5, 1) := by decide +kernel
theorem dX5_bx_5 : decode cX5_bx 5 = .ok (.iload_n 1, 1) := by decide +kernel
theorem dX5_bx_6 : decode cX5_bx 6 = .ok (.imul, 1) := by decide +kernel
theorem dX5_bx_7 : decode cX5_bx 7 = .ok (.iload_n 2, 1) := by decide +kernel
theorem dX5_bx_8 : decode cX5_bx 8 = .ok (.iadd, 1) := by decide +kernel
theorem dX5_bx_9 : decode cX5_bx 9 = .ok (.iaload, 1) := by decide +kernel
theorem dX5_bx_10 : decode cX5_bx 10 = .ok (.ireturn, 1) := by decide +kernel
theorem dX5_meltsAt_0 : decode cX5_meltsAt 0 = .ok (.bipush 15, 2) := by decide +kernel
theorem dX5_meltsAt_2 : decode cX5_meltsAt 2 = .ok (.iconst 4, 1) := by decide +kernel
theorem dX5_meltsAt_3 : decode cX5_meltsAt 3 = .ok (.iload_n 0, 1) := by decide +kernel
theorem dX5_meltsAt_4 : decode cX5_meltsAt 4 = .ok (.imul, 1) := by decide +kernel
theorem dX5_meltsAt_5 : decode cX5_meltsAt 5 = .ok (.iadd, 1) := by decide +kernel
theorem dX5_meltsAt_6 : decode cX5_meltsAt 6 = .ok (.ireturn, 1) := by decide +kernel
theorem dX5_sum_0 : decode cX5_sum 0 = .ok (.iconst 0, 1) := by decide +kernel
theorem dX5_sum_1 : decode cX5_sum 1 = .ok (.istore_n 1, 1) := by decide +kernel
theorem dX5_sum_2 : decode cX5_sum 2 = .ok (.iconst 1, 1) := by decide +kernel
theorem dX5_sum_3 : decode cX5_sum 3 = .ok (.istore_n 2, 1) := by decide +kernel
theorem dX5_sum_4 : decode cX5_sum 4 = .ok (.iload_n 2, 1) := by decide +kernel
theorem dX5_sum_5 : decode cX5_sum 5 = .ok (.iconst 5, 1) := by decide +kernel
theorem dX5_sum_6 : decode cX5_sum 6 = .ok (.if_icmp .gt 15, 3) := by decide +kernel
theorem dX5_sum_9 : decode cX5_sum 9 = .ok (.iload_n 1, 1) := by decide +kernel
theorem dX5_sum_10 : decode cX5_sum 10 = .ok (.aload_n 0, 1) := by decide +kernel
theorem dX5_sum_11 : decode cX5_sum 11 = .ok (.iload_n 2, 1) := by decide +kernel
theorem dX5_sum_12 : decode cX5_sum 12 = .ok (.iaload, 1) := by decide +kernel
theorem dX5_sum_13 : decode cX5_sum 13 = .ok (.iadd, 1) := by decide +kernel
theorem dX5_sum_14 : decode cX5_sum 14 = .ok (.istore_n 1, 1) := by decide +kernel
theorem dX5_sum_15 : decode cX5_sum 15 = .ok (.iinc 2 1, 3) := by decide +kernel
theorem dX5_sum_18 : decode cX5_sum 18 = .ok (.goto (-14), 3) := by decide +kernel
theorem dX5_sum_21 : decode cX5_sum 21 = .ok (.iload_n 1, 1) := by decide +kernel
theorem dX5_sum_22 : decode cX5_sum 22 = .ok (.ireturn, 1) := by decide +kernel
theorem dX5_turn_0 : decode cX5_turn 0 = .ok (.iconst 1, 1) := by decide +kernel
theorem dX5_turn_1 : decode cX5_turn 1 = .ok (.istore_n 2, 1) := by decide +kernel
theorem dX5_turn_2 : decode cX5_turn 2 = .ok (.iload_n 2, 1) := by decide +kernel
theorem dX5_turn_3 : decode cX5_turn 3 = .ok (.iconst 5, 1) := by decide +kernel
theorem dX5_turn_4 : decode cX5_turn 4 = .ok (.if_icmp .gt 24, 3) := by decide +kernel
theorem dX5_turn_7 : decode cX5_turn 7 = .ok (.iload_n 1, 1) := by decide +kernel
theorem dX5_turn_8 : decode cX5_turn 8 = .ok (.iload_n 2, 1) := by decide +kernel
theorem dX5_turn_9 : decode cX5_turn 9 = .ok (.invokestatic 45, 3) := by decide +kernel
theorem dX5_turn_12 : decode cX5_turn 12 = .ok (.if_icmp .lt 10, 3) := by decide +kernel
theorem dX5_turn_15 : decode cX5_turn 15 = .ok (.aload_n 0, 1) := by decide +kernel
theorem dX5_turn_16 : decode cX5_turn 16 = .ok (.iload_n 2, 1) := by decide +kernel
theorem dX5_turn_17 : decode cX5_turn 17 = .ok (.dup2, 1) := by decide +kernel
theorem dX5_turn_18 : decode cX5_turn 18 = .ok (.iaload, 1) := by decide +kernel
theorem dX5_turn_19 : decode cX5_turn 19 = .ok (.iconst 2, 1) := by decide +kernel
theorem dX5_turn_20 : decode cX5_turn 20 = .ok (.idiv, 1) := by decide +kernel
theorem dX5_turn_21 : decode cX5_turn 21 = .ok (.iastore, 1) := by decide +kernel
theorem dX5_turn_22 : decode cX5_turn 22 = .ok (.iinc 2 1, 3) := by decide +kernel
theorem dX5_turn_25 : decode cX5_turn 25 = .ok (.goto (-23), 3) := by decide +kernel
theorem dX5_turn_28 : decode cX5_turn 28 = .ok (.iload_n 1, 1) := by decide +kernel
theorem dX5_turn_29 : decode cX5_turn 29 = .ok (.bipush 34, 2) := by decide +kernel
theorem dX5_turn_31 : decode cX5_turn 31 = .ok (.if_icmp .lt 4, 3) := by decide +kernel
theorem dX5_turn_34 : decode cX5_turn 34 = .ok (.return_, 1) := by decide +kernel
theorem dX5_turn_35 : decode cX5_turn 35 = .ok (.iconst 1, 1) := by decide +kernel
theorem dX5_turn_36 : decode cX5_turn 36 = .ok (.istore_n 2, 1) := by decide +kernel
theorem dX5_turn_37 : decode cX5_turn 37 = .ok (.iload_n 2, 1) := by decide +kernel
theorem dX5_turn_38 : decode cX5_turn 38 = .ok (.iconst 5, 1) := by decide +kernel
theorem dX5_turn_39 : decode cX5_turn 39 = .ok (.if_icmp .ge 19, 3) := by decide +kernel
theorem dX5_turn_42 : decode cX5_turn 42 = .ok (.iload_n 2, 1) := by decide +kernel
theorem dX5_turn_43 : decode cX5_turn 43 = .ok (.invokestatic 45, 3) := by decide +kernel
theorem dX5_turn_46 : decode cX5_turn 46 = .ok (.iload_n 1, 1) := by decide +kernel
theorem dX5_turn_47 : decode cX5_turn 47 = .ok (.iconst 3, 1) := by decide +kernel
theorem dX5_turn_48 : decode cX5_turn 48 = .ok (.iadd, 1) := by decide +kernel
theorem dX5_turn_49 : decode cX5_turn 49 = .ok (.if_icmp .gt 9, 3) := by decide +kernel
theorem dX5_turn_52 : decode cX5_turn 52 = .ok (.iinc 2 1, 3) := by decide +kernel
theorem dX5_turn_55 : decode cX5_turn 55 = .ok (.goto (-18), 3) := by decide +kernel
theorem dX5_turn_58 : decode cX5_turn 58 = .ok (.aload_n 0, 1) := by decide +kernel
theorem dX5_turn_59 : decode cX5_turn 59 = .ok (.iload_n 2, 1) := by decide +kernel
theorem dX5_turn_60 : decode cX5_turn 60 = .ok (.dup2, 1) := by decide +kernel
theorem dX5_turn_61 : decode cX5_turn 61 = .ok (.iaload, 1) := by decide +kernel
theorem dX5_turn_62 : decode cX5_turn 62 = .ok (.bipush 100, 2) := by decide +kernel
theorem dX5_turn_64 : decode cX5_turn 64 = .ok (.aload_n 0, 1) := by decide +kernel
theorem dX5_turn_65 : decode cX5_turn 65 = .ok (.invokestatic 49, 3) := by decide +kernel
theorem dX5_turn_68 : decode cX5_turn 68 = .ok (.isub, 1) := by decide +kernel
theorem dX5_turn_69 : decode cX5_turn 69 = .ok (.bipush 8, 2) := by decide +kernel
theorem dX5_turn_71 : decode cX5_turn 71 = .ok (.aload_n 0, 1) := by decide +kernel
theorem dX5_turn_72 : decode cX5_turn 72 = .ok (.iload_n 2, 1) := by decide +kernel
theorem dX5_turn_73 : decode cX5_turn 73 = .ok (.iaload, 1) := by decide +kernel
theorem dX5_turn_74 : decode cX5_turn 74 = .ok (.iconst 4, 1) := by decide +kernel
theorem dX5_turn_75 : decode cX5_turn 75 = .ok (.idiv, 1) := by decide +kernel
theorem dX5_turn_76 : decode cX5_turn 76 = .ok (.iadd, 1) := by decide +kernel
theorem dX5_turn_77 : decode cX5_turn 77 = .ok (.invokestatic 53, 3) := by decide +kernel
theorem dX5_turn_80 : decode cX5_turn 80 = .ok (.iadd, 1) := by decide +kernel
theorem dX5_turn_81 : decode cX5_turn 81 = .ok (.iastore, 1) := by decide +kernel
theorem dX5_turn_82 : decode cX5_turn 82 = .ok (.return_, 1) := by decide +kernel
theorem dX5_turns_0 : decode cX5_turns 0 = .ok (.iconst 0, 1) := by decide +kernel
theorem dX5_turns_1 : decode cX5_turns 1 = .ok (.istore_n 3, 1) := by decide +kernel
theorem dX5_turns_2 : decode cX5_turns 2 = .ok (.iload_n 3, 1) := by decide +kernel
theorem dX5_turns_3 : decode cX5_turns 3 = .ok (.iload_n 2, 1) := by decide +kernel
theorem dX5_turns_4 : decode cX5_turns 4 = .ok (.if_icmp .ge 14, 3) := by decide +kernel
theorem dX5_turns_7 : decode cX5_turns 7 = .ok (.aload_n 0, 1) := by decide +kernel
theorem dX5_turns_8 : decode cX5_turns 8 = .ok (.iload_n 1, 1) := by decide +kernel
theorem dX5_turns_9 : decode cX5_turns 9 = .ok (.invokestatic 59, 3) := by decide +kernel
theorem dX5_turns_12 : decode cX5_turns 12 = .ok (.iinc 3 1, 3) := by decide +kernel
theorem dX5_turns_15 : decode cX5_turns 15 = .ok (.goto (-13), 3) := by decide +kernel
theorem dX5_turns_18 : decode cX5_turns 18 = .ok (.return_, 1) := by decide +kernel
theorem dX5_temper_0 : decode cX5_temper 0 = .ok (.iconst 0, 1) := by decide +kernel
theorem dX5_temper_1 : decode cX5_temper 1 = .ok (.bipush 100, 2) := by decide +kernel
theorem dX5_temper_3 : decode cX5_temper 3 = .ok (.iconst 2, 1) := by decide +kernel
theorem dX5_temper_4 : decode cX5_temper 4 = .ok (.aload_n 0, 1) := by decide +kernel
theorem dX5_temper_5 : decode cX5_temper 5 = .ok (.iconst 5, 1) := by decide +kernel
theorem dX5_temper_6 : decode cX5_temper 6 = .ok (.iaload, 1) := by decide +kernel
theorem dX5_temper_7 : decode cX5_temper 7 = .ok (.imul, 1) := by decide +kernel
theorem dX5_temper_8 : decode cX5_temper 8 = .ok (.aload_n 0, 1) := by decide +kernel
theorem dX5_temper_9 : decode cX5_temper 9 = .ok (.iconst 4, 1) := by decide +kernel
theorem dX5_temper_10 : decode cX5_temper 10 = .ok (.iaload, 1) := by decide +kernel
theorem dX5_temper_11 : decode cX5_temper 11 = .ok (.iadd, 1) := by decide +kernel
theorem dX5_temper_12 : decode cX5_temper 12 = .ok (.aload_n 0, 1) := by decide +kernel
theorem dX5_temper_13 : decode cX5_temper 13 = .ok (.iconst 1, 1) := by decide +kernel
theorem dX5_temper_14 : decode cX5_temper 14 = .ok (.iaload, 1) := by decide +kernel
theorem dX5_temper_15 : decode cX5_temper 15 = .ok (.isub, 1) := by decide +kernel
theorem dX5_temper_16 : decode cX5_temper 16 = .ok (.aload_n 0, 1) := by decide +kernel
theorem dX5_temper_17 : decode cX5_temper 17 = .ok (.iconst 2, 1) := by decide +kernel
theorem dX5_temper_18 : decode cX5_temper 18 = .ok (.iaload, 1) := by decide +kernel
theorem dX5_temper_19 : decode cX5_temper 19 = .ok (.isub, 1) := by decide +kernel
theorem dX5_temper_20 : decode cX5_temper 20 = .ok (.aload_n 0, 1) := by decide +kernel
theorem dX5_temper_21 : decode cX5_temper 21 = .ok (.iconst 3, 1) := by decide +kernel
theorem dX5_temper_22 : decode cX5_temper 22 = .ok (.iaload, 1) := by decide +kernel
theorem dX5_temper_23 : decode cX5_temper 23 = .ok (.isub, 1) := by decide +kernel
theorem dX5_temper_24 : decode cX5_temper 24 = .ok (.invokestatic 53, 3) := by decide +kernel
theorem dX5_temper_27 : decode cX5_temper 27 = .ok (.invokestatic 63, 3) := by decide +kernel
theorem dX5_temper_30 : decode cX5_temper 30 = .ok (.ireturn, 1) := by decide +kernel
theorem dX5_look_0 : decode cX5_look 0 = .ok (.iconst 1, 1) := by decide +kernel
theorem dX5_look_1 : decode cX5_look 1 = .ok (.istore_n 2, 1) := by decide +kernel
theorem dX5_look_2 : decode cX5_look 2 = .ok (.iload_n 2, 1) := by decide +kernel
theorem dX5_look_3 : decode cX5_look 3 = .ok (.iconst 5, 1) := by decide +kernel
theorem dX5_look_4 : decode cX5_look 4 = .ok (.if_icmp .gt 21, 3) := by decide +kernel
theorem dX5_look_7 : decode cX5_look 7 = .ok (.aload_n 0, 1) := by decide +kernel
theorem dX5_look_8 : decode cX5_look 8 = .ok (.getfield 25, 3) := by decide +kernel
theorem dX5_look_11 : decode cX5_look 11 = .ok (.iload_n 2, 1) := by decide +kernel
theorem dX5_look_12 : decode cX5_look 12 = .ok (.aload_n 0, 1) := by decide +kernel
theorem dX5_look_13 : decode cX5_look 13 = .ok (.iload_n 1, 1) := by decide +kernel
theorem dX5_look_14 : decode cX5_look 14 = .ok (.iload_n 2, 1) := by decide +kernel
theorem dX5_look_15 : decode cX5_look 15 = .ok (.invokevirtual 66, 3) := by decide +kernel
theorem dX5_look_18 : decode cX5_look 18 = .ok (.iastore, 1) := by decide +kernel
theorem dX5_look_19 : decode cX5_look 19 = .ok (.iinc 2 1, 3) := by decide +kernel
theorem dX5_look_22 : decode cX5_look 22 = .ok (.goto (-20), 3) := by decide +kernel
theorem dX5_look_25 : decode cX5_look 25 = .ok (.return_, 1) := by decide +kernel
theorem dX5_temperOf_0 : decode cX5_temperOf 0 = .ok (.aload_n 0, 1) := by decide +kernel
theorem dX5_temperOf_1 : decode cX5_temperOf 1 = .ok (.iload_n 1, 1) := by decide +kernel
theorem dX5_temperOf_2 : decode cX5_temperOf 2 = .ok (.invokevirtual 69, 3) := by decide +kernel
theorem dX5_temperOf_5 : decode cX5_temperOf 5 = .ok (.aload_n 0, 1) := by decide +kernel
theorem dX5_temperOf_6 : decode cX5_temperOf 6 = .ok (.getfield 25, 3) := by decide +kernel
theorem dX5_temperOf_9 : decode cX5_temperOf 9 = .ok (.invokestatic 73, 3) := by decide +kernel
theorem dX5_temperOf_12 : decode cX5_temperOf 12 = .ok (.ireturn, 1) := by decide +kernel
theorem dX5_bowl_0 : decode cX5_bowl 0 = .ok (.aload_n 0, 1) := by decide +kernel
theorem dX5_bowl_1 : decode cX5_bowl 1 = .ok (.iconst 0, 1) := by decide +kernel
theorem dX5_bowl_2 : decode cX5_bowl 2 = .ok (.putfield 31, 3) := by decide +kernel
theorem dX5_bowl_5 : decode cX5_bowl 5 = .ok (.iload_n 1, 1) := by decide +kernel
theorem dX5_bowl_6 : decode cX5_bowl 6 = .ok (.iconst 0, 1) := by decide +kernel
theorem dX5_bowl_7 : decode cX5_bowl 7 = .ok (.sipush 2000, 3) := by decide +kernel
theorem dX5_bowl_10 : decode cX5_bowl 10 = .ok (.invokestatic 38, 3) := by decide +kernel
theorem dX5_bowl_13 : decode cX5_bowl 13 = .ok (.ifCond .ne 9, 3) := by decide +kernel
theorem dX5_bowl_16 : decode cX5_bowl 16 = .ok (.aload_n 0, 1) := by decide +kernel
theorem dX5_bowl_17 : decode cX5_bowl 17 = .ok (.iconst 1, 1) := by decide +kernel
theorem dX5_bowl_18 : decode cX5_bowl 18 = .ok (.invokevirtual 76, 3) := by decide +kernel
theorem dX5_bowl_21 : decode cX5_bowl 21 = .ok (.ireturn, 1) := by decide +kernel
theorem dX5_bowl_22 : decode cX5_bowl 22 = .ok (.aload_n 0, 1) := by decide +kernel
theorem dX5_bowl_23 : decode cX5_bowl 23 = .ok (.getfield 35, 3) := by decide +kernel
theorem dX5_bowl_26 : decode cX5_bowl 26 = .ok (.iconst 5, 1) := by decide +kernel
theorem dX5_bowl_27 : decode cX5_bowl 27 = .ok (.if_icmp .ne 9, 3) := by decide +kernel
theorem dX5_bowl_30 : decode cX5_bowl 30 = .ok (.aload_n 0, 1) := by decide +kernel
theorem dX5_bowl_31 : decode cX5_bowl 31 = .ok (.iconst 2, 1) := by decide +kernel
theorem dX5_bowl_32 : decode cX5_bowl 32 = .ok (.invokevirtual 76, 3) := by decide +kernel
theorem dX5_bowl_35 : decode cX5_bowl 35 = .ok (.ireturn, 1) := by decide +kernel
theorem dX5_bowl_36 : decode cX5_bowl 36 = .ok (.aload_n 0, 1) := by decide +kernel
theorem dX5_bowl_37 : decode cX5_bowl 37 = .ok (.aload_n 0, 1) := by decide +kernel
theorem dX5_bowl_38 : decode cX5_bowl 38 = .ok (.getfield 35, 3) := by decide +kernel
theorem dX5_bowl_41 : decode cX5_bowl 41 = .ok (.iconst 0, 1) := by decide +kernel
theorem dX5_bowl_42 : decode cX5_bowl 42 = .ok (.iload_n 1, 1) := by decide +kernel
theorem dX5_bowl_43 : decode cX5_bowl 43 = .ok (.invokevirtual 79, 3) := by decide +kernel
theorem dX5_bowl_46 : decode cX5_bowl 46 = .ok (.aload_n 0, 1) := by decide +kernel
theorem dX5_bowl_47 : decode cX5_bowl 47 = .ok (.aload_n 0, 1) := by decide +kernel
theorem dX5_bowl_48 : decode cX5_bowl 48 = .ok (.getfield 35, 3) := by decide +kernel
theorem dX5_bowl_51 : decode cX5_bowl 51 = .ok (.bipush 6, 2) := by decide +kernel
theorem dX5_bowl_53 : decode cX5_bowl 53 = .ok (.bipush 20, 2) := by decide +kernel
theorem dX5_bowl_55 : decode cX5_bowl 55 = .ok (.invokevirtual 79, 3) := by decide +kernel
theorem dX5_bowl_58 : decode cX5_bowl 58 = .ok (.aload_n 0, 1) := by decide +kernel
theorem dX5_bowl_59 : decode cX5_bowl 59 = .ok (.dup, 1) := by decide +kernel
theorem dX5_bowl_60 : decode cX5_bowl 60 = .ok (.getfield 35, 3) := by decide +kernel
theorem dX5_bowl_63 : decode cX5_bowl 63 = .ok (.iconst 1, 1) := by decide +kernel
theorem dX5_bowl_64 : decode cX5_bowl 64 = .ok (.iadd, 1) := by decide +kernel
theorem dX5_bowl_65 : decode cX5_bowl 65 = .ok (.putfield 35, 3) := by decide +kernel
theorem dX5_bowl_68 : decode cX5_bowl 68 = .ok (.aload_n 0, 1) := by decide +kernel
theorem dX5_bowl_69 : decode cX5_bowl 69 = .ok (.getfield 35, 3) := by decide +kernel
theorem dX5_bowl_72 : decode cX5_bowl 72 = .ok (.iconst 1, 1) := by decide +kernel
theorem dX5_bowl_73 : decode cX5_bowl 73 = .ok (.isub, 1) := by decide +kernel
theorem dX5_bowl_74 : decode cX5_bowl 74 = .ok (.ireturn, 1) := by decide +kernel
theorem dX5_isWarmth_0 : decode cX5_isWarmth 0 = .ok (.iload_n 1, 1) := by decide +kernel
theorem dX5_isWarmth_1 : decode cX5_isWarmth 1 = .ok (.bipush 15, 2) := by decide +kernel
theorem dX5_isWarmth_3 : decode cX5_isWarmth 3 = .ok (.bipush 50, 2) := by decide +kernel
theorem dX5_isWarmth_5 : decode cX5_isWarmth 5 = .ok (.invokestatic 38, 3) := by decide +kernel
theorem dX5_isWarmth_8 : decode cX5_isWarmth 8 = .ok (.ifCond .eq 17, 3) := by decide +kernel
theorem dX5_isWarmth_11 : decode cX5_isWarmth 11 = .ok (.iload_n 2, 1) := by decide +kernel
theorem dX5_isWarmth_12 : decode cX5_isWarmth 12 = .ok (.iconst 1, 1) := by decide +kernel
theorem dX5_isWarmth_13 : decode cX5_isWarmth 13 = .ok (.bipush 40, 2) := by decide +kernel
theorem dX5_isWarmth_15 : decode cX5_isWarmth 15 = .ok (.invokestatic 38, 3) := by decide +kernel
theorem dX5_isWarmth_18 : decode cX5_isWarmth 18 = .ok (.ifCond .eq 7, 3) := by decide +kernel
theorem dX5_isWarmth_21 : decode cX5_isWarmth 21 = .ok (.iconst 1, 1) := by decide +kernel
theorem dX5_isWarmth_22 : decode cX5_isWarmth 22 = .ok (.goto 4, 3) := by decide +kernel
theorem dX5_isWarmth_25 : decode cX5_isWarmth 25 = .ok (.iconst 0, 1) := by decide +kernel
theorem dX5_isWarmth_26 : decode cX5_isWarmth 26 = .ok (.ireturn, 1) := by decide +kernel
theorem dX5_warm_0 : decode cX5_warm 0 = .ok (.aload_n 0, 1) := by decide +kernel
theorem dX5_warm_1 : decode cX5_warm 1 = .ok (.iconst 0, 1) := by decide +kernel
theorem dX5_warm_2 : decode cX5_warm 2 = .ok (.putfield 31, 3) := by decide +kernel
theorem dX5_warm_5 : decode cX5_warm 5 = .ok (.aload_n 0, 1) := by decide +kernel
theorem dX5_warm_6 : decode cX5_warm 6 = .ok (.iload_n 1, 1) := by decide +kernel
theorem dX5_warm_7 : decode cX5_warm 7 = .ok (.invokevirtual 83, 3) := by decide +kernel
theorem dX5_warm_10 : decode cX5_warm 10 = .ok (.ifCond .ne 9, 3) := by decide +kernel
theorem dX5_warm_13 : decode cX5_warm 13 = .ok (.aload_n 0, 1) := by decide +kernel
theorem dX5_warm_14 : decode cX5_warm 14 = .ok (.iconst 1, 1) := by decide +kernel
theorem dX5_warm_15 : decode cX5_warm 15 = .ok (.invokevirtual 76, 3) := by decide +kernel
theorem dX5_warm_18 : decode cX5_warm 18 = .ok (.ireturn, 1) := by decide +kernel
theorem dX5_warm_19 : decode cX5_warm 19 = .ok (.aload_n 0, 1) := by decide +kernel
theorem dX5_warm_20 : decode cX5_warm 20 = .ok (.iload_n 2, 1) := by decide +kernel
theorem dX5_warm_21 : decode cX5_warm 21 = .ok (.iload_n 3, 1) := by decide +kernel
theorem dX5_warm_22 : decode cX5_warm 22 = .ok (.invokevirtual 87, 3) := by decide +kernel
theorem dX5_warm_25 : decode cX5_warm 25 = .ok (.ifCond .ne 9, 3) := by decide +kernel
theorem dX5_warm_28 : decode cX5_warm 28 = .ok (.aload_n 0, 1) := by decide +kernel
theorem dX5_warm_29 : decode cX5_warm 29 = .ok (.iconst 2, 1) := by decide +kernel
theorem dX5_warm_30 : decode cX5_warm 30 = .ok (.invokevirtual 76, 3) := by decide +kernel
theorem dX5_warm_33 : decode cX5_warm 33 = .ok (.ireturn, 1) := by decide +kernel
theorem dX5_warm_34 : decode cX5_warm 34 = .ok (.aload_n 0, 1) := by decide +kernel
theorem dX5_warm_35 : decode cX5_warm 35 = .ok (.iload_n 1, 1) := by decide +kernel
theorem dX5_warm_36 : decode cX5_warm 36 = .ok (.invokevirtual 69, 3) := by decide +kernel
theorem dX5_warm_39 : decode cX5_warm 39 = .ok (.aload_n 0, 1) := by decide +kernel
theorem dX5_warm_40 : decode cX5_warm 40 = .ok (.getfield 25, 3) := by decide +kernel
theorem dX5_warm_43 : decode cX5_warm 43 = .ok (.iload_n 2, 1) := by decide +kernel
theorem dX5_warm_44 : decode cX5_warm 44 = .ok (.iload_n 3, 1) := by decide +kernel
theorem dX5_warm_45 : decode cX5_warm 45 = .ok (.invokestatic 91, 3) := by decide +kernel
theorem dX5_warm_48 : decode cX5_warm 48 = .ok (.iconst 1, 1) := by decide +kernel
theorem dX5_warm_49 : decode cX5_warm 49 = .ok (.istore 4, 2) := by decide +kernel
theorem dX5_warm_51 : decode cX5_warm 51 = .ok (.iload 4, 2) := by decide +kernel
theorem dX5_warm_53 : decode cX5_warm 53 = .ok (.iconst 5, 1) := by decide +kernel
theorem dX5_warm_54 : decode cX5_warm 54 = .ok (.if_icmp .gt 23, 3) := by decide +kernel
theorem dX5_warm_57 : decode cX5_warm 57 = .ok (.aload_n 0, 1) := by decide +kernel
theorem dX5_warm_58 : decode cX5_warm 58 = .ok (.iload_n 1, 1) := by decide +kernel
theorem dX5_warm_59 : decode cX5_warm 59 = .ok (.iload 4, 2) := by decide +kernel
theorem dX5_warm_61 : decode cX5_warm 61 = .ok (.aload_n 0, 1) := by decide +kernel
theorem dX5_warm_62 : decode cX5_warm 62 = .ok (.getfield 25, 3) := by decide +kernel
theorem dX5_warm_65 : decode cX5_warm 65 = .ok (.iload 4, 2) := by decide +kernel
theorem dX5_warm_67 : decode cX5_warm 67 = .ok (.iaload, 1) := by decide +kernel
theorem dX5_warm_68 : decode cX5_warm 68 = .ok (.invokevirtual 79, 3) := by decide +kernel
theorem dX5_warm_71 : decode cX5_warm 71 = .ok (.iinc 4 1, 3) := by decide +kernel
theorem dX5_warm_74 : decode cX5_warm 74 = .ok (.goto (-23), 3) := by decide +kernel
theorem dX5_warm_77 : decode cX5_warm 77 = .ok (.aload_n 0, 1) := by decide +kernel
theorem dX5_warm_78 : decode cX5_warm 78 = .ok (.iload_n 1, 1) := by decide +kernel
theorem dX5_warm_79 : decode cX5_warm 79 = .ok (.bipush 6, 2) := by decide +kernel
theorem dX5_warm_81 : decode cX5_warm 81 = .ok (.iload_n 2, 1) := by decide +kernel
theorem dX5_warm_82 : decode cX5_warm 82 = .ok (.invokevirtual 79, 3) := by decide +kernel
theorem dX5_warm_85 : decode cX5_warm 85 = .ok (.aload_n 0, 1) := by decide +kernel
theorem dX5_warm_86 : decode cX5_warm 86 = .ok (.getfield 25, 3) := by decide +kernel
theorem dX5_warm_89 : decode cX5_warm 89 = .ok (.invokestatic 73, 3) := by decide +kernel
theorem dX5_warm_92 : decode cX5_warm 92 = .ok (.ireturn, 1) := by decide +kernel
theorem dX5_seed_0 : decode cX5_seed 0 = .ok (.aload_n 0, 1) := by decide +kernel
theorem dX5_seed_1 : decode cX5_seed 1 = .ok (.iconst 0, 1) := by decide +kernel
theorem dX5_seed_2 : decode cX5_seed 2 = .ok (.putfield 31, 3) := by decide +kernel
theorem dX5_seed_5 : decode cX5_seed 5 = .ok (.aload_n 0, 1) := by decide +kernel
theorem dX5_seed_6 : decode cX5_seed 6 = .ok (.iload_n 1, 1) := by decide +kernel
theorem dX5_seed_7 : decode cX5_seed 7 = .ok (.invokevirtual 83, 3) := by decide +kernel
theorem dX5_seed_10 : decode cX5_seed 10 = .ok (.ifCond .ne 9, 3) := by decide +kernel
theorem dX5_seed_13 : decode cX5_seed 13 = .ok (.aload_n 0, 1) := by decide +kernel
theorem dX5_seed_14 : decode cX5_seed 14 = .ok (.iconst 1, 1) := by decide +kernel
theorem dX5_seed_15 : decode cX5_seed 15 = .ok (.invokevirtual 76, 3) := by decide +kernel
theorem dX5_seed_18 : decode cX5_seed 18 = .ok (.ireturn, 1) := by decide +kernel
theorem dX5_seed_19 : decode cX5_seed 19 = .ok (.iload_n 2, 1) := by decide +kernel
theorem dX5_seed_20 : decode cX5_seed 20 = .ok (.iconst 1, 1) := by decide +kernel
theorem dX5_seed_21 : decode cX5_seed 21 = .ok (.bipush 30, 2) := by decide +kernel
theorem dX5_seed_23 : decode cX5_seed 23 = .ok (.invokestatic 38, 3) := by decide +kernel
theorem dX5_seed_26 : decode cX5_seed 26 = .ok (.ifCond .ne 9, 3) := by decide +kernel
theorem dX5_seed_29 : decode cX5_seed 29 = .ok (.aload_n 0, 1) := by decide +kernel
theorem dX5_seed_30 : decode cX5_seed 30 = .ok (.iconst 2, 1) := by decide +kernel
theorem dX5_seed_31 : decode cX5_seed 31 = .ok (.invokevirtual 76, 3) := by decide +kernel
theorem dX5_seed_34 : decode cX5_seed 34 = .ok (.ireturn, 1) := by decide +kernel
theorem dX5_seed_35 : decode cX5_seed 35 = .ok (.aload_n 0, 1) := by decide +kernel
theorem dX5_seed_36 : decode cX5_seed 36 = .ok (.iload_n 1, 1) := by decide +kernel
theorem dX5_seed_37 : decode cX5_seed 37 = .ok (.invokevirtual 69, 3) := by decide +kernel
theorem dX5_seed_40 : decode cX5_seed 40 = .ok (.aload_n 0, 1) := by decide +kernel
theorem dX5_seed_41 : decode cX5_seed 41 = .ok (.iload_n 1, 1) := by decide +kernel
theorem dX5_seed_42 : decode cX5_seed 42 = .ok (.iconst 5, 1) := by decide +kernel
theorem dX5_seed_43 : decode cX5_seed 43 = .ok (.aload_n 0, 1) := by decide +kernel
theorem dX5_seed_44 : decode cX5_seed 44 = .ok (.getfield 25, 3) := by decide +kernel
theorem dX5_seed_47 : decode cX5_seed 47 = .ok (.iconst 5, 1) := by decide +kernel
theorem dX5_seed_48 : decode cX5_seed 48 = .ok (.iaload, 1) := by decide +kernel
theorem dX5_seed_49 : decode cX5_seed 49 = .ok (.iload_n 2, 1) := by decide +kernel
theorem dX5_seed_50 : decode cX5_seed 50 = .ok (.bipush 100, 2) := by decide +kernel
theorem dX5_seed_52 : decode cX5_seed 52 = .ok (.aload_n 0, 1) := by decide +kernel
theorem dX5_seed_53 : decode cX5_seed 53 = .ok (.getfield 25, 3) := by decide +kernel
theorem dX5_seed_56 : decode cX5_seed 56 = .ok (.invokestatic 49, 3) := by decide +kernel
theorem dX5_seed_59 : decode cX5_seed 59 = .ok (.isub, 1) := by decide +kernel
theorem dX5_seed_60 : decode cX5_seed 60 = .ok (.invokestatic 53, 3) := by decide +kernel
theorem dX5_seed_63 : decode cX5_seed 63 = .ok (.iadd, 1) := by decide +kernel
theorem dX5_seed_64 : decode cX5_seed 64 = .ok (.invokevirtual 79, 3) := by decide +kernel
theorem dX5_seed_67 : decode cX5_seed 67 = .ok (.aload_n 0, 1) := by decide +kernel
theorem dX5_seed_68 : decode cX5_seed 68 = .ok (.iload_n 1, 1) := by decide +kernel
theorem dX5_seed_69 : decode cX5_seed 69 = .ok (.iconst 5, 1) := by decide +kernel
theorem dX5_seed_70 : decode cX5_seed 70 = .ok (.invokevirtual 66, 3) := by decide +kernel
theorem dX5_seed_73 : decode cX5_seed 73 = .ok (.ireturn, 1) := by decide +kernel
theorem dX5_pour_0 : decode cX5_pour 0 = .ok (.aload_n 0, 1) := by decide +kernel
theorem dX5_pour_1 : decode cX5_pour 1 = .ok (.iconst 0, 1) := by decide +kernel
theorem dX5_pour_2 : decode cX5_pour 2 = .ok (.putfield 31, 3) := by decide +kernel
theorem dX5_pour_5 : decode cX5_pour 5 = .ok (.aload_n 0, 1) := by decide +kernel
theorem dX5_pour_6 : decode cX5_pour 6 = .ok (.iload_n 1, 1) := by decide +kernel
theorem dX5_pour_7 : decode cX5_pour 7 = .ok (.invokevirtual 83, 3) := by decide +kernel
theorem dX5_pour_10 : decode cX5_pour 10 = .ok (.ifCond .eq 11, 3) := by decide +kernel
theorem dX5_pour_13 : decode cX5_pour 13 = .ok (.aload_n 0, 1) := by decide +kernel
theorem dX5_pour_14 : decode cX5_pour 14 = .ok (.iload_n 2, 1) := by decide +kernel
theorem dX5_pour_15 : decode cX5_pour 15 = .ok (.invokevirtual 83, 3) := by decide +kernel
theorem dX5_pour_18 : decode cX5_pour 18 = .ok (.ifCond .ne 9, 3) := by decide +kernel
theorem dX5_pour_21 : decode cX5_pour 21 = .ok (.aload_n 0, 1) := by decide +kernel
theorem dX5_pour_22 : decode cX5_pour 22 = .ok (.iconst 1, 1) := by decide +kernel
theorem dX5_pour_23 : decode cX5_pour 23 = .ok (.invokevirtual 76, 3) := by decide +kernel
theorem dX5_pour_26 : decode cX5_pour 26 = .ok (.ireturn, 1) := by decide +kernel
theorem dX5_pour_27 : decode cX5_pour 27 = .ok (.aload_n 0, 1) := by decide +kernel
theorem dX5_pour_28 : decode cX5_pour 28 = .ok (.iload_n 1, 1) := by decide +kernel
theorem dX5_pour_29 : decode cX5_pour 29 = .ok (.iconst 0, 1) := by decide +kernel
theorem dX5_pour_30 : decode cX5_pour 30 = .ok (.invokevirtual 66, 3) := by decide +kernel
theorem dX5_pour_33 : decode cX5_pour 33 = .ok (.aload_n 0, 1) := by decide +kernel
theorem dX5_pour_34 : decode cX5_pour 34 = .ok (.iload_n 2, 1) := by decide +kernel
theorem dX5_pour_35 : decode cX5_pour 35 = .ok (.iconst 0, 1) := by decide +kernel
theorem dX5_pour_36 : decode cX5_pour 36 = .ok (.invokevirtual 66, 3) := by decide +kernel
theorem dX5_pour_39 : decode cX5_pour 39 = .ok (.iadd, 1) := by decide +kernel
theorem dX5_pour_40 : decode cX5_pour 40 = .ok (.istore_n 3, 1) := by decide +kernel
theorem dX5_pour_41 : decode cX5_pour 41 = .ok (.iload_n 1, 1) := by decide +kernel
theorem dX5_pour_42 : decode cX5_pour 42 = .ok (.iload_n 2, 1) := by decide +kernel
theorem dX5_pour_43 : decode cX5_pour 43 = .ok (.if_icmp .eq 14, 3) := by decide +kernel
theorem dX5_pour_46 : decode cX5_pour 46 = .ok (.iload_n 3, 1) := by decide +kernel
theorem dX5_pour_47 : decode cX5_pour 47 = .ok (.ifCond .eq 10, 3) := by decide +kernel
theorem dX5_pour_50 : decode cX5_pour 50 = .ok (.iload_n 3, 1) := by decide +kernel
theorem dX5_pour_51 : decode cX5_pour 51 = .ok (.sipush 2000, 3) := by decide +kernel
theorem dX5_pour_54 : decode cX5_pour 54 = .ok (.if_icmp .le 9, 3) := by decide +kernel
theorem dX5_pour_57 : decode cX5_pour 57 = .ok (.aload_n 0, 1) := by decide +kernel
theorem dX5_pour_58 : decode cX5_pour 58 = .ok (.iconst 2, 1) := by decide +kernel
theorem dX5_pour_59 : decode cX5_pour 59 = .ok (.invokevirtual 76, 3) := by decide +kernel
theorem dX5_pour_62 : decode cX5_pour 62 = .ok (.ireturn, 1) := by decide +kernel
theorem dX5_pour_63 : decode cX5_pour 63 = .ok (.iconst 1, 1) := by decide +kernel
theorem dX5_pour_64 : decode cX5_pour 64 = .ok (.istore 4, 2) := by decide +kernel
theorem dX5_pour_66 : decode cX5_pour 66 = .ok (.iload 4, 2) := by decide +kernel
theorem dX5_pour_68 : decode cX5_pour 68 = .ok (.bipush 6, 2) := by decide +kernel
theorem dX5_pour_70 : decode cX5_pour 70 = .ok (.if_icmp .gt 47, 3) := by decide +kernel
theorem dX5_pour_73 : decode cX5_pour 73 = .ok (.aload_n 0, 1) := by decide +kernel
theorem dX5_pour_74 : decode cX5_pour 74 = .ok (.iload_n 2, 1) := by decide +kernel
theorem dX5_pour_75 : decode cX5_pour 75 = .ok (.iload 4, 2) := by decide +kernel
theorem dX5_pour_77 : decode cX5_pour 77 = .ok (.aload_n 0, 1) := by decide +kernel
theorem dX5_pour_78 : decode cX5_pour 78 = .ok (.iload_n 2, 1) := by decide +kernel
theorem dX5_pour_79 : decode cX5_pour 79 = .ok (.iload 4, 2) := by decide +kernel
theorem dX5_pour_81 : decode cX5_pour 81 = .ok (.invokevirtual 66, 3) := by decide +kernel
theorem dX5_pour_84 : decode cX5_pour 84 = .ok (.aload_n 0, 1) := by decide +kernel
theorem dX5_pour_85 : decode cX5_pour 85 = .ok (.iload_n 2, 1) := by decide +kernel
theorem dX5_pour_86 : decode cX5_pour 86 = .ok (.iconst 0, 1) := by decide +kernel
theorem dX5_pour_87 : decode cX5_pour 87 = .ok (.invokevirtual 66, 3) := by decide +kernel
theorem dX5_pour_90 : decode cX5_pour 90 = .ok (.imul, 1) := by decide +kernel
theorem dX5_pour_91 : decode cX5_pour 91 = .ok (.aload_n 0, 1) := by decide +kernel
theorem dX5_pour_92 : decode cX5_pour 92 = .ok (.iload_n 1, 1) := by decide +kernel
theorem dX5_pour_93 : decode cX5_pour 93 = .ok (.iload 4, 2) := by decide +kernel
theorem dX5_pour_95 : decode cX5_pour 95 = .ok (.invokevirtual 66, 3) := by decide +kernel
theorem dX5_pour_98 : decode cX5_pour 98 = .ok (.aload_n 0, 1) := by decide +kernel
theorem dX5_pour_99 : decode cX5_pour 99 = .ok (.iload_n 1, 1) := by decide +kernel
theorem dX5_pour_100 : decode cX5_pour 100 = .ok (.iconst 0, 1) := by decide +kernel
theorem dX5_pour_101 : decode cX5_pour 101 = .ok (.invokevirtual 66, 3) := by decide +kernel
theorem dX5_pour_104 : decode cX5_pour 104 = .ok (.imul, 1) := by decide +kernel
theorem dX5_pour_105 : decode cX5_pour 105 = .ok (.iadd, 1) := by decide +kernel
theorem dX5_pour_106 : decode cX5_pour 106 = .ok (.iload_n 3, 1) := by decide +kernel
theorem dX5_pour_107 : decode cX5_pour 107 = .ok (.idiv, 1) := by decide +kernel
theorem dX5_pour_108 : decode cX5_pour 108 = .ok (.invokevirtual 79, 3) := by decide +kernel
theorem dX5_pour_111 : decode cX5_pour 111 = .ok (.iinc 4 1, 3) := by decide +kernel
theorem dX5_pour_114 : decode cX5_pour 114 = .ok (.goto (-48), 3) := by decide +kernel
theorem dX5_pour_117 : decode cX5_pour 117 = .ok (.aload_n 0, 1) := by decide +kernel
theorem dX5_pour_118 : decode cX5_pour 118 = .ok (.iload_n 2, 1) := by decide +kernel
theorem dX5_pour_119 : decode cX5_pour 119 = .ok (.iconst 0, 1) := by decide +kernel
theorem dX5_pour_120 : decode cX5_pour 120 = .ok (.iload_n 3, 1) := by decide +kernel
theorem dX5_pour_121 : decode cX5_pour 121 = .ok (.invokevirtual 79, 3) := by decide +kernel
theorem dX5_pour_124 : decode cX5_pour 124 = .ok (.iconst 0, 1) := by decide +kernel
theorem dX5_pour_125 : decode cX5_pour 125 = .ok (.istore 4, 2) := by decide +kernel
theorem dX5_pour_127 : decode cX5_pour 127 = .ok (.iload 4, 2) := by decide +kernel
theorem dX5_pour_129 : decode cX5_pour 129 = .ok (.bipush 6, 2) := by decide +kernel
theorem dX5_pour_131 : decode cX5_pour 131 = .ok (.if_icmp .ge 17, 3) := by decide +kernel
theorem dX5_pour_134 : decode cX5_pour 134 = .ok (.aload_n 0, 1) := by decide +kernel
theorem dX5_pour_135 : decode cX5_pour 135 = .ok (.iload_n 1, 1) := by decide +kernel
theorem dX5_pour_136 : decode cX5_pour 136 = .ok (.iload 4, 2) := by decide +kernel
theorem dX5_pour_138 : decode cX5_pour 138 = .ok (.iconst 0, 1) := by decide +kernel
theorem dX5_pour_139 : decode cX5_pour 139 = .ok (.invokevirtual 79, 3) := by decide +kernel
theorem dX5_pour_142 : decode cX5_pour 142 = .ok (.iinc 4 1, 3) := by decide +kernel
theorem dX5_pour_145 : decode cX5_pour 145 = .ok (.goto (-18), 3) := by decide +kernel
theorem dX5_pour_148 : decode cX5_pour 148 = .ok (.iload_n 3, 1) := by decide +kernel
theorem dX5_pour_149 : decode cX5_pour 149 = .ok (.ireturn, 1) := by decide +kernel
theorem dX5_put_0 : decode cX5_put 0 = .ok (.aload_n 0, 1) := by decide +kernel
theorem dX5_put_1 : decode cX5_put 1 = .ok (.iload_n 1, 1) := by decide +kernel
theorem dX5_put_2 : decode cX5_put 2 = .ok (.iconst 0, 1) := by decide +kernel
theorem dX5_put_3 : decode cX5_put 3 = .ok (.iload_n 2, 1) := by decide +kernel
theorem dX5_put_4 : decode cX5_put 4 = .ok (.invokevirtual 95, 3) := by decide +kernel
theorem dX5_put_7 : decode cX5_put 7 = .ok (.aload_n 0, 1) := by decide +kernel
theorem dX5_put_8 : decode cX5_put 8 = .ok (.iload_n 1, 1) := by decide +kernel
theorem dX5_put_9 : decode cX5_put 9 = .ok (.iconst 1, 1) := by decide +kernel
theorem dX5_put_10 : decode cX5_put 10 = .ok (.iload_n 3, 1) := by decide +kernel
theorem dX5_put_11 : decode cX5_put 11 = .ok (.invokevirtual 95, 3) := by decide +kernel
theorem dX5_put_14 : decode cX5_put 14 = .ok (.aload_n 0, 1) := by decide +kernel
theorem dX5_put_15 : decode cX5_put 15 = .ok (.iload_n 1, 1) := by decide +kernel
theorem dX5_put_16 : decode cX5_put 16 = .ok (.iconst 2, 1) := by decide +kernel
theorem dX5_put_17 : decode cX5_put 17 = .ok (.iload 4, 2) := by decide +kernel
theorem dX5_put_19 : decode cX5_put 19 = .ok (.invokevirtual 95, 3) := by decide +kernel
theorem dX5_put_22 : decode cX5_put 22 = .ok (.aload_n 0, 1) := by decide +kernel
theorem dX5_put_23 : decode cX5_put 23 = .ok (.iload_n 1, 1) := by decide +kernel
theorem dX5_put_24 : decode cX5_put 24 = .ok (.iconst 3, 1) := by decide +kernel
theorem dX5_put_25 : decode cX5_put 25 = .ok (.iload 5, 2) := by decide +kernel
theorem dX5_put_27 : decode cX5_put 27 = .ok (.invokevirtual 95, 3) := by decide +kernel
theorem dX5_put_30 : decode cX5_put 30 = .ok (.aload_n 0, 1) := by decide +kernel
theorem dX5_put_31 : decode cX5_put 31 = .ok (.iload_n 1, 1) := by decide +kernel
theorem dX5_put_32 : decode cX5_put 32 = .ok (.iconst 4, 1) := by decide +kernel
theorem dX5_put_33 : decode cX5_put 33 = .ok (.iload 6, 2) := by decide +kernel
theorem dX5_put_35 : decode cX5_put 35 = .ok (.invokevirtual 95, 3) := by decide +kernel
theorem dX5_put_38 : decode cX5_put 38 = .ok (.return_, 1) := by decide +kernel
theorem dX5_squares_0 : decode cX5_squares 0 = .ok (.aload_n 0, 1) := by decide +kernel
theorem dX5_squares_1 : decode cX5_squares 1 = .ok (.iload_n 1, 1) := by decide +kernel
theorem dX5_squares_2 : decode cX5_squares 2 = .ok (.iconst 0, 1) := by decide +kernel
theorem dX5_squares_3 : decode cX5_squares 3 = .ok (.invokevirtual 98, 3) := by decide +kernel
theorem dX5_squares_6 : decode cX5_squares 6 = .ok (.aload_n 0, 1) := by decide +kernel
theorem dX5_squares_7 : decode cX5_squares 7 = .ok (.iload_n 1, 1) := by decide +kernel
theorem dX5_squares_8 : decode cX5_squares 8 = .ok (.iconst 1, 1) := by decide +kernel
theorem dX5_squares_9 : decode cX5_squares 9 = .ok (.invokevirtual 98, 3) := by decide +kernel
theorem dX5_squares_12 : decode cX5_squares 12 = .ok (.imul, 1) := by decide +kernel
theorem dX5_squares_13 : decode cX5_squares 13 = .ok (.ireturn, 1) := by decide +kernel
theorem dX5_away_0 : decode cX5_away 0 = .ok (.aload_n 0, 1) := by decide +kernel
theorem dX5_away_1 : decode cX5_away 1 = .ok (.dup, 1) := by decide +kernel
theorem dX5_away_2 : decode cX5_away 2 = .ok (.getfield 42, 3) := by decide +kernel
theorem dX5_away_5 : decode cX5_away 5 = .ok (.iconst 1, 1) := by decide +kernel
theorem dX5_away_6 : decode cX5_away 6 = .ok (.isub, 1) := by decide +kernel
theorem dX5_away_7 : decode cX5_away 7 = .ok (.putfield 42, 3) := by decide +kernel
theorem dX5_away_10 : decode cX5_away 10 = .ok (.aload_n 0, 1) := by decide +kernel
theorem dX5_away_11 : decode cX5_away 11 = .ok (.getfield 13, 3) := by decide +kernel
theorem dX5_away_14 : decode cX5_away 14 = .ok (.iconst 5, 1) := by decide +kernel
theorem dX5_away_15 : decode cX5_away 15 = .ok (.iload_n 1, 1) := by decide +kernel
theorem dX5_away_16 : decode cX5_away 16 = .ok (.iconst 1, 1) := by decide +kernel
theorem dX5_away_17 : decode cX5_away 17 = .ok (.iadd, 1) := by decide +kernel
theorem dX5_away_18 : decode cX5_away 18 = .ok (.imul, 1) := by decide +kernel
theorem dX5_away_19 : decode cX5_away 19 = .ok (.aload_n 0, 1) := by decide +kernel
theorem dX5_away_20 : decode cX5_away 20 = .ok (.getfield 13, 3) := by decide +kernel
theorem dX5_away_23 : decode cX5_away 23 = .ok (.iconst 5, 1) := by decide +kernel
theorem dX5_away_24 : decode cX5_away 24 = .ok (.iload_n 1, 1) := by decide +kernel
theorem dX5_away_25 : decode cX5_away 25 = .ok (.imul, 1) := by decide +kernel
theorem dX5_away_26 : decode cX5_away 26 = .ok (.iconst 5, 1) := by decide +kernel
theorem dX5_away_27 : decode cX5_away 27 = .ok (.aload_n 0, 1) := by decide +kernel
theorem dX5_away_28 : decode cX5_away 28 = .ok (.getfield 42, 3) := by decide +kernel
theorem dX5_away_31 : decode cX5_away 31 = .ok (.iload_n 1, 1) := by decide +kernel
theorem dX5_away_32 : decode cX5_away 32 = .ok (.isub, 1) := by decide +kernel
theorem dX5_away_33 : decode cX5_away 33 = .ok (.imul, 1) := by decide +kernel
theorem dX5_away_34 : decode cX5_away 34 = .ok (.invokestatic 101, 3) := by decide +kernel
theorem dX5_away_37 : decode cX5_away 37 = .ok (.return_, 1) := by decide +kernel
theorem dX5_cast_0 : decode cX5_cast 0 = .ok (.aload_n 0, 1) := by decide +kernel
theorem dX5_cast_1 : decode cX5_cast 1 = .ok (.iconst 0, 1) := by decide +kernel
theorem dX5_cast_2 : decode cX5_cast 2 = .ok (.putfield 31, 3) := by decide +kernel
theorem dX5_cast_5 : decode cX5_cast 5 = .ok (.aload_n 0, 1) := by decide +kernel
theorem dX5_cast_6 : decode cX5_cast 6 = .ok (.iload_n 1, 1) := by decide +kernel
theorem dX5_cast_7 : decode cX5_cast 7 = .ok (.invokevirtual 83, 3) := by decide +kernel
theorem dX5_cast_10 : decode cX5_cast 10 = .ok (.ifCond .ne 9, 3) := by decide +kernel
theorem dX5_cast_13 : decode cX5_cast 13 = .ok (.aload_n 0, 1) := by decide +kernel
theorem dX5_cast_14 : decode cX5_cast 14 = .ok (.iconst 1, 1) := by decide +kernel
theorem dX5_cast_15 : decode cX5_cast 15 = .ok (.invokevirtual 76, 3) := by decide +kernel
theorem dX5_cast_18 : decode cX5_cast 18 = .ok (.ireturn, 1) := by decide +kernel
theorem dX5_cast_19 : decode cX5_cast 19 = .ok (.iload_n 2, 1) := by decide +kernel
theorem dX5_cast_20 : decode cX5_cast 20 = .ok (.iconst 1, 1) := by decide +kernel
theorem dX5_cast_21 : decode cX5_cast 21 = .ok (.bipush 6, 2) := by decide +kernel
theorem dX5_cast_23 : decode cX5_cast 23 = .ok (.invokestatic 38, 3) := by decide +kernel
theorem dX5_cast_26 : decode cX5_cast 26 = .ok (.ifCond .eq 13, 3) := by decide +kernel
theorem dX5_cast_29 : decode cX5_cast 29 = .ok (.iload_n 3, 1) := by decide +kernel
theorem dX5_cast_30 : decode cX5_cast 30 = .ok (.iconst 1, 1) := by decide +kernel
theorem dX5_cast_31 : decode cX5_cast 31 = .ok (.bipush 6, 2) := by decide +kernel
theorem dX5_cast_33 : decode cX5_cast 33 = .ok (.invokestatic 38, 3) := by decide +kernel
theorem dX5_cast_36 : decode cX5_cast 36 = .ok (.ifCond .ne 9, 3) := by decide +kernel
theorem dX5_cast_39 : decode cX5_cast 39 = .ok (.aload_n 0, 1) := by decide +kernel
theorem dX5_cast_40 : decode cX5_cast 40 = .ok (.iconst 2, 1) := by decide +kernel
theorem dX5_cast_41 : decode cX5_cast 41 = .ok (.invokevirtual 76, 3) := by decide +kernel
theorem dX5_cast_44 : decode cX5_cast 44 = .ok (.ireturn, 1) := by decide +kernel
theorem dX5_cast_45 : decode cX5_cast 45 = .ok (.aload_n 0, 1) := by decide +kernel
theorem dX5_cast_46 : decode cX5_cast 46 = .ok (.getfield 42, 3) := by decide +kernel
theorem dX5_cast_49 : decode cX5_cast 49 = .ok (.bipush 8, 2) := by decide +kernel
theorem dX5_cast_51 : decode cX5_cast 51 = .ok (.if_icmp .eq 18, 3) := by decide +kernel
theorem dX5_cast_54 : decode cX5_cast 54 = .ok (.aload_n 0, 1) := by decide +kernel
theorem dX5_cast_55 : decode cX5_cast 55 = .ok (.iload_n 1, 1) := by decide +kernel
theorem dX5_cast_56 : decode cX5_cast 56 = .ok (.iconst 0, 1) := by decide +kernel
theorem dX5_cast_57 : decode cX5_cast 57 = .ok (.invokevirtual 66, 3) := by decide +kernel
theorem dX5_cast_60 : decode cX5_cast 60 = .ok (.bipush 10, 2) := by decide +kernel
theorem dX5_cast_62 : decode cX5_cast 62 = .ok (.iload_n 2, 1) := by decide +kernel
theorem dX5_cast_63 : decode cX5_cast 63 = .ok (.imul, 1) := by decide +kernel
theorem dX5_cast_64 : decode cX5_cast 64 = .ok (.iload_n 3, 1) := by decide +kernel
theorem dX5_cast_65 : decode cX5_cast 65 = .ok (.imul, 1) := by decide +kernel
theorem dX5_cast_66 : decode cX5_cast 66 = .ok (.if_icmp .ge 9, 3) := by decide +kernel
theorem dX5_cast_69 : decode cX5_cast 69 = .ok (.aload_n 0, 1) := by decide +kernel
theorem dX5_cast_70 : decode cX5_cast 70 = .ok (.iconst 3, 1) := by decide +kernel
theorem dX5_cast_71 : decode cX5_cast 71 = .ok (.invokevirtual 76, 3) := by decide +kernel
theorem dX5_cast_74 : decode cX5_cast 74 = .ok (.ireturn, 1) := by decide +kernel
theorem dX5_cast_75 : decode cX5_cast 75 = .ok (.aload_n 0, 1) := by decide +kernel
theorem dX5_cast_76 : decode cX5_cast 76 = .ok (.iload_n 1, 1) := by decide +kernel
theorem dX5_cast_77 : decode cX5_cast 77 = .ok (.iconst 0, 1) := by decide +kernel
theorem dX5_cast_78 : decode cX5_cast 78 = .ok (.aload_n 0, 1) := by decide +kernel
theorem dX5_cast_79 : decode cX5_cast 79 = .ok (.iload_n 1, 1) := by decide +kernel
theorem dX5_cast_80 : decode cX5_cast 80 = .ok (.iconst 0, 1) := by decide +kernel
theorem dX5_cast_81 : decode cX5_cast 81 = .ok (.invokevirtual 66, 3) := by decide +kernel
theorem dX5_cast_84 : decode cX5_cast 84 = .ok (.bipush 10, 2) := by decide +kernel
theorem dX5_cast_86 : decode cX5_cast 86 = .ok (.iload_n 2, 1) := by decide +kernel
theorem dX5_cast_87 : decode cX5_cast 87 = .ok (.imul, 1) := by decide +kernel
theorem dX5_cast_88 : decode cX5_cast 88 = .ok (.iload_n 3, 1) := by decide +kernel
theorem dX5_cast_89 : decode cX5_cast 89 = .ok (.imul, 1) := by decide +kernel
theorem dX5_cast_90 : decode cX5_cast 90 = .ok (.isub, 1) := by decide +kernel
theorem dX5_cast_91 : decode cX5_cast 91 = .ok (.invokevirtual 79, 3) := by decide +kernel
theorem dX5_cast_94 : decode cX5_cast 94 = .ok (.aload_n 0, 1) := by decide +kernel
theorem dX5_cast_95 : decode cX5_cast 95 = .ok (.aload_n 0, 1) := by decide +kernel
theorem dX5_cast_96 : decode cX5_cast 96 = .ok (.getfield 42, 3) := by decide +kernel
theorem dX5_cast_99 : decode cX5_cast 99 = .ok (.iload_n 2, 1) := by decide +kernel
theorem dX5_cast_100 : decode cX5_cast 100 = .ok (.iload_n 3, 1) := by decide +kernel
theorem dX5_cast_101 : decode cX5_cast 101 = .ok (.aload_n 0, 1) := by decide +kernel
theorem dX5_cast_102 : decode cX5_cast 102 = .ok (.iload_n 1, 1) := by decide +kernel
theorem dX5_cast_103 : decode cX5_cast 103 = .ok (.invokevirtual 107, 3) := by decide +kernel
theorem dX5_cast_106 : decode cX5_cast 106 = .ok (.iconst 0, 1) := by decide +kernel
theorem dX5_cast_107 : decode cX5_cast 107 = .ok (.iconst 0, 1) := by decide +kernel
theorem dX5_cast_108 : decode cX5_cast 108 = .ok (.invokevirtual 110, 3) := by decide +kernel
theorem dX5_cast_111 : decode cX5_cast 111 = .ok (.aload_n 0, 1) := by decide +kernel
theorem dX5_cast_112 : decode cX5_cast 112 = .ok (.dup, 1) := by decide +kernel
theorem dX5_cast_113 : decode cX5_cast 113 = .ok (.getfield 42, 3) := by decide +kernel
theorem dX5_cast_116 : decode cX5_cast 116 = .ok (.iconst 1, 1) := by decide +kernel
theorem dX5_cast_117 : decode cX5_cast 117 = .ok (.iadd, 1) := by decide +kernel
theorem dX5_cast_118 : decode cX5_cast 118 = .ok (.putfield 42, 3) := by decide +kernel
theorem dX5_cast_121 : decode cX5_cast 121 = .ok (.aload_n 0, 1) := by decide +kernel
theorem dX5_cast_122 : decode cX5_cast 122 = .ok (.getfield 42, 3) := by decide +kernel
theorem dX5_cast_125 : decode cX5_cast 125 = .ok (.iconst 1, 1) := by decide +kernel
theorem dX5_cast_126 : decode cX5_cast 126 = .ok (.isub, 1) := by decide +kernel
theorem dX5_cast_127 : decode cX5_cast 127 = .ok (.ireturn, 1) := by decide +kernel
theorem dX5_polish_0 : decode cX5_polish 0 = .ok (.aload_n 0, 1) := by decide +kernel
theorem dX5_polish_1 : decode cX5_polish 1 = .ok (.iconst 0, 1) := by decide +kernel
theorem dX5_polish_2 : decode cX5_polish 2 = .ok (.putfield 31, 3) := by decide +kernel
theorem dX5_polish_5 : decode cX5_polish 5 = .ok (.aload_n 0, 1) := by decide +kernel
theorem dX5_polish_6 : decode cX5_polish 6 = .ok (.iload_n 1, 1) := by decide +kernel
theorem dX5_polish_7 : decode cX5_polish 7 = .ok (.invokevirtual 114, 3) := by decide +kernel
theorem dX5_polish_10 : decode cX5_polish 10 = .ok (.ifCond .ne 9, 3) := by decide +kernel
theorem dX5_polish_13 : decode cX5_polish 13 = .ok (.aload_n 0, 1) := by decide +kernel
theorem dX5_polish_14 : decode cX5_polish 14 = .ok (.iconst 1, 1) := by decide +kernel
theorem dX5_polish_15 : decode cX5_polish 15 = .ok (.invokevirtual 76, 3) := by decide +kernel
theorem dX5_polish_18 : decode cX5_polish 18 = .ok (.ireturn, 1) := by decide +kernel
theorem dX5_polish_19 : decode cX5_polish 19 = .ok (.aload_n 0, 1) := by decide +kernel
theorem dX5_polish_20 : decode cX5_polish 20 = .ok (.iload_n 1, 1) := by decide +kernel
theorem dX5_polish_21 : decode cX5_polish 21 = .ok (.iconst 3, 1) := by decide +kernel
theorem dX5_polish_22 : decode cX5_polish 22 = .ok (.iconst 0, 1) := by decide +kernel
theorem dX5_polish_23 : decode cX5_polish 23 = .ok (.aload_n 0, 1) := by decide +kernel
theorem dX5_polish_24 : decode cX5_polish 24 = .ok (.iload_n 1, 1) := by decide +kernel
theorem dX5_polish_25 : decode cX5_polish 25 = .ok (.iconst 3, 1) := by decide +kernel
theorem dX5_polish_26 : decode cX5_polish 26 = .ok (.invokevirtual 98, 3) := by decide +kernel
theorem dX5_polish_29 : decode cX5_polish 29 = .ok (.bipush 15, 2) := by decide +kernel
theorem dX5_polish_31 : decode cX5_polish 31 = .ok (.isub, 1) := by decide +kernel
theorem dX5_polish_32 : decode cX5_polish 32 = .ok (.invokestatic 63, 3) := by decide +kernel
theorem dX5_polish_35 : decode cX5_polish 35 = .ok (.invokevirtual 95, 3) := by decide +kernel
theorem dX5_polish_38 : decode cX5_polish 38 = .ok (.aload_n 0, 1) := by decide +kernel
theorem dX5_polish_39 : decode cX5_polish 39 = .ok (.iload_n 1, 1) := by decide +kernel
theorem dX5_polish_40 : decode cX5_polish 40 = .ok (.iconst 3, 1) := by decide +kernel
theorem dX5_polish_41 : decode cX5_polish 41 = .ok (.invokevirtual 98, 3) := by decide +kernel
theorem dX5_polish_44 : decode cX5_polish 44 = .ok (.ireturn, 1) := by decide +kernel
theorem dX5_split_0 : decode cX5_split 0 = .ok (.aload_n 0, 1) := by decide +kernel
theorem dX5_split_1 : decode cX5_split 1 = .ok (.iconst 0, 1) := by decide +kernel
theorem dX5_split_2 : decode cX5_split 2 = .ok (.putfield 31, 3) := by decide +kernel
theorem dX5_split_5 : decode cX5_split 5 = .ok (.iload_n 3, 1) := by decide +kernel
theorem dX5_split_6 : decode cX5_split 6 = .ok (.ifCond .eq 7, 3) := by decide +kernel
theorem dX5_split_9 : decode cX5_split 9 = .ok (.iconst 1, 1) := by decide +kernel
theorem dX5_split_10 : decode cX5_split 10 = .ok (.goto 4, 3) := by decide +kernel
theorem dX5_split_13 : decode cX5_split 13 = .ok (.iconst 0, 1) := by decide +kernel
theorem dX5_split_14 : decode cX5_split 14 = .ok (.istore 4, 2) := by decide +kernel
theorem dX5_split_16 : decode cX5_split 16 = .ok (.aload_n 0, 1) := by decide +kernel
theorem dX5_split_17 : decode cX5_split 17 = .ok (.iload_n 1, 1) := by decide +kernel
theorem dX5_split_18 : decode cX5_split 18 = .ok (.invokevirtual 114, 3) := by decide +kernel
theorem dX5_split_21 : decode cX5_split 21 = .ok (.ifCond .eq 20, 3) := by decide +kernel
theorem dX5_split_24 : decode cX5_split 24 = .ok (.iload_n 2, 1) := by decide +kernel
theorem dX5_split_25 : decode cX5_split 25 = .ok (.iconst 1, 1) := by decide +kernel
theorem dX5_split_26 : decode cX5_split 26 = .ok (.aload_n 0, 1) := by decide +kernel
theorem dX5_split_27 : decode cX5_split 27 = .ok (.iload_n 1, 1) := by decide +kernel
theorem dX5_split_28 : decode cX5_split 28 = .ok (.iload 4, 2) := by decide +kernel
theorem dX5_split_30 : decode cX5_split 30 = .ok (.invokevirtual 98, 3) := by decide +kernel
theorem dX5_split_33 : decode cX5_split 33 = .ok (.iconst 1, 1) := by decide +kernel
theorem dX5_split_34 : decode cX5_split 34 = .ok (.isub, 1) := by decide +kernel
theorem dX5_split_35 : decode cX5_split 35 = .ok (.invokestatic 38, 3) := by decide +kernel
theorem dX5_split_38 : decode cX5_split 38 = .ok (.ifCond .ne 9, 3) := by decide +kernel
theorem dX5_split_41 : decode cX5_split 41 = .ok (.aload_n 0, 1) := by decide +kernel
theorem dX5_split_42 : decode cX5_split 42 = .ok (.iconst 1, 1) := by decide +kernel
theorem dX5_split_43 : decode cX5_split 43 = .ok (.invokevirtual 76, 3) := by decide +kernel
theorem dX5_split_46 : decode cX5_split 46 = .ok (.ireturn, 1) := by decide +kernel
theorem dX5_split_47 : decode cX5_split 47 = .ok (.aload_n 0, 1) := by decide +kernel
theorem dX5_split_48 : decode cX5_split 48 = .ok (.getfield 42, 3) := by decide +kernel
theorem dX5_split_51 : decode cX5_split 51 = .ok (.bipush 8, 2) := by decide +kernel
theorem dX5_split_53 : decode cX5_split 53 = .ok (.if_icmp .ne 9, 3) := by decide +kernel
theorem dX5_split_56 : decode cX5_split 56 = .ok (.aload_n 0, 1) := by decide +kernel
theorem dX5_split_57 : decode cX5_split 57 = .ok (.iconst 2, 1) := by decide +kernel
theorem dX5_split_58 : decode cX5_split 58 = .ok (.invokevirtual 76, 3) := by decide +kernel
theorem dX5_split_61 : decode cX5_split 61 = .ok (.ireturn, 1) := by decide +kernel
theorem dX5_split_62 : decode cX5_split 62 = .ok (.aload_n 0, 1) := by decide +kernel
theorem dX5_split_63 : decode cX5_split 63 = .ok (.getfield 13, 3) := by decide +kernel
theorem dX5_split_66 : decode cX5_split 66 = .ok (.iconst 5, 1) := by decide +kernel
theorem dX5_split_67 : decode cX5_split 67 = .ok (.iload_n 1, 1) := by decide +kernel
theorem dX5_split_68 : decode cX5_split 68 = .ok (.imul, 1) := by decide +kernel
theorem dX5_split_69 : decode cX5_split 69 = .ok (.aload_n 0, 1) := by decide +kernel
theorem dX5_split_70 : decode cX5_split 70 = .ok (.getfield 13, 3) := by decide +kernel
theorem dX5_split_73 : decode cX5_split 73 = .ok (.iconst 5, 1) := by decide +kernel
theorem dX5_split_74 : decode cX5_split 74 = .ok (.aload_n 0, 1) := by decide +kernel
theorem dX5_split_75 : decode cX5_split 75 = .ok (.getfield 42, 3) := by decide +kernel
theorem dX5_split_78 : decode cX5_split 78 = .ok (.imul, 1) := by decide +kernel
theorem dX5_split_79 : decode cX5_split 79 = .ok (.iconst 5, 1) := by decide +kernel
theorem dX5_split_80 : decode cX5_split 80 = .ok (.invokestatic 101, 3) := by decide +kernel
theorem dX5_split_83 : decode cX5_split 83 = .ok (.aload_n 0, 1) := by decide +kernel
theorem dX5_split_84 : decode cX5_split 84 = .ok (.aload_n 0, 1) := by decide +kernel
theorem dX5_split_85 : decode cX5_split 85 = .ok (.getfield 42, 3) := by decide +kernel
theorem dX5_split_88 : decode cX5_split 88 = .ok (.iload 4, 2) := by decide +kernel
theorem dX5_split_90 : decode cX5_split 90 = .ok (.aload_n 0, 1) := by decide +kernel
theorem dX5_split_91 : decode cX5_split 91 = .ok (.iload_n 1, 1) := by decide +kernel
theorem dX5_split_92 : decode cX5_split 92 = .ok (.iload 4, 2) := by decide +kernel
theorem dX5_split_94 : decode cX5_split 94 = .ok (.invokevirtual 98, 3) := by decide +kernel
theorem dX5_split_97 : decode cX5_split 97 = .ok (.iload_n 2, 1) := by decide +kernel
theorem dX5_split_98 : decode cX5_split 98 = .ok (.isub, 1) := by decide +kernel
theorem dX5_split_99 : decode cX5_split 99 = .ok (.invokevirtual 95, 3) := by decide +kernel
theorem dX5_split_102 : decode cX5_split 102 = .ok (.aload_n 0, 1) := by decide +kernel
theorem dX5_split_103 : decode cX5_split 103 = .ok (.iload_n 1, 1) := by decide +kernel
theorem dX5_split_104 : decode cX5_split 104 = .ok (.iload 4, 2) := by decide +kernel
theorem dX5_split_106 : decode cX5_split 106 = .ok (.iload_n 2, 1) := by decide +kernel
theorem dX5_split_107 : decode cX5_split 107 = .ok (.invokevirtual 95, 3) := by decide +kernel
theorem dX5_split_110 : decode cX5_split 110 = .ok (.aload_n 0, 1) := by decide +kernel
theorem dX5_split_111 : decode cX5_split 111 = .ok (.dup, 1) := by decide +kernel
theorem dX5_split_112 : decode cX5_split 112 = .ok (.getfield 42, 3) := by decide +kernel
theorem dX5_split_115 : decode cX5_split 115 = .ok (.iconst 1, 1) := by decide +kernel
theorem dX5_split_116 : decode cX5_split 116 = .ok (.iadd, 1) := by decide +kernel
theorem dX5_split_117 : decode cX5_split 117 = .ok (.putfield 42, 3) := by decide +kernel
theorem dX5_split_120 : decode cX5_split 120 = .ok (.aload_n 0, 1) := by decide +kernel
theorem dX5_split_121 : decode cX5_split 121 = .ok (.getfield 42, 3) := by decide +kernel
theorem dX5_split_124 : decode cX5_split 124 = .ok (.iconst 1, 1) := by decide +kernel
theorem dX5_split_125 : decode cX5_split 125 = .ok (.isub, 1) := by decide +kernel
theorem dX5_split_126 : decode cX5_split 126 = .ok (.ireturn, 1) := by decide +kernel
theorem dX5_melt_0 : decode cX5_melt 0 = .ok (.aload_n 0, 1) := by decide +kernel
theorem dX5_melt_1 : decode cX5_melt 1 = .ok (.iconst 0, 1) := by decide +kernel
theorem dX5_melt_2 : decode cX5_melt 2 = .ok (.putfield 31, 3) := by decide +kernel
theorem dX5_melt_5 : decode cX5_melt 5 = .ok (.aload_n 0, 1) := by decide +kernel
theorem dX5_melt_6 : decode cX5_melt 6 = .ok (.iload_n 1, 1) := by decide +kernel
theorem dX5_melt_7 : decode cX5_melt 7 = .ok (.invokevirtual 114, 3) := by decide +kernel
theorem dX5_melt_10 : decode cX5_melt 10 = .ok (.ifCond .eq 11, 3) := by decide +kernel
theorem dX5_melt_13 : decode cX5_melt 13 = .ok (.aload_n 0, 1) := by decide +kernel
theorem dX5_melt_14 : decode cX5_melt 14 = .ok (.iload_n 2, 1) := by decide +kernel
theorem dX5_melt_15 : decode cX5_melt 15 = .ok (.invokevirtual 83, 3) := by decide +kernel
theorem dX5_melt_18 : decode cX5_melt 18 = .ok (.ifCond .ne 9, 3) := by decide +kernel
theorem dX5_melt_21 : decode cX5_melt 21 = .ok (.aload_n 0, 1) := by decide +kernel
theorem dX5_melt_22 : decode cX5_melt 22 = .ok (.iconst 1, 1) := by decide +kernel
theorem dX5_melt_23 : decode cX5_melt 23 = .ok (.invokevirtual 76, 3) := by decide +kernel
theorem dX5_melt_26 : decode cX5_melt 26 = .ok (.ireturn, 1) := by decide +kernel
theorem dX5_melt_27 : decode cX5_melt 27 = .ok (.aload_n 0, 1) := by decide +kernel
theorem dX5_melt_28 : decode cX5_melt 28 = .ok (.iload_n 2, 1) := by decide +kernel
theorem dX5_melt_29 : decode cX5_melt 29 = .ok (.iconst 0, 1) := by decide +kernel
theorem dX5_melt_30 : decode cX5_melt 30 = .ok (.invokevirtual 66, 3) := by decide +kernel
theorem dX5_melt_33 : decode cX5_melt 33 = .ok (.bipush 10, 2) := by decide +kernel
theorem dX5_melt_35 : decode cX5_melt 35 = .ok (.aload_n 0, 1) := by decide +kernel
theorem dX5_melt_36 : decode cX5_melt 36 = .ok (.iload_n 1, 1) := by decide +kernel
theorem dX5_melt_37 : decode cX5_melt 37 = .ok (.invokevirtual 117, 3) := by decide +kernel
theorem dX5_melt_40 : decode cX5_melt 40 = .ok (.imul, 1) := by decide +kernel
theorem dX5_melt_41 : decode cX5_melt 41 = .ok (.iadd, 1) := by decide +kernel
theorem dX5_melt_42 : decode cX5_melt 42 = .ok (.istore_n 3, 1) := by decide +kernel
theorem dX5_melt_43 : decode cX5_melt 43 = .ok (.iload_n 3, 1) := by decide +kernel
theorem dX5_melt_44 : decode cX5_melt 44 = .ok (.sipush 2000, 3) := by decide +kernel
theorem dX5_melt_47 : decode cX5_melt 47 = .ok (.if_icmp .le 9, 3) := by decide +kernel
theorem dX5_melt_50 : decode cX5_melt 50 = .ok (.aload_n 0, 1) := by decide +kernel
theorem dX5_melt_51 : decode cX5_melt 51 = .ok (.iconst 2, 1) := by decide +kernel
theorem dX5_melt_52 : decode cX5_melt 52 = .ok (.invokevirtual 76, 3) := by decide +kernel
theorem dX5_melt_55 : decode cX5_melt 55 = .ok (.ireturn, 1) := by decide +kernel
theorem dX5_melt_56 : decode cX5_melt 56 = .ok (.aload_n 0, 1) := by decide +kernel
theorem dX5_melt_57 : decode cX5_melt 57 = .ok (.iload_n 2, 1) := by decide +kernel
theorem dX5_melt_58 : decode cX5_melt 58 = .ok (.iconst 0, 1) := by decide +kernel
theorem dX5_melt_59 : decode cX5_melt 59 = .ok (.iload_n 3, 1) := by decide +kernel
theorem dX5_melt_60 : decode cX5_melt 60 = .ok (.invokevirtual 79, 3) := by decide +kernel
theorem dX5_melt_63 : decode cX5_melt 63 = .ok (.aload_n 0, 1) := by decide +kernel
theorem dX5_melt_64 : decode cX5_melt 64 = .ok (.iload_n 1, 1) := by decide +kernel
theorem dX5_melt_65 : decode cX5_melt 65 = .ok (.invokevirtual 120, 3) := by decide +kernel
theorem dX5_melt_68 : decode cX5_melt 68 = .ok (.iload_n 3, 1) := by decide +kernel
theorem dX5_melt_69 : decode cX5_melt 69 = .ok (.ireturn, 1) := by decide +kernel
theorem dX5_box_0 : decode cX5_box 0 = .ok (.aload_n 0, 1) := by decide +kernel
theorem dX5_box_1 : decode cX5_box 1 = .ok (.iconst 0, 1) := by decide +kernel
theorem dX5_box_2 : decode cX5_box 2 = .ok (.putfield 31, 3) := by decide +kernel
theorem dX5_box_5 : decode cX5_box 5 = .ok (.iload_n 1, 1) := by decide +kernel
theorem dX5_box_6 : decode cX5_box 6 = .ok (.iconst 1, 1) := by decide +kernel
theorem dX5_box_7 : decode cX5_box 7 = .ok (.bipush 36, 2) := by decide +kernel
theorem dX5_box_9 : decode cX5_box 9 = .ok (.invokestatic 38, 3) := by decide +kernel
theorem dX5_box_12 : decode cX5_box 12 = .ok (.ifCond .eq 13, 3) := by decide +kernel
theorem dX5_box_15 : decode cX5_box 15 = .ok (.iload_n 2, 1) := by decide +kernel
theorem dX5_box_16 : decode cX5_box 16 = .ok (.iconst 0, 1) := by decide +kernel
theorem dX5_box_17 : decode cX5_box 17 = .ok (.bipush 100, 2) := by decide +kernel
theorem dX5_box_19 : decode cX5_box 19 = .ok (.invokestatic 38, 3) := by decide +kernel
theorem dX5_box_22 : decode cX5_box 22 = .ok (.ifCond .ne 9, 3) := by decide +kernel
theorem dX5_box_25 : decode cX5_box 25 = .ok (.aload_n 0, 1) := by decide +kernel
theorem dX5_box_26 : decode cX5_box 26 = .ok (.iconst 1, 1) := by decide +kernel
theorem dX5_box_27 : decode cX5_box 27 = .ok (.invokevirtual 76, 3) := by decide +kernel
theorem dX5_box_30 : decode cX5_box 30 = .ok (.ireturn, 1) := by decide +kernel
theorem dX5_box_31 : decode cX5_box 31 = .ok (.aload_n 0, 1) := by decide +kernel
theorem dX5_box_32 : decode cX5_box 32 = .ok (.getfield 123, 3) := by decide +kernel
theorem dX5_box_35 : decode cX5_box 35 = .ok (.bipush 6, 2) := by decide +kernel
theorem dX5_box_37 : decode cX5_box 37 = .ok (.if_icmp .ne 9, 3) := by decide +kernel
theorem dX5_box_40 : decode cX5_box 40 = .ok (.aload_n 0, 1) := by decide +kernel
theorem dX5_box_41 : decode cX5_box 41 = .ok (.iconst 2, 1) := by decide +kernel
theorem dX5_box_42 : decode cX5_box 42 = .ok (.invokevirtual 76, 3) := by decide +kernel
theorem dX5_box_45 : decode cX5_box 45 = .ok (.ireturn, 1) := by decide +kernel
theorem dX5_box_46 : decode cX5_box 46 = .ok (.iconst 5, 1) := by decide +kernel
theorem dX5_box_47 : decode cX5_box 47 = .ok (.newarray .int, 2) := by decide +kernel
theorem dX5_box_49 : decode cX5_box 49 = .ok (.dup, 1) := by decide +kernel
theorem dX5_box_50 : decode cX5_box 50 = .ok (.iconst 0, 1) := by decide +kernel
theorem dX5_box_51 : decode cX5_box 51 = .ok (.iload_n 1, 1) := by decide +kernel
theorem dX5_box_52 : decode cX5_box 52 = .ok (.iastore, 1) := by decide +kernel
theorem dX5_box_53 : decode cX5_box 53 = .ok (.dup, 1) := by decide +kernel
theorem dX5_box_54 : decode cX5_box 54 = .ok (.iconst 1, 1) := by decide +kernel
theorem dX5_box_55 : decode cX5_box 55 = .ok (.iload_n 2, 1) := by decide +kernel
theorem dX5_box_56 : decode cX5_box 56 = .ok (.iastore, 1) := by decide +kernel
theorem dX5_box_57 : decode cX5_box 57 = .ok (.dup, 1) := by decide +kernel
theorem dX5_box_58 : decode cX5_box 58 = .ok (.iconst 2, 1) := by decide +kernel
theorem dX5_box_59 : decode cX5_box 59 = .ok (.iconst 0, 1) := by decide +kernel
theorem dX5_box_60 : decode cX5_box 60 = .ok (.iastore, 1) := by decide +kernel
theorem dX5_box_61 : decode cX5_box 61 = .ok (.dup, 1) := by decide +kernel
theorem dX5_box_62 : decode cX5_box 62 = .ok (.iconst 3, 1) := by decide +kernel
theorem dX5_box_63 : decode cX5_box 63 = .ok (.iconst (-1), 1) := by decide +kernel
theorem dX5_box_64 : decode cX5_box 64 = .ok (.iastore, 1) := by decide +kernel
theorem dX5_box_65 : decode cX5_box 65 = .ok (.dup, 1) := by decide +kernel
theorem dX5_box_66 : decode cX5_box 66 = .ok (.iconst 4, 1) := by decide +kernel
theorem dX5_box_67 : decode cX5_box 67 = .ok (.iconst (-1), 1) := by decide +kernel
theorem dX5_box_68 : decode cX5_box 68 = .ok (.iastore, 1) := by decide +kernel
theorem dX5_box_69 : decode cX5_box 69 = .ok (.astore_n 3, 1) := by decide +kernel
theorem dX5_box_70 : decode cX5_box 70 = .ok (.aload_n 3, 1) := by decide +kernel
theorem dX5_box_71 : decode cX5_box 71 = .ok (.iconst 0, 1) := by decide +kernel
theorem dX5_box_72 : decode cX5_box 72 = .ok (.aload_n 0, 1) := by decide +kernel
theorem dX5_box_73 : decode cX5_box 73 = .ok (.getfield 16, 3) := by decide +kernel
theorem dX5_box_76 : decode cX5_box 76 = .ok (.iconst 5, 1) := by decide +kernel
theorem dX5_box_77 : decode cX5_box 77 = .ok (.aload_n 0, 1) := by decide +kernel
theorem dX5_box_78 : decode cX5_box 78 = .ok (.getfield 123, 3) := by decide +kernel
theorem dX5_box_81 : decode cX5_box 81 = .ok (.imul, 1) := by decide +kernel
theorem dX5_box_82 : decode cX5_box 82 = .ok (.iconst 5, 1) := by decide +kernel
theorem dX5_box_83 : decode cX5_box 83 = .ok (.invokestatic 101, 3) := by decide +kernel
theorem dX5_box_86 : decode cX5_box 86 = .ok (.aload_n 0, 1) := by decide +kernel
theorem dX5_box_87 : decode cX5_box 87 = .ok (.dup, 1) := by decide +kernel
theorem dX5_box_88 : decode cX5_box 88 = .ok (.getfield 123, 3) := by decide +kernel
theorem dX5_box_91 : decode cX5_box 91 = .ok (.iconst 1, 1) := by decide +kernel
theorem dX5_box_92 : decode cX5_box 92 = .ok (.iadd, 1) := by decide +kernel
theorem dX5_box_93 : decode cX5_box 93 = .ok (.putfield 123, 3) := by decide +kernel
theorem dX5_box_96 : decode cX5_box 96 = .ok (.aload_n 0, 1) := by decide +kernel
theorem dX5_box_97 : decode cX5_box 97 = .ok (.getfield 123, 3) := by decide +kernel
theorem dX5_box_100 : decode cX5_box 100 = .ok (.iconst 1, 1) := by decide +kernel
theorem dX5_box_101 : decode cX5_box 101 = .ok (.isub, 1) := by decide +kernel
theorem dX5_box_102 : decode cX5_box 102 = .ok (.ireturn, 1) := by decide +kernel
theorem dX5_fits_0 : decode cX5_fits 0 = .ok (.aload_n 0, 1) := by decide +kernel
theorem dX5_fits_1 : decode cX5_fits 1 = .ok (.iload_n 2, 1) := by decide +kernel
theorem dX5_fits_2 : decode cX5_fits 2 = .ok (.iconst 2, 1) := by decide +kernel
theorem dX5_fits_3 : decode cX5_fits 3 = .ok (.invokevirtual 126, 3) := by decide +kernel
theorem dX5_fits_6 : decode cX5_fits 6 = .ok (.ifCond .ne 47, 3) := by decide +kernel
theorem dX5_fits_9 : decode cX5_fits 9 = .ok (.aload_n 0, 1) := by decide +kernel
theorem dX5_fits_10 : decode cX5_fits 10 = .ok (.iload_n 1, 1) := by decide +kernel
theorem dX5_fits_11 : decode cX5_fits 11 = .ok (.invokevirtual 117, 3) := by decide +kernel
theorem dX5_fits_14 : decode cX5_fits 14 = .ok (.aload_n 0, 1) := by decide +kernel
theorem dX5_fits_15 : decode cX5_fits 15 = .ok (.iload_n 2, 1) := by decide +kernel
theorem dX5_fits_16 : decode cX5_fits 16 = .ok (.iconst 0, 1) := by decide +kernel
theorem dX5_fits_17 : decode cX5_fits 17 = .ok (.invokevirtual 126, 3) := by decide +kernel
theorem dX5_fits_20 : decode cX5_fits 20 = .ok (.if_icmp .ne 33, 3) := by decide +kernel
theorem dX5_fits_23 : decode cX5_fits 23 = .ok (.aload_n 0, 1) := by decide +kernel
theorem dX5_fits_24 : decode cX5_fits 24 = .ok (.iload_n 1, 1) := by decide +kernel
theorem dX5_fits_25 : decode cX5_fits 25 = .ok (.iconst 2, 1) := by decide +kernel
theorem dX5_fits_26 : decode cX5_fits 26 = .ok (.invokevirtual 98, 3) := by decide +kernel
theorem dX5_fits_29 : decode cX5_fits 29 = .ok (.aload_n 0, 1) := by decide +kernel
theorem dX5_fits_30 : decode cX5_fits 30 = .ok (.iload_n 2, 1) := by decide +kernel
theorem dX5_fits_31 : decode cX5_fits 31 = .ok (.iconst 1, 1) := by decide +kernel
theorem dX5_fits_32 : decode cX5_fits 32 = .ok (.invokevirtual 126, 3) := by decide +kernel
theorem dX5_fits_35 : decode cX5_fits 35 = .ok (.if_icmp .lt 18, 3) := by decide +kernel
theorem dX5_fits_38 : decode cX5_fits 38 = .ok (.aload_n 0, 1) := by decide +kernel
theorem dX5_fits_39 : decode cX5_fits 39 = .ok (.iload_n 1, 1) := by decide +kernel
theorem dX5_fits_40 : decode cX5_fits 40 = .ok (.iconst 3, 1) := by decide +kernel
theorem dX5_fits_41 : decode cX5_fits 41 = .ok (.invokevirtual 98, 3) := by decide +kernel
theorem dX5_fits_44 : decode cX5_fits 44 = .ok (.bipush 20, 2) := by decide +kernel
theorem dX5_fits_46 : decode cX5_fits 46 = .ok (.if_icmp .gt 7, 3) := by decide +kernel
theorem dX5_fits_49 : decode cX5_fits 49 = .ok (.iconst 1, 1) := by decide +kernel
theorem dX5_fits_50 : decode cX5_fits 50 = .ok (.goto 4, 3) := by decide +kernel
theorem dX5_fits_53 : decode cX5_fits 53 = .ok (.iconst 0, 1) := by decide +kernel
theorem dX5_fits_54 : decode cX5_fits 54 = .ok (.ireturn, 1) := by decide +kernel
theorem dX5_fillOne_0 : decode cX5_fillOne 0 = .ok (.iconst 0, 1) := by decide +kernel
theorem dX5_fillOne_1 : decode cX5_fillOne 1 = .ok (.istore_n 2, 1) := by decide +kernel
theorem dX5_fillOne_2 : decode cX5_fillOne 2 = .ok (.iload_n 2, 1) := by decide +kernel
theorem dX5_fillOne_3 : decode cX5_fillOne 3 = .ok (.aload_n 0, 1) := by decide +kernel
theorem dX5_fillOne_4 : decode cX5_fillOne 4 = .ok (.getfield 42, 3) := by decide +kernel
theorem dX5_fillOne_7 : decode cX5_fillOne 7 = .ok (.if_icmp .ge 71, 3) := by decide +kernel
theorem dX5_fillOne_10 : decode cX5_fillOne 10 = .ok (.aload_n 0, 1) := by decide +kernel
theorem dX5_fillOne_11 : decode cX5_fillOne 11 = .ok (.iload_n 2, 1) := by decide +kernel
theorem dX5_fillOne_12 : decode cX5_fillOne 12 = .ok (.iload_n 1, 1) := by decide +kernel
theorem dX5_fillOne_13 : decode cX5_fillOne 13 = .ok (.invokevirtual 129, 3) := by decide +kernel
theorem dX5_fillOne_16 : decode cX5_fillOne 16 = .ok (.ifCond .ne 6, 3) := by decide +kernel
theorem dX5_fillOne_19 : decode cX5_fillOne 19 = .ok (.goto 53, 3) := by decide +kernel
theorem dX5_fillOne_22 : decode cX5_fillOne 22 = .ok (.aload_n 0, 1) := by decide +kernel
theorem dX5_fillOne_23 : decode cX5_fillOne 23 = .ok (.getfield 16, 3) := by decide +kernel
theorem dX5_fillOne_26 : decode cX5_fillOne 26 = .ok (.iconst 5, 1) := by decide +kernel
theorem dX5_fillOne_27 : decode cX5_fillOne 27 = .ok (.iload_n 1, 1) := by decide +kernel
theorem dX5_fillOne_28 : decode cX5_fillOne 28 = .ok (.imul, 1) := by decide +kernel
theorem dX5_fillOne_29 : decode cX5_fillOne 29 = .ok (.iconst 2, 1) := by decide +kernel
theorem dX5_fillOne_30 : decode cX5_fillOne 30 = .ok (.iadd, 1) := by decide +kernel
theorem dX5_fillOne_31 : decode cX5_fillOne 31 = .ok (.iconst 1, 1) := by decide +kernel
theorem dX5_fillOne_32 : decode cX5_fillOne 32 = .ok (.iastore, 1) := by decide +kernel
theorem dX5_fillOne_33 : decode cX5_fillOne 33 = .ok (.aload_n 0, 1) := by decide +kernel
theorem dX5_fillOne_34 : decode cX5_fillOne 34 = .ok (.getfield 16, 3) := by decide +kernel
theorem dX5_fillOne_37 : decode cX5_fillOne 37 = .ok (.iconst 5, 1) := by decide +kernel
theorem dX5_fillOne_38 : decode cX5_fillOne 38 = .ok (.iload_n 1, 1) := by decide +kernel
theorem dX5_fillOne_39 : decode cX5_fillOne 39 = .ok (.imul, 1) := by decide +kernel
theorem dX5_fillOne_40 : decode cX5_fillOne 40 = .ok (.iconst 3, 1) := by decide +kernel
theorem dX5_fillOne_41 : decode cX5_fillOne 41 = .ok (.iadd, 1) := by decide +kernel
theorem dX5_fillOne_42 : decode cX5_fillOne 42 = .ok (.aload_n 0, 1) := by decide +kernel
theorem dX5_fillOne_43 : decode cX5_fillOne 43 = .ok (.iload_n 2, 1) := by decide +kernel
theorem dX5_fillOne_44 : decode cX5_fillOne 44 = .ok (.iconst 2, 1) := by decide +kernel
theorem dX5_fillOne_45 : decode cX5_fillOne 45 = .ok (.invokevirtual 98, 3) := by decide +kernel
theorem dX5_fillOne_48 : decode cX5_fillOne 48 = .ok (.iastore, 1) := by decide +kernel
theorem dX5_fillOne_49 : decode cX5_fillOne 49 = .ok (.aload_n 0, 1) := by decide +kernel
theorem dX5_fillOne_50 : decode cX5_fillOne 50 = .ok (.getfield 16, 3) := by decide +kernel
theorem dX5_fillOne_53 : decode cX5_fillOne 53 = .ok (.iconst 5, 1) := by decide +kernel
theorem dX5_fillOne_54 : decode cX5_fillOne 54 = .ok (.iload_n 1, 1) := by decide +kernel
theorem dX5_fillOne_55 : decode cX5_fillOne 55 = .ok (.imul, 1) := by decide +kernel
theorem dX5_fillOne_56 : decode cX5_fillOne 56 = .ok (.iconst 4, 1) := by decide +kernel
theorem dX5_fillOne_57 : decode cX5_fillOne 57 = .ok (.iadd, 1) := by decide +kernel
theorem dX5_fillOne_58 : decode cX5_fillOne 58 = .ok (.aload_n 0, 1) := by decide +kernel
theorem dX5_fillOne_59 : decode cX5_fillOne 59 = .ok (.iload_n 2, 1) := by decide +kernel
theorem dX5_fillOne_60 : decode cX5_fillOne 60 = .ok (.iconst 3, 1) := by decide +kernel
theorem dX5_fillOne_61 : decode cX5_fillOne 61 = .ok (.invokevirtual 98, 3) := by decide +kernel
theorem dX5_fillOne_64 : decode cX5_fillOne 64 = .ok (.iastore, 1) := by decide +kernel
theorem dX5_fillOne_65 : decode cX5_fillOne 65 = .ok (.aload_n 0, 1) := by decide +kernel
theorem dX5_fillOne_66 : decode cX5_fillOne 66 = .ok (.iload_n 2, 1) := by decide +kernel
theorem dX5_fillOne_67 : decode cX5_fillOne 67 = .ok (.invokevirtual 120, 3) := by decide +kernel
theorem dX5_fillOne_70 : decode cX5_fillOne 70 = .ok (.iconst 1, 1) := by decide +kernel
theorem dX5_fillOne_71 : decode cX5_fillOne 71 = .ok (.ireturn, 1) := by decide +kernel
theorem dX5_fillOne_72 : decode cX5_fillOne 72 = .ok (.iinc 2 1, 3) := by decide +kernel
theorem dX5_fillOne_75 : decode cX5_fillOne 75 = .ok (.goto (-73), 3) := by decide +kernel
theorem dX5_fillOne_78 : decode cX5_fillOne 78 = .ok (.iconst 0, 1) := by decide +kernel
theorem dX5_fillOne_79 : decode cX5_fillOne 79 = .ok (.ireturn, 1) := by decide +kernel
theorem dX5_fillAll_0 : decode cX5_fillAll 0 = .ok (.iconst 0, 1) := by decide +kernel
theorem dX5_fillAll_1 : decode cX5_fillAll 1 = .ok (.istore_n 1, 1) := by decide +kernel
theorem dX5_fillAll_2 : decode cX5_fillAll 2 = .ok (.iconst 0, 1) := by decide +kernel
theorem dX5_fillAll_3 : decode cX5_fillAll 3 = .ok (.istore_n 2, 1) := by decide +kernel
theorem dX5_fillAll_4 : decode cX5_fillAll 4 = .ok (.iload_n 2, 1) := by decide +kernel
theorem dX5_fillAll_5 : decode cX5_fillAll 5 = .ok (.aload_n 0, 1) := by decide +kernel
theorem dX5_fillAll_6 : decode cX5_fillAll 6 = .ok (.getfield 123, 3) := by decide +kernel
theorem dX5_fillAll_9 : decode cX5_fillAll 9 = .ok (.if_icmp .ge 25, 3) := by decide +kernel
theorem dX5_fillAll_12 : decode cX5_fillAll 12 = .ok (.iload_n 1, 1) := by decide +kernel
theorem dX5_fillAll_13 : decode cX5_fillAll 13 = .ok (.aload_n 0, 1) := by decide +kernel
theorem dX5_fillAll_14 : decode cX5_fillAll 14 = .ok (.iload_n 2, 1) := by decide +kernel
theorem dX5_fillAll_15 : decode cX5_fillAll 15 = .ok (.invokevirtual 132, 3) := by decide +kernel
theorem dX5_fillAll_18 : decode cX5_fillAll 18 = .ok (.ifCond .eq 7, 3) := by decide +kernel
theorem dX5_fillAll_21 : decode cX5_fillAll 21 = .ok (.iconst 1, 1) := by decide +kernel
theorem dX5_fillAll_22 : decode cX5_fillAll 22 = .ok (.goto 4, 3) := by decide +kernel
theorem dX5_fillAll_25 : decode cX5_fillAll 25 = .ok (.iconst 0, 1) := by decide +kernel
theorem dX5_fillAll_26 : decode cX5_fillAll 26 = .ok (.iadd, 1) := by decide +kernel
theorem dX5_fillAll_27 : decode cX5_fillAll 27 = .ok (.istore_n 1, 1) := by decide +kernel
theorem dX5_fillAll_28 : decode cX5_fillAll 28 = .ok (.iinc 2 1, 3) := by decide +kernel
theorem dX5_fillAll_31 : decode cX5_fillAll 31 = .ok (.goto (-27), 3) := by decide +kernel
theorem dX5_fillAll_34 : decode cX5_fillAll 34 = .ok (.iload_n 1, 1) := by decide +kernel
theorem dX5_fillAll_35 : decode cX5_fillAll 35 = .ok (.ireturn, 1) := by decide +kernel
theorem dX5_fill_0 : decode cX5_fill 0 = .ok (.aload_n 0, 1) := by decide +kernel
theorem dX5_fill_1 : decode cX5_fill 1 = .ok (.iconst 0, 1) := by decide +kernel
theorem dX5_fill_2 : decode cX5_fill 2 = .ok (.putfield 31, 3) := by decide +kernel
theorem dX5_fill_5 : decode cX5_fill 5 = .ok (.aload_n 0, 1) := by decide +kernel
theorem dX5_fill_6 : decode cX5_fill 6 = .ok (.invokevirtual 135, 3) := by decide +kernel
theorem dX5_fill_9 : decode cX5_fill 9 = .ok (.ireturn, 1) := by decide +kernel
theorem dX5_more_0 : decode cX5_more 0 = .ok (.bipush 100, 2) := by decide +kernel
theorem dX5_more_2 : decode cX5_more 2 = .ok (.aload_n 0, 1) := by decide +kernel
theorem dX5_more_3 : decode cX5_more 3 = .ok (.iload_n 1, 1) := by decide +kernel
theorem dX5_more_4 : decode cX5_more 4 = .ok (.iconst 2, 1) := by decide +kernel
theorem dX5_more_5 : decode cX5_more 5 = .ok (.invokevirtual 98, 3) := by decide +kernel
theorem dX5_more_8 : decode cX5_more 8 = .ok (.isub, 1) := by decide +kernel
theorem dX5_more_9 : decode cX5_more 9 = .ok (.bipush 10, 2) := by decide +kernel
theorem dX5_more_11 : decode cX5_more 11 = .ok (.idiv, 1) := by decide +kernel
theorem dX5_more_12 : decode cX5_more 12 = .ok (.iconst 2, 1) := by decide +kernel
theorem dX5_more_13 : decode cX5_more 13 = .ok (.iconst 0, 1) := by decide +kernel
theorem dX5_more_14 : decode cX5_more 14 = .ok (.iload_n 2, 1) := by decide +kernel
theorem dX5_more_15 : decode cX5_more 15 = .ok (.bipush 24, 2) := by decide +kernel
theorem dX5_more_17 : decode cX5_more 17 = .ok (.isub, 1) := by decide +kernel
theorem dX5_more_18 : decode cX5_more 18 = .ok (.invokestatic 63, 3) := by decide +kernel
theorem dX5_more_21 : decode cX5_more 21 = .ok (.imul, 1) := by decide +kernel
theorem dX5_more_22 : decode cX5_more 22 = .ok (.iadd, 1) := by decide +kernel
theorem dX5_more_23 : decode cX5_more 23 = .ok (.ireturn, 1) := by decide +kernel
theorem dX5_bloomed_0 : decode cX5_bloomed 0 = .ok (.iconst 0, 1) := by decide +kernel
theorem dX5_bloomed_1 : decode cX5_bloomed 1 = .ok (.istore_n 1, 1) := by decide +kernel
theorem dX5_bloomed_2 : decode cX5_bloomed 2 = .ok (.iconst 0, 1) := by decide +kernel
theorem dX5_bloomed_3 : decode cX5_bloomed 3 = .ok (.istore_n 2, 1) := by decide +kernel
theorem dX5_bloomed_4 : decode cX5_bloomed 4 = .ok (.iload_n 2, 1) := by decide +kernel
theorem dX5_bloomed_5 : decode cX5_bloomed 5 = .ok (.aload_n 0, 1) := by decide +kernel
theorem dX5_bloomed_6 : decode cX5_bloomed 6 = .ok (.getfield 42, 3) := by decide +kernel
theorem dX5_bloomed_9 : decode cX5_bloomed 9 = .ok (.if_icmp .ge 28, 3) := by decide +kernel
theorem dX5_bloomed_12 : decode cX5_bloomed 12 = .ok (.iload_n 1, 1) := by decide +kernel
theorem dX5_bloomed_13 : decode cX5_bloomed 13 = .ok (.aload_n 0, 1) := by decide +kernel
theorem dX5_bloomed_14 : decode cX5_bloomed 14 = .ok (.iload_n 2, 1) := by decide +kernel
theorem dX5_bloomed_15 : decode cX5_bloomed 15 = .ok (.iconst 3, 1) := by decide +kernel
theorem dX5_bloomed_16 : decode cX5_bloomed 16 = .ok (.invokevirtual 98, 3) := by decide +kernel
theorem dX5_bloomed_19 : decode cX5_bloomed 19 = .ok (.bipush 20, 2) := by decide +kernel
theorem dX5_bloomed_21 : decode cX5_bloomed 21 = .ok (.if_icmp .le 7, 3) := by decide +kernel
theorem dX5_bloomed_24 : decode cX5_bloomed 24 = .ok (.iconst 1, 1) := by decide +kernel
theorem dX5_bloomed_25 : decode cX5_bloomed 25 = .ok (.goto 4, 3) := by decide +kernel
theorem dX5_bloomed_28 : decode cX5_bloomed 28 = .ok (.iconst 0, 1) := by decide +kernel
theorem dX5_bloomed_29 : decode cX5_bloomed 29 = .ok (.iadd, 1) := by decide +kernel
theorem dX5_bloomed_30 : decode cX5_bloomed 30 = .ok (.istore_n 1, 1) := by decide +kernel
theorem dX5_bloomed_31 : decode cX5_bloomed 31 = .ok (.iinc 2 1, 3) := by decide +kernel
theorem dX5_bloomed_34 : decode cX5_bloomed 34 = .ok (.goto (-30), 3) := by decide +kernel
theorem dX5_bloomed_37 : decode cX5_bloomed 37 = .ok (.iload_n 1, 1) := by decide +kernel
theorem dX5_bloomed_38 : decode cX5_bloomed 38 = .ok (.ireturn, 1) := by decide +kernel
theorem dX5_pass_0 : decode cX5_pass 0 = .ok (.aload_n 0, 1) := by decide +kernel
theorem dX5_pass_1 : decode cX5_pass 1 = .ok (.iconst 0, 1) := by decide +kernel
theorem dX5_pass_2 : decode cX5_pass 2 = .ok (.putfield 31, 3) := by decide +kernel
theorem dX5_pass_5 : decode cX5_pass 5 = .ok (.iload_n 1, 1) := by decide +kernel
theorem dX5_pass_6 : decode cX5_pass 6 = .ok (.bipush 10, 2) := by decide +kernel
theorem dX5_pass_8 : decode cX5_pass 8 = .ok (.bipush 40, 2) := by decide +kernel
theorem dX5_pass_10 : decode cX5_pass 10 = .ok (.invokestatic 38, 3) := by decide +kernel
theorem dX5_pass_13 : decode cX5_pass 13 = .ok (.ifCond .eq 13, 3) := by decide +kernel
theorem dX5_pass_16 : decode cX5_pass 16 = .ok (.iload_n 2, 1) := by decide +kernel
theorem dX5_pass_17 : decode cX5_pass 17 = .ok (.iconst 1, 1) := by decide +kernel
theorem dX5_pass_18 : decode cX5_pass 18 = .ok (.bipush 60, 2) := by decide +kernel
theorem dX5_pass_20 : decode cX5_pass 20 = .ok (.invokestatic 38, 3) := by decide +kernel
theorem dX5_pass_23 : decode cX5_pass 23 = .ok (.ifCond .ne 9, 3) := by decide +kernel
theorem dX5_pass_26 : decode cX5_pass 26 = .ok (.aload_n 0, 1) := by decide +kernel
theorem dX5_pass_27 : decode cX5_pass 27 = .ok (.iconst 1, 1) := by decide +kernel
theorem dX5_pass_28 : decode cX5_pass 28 = .ok (.invokevirtual 76, 3) := by decide +kernel
theorem dX5_pass_31 : decode cX5_pass 31 = .ok (.ireturn, 1) := by decide +kernel
theorem dX5_pass_32 : decode cX5_pass 32 = .ok (.iconst 0, 1) := by decide +kernel
theorem dX5_pass_33 : decode cX5_pass 33 = .ok (.istore_n 3, 1) := by decide +kernel
theorem dX5_pass_34 : decode cX5_pass 34 = .ok (.iload_n 3, 1) := by decide +kernel
theorem dX5_pass_35 : decode cX5_pass 35 = .ok (.aload_n 0, 1) := by decide +kernel
theorem dX5_pass_36 : decode cX5_pass 36 = .ok (.getfield 42, 3) := by decide +kernel
theorem dX5_pass_39 : decode cX5_pass 39 = .ok (.if_icmp .ge 49, 3) := by decide +kernel
theorem dX5_pass_42 : decode cX5_pass 42 = .ok (.aload_n 0, 1) := by decide +kernel
theorem dX5_pass_43 : decode cX5_pass 43 = .ok (.iload_n 3, 1) := by decide +kernel
theorem dX5_pass_44 : decode cX5_pass 44 = .ok (.iconst 3, 1) := by decide +kernel
theorem dX5_pass_45 : decode cX5_pass 45 = .ok (.bipush 100, 2) := by decide +kernel
theorem dX5_pass_47 : decode cX5_pass 47 = .ok (.aload_n 0, 1) := by decide +kernel
theorem dX5_pass_48 : decode cX5_pass 48 = .ok (.iload_n 3, 1) := by decide +kernel
theorem dX5_pass_49 : decode cX5_pass 49 = .ok (.iconst 3, 1) := by decide +kernel
theorem dX5_pass_50 : decode cX5_pass 50 = .ok (.invokevirtual 98, 3) := by decide +kernel
theorem dX5_pass_53 : decode cX5_pass 53 = .ok (.iload_n 2, 1) := by decide +kernel
theorem dX5_pass_54 : decode cX5_pass 54 = .ok (.aload_n 0, 1) := by decide +kernel
theorem dX5_pass_55 : decode cX5_pass 55 = .ok (.iload_n 3, 1) := by decide +kernel
theorem dX5_pass_56 : decode cX5_pass 56 = .ok (.iload_n 1, 1) := by decide +kernel
theorem dX5_pass_57 : decode cX5_pass 57 = .ok (.invokevirtual 139, 3) := by decide +kernel
theorem dX5_pass_60 : decode cX5_pass 60 = .ok (.imul, 1) := by decide +kernel
theorem dX5_pass_61 : decode cX5_pass 61 = .ok (.iadd, 1) := by decide +kernel
theorem dX5_pass_62 : decode cX5_pass 62 = .ok (.invokestatic 53, 3) := by decide +kernel
theorem dX5_pass_65 : decode cX5_pass 65 = .ok (.invokevirtual 95, 3) := by decide +kernel
theorem dX5_pass_68 : decode cX5_pass 68 = .ok (.aload_n 0, 1) := by decide +kernel
theorem dX5_pass_69 : decode cX5_pass 69 = .ok (.iload_n 3, 1) := by decide +kernel
theorem dX5_pass_70 : decode cX5_pass 70 = .ok (.iconst 4, 1) := by decide +kernel
theorem dX5_pass_71 : decode cX5_pass 71 = .ok (.aload_n 0, 1) := by decide +kernel
theorem dX5_pass_72 : decode cX5_pass 72 = .ok (.iload_n 3, 1) := by decide +kernel
theorem dX5_pass_73 : decode cX5_pass 73 = .ok (.iconst 4, 1) := by decide +kernel
theorem dX5_pass_74 : decode cX5_pass 74 = .ok (.invokevirtual 98, 3) := by decide +kernel
theorem dX5_pass_77 : decode cX5_pass 77 = .ok (.iload_n 2, 1) := by decide +kernel
theorem dX5_pass_78 : decode cX5_pass 78 = .ok (.iadd, 1) := by decide +kernel
theorem dX5_pass_79 : decode cX5_pass 79 = .ok (.invokevirtual 95, 3) := by decide +kernel
theorem dX5_pass_82 : decode cX5_pass 82 = .ok (.iinc 3 1, 3) := by decide +kernel
theorem dX5_pass_85 : decode cX5_pass 85 = .ok (.goto (-51), 3) := by decide +kernel
theorem dX5_pass_88 : decode cX5_pass 88 = .ok (.aload_n 0, 1) := by decide +kernel
theorem dX5_pass_89 : decode cX5_pass 89 = .ok (.dup, 1) := by decide +kernel
theorem dX5_pass_90 : decode cX5_pass 90 = .ok (.getfield 142, 3) := by decide +kernel
theorem dX5_pass_93 : decode cX5_pass 93 = .ok (.iload_n 2, 1) := by decide +kernel
theorem dX5_pass_94 : decode cX5_pass 94 = .ok (.iadd, 1) := by decide +kernel
theorem dX5_pass_95 : decode cX5_pass 95 = .ok (.putfield 142, 3) := by decide +kernel
theorem dX5_pass_98 : decode cX5_pass 98 = .ok (.aload_n 0, 1) := by decide +kernel
theorem dX5_pass_99 : decode cX5_pass 99 = .ok (.invokevirtual 145, 3) := by decide +kernel
theorem dX5_pass_102 : decode cX5_pass 102 = .ok (.ireturn, 1) := by decide +kernel
theorem dX5_bowlTold_0 : decode cX5_bowlTold 0 = .ok (.iload_n 2, 1) := by decide +kernel
theorem dX5_bowlTold_1 : decode cX5_bowlTold 1 = .ok (.bipush 7, 2) := by decide +kernel
theorem dX5_bowlTold_3 : decode cX5_bowlTold 3 = .ok (.if_icmp .ne 11, 3) := by decide +kernel
theorem dX5_bowlTold_6 : decode cX5_bowlTold 6 = .ok (.aload_n 0, 1) := by decide +kernel
theorem dX5_bowlTold_7 : decode cX5_bowlTold 7 = .ok (.iload_n 1, 1) := by decide +kernel
theorem dX5_bowlTold_8 : decode cX5_bowlTold 8 = .ok (.invokevirtual 107, 3) := by decide +kernel
theorem dX5_bowlTold_11 : decode cX5_bowlTold 11 = .ok (.goto 9, 3) := by decide +kernel
theorem dX5_bowlTold_14 : decode cX5_bowlTold 14 = .ok (.aload_n 0, 1) := by decide +kernel
theorem dX5_bowlTold_15 : decode cX5_bowlTold 15 = .ok (.iload_n 1, 1) := by decide +kernel
theorem dX5_bowlTold_16 : decode cX5_bowlTold 16 = .ok (.iload_n 2, 1) := by decide +kernel
theorem dX5_bowlTold_17 : decode cX5_bowlTold 17 = .ok (.invokevirtual 66, 3) := by decide +kernel
theorem dX5_bowlTold_20 : decode cX5_bowlTold 20 = .ok (.ireturn, 1) := by decide +kernel
theorem dX5_told_0 : decode cX5_told 0 = .ok (.aload_n 0, 1) := by decide +kernel
theorem dX5_told_1 : decode cX5_told 1 = .ok (.iconst 0, 1) := by decide +kernel
theorem dX5_told_2 : decode cX5_told 2 = .ok (.putfield 31, 3) := by decide +kernel
theorem dX5_told_5 : decode cX5_told 5 = .ok (.aload_n 0, 1) := by decide +kernel
theorem dX5_told_6 : decode cX5_told 6 = .ok (.iload_n 1, 1) := by decide +kernel
theorem dX5_told_7 : decode cX5_told 7 = .ok (.invokevirtual 83, 3) := by decide +kernel
theorem dX5_told_10 : decode cX5_told 10 = .ok (.ifCond .eq 22, 3) := by decide +kernel
theorem dX5_told_13 : decode cX5_told 13 = .ok (.iload_n 2, 1) := by decide +kernel
theorem dX5_told_14 : decode cX5_told 14 = .ok (.iconst 0, 1) := by decide +kernel
theorem dX5_told_15 : decode cX5_told 15 = .ok (.bipush 7, 2) := by decide +kernel
theorem dX5_told_17 : decode cX5_told 17 = .ok (.invokestatic 38, 3) := by decide +kernel
theorem dX5_told_20 : decode cX5_told 20 = .ok (.ifCond .eq 12, 3) := by decide +kernel
theorem dX5_told_23 : decode cX5_told 23 = .ok (.aload_n 0, 1) := by decide +kernel
theorem dX5_told_24 : decode cX5_told 24 = .ok (.iload_n 1, 1) := by decide +kernel
theorem dX5_told_25 : decode cX5_told 25 = .ok (.iload_n 2, 1) := by decide +kernel
theorem dX5_told_26 : decode cX5_told 26 = .ok (.invokevirtual 148, 3) := by decide +kernel
theorem dX5_told_29 : decode cX5_told 29 = .ok (.goto 8, 3) := by decide +kernel
theorem dX5_told_32 : decode cX5_told 32 = .ok (.aload_n 0, 1) := by decide +kernel
theorem dX5_told_33 : decode cX5_told 33 = .ok (.iconst 1, 1) := by decide +kernel
theorem dX5_told_34 : decode cX5_told 34 = .ok (.invokevirtual 76, 3) := by decide +kernel
theorem dX5_told_37 : decode cX5_told 37 = .ok (.ireturn, 1) := by decide +kernel
theorem dX5_slabTold_0 : decode cX5_slabTold 0 = .ok (.iload_n 2, 1) := by decide +kernel
theorem dX5_slabTold_1 : decode cX5_slabTold 1 = .ok (.iconst 5, 1) := by decide +kernel
theorem dX5_slabTold_2 : decode cX5_slabTold 2 = .ok (.if_icmp .ge 10, 3) := by decide +kernel
theorem dX5_slabTold_5 : decode cX5_slabTold 5 = .ok (.aload_n 0, 1) := by decide +kernel
theorem dX5_slabTold_6 : decode cX5_slabTold 6 = .ok (.iload_n 1, 1) := by decide +kernel
theorem dX5_slabTold_7 : decode cX5_slabTold 7 = .ok (.iload_n 2, 1) := by decide +kernel
theorem dX5_slabTold_8 : decode cX5_slabTold 8 = .ok (.invokevirtual 98, 3) := by decide +kernel
theorem dX5_slabTold_11 : decode cX5_slabTold 11 = .ok (.ireturn, 1) := by decide +kernel
theorem dX5_slabTold_12 : decode cX5_slabTold 12 = .ok (.iload_n 2, 1) := by decide +kernel
theorem dX5_slabTold_13 : decode cX5_slabTold 13 = .ok (.iconst 5, 1) := by decide +kernel
theorem dX5_slabTold_14 : decode cX5_slabTold 14 = .ok (.if_icmp .ne 9, 3) := by decide +kernel
theorem dX5_slabTold_17 : decode cX5_slabTold 17 = .ok (.aload_n 0, 1) := by decide +kernel
theorem dX5_slabTold_18 : decode cX5_slabTold 18 = .ok (.iload_n 1, 1) := by decide +kernel
theorem dX5_slabTold_19 : decode cX5_slabTold 19 = .ok (.invokevirtual 117, 3) := by decide +kernel
theorem dX5_slabTold_22 : decode cX5_slabTold 22 = .ok (.ireturn, 1) := by decide +kernel
theorem dX5_slabTold_23 : decode cX5_slabTold 23 = .ok (.iconst 0, 1) := by decide +kernel
theorem dX5_slabTold_24 : decode cX5_slabTold 24 = .ok (.istore_n 3, 1) := by decide +kernel
theorem dX5_slabTold_25 : decode cX5_slabTold 25 = .ok (.iload_n 3, 1) := by decide +kernel
theorem dX5_slabTold_26 : decode cX5_slabTold 26 = .ok (.aload_n 0, 1) := by decide +kernel
theorem dX5_slabTold_27 : decode cX5_slabTold 27 = .ok (.getfield 123, 3) := by decide +kernel
theorem dX5_slabTold_30 : decode cX5_slabTold 30 = .ok (.if_icmp .ge 20, 3) := by decide +kernel
theorem dX5_slabTold_33 : decode cX5_slabTold 33 = .ok (.aload_n 0, 1) := by decide +kernel
theorem dX5_slabTold_34 : decode cX5_slabTold 34 = .ok (.iload_n 1, 1) := by decide +kernel
theorem dX5_slabTold_35 : decode cX5_slabTold 35 = .ok (.iload_n 3, 1) := by decide +kernel
theorem dX5_slabTold_36 : decode cX5_slabTold 36 = .ok (.invokevirtual 129, 3) := by decide +kernel
theorem dX5_slabTold_39 : decode cX5_slabTold 39 = .ok (.ifCond .eq 5, 3) := by decide +kernel
theorem dX5_slabTold_42 : decode cX5_slabTold 42 = .ok (.iload_n 3, 1) := by decide +kernel
theorem dX5_slabTold_43 : decode cX5_slabTold 43 = .ok (.ireturn, 1) := by decide +kernel
theorem dX5_slabTold_44 : decode cX5_slabTold 44 = .ok (.iinc 3 1, 3) := by decide +kernel
theorem dX5_slabTold_47 : decode cX5_slabTold 47 = .ok (.goto (-22), 3) := by decide +kernel
theorem dX5_slabTold_50 : decode cX5_slabTold 50 = .ok (.iconst (-1), 1) := by decide +kernel
theorem dX5_slabTold_51 : decode cX5_slabTold 51 = .ok (.ireturn, 1) := by decide +kernel
theorem dX5_about_0 : decode cX5_about 0 = .ok (.aload_n 0, 1) := by decide +kernel
theorem dX5_about_1 : decode cX5_about 1 = .ok (.iconst 0, 1) := by decide +kernel
theorem dX5_about_2 : decode cX5_about 2 = .ok (.putfield 31, 3) := by decide +kernel
theorem dX5_about_5 : decode cX5_about 5 = .ok (.aload_n 0, 1) := by decide +kernel
theorem dX5_about_6 : decode cX5_about 6 = .ok (.iload_n 1, 1) := by decide +kernel
theorem dX5_about_7 : decode cX5_about 7 = .ok (.invokevirtual 114, 3) := by decide +kernel
theorem dX5_about_10 : decode cX5_about 10 = .ok (.ifCond .eq 22, 3) := by decide +kernel
theorem dX5_about_13 : decode cX5_about 13 = .ok (.iload_n 2, 1) := by decide +kernel
theorem dX5_about_14 : decode cX5_about 14 = .ok (.iconst 0, 1) := by decide +kernel
theorem dX5_about_15 : decode cX5_about 15 = .ok (.bipush 6, 2) := by decide +kernel
theorem dX5_about_17 : decode cX5_about 17 = .ok (.invokestatic 38, 3) := by decide +kernel
theorem dX5_about_20 : decode cX5_about 20 = .ok (.ifCond .eq 12, 3) := by decide +kernel
theorem dX5_about_23 : decode cX5_about 23 = .ok (.aload_n 0, 1) := by decide +kernel
theorem dX5_about_24 : decode cX5_about 24 = .ok (.iload_n 1, 1) := by decide +kernel
theorem dX5_about_25 : decode cX5_about 25 = .ok (.iload_n 2, 1) := by decide +kernel
theorem dX5_about_26 : decode cX5_about 26 = .ok (.invokevirtual 151, 3) := by decide +kernel
theorem dX5_about_29 : decode cX5_about 29 = .ok (.goto 8, 3) := by decide +kernel
theorem dX5_about_32 : decode cX5_about 32 = .ok (.aload_n 0, 1) := by decide +kernel
theorem dX5_about_33 : decode cX5_about 33 = .ok (.iconst 1, 1) := by decide +kernel
theorem dX5_about_34 : decode cX5_about 34 = .ok (.invokevirtual 76, 3) := by decide +kernel
theorem dX5_about_37 : decode cX5_about 37 = .ok (.ireturn, 1) := by decide +kernel
theorem dX5_order_0 : decode cX5_order 0 = .ok (.aload_n 0, 1) := by decide +kernel
theorem dX5_order_1 : decode cX5_order 1 = .ok (.iconst 0, 1) := by decide +kernel
theorem dX5_order_2 : decode cX5_order 2 = .ok (.putfield 31, 3) := by decide +kernel
theorem dX5_order_5 : decode cX5_order 5 = .ok (.iload_n 1, 1) := by decide +kernel
theorem dX5_order_6 : decode cX5_order 6 = .ok (.iconst 0, 1) := by decide +kernel
theorem dX5_order_7 : decode cX5_order 7 = .ok (.aload_n 0, 1) := by decide +kernel
theorem dX5_order_8 : decode cX5_order 8 = .ok (.getfield 123, 3) := by decide +kernel
theorem dX5_order_11 : decode cX5_order 11 = .ok (.iconst 1, 1) := by decide +kernel
theorem dX5_order_12 : decode cX5_order 12 = .ok (.isub, 1) := by decide +kernel
theorem dX5_order_13 : decode cX5_order 13 = .ok (.invokestatic 38, 3) := by decide +kernel
theorem dX5_order_16 : decode cX5_order 16 = .ok (.ifCond .eq 21, 3) := by decide +kernel
theorem dX5_order_19 : decode cX5_order 19 = .ok (.iload_n 2, 1) := by decide +kernel
theorem dX5_order_20 : decode cX5_order 20 = .ok (.iconst 0, 1) := by decide +kernel
theorem dX5_order_21 : decode cX5_order 21 = .ok (.iconst 4, 1) := by decide +kernel
theorem dX5_order_22 : decode cX5_order 22 = .ok (.invokestatic 38, 3) := by decide +kernel
theorem dX5_order_25 : decode cX5_order 25 = .ok (.ifCond .eq 12, 3) := by decide +kernel
theorem dX5_order_28 : decode cX5_order 28 = .ok (.aload_n 0, 1) := by decide +kernel
theorem dX5_order_29 : decode cX5_order 29 = .ok (.iload_n 1, 1) := by decide +kernel
theorem dX5_order_30 : decode cX5_order 30 = .ok (.iload_n 2, 1) := by decide +kernel
theorem dX5_order_31 : decode cX5_order 31 = .ok (.invokevirtual 126, 3) := by decide +kernel
theorem dX5_order_34 : decode cX5_order 34 = .ok (.goto 8, 3) := by decide +kernel
theorem dX5_order_37 : decode cX5_order 37 = .ok (.aload_n 0, 1) := by decide +kernel
theorem dX5_order_38 : decode cX5_order 38 = .ok (.iconst 1, 1) := by decide +kernel
theorem dX5_order_39 : decode cX5_order 39 = .ok (.invokevirtual 76, 3) := by decide +kernel
theorem dX5_order_42 : decode cX5_order 42 = .ok (.ireturn, 1) := by decide +kernel
theorem dX5_counted_0 : decode cX5_counted 0 = .ok (.iconst 0, 1) := by decide +kernel
theorem dX5_counted_1 : decode cX5_counted 1 = .ok (.istore_n 2, 1) := by decide +kernel
theorem dX5_counted_2 : decode cX5_counted 2 = .ok (.iload_n 1, 1) := by decide +kernel
theorem dX5_counted_3 : decode cX5_counted 3 = .ok (.tableswitch 141 0 6 #[41, 46, 51, 56, 61, 88, 115], 41) := by decide +kernel
theorem dX5_counted_44 : decode cX5_counted 44 = .ok (.aload_n 0, 1) := by decide +kernel
theorem dX5_counted_45 : decode cX5_counted 45 = .ok (.getfield 142, 3) := by decide +kernel
theorem dX5_counted_48 : decode cX5_counted 48 = .ok (.ireturn, 1) := by decide +kernel
theorem dX5_counted_49 : decode cX5_counted 49 = .ok (.aload_n 0, 1) := by decide +kernel
theorem dX5_counted_50 : decode cX5_counted 50 = .ok (.getfield 35, 3) := by decide +kernel
theorem dX5_counted_53 : decode cX5_counted 53 = .ok (.ireturn, 1) := by decide +kernel
theorem dX5_counted_54 : decode cX5_counted 54 = .ok (.aload_n 0, 1) := by decide +kernel
theorem dX5_counted_55 : decode cX5_counted 55 = .ok (.getfield 42, 3) := by decide +kernel
theorem dX5_counted_58 : decode cX5_counted 58 = .ok (.ireturn, 1) := by decide +kernel
theorem dX5_counted_59 : decode cX5_counted 59 = .ok (.aload_n 0, 1) := by decide +kernel
theorem dX5_counted_60 : decode cX5_counted 60 = .ok (.getfield 123, 3) := by decide +kernel
theorem dX5_counted_63 : decode cX5_counted 63 = .ok (.ireturn, 1) := by decide +kernel
theorem dX5_counted_64 : decode cX5_counted 64 = .ok (.iconst 0, 1) := by decide +kernel
theorem dX5_counted_65 : decode cX5_counted 65 = .ok (.istore_n 3, 1) := by decide +kernel
theorem dX5_counted_66 : decode cX5_counted 66 = .ok (.iload_n 3, 1) := by decide +kernel
theorem dX5_counted_67 : decode cX5_counted 67 = .ok (.aload_n 0, 1) := by decide +kernel
theorem dX5_counted_68 : decode cX5_counted 68 = .ok (.getfield 123, 3) := by decide +kernel
theorem dX5_counted_71 : decode cX5_counted 71 = .ok (.if_icmp .ge 18, 3) := by decide +kernel
theorem dX5_counted_74 : decode cX5_counted 74 = .ok (.iload_n 2, 1) := by decide +kernel
theorem dX5_counted_75 : decode cX5_counted 75 = .ok (.aload_n 0, 1) := by decide +kernel
theorem dX5_counted_76 : decode cX5_counted 76 = .ok (.iload_n 3, 1) := by decide +kernel
theorem dX5_counted_77 : decode cX5_counted 77 = .ok (.iconst 2, 1) := by decide +kernel
theorem dX5_counted_78 : decode cX5_counted 78 = .ok (.invokevirtual 126, 3) := by decide +kernel
theorem dX5_counted_81 : decode cX5_counted 81 = .ok (.iadd, 1) := by decide +kernel
theorem dX5_counted_82 : decode cX5_counted 82 = .ok (.istore_n 2, 1) := by decide +kernel
theorem dX5_counted_83 : decode cX5_counted 83 = .ok (.iinc 3 1, 3) := by decide +kernel
theorem dX5_counted_86 : decode cX5_counted 86 = .ok (.goto (-20), 3) := by decide +kernel
theorem dX5_counted_89 : decode cX5_counted 89 = .ok (.iload_n 2, 1) := by decide +kernel
theorem dX5_counted_90 : decode cX5_counted 90 = .ok (.ireturn, 1) := by decide +kernel
theorem dX5_counted_91 : decode cX5_counted 91 = .ok (.iconst 0, 1) := by decide +kernel
theorem dX5_counted_92 : decode cX5_counted 92 = .ok (.istore_n 3, 1) := by decide +kernel
theorem dX5_counted_93 : decode cX5_counted 93 = .ok (.iload_n 3, 1) := by decide +kernel
theorem dX5_counted_94 : decode cX5_counted 94 = .ok (.aload_n 0, 1) := by decide +kernel
theorem dX5_counted_95 : decode cX5_counted 95 = .ok (.getfield 35, 3) := by decide +kernel
theorem dX5_counted_98 : decode cX5_counted 98 = .ok (.if_icmp .ge 18, 3) := by decide +kernel
theorem dX5_counted_101 : decode cX5_counted 101 = .ok (.iload_n 2, 1) := by decide +kernel
theorem dX5_counted_102 : decode cX5_counted 102 = .ok (.aload_n 0, 1) := by decide +kernel
theorem dX5_counted_103 : decode cX5_counted 103 = .ok (.iload_n 3, 1) := by decide +kernel
theorem dX5_counted_104 : decode cX5_counted 104 = .ok (.iconst 0, 1) := by decide +kernel
theorem dX5_counted_105 : decode cX5_counted 105 = .ok (.invokevirtual 66, 3) := by decide +kernel
theorem dX5_counted_108 : decode cX5_counted 108 = .ok (.iadd, 1) := by decide +kernel
theorem dX5_counted_109 : decode cX5_counted 109 = .ok (.istore_n 2, 1) := by decide +kernel
theorem dX5_counted_110 : decode cX5_counted 110 = .ok (.iinc 3 1, 3) := by decide +kernel
theorem dX5_counted_113 : decode cX5_counted 113 = .ok (.goto (-20), 3) := by decide +kernel
theorem dX5_counted_116 : decode cX5_counted 116 = .ok (.iload_n 2, 1) := by decide +kernel
theorem dX5_counted_117 : decode cX5_counted 117 = .ok (.ireturn, 1) := by decide +kernel
theorem dX5_counted_118 : decode cX5_counted 118 = .ok (.iconst 0, 1) := by decide +kernel
theorem dX5_counted_119 : decode cX5_counted 119 = .ok (.istore_n 3, 1) := by decide +kernel
theorem dX5_counted_120 : decode cX5_counted 120 = .ok (.iload_n 3, 1) := by decide +kernel
theorem dX5_counted_121 : decode cX5_counted 121 = .ok (.aload_n 0, 1) := by decide +kernel
theorem dX5_counted_122 : decode cX5_counted 122 = .ok (.getfield 42, 3) := by decide +kernel
theorem dX5_counted_125 : decode cX5_counted 125 = .ok (.if_icmp .ge 17, 3) := by decide +kernel
theorem dX5_counted_128 : decode cX5_counted 128 = .ok (.iload_n 2, 1) := by decide +kernel
theorem dX5_counted_129 : decode cX5_counted 129 = .ok (.aload_n 0, 1) := by decide +kernel
theorem dX5_counted_130 : decode cX5_counted 130 = .ok (.iload_n 3, 1) := by decide +kernel
theorem dX5_counted_131 : decode cX5_counted 131 = .ok (.invokevirtual 117, 3) := by decide +kernel
theorem dX5_counted_134 : decode cX5_counted 134 = .ok (.iadd, 1) := by decide +kernel
theorem dX5_counted_135 : decode cX5_counted 135 = .ok (.istore_n 2, 1) := by decide +kernel
theorem dX5_counted_136 : decode cX5_counted 136 = .ok (.iinc 3 1, 3) := by decide +kernel
theorem dX5_counted_139 : decode cX5_counted 139 = .ok (.goto (-19), 3) := by decide +kernel
theorem dX5_counted_142 : decode cX5_counted 142 = .ok (.iload_n 2, 1) := by decide +kernel
theorem dX5_counted_143 : decode cX5_counted 143 = .ok (.ireturn, 1) := by decide +kernel
theorem dX5_counted_144 : decode cX5_counted 144 = .ok (.aload_n 0, 1) := by decide +kernel
theorem dX5_counted_145 : decode cX5_counted 145 = .ok (.invokevirtual 145, 3) := by decide +kernel
theorem dX5_counted_148 : decode cX5_counted 148 = .ok (.ireturn, 1) := by decide +kernel
theorem dX5_count_0 : decode cX5_count 0 = .ok (.aload_n 0, 1) := by decide +kernel
theorem dX5_count_1 : decode cX5_count 1 = .ok (.iconst 0, 1) := by decide +kernel
theorem dX5_count_2 : decode cX5_count 2 = .ok (.putfield 31, 3) := by decide +kernel
theorem dX5_count_5 : decode cX5_count 5 = .ok (.iload_n 1, 1) := by decide +kernel
theorem dX5_count_6 : decode cX5_count 6 = .ok (.iconst 0, 1) := by decide +kernel
theorem dX5_count_7 : decode cX5_count 7 = .ok (.bipush 7, 2) := by decide +kernel
theorem dX5_count_9 : decode cX5_count 9 = .ok (.invokestatic 38, 3) := by decide +kernel
theorem dX5_count_12 : decode cX5_count 12 = .ok (.ifCond .eq 11, 3) := by decide +kernel
theorem dX5_count_15 : decode cX5_count 15 = .ok (.aload_n 0, 1) := by decide +kernel
theorem dX5_count_16 : decode cX5_count 16 = .ok (.iload_n 1, 1) := by decide +kernel
theorem dX5_count_17 : decode cX5_count 17 = .ok (.invokevirtual 154, 3) := by decide +kernel
theorem dX5_count_20 : decode cX5_count 20 = .ok (.goto 8, 3) := by decide +kernel
theorem dX5_count_23 : decode cX5_count 23 = .ok (.aload_n 0, 1) := by decide +kernel
theorem dX5_count_24 : decode cX5_count 24 = .ok (.iconst 1, 1) := by decide +kernel
theorem dX5_count_25 : decode cX5_count 25 = .ok (.invokevirtual 76, 3) := by decide +kernel
theorem dX5_count_28 : decode cX5_count 28 = .ok (.ireturn, 1) := by decide +kernel
theorem dX5_would_0 : decode cX5_would 0 = .ok (.aload_n 0, 1) := by decide +kernel
theorem dX5_would_1 : decode cX5_would 1 = .ok (.iconst 0, 1) := by decide +kernel
theorem dX5_would_2 : decode cX5_would 2 = .ok (.putfield 31, 3) := by decide +kernel
theorem dX5_would_5 : decode cX5_would 5 = .ok (.aload_n 0, 1) := by decide +kernel
theorem dX5_would_6 : decode cX5_would 6 = .ok (.iload_n 1, 1) := by decide +kernel
theorem dX5_would_7 : decode cX5_would 7 = .ok (.invokevirtual 83, 3) := by decide +kernel
theorem dX5_would_10 : decode cX5_would 10 = .ok (.ifCond .ne 9, 3) := by decide +kernel
theorem dX5_would_13 : decode cX5_would 13 = .ok (.aload_n 0, 1) := by decide +kernel
theorem dX5_would_14 : decode cX5_would 14 = .ok (.iconst 1, 1) := by decide +kernel
theorem dX5_would_15 : decode cX5_would 15 = .ok (.invokevirtual 76, 3) := by decide +kernel
theorem dX5_would_18 : decode cX5_would 18 = .ok (.ireturn, 1) := by decide +kernel
theorem dX5_would_19 : decode cX5_would 19 = .ok (.aload_n 0, 1) := by decide +kernel
theorem dX5_would_20 : decode cX5_would 20 = .ok (.iload_n 2, 1) := by decide +kernel
theorem dX5_would_21 : decode cX5_would 21 = .ok (.iload_n 3, 1) := by decide +kernel
theorem dX5_would_22 : decode cX5_would 22 = .ok (.invokevirtual 87, 3) := by decide +kernel
theorem dX5_would_25 : decode cX5_would 25 = .ok (.ifCond .ne 9, 3) := by decide +kernel
theorem dX5_would_28 : decode cX5_would 28 = .ok (.aload_n 0, 1) := by decide +kernel
theorem dX5_would_29 : decode cX5_would 29 = .ok (.iconst 2, 1) := by decide +kernel
theorem dX5_would_30 : decode cX5_would 30 = .ok (.invokevirtual 76, 3) := by decide +kernel
theorem dX5_would_33 : decode cX5_would 33 = .ok (.ireturn, 1) := by decide +kernel
theorem dX5_would_34 : decode cX5_would 34 = .ok (.aload_n 0, 1) := by decide +kernel
theorem dX5_would_35 : decode cX5_would 35 = .ok (.iload_n 1, 1) := by decide +kernel
theorem dX5_would_36 : decode cX5_would 36 = .ok (.invokevirtual 69, 3) := by decide +kernel
theorem dX5_would_39 : decode cX5_would 39 = .ok (.aload_n 0, 1) := by decide +kernel
theorem dX5_would_40 : decode cX5_would 40 = .ok (.getfield 25, 3) := by decide +kernel
theorem dX5_would_43 : decode cX5_would 43 = .ok (.iload_n 2, 1) := by decide +kernel
theorem dX5_would_44 : decode cX5_would 44 = .ok (.iload_n 3, 1) := by decide +kernel
theorem dX5_would_45 : decode cX5_would 45 = .ok (.invokestatic 91, 3) := by decide +kernel
theorem dX5_would_48 : decode cX5_would 48 = .ok (.aload_n 0, 1) := by decide +kernel
theorem dX5_would_49 : decode cX5_would 49 = .ok (.getfield 25, 3) := by decide +kernel
theorem dX5_would_52 : decode cX5_would 52 = .ok (.invokestatic 73, 3) := by decide +kernel
theorem dX5_would_55 : decode cX5_would 55 = .ok (.ireturn, 1) := by decide +kernel
theorem dX5_best_0 : decode cX5_best 0 = .ok (.aload_n 0, 1) := by decide +kernel
theorem dX5_best_1 : decode cX5_best 1 = .ok (.iconst 0, 1) := by decide +kernel
theorem dX5_best_2 : decode cX5_best 2 = .ok (.putfield 31, 3) := by decide +kernel
theorem dX5_best_5 : decode cX5_best 5 = .ok (.aload_n 0, 1) := by decide +kernel
theorem dX5_best_6 : decode cX5_best 6 = .ok (.iload_n 1, 1) := by decide +kernel
theorem dX5_best_7 : decode cX5_best 7 = .ok (.invokevirtual 83, 3) := by decide +kernel
theorem dX5_best_10 : decode cX5_best 10 = .ok (.ifCond .eq 12, 3) := by decide +kernel
theorem dX5_best_13 : decode cX5_best 13 = .ok (.iload_n 3, 1) := by decide +kernel
theorem dX5_best_14 : decode cX5_best 14 = .ok (.iconst 0, 1) := by decide +kernel
theorem dX5_best_15 : decode cX5_best 15 = .ok (.iconst 2, 1) := by decide +kernel
theorem dX5_best_16 : decode cX5_best 16 = .ok (.invokestatic 38, 3) := by decide +kernel
theorem dX5_best_19 : decode cX5_best 19 = .ok (.ifCond .ne 9, 3) := by decide +kernel
theorem dX5_best_22 : decode cX5_best 22 = .ok (.aload_n 0, 1) := by decide +kernel
theorem dX5_best_23 : decode cX5_best 23 = .ok (.iconst 1, 1) := by decide +kernel
theorem dX5_best_24 : decode cX5_best 24 = .ok (.invokevirtual 76, 3) := by decide +kernel
theorem dX5_best_27 : decode cX5_best 27 = .ok (.ireturn, 1) := by decide +kernel
theorem dX5_best_28 : decode cX5_best 28 = .ok (.iload_n 2, 1) := by decide +kernel
theorem dX5_best_29 : decode cX5_best 29 = .ok (.iconst 1, 1) := by decide +kernel
theorem dX5_best_30 : decode cX5_best 30 = .ok (.bipush 10, 2) := by decide +kernel
theorem dX5_best_32 : decode cX5_best 32 = .ok (.invokestatic 38, 3) := by decide +kernel
theorem dX5_best_35 : decode cX5_best 35 = .ok (.ifCond .ne 9, 3) := by decide +kernel
theorem dX5_best_38 : decode cX5_best 38 = .ok (.aload_n 0, 1) := by decide +kernel
theorem dX5_best_39 : decode cX5_best 39 = .ok (.iconst 2, 1) := by decide +kernel
theorem dX5_best_40 : decode cX5_best 40 = .ok (.invokevirtual 76, 3) := by decide +kernel
theorem dX5_best_43 : decode cX5_best 43 = .ok (.ireturn, 1) := by decide +kernel
theorem dX5_best_44 : decode cX5_best 44 = .ok (.iconst (-1), 1) := by decide +kernel
theorem dX5_best_45 : decode cX5_best 45 = .ok (.istore 4, 2) := by decide +kernel
theorem dX5_best_47 : decode cX5_best 47 = .ok (.iconst 0, 1) := by decide +kernel
theorem dX5_best_48 : decode cX5_best 48 = .ok (.istore 5, 2) := by decide +kernel
theorem dX5_best_50 : decode cX5_best 50 = .ok (.iconst 0, 1) := by decide +kernel
theorem dX5_best_51 : decode cX5_best 51 = .ok (.istore 6, 2) := by decide +kernel
theorem dX5_best_53 : decode cX5_best 53 = .ok (.bipush 15, 2) := by decide +kernel
theorem dX5_best_55 : decode cX5_best 55 = .ok (.istore 7, 2) := by decide +kernel
theorem dX5_best_57 : decode cX5_best 57 = .ok (.iload 7, 2) := by decide +kernel
theorem dX5_best_59 : decode cX5_best 59 = .ok (.bipush 50, 2) := by decide +kernel
theorem dX5_best_61 : decode cX5_best 61 = .ok (.if_icmp .gt 119, 3) := by decide +kernel
theorem dX5_best_64 : decode cX5_best 64 = .ok (.aload_n 0, 1) := by decide +kernel
theorem dX5_best_65 : decode cX5_best 65 = .ok (.iload_n 1, 1) := by decide +kernel
theorem dX5_best_66 : decode cX5_best 66 = .ok (.invokevirtual 69, 3) := by decide +kernel
theorem dX5_best_69 : decode cX5_best 69 = .ok (.aload_n 0, 1) := by decide +kernel
theorem dX5_best_70 : decode cX5_best 70 = .ok (.getfield 25, 3) := by decide +kernel
theorem dX5_best_73 : decode cX5_best 73 = .ok (.iload 7, 2) := by decide +kernel
theorem dX5_best_75 : decode cX5_best 75 = .ok (.iload_n 2, 1) := by decide +kernel
theorem dX5_best_76 : decode cX5_best 76 = .ok (.invokestatic 91, 3) := by decide +kernel
theorem dX5_best_79 : decode cX5_best 79 = .ok (.aload_n 0, 1) := by decide +kernel
theorem dX5_best_80 : decode cX5_best 80 = .ok (.getfield 25, 3) := by decide +kernel
theorem dX5_best_83 : decode cX5_best 83 = .ok (.iconst 0, 1) := by decide +kernel
theorem dX5_best_84 : decode cX5_best 84 = .ok (.aload_n 0, 1) := by decide +kernel
theorem dX5_best_85 : decode cX5_best 85 = .ok (.getfield 28, 3) := by decide +kernel
theorem dX5_best_88 : decode cX5_best 88 = .ok (.iconst 0, 1) := by decide +kernel
theorem dX5_best_89 : decode cX5_best 89 = .ok (.aload_n 0, 1) := by decide +kernel
theorem dX5_best_90 : decode cX5_best 90 = .ok (.getfield 25, 3) := by decide +kernel
theorem dX5_best_93 : decode cX5_best 93 = .ok (.arraylength, 1) := by decide +kernel
theorem dX5_best_94 : decode cX5_best 94 = .ok (.invokestatic 101, 3) := by decide +kernel
theorem dX5_best_97 : decode cX5_best 97 = .ok (.bipush 15, 2) := by decide +kernel
theorem dX5_best_99 : decode cX5_best 99 = .ok (.istore 8, 2) := by decide +kernel
theorem dX5_best_101 : decode cX5_best 101 = .ok (.iload 8, 2) := by decide +kernel
theorem dX5_best_103 : decode cX5_best 103 = .ok (.bipush 50, 2) := by decide +kernel
theorem dX5_best_105 : decode cX5_best 105 = .ok (.if_icmp .gt 69, 3) := by decide +kernel
theorem dX5_best_108 : decode cX5_best 108 = .ok (.aload_n 0, 1) := by decide +kernel
theorem dX5_best_109 : decode cX5_best 109 = .ok (.getfield 28, 3) := by decide +kernel
theorem dX5_best_112 : decode cX5_best 112 = .ok (.iconst 0, 1) := by decide +kernel
theorem dX5_best_113 : decode cX5_best 113 = .ok (.aload_n 0, 1) := by decide +kernel
theorem dX5_best_114 : decode cX5_best 114 = .ok (.getfield 25, 3) := by decide +kernel
theorem dX5_best_117 : decode cX5_best 117 = .ok (.iconst 0, 1) := by decide +kernel
theorem dX5_best_118 : decode cX5_best 118 = .ok (.aload_n 0, 1) := by decide +kernel
theorem dX5_best_119 : decode cX5_best 119 = .ok (.getfield 25, 3) := by decide +kernel
theorem dX5_best_122 : decode cX5_best 122 = .ok (.arraylength, 1) := by decide +kernel
theorem dX5_best_123 : decode cX5_best 123 = .ok (.invokestatic 101, 3) := by decide +kernel
theorem dX5_best_126 : decode cX5_best 126 = .ok (.aload_n 0, 1) := by decide +kernel
theorem dX5_best_127 : decode cX5_best 127 = .ok (.getfield 25, 3) := by decide +kernel
theorem dX5_best_130 : decode cX5_best 130 = .ok (.iload 8, 2) := by decide +kernel
theorem dX5_best_132 : decode cX5_best 132 = .ok (.iload_n 2, 1) := by decide +kernel
theorem dX5_best_133 : decode cX5_best 133 = .ok (.invokestatic 91, 3) := by decide +kernel
theorem dX5_best_136 : decode cX5_best 136 = .ok (.aload_n 0, 1) := by decide +kernel
theorem dX5_best_137 : decode cX5_best 137 = .ok (.getfield 25, 3) := by decide +kernel
theorem dX5_best_140 : decode cX5_best 140 = .ok (.invokestatic 73, 3) := by decide +kernel
theorem dX5_best_143 : decode cX5_best 143 = .ok (.iload 4, 2) := by decide +kernel
theorem dX5_best_145 : decode cX5_best 145 = .ok (.if_icmp .gt 6, 3) := by decide +kernel
theorem dX5_best_148 : decode cX5_best 148 = .ok (.goto 20, 3) := by decide +kernel
theorem dX5_best_151 : decode cX5_best 151 = .ok (.aload_n 0, 1) := by decide +kernel
theorem dX5_best_152 : decode cX5_best 152 = .ok (.getfield 25, 3) := by decide +kernel
theorem dX5_best_155 : decode cX5_best 155 = .ok (.invokestatic 73, 3) := by decide +kernel
theorem dX5_best_158 : decode cX5_best 158 = .ok (.istore 4, 2) := by decide +kernel
theorem dX5_best_160 : decode cX5_best 160 = .ok (.iload 7, 2) := by decide +kernel
theorem dX5_best_162 : decode cX5_best 162 = .ok (.istore 5, 2) := by decide +kernel
theorem dX5_best_164 : decode cX5_best 164 = .ok (.iload 8, 2) := by decide +kernel
theorem dX5_best_166 : decode cX5_best 166 = .ok (.istore 6, 2) := by decide +kernel
theorem dX5_best_168 : decode cX5_best 168 = .ok (.iinc 8 1, 3) := by decide +kernel
theorem dX5_best_171 : decode cX5_best 171 = .ok (.goto (-70), 3) := by decide +kernel
theorem dX5_best_174 : decode cX5_best 174 = .ok (.iinc 7 1, 3) := by decide +kernel
theorem dX5_best_177 : decode cX5_best 177 = .ok (.goto (-120), 3) := by decide +kernel
theorem dX5_best_180 : decode cX5_best 180 = .ok (.iload_n 3, 1) := by decide +kernel
theorem dX5_best_181 : decode cX5_best 181 = .ok (.ifCond .ne 8, 3) := by decide +kernel
theorem dX5_best_184 : decode cX5_best 184 = .ok (.iload 5, 2) := by decide +kernel
theorem dX5_best_186 : decode cX5_best 186 = .ok (.goto 15, 3) := by decide +kernel
theorem dX5_best_189 : decode cX5_best 189 = .ok (.iload_n 3, 1) := by decide +kernel
theorem dX5_best_190 : decode cX5_best 190 = .ok (.iconst 1, 1) := by decide +kernel
theorem dX5_best_191 : decode cX5_best 191 = .ok (.if_icmp .ne 8, 3) := by decide +kernel
theorem dX5_best_194 : decode cX5_best 194 = .ok (.iload 6, 2) := by decide +kernel
theorem dX5_best_196 : decode cX5_best 196 = .ok (.goto 5, 3) := by decide +kernel
theorem dX5_best_199 : decode cX5_best 199 = .ok (.iload 4, 2) := by decide +kernel
theorem dX5_best_201 : decode cX5_best 201 = .ok (.ireturn, 1) := by decide +kernel
theorem dX5_until_0 : decode cX5_until 0 = .ok (.aload_n 0, 1) := by decide +kernel
theorem dX5_until_1 : decode cX5_until 1 = .ok (.iconst 0, 1) := by decide +kernel
theorem dX5_until_2 : decode cX5_until 2 = .ok (.putfield 31, 3) := by decide +kernel
theorem dX5_until_5 : decode cX5_until 5 = .ok (.aload_n 0, 1) := by decide +kernel
theorem dX5_until_6 : decode cX5_until 6 = .ok (.iload_n 1, 1) := by decide +kernel
theorem dX5_until_7 : decode cX5_until 7 = .ok (.invokevirtual 114, 3) := by decide +kernel
theorem dX5_until_10 : decode cX5_until 10 = .ok (.ifCond .ne 9, 3) := by decide +kernel
theorem dX5_until_13 : decode cX5_until 13 = .ok (.aload_n 0, 1) := by decide +kernel
theorem dX5_until_14 : decode cX5_until 14 = .ok (.iconst 1, 1) := by decide +kernel
theorem dX5_until_15 : decode cX5_until 15 = .ok (.invokevirtual 76, 3) := by decide +kernel
theorem dX5_until_18 : decode cX5_until 18 = .ok (.ireturn, 1) := by decide +kernel
theorem dX5_until_19 : decode cX5_until 19 = .ok (.iload_n 2, 1) := by decide +kernel
theorem dX5_until_20 : decode cX5_until 20 = .ok (.bipush 10, 2) := by decide +kernel
theorem dX5_until_22 : decode cX5_until 22 = .ok (.bipush 40, 2) := by decide +kernel
theorem dX5_until_24 : decode cX5_until 24 = .ok (.invokestatic 38, 3) := by decide +kernel
theorem dX5_until_27 : decode cX5_until 27 = .ok (.ifCond .ne 9, 3) := by decide +kernel
theorem dX5_until_30 : decode cX5_until 30 = .ok (.aload_n 0, 1) := by decide +kernel
theorem dX5_until_31 : decode cX5_until 31 = .ok (.iconst 2, 1) := by decide +kernel
theorem dX5_until_32 : decode cX5_until 32 = .ok (.invokevirtual 76, 3) := by decide +kernel
theorem dX5_until_35 : decode cX5_until 35 = .ok (.ireturn, 1) := by decide +kernel
theorem dX5_until_36 : decode cX5_until 36 = .ok (.bipush 21, 2) := by decide +kernel
theorem dX5_until_38 : decode cX5_until 38 = .ok (.aload_n 0, 1) := by decide +kernel
theorem dX5_until_39 : decode cX5_until 39 = .ok (.iload_n 1, 1) := by decide +kernel
theorem dX5_until_40 : decode cX5_until 40 = .ok (.iconst 3, 1) := by decide +kernel
theorem dX5_until_41 : decode cX5_until 41 = .ok (.invokevirtual 98, 3) := by decide +kernel
theorem dX5_until_44 : decode cX5_until 44 = .ok (.isub, 1) := by decide +kernel
theorem dX5_until_45 : decode cX5_until 45 = .ok (.istore_n 3, 1) := by decide +kernel
theorem dX5_until_46 : decode cX5_until 46 = .ok (.aload_n 0, 1) := by decide +kernel
theorem dX5_until_47 : decode cX5_until 47 = .ok (.iload_n 1, 1) := by decide +kernel
theorem dX5_until_48 : decode cX5_until 48 = .ok (.iload_n 2, 1) := by decide +kernel
theorem dX5_until_49 : decode cX5_until 49 = .ok (.invokevirtual 139, 3) := by decide +kernel
theorem dX5_until_52 : decode cX5_until 52 = .ok (.istore 4, 2) := by decide +kernel
theorem dX5_until_54 : decode cX5_until 54 = .ok (.iload_n 3, 1) := by decide +kernel
theorem dX5_until_55 : decode cX5_until 55 = .ok (.ifCond .gt 7, 3) := by decide +kernel
theorem dX5_until_58 : decode cX5_until 58 = .ok (.iconst 0, 1) := by decide +kernel
theorem dX5_until_59 : decode cX5_until 59 = .ok (.goto 21, 3) := by decide +kernel
theorem dX5_until_62 : decode cX5_until 62 = .ok (.iload 4, 2) := by decide +kernel
theorem dX5_until_64 : decode cX5_until 64 = .ok (.ifCond .ne 7, 3) := by decide +kernel
theorem dX5_until_67 : decode cX5_until 67 = .ok (.iconst (-1), 1) := by decide +kernel
theorem dX5_until_68 : decode cX5_until 68 = .ok (.goto 12, 3) := by decide +kernel
theorem dX5_until_71 : decode cX5_until 71 = .ok (.iload_n 3, 1) := by decide +kernel
theorem dX5_until_72 : decode cX5_until 72 = .ok (.iload 4, 2) := by decide +kernel
theorem dX5_until_74 : decode cX5_until 74 = .ok (.iadd, 1) := by decide +kernel
theorem dX5_until_75 : decode cX5_until 75 = .ok (.iconst 1, 1) := by decide +kernel
theorem dX5_until_76 : decode cX5_until 76 = .ok (.isub, 1) := by decide +kernel
theorem dX5_until_77 : decode cX5_until 77 = .ok (.iload 4, 2) := by decide +kernel
theorem dX5_until_79 : decode cX5_until 79 = .ok (.idiv, 1) := by decide +kernel
theorem dX5_until_80 : decode cX5_until 80 = .ok (.ireturn, 1) := by decide +kernel
theorem dX5_filledBy_0 : decode cX5_filledBy 0 = .ok (.aload_n 0, 1) := by decide +kernel
theorem dX5_filledBy_1 : decode cX5_filledBy 1 = .ok (.getfield 42, 3) := by decide +kernel
theorem dX5_filledBy_4 : decode cX5_filledBy 4 = .ok (.istore_n 2, 1) := by decide +kernel
theorem dX5_filledBy_5 : decode cX5_filledBy 5 = .ok (.aload_n 0, 1) := by decide +kernel
theorem dX5_filledBy_6 : decode cX5_filledBy 6 = .ok (.getfield 13, 3) := by decide +kernel
theorem dX5_filledBy_9 : decode cX5_filledBy 9 = .ok (.iconst 0, 1) := by decide +kernel
theorem dX5_filledBy_10 : decode cX5_filledBy 10 = .ok (.aload_n 0, 1) := by decide +kernel
theorem dX5_filledBy_11 : decode cX5_filledBy 11 = .ok (.getfield 19, 3) := by decide +kernel
theorem dX5_filledBy_14 : decode cX5_filledBy 14 = .ok (.iconst 0, 1) := by decide +kernel
theorem dX5_filledBy_15 : decode cX5_filledBy 15 = .ok (.aload_n 0, 1) := by decide +kernel
theorem dX5_filledBy_16 : decode cX5_filledBy 16 = .ok (.getfield 13, 3) := by decide +kernel
theorem dX5_filledBy_19 : decode cX5_filledBy 19 = .ok (.arraylength, 1) := by decide +kernel
theorem dX5_filledBy_20 : decode cX5_filledBy 20 = .ok (.invokestatic 101, 3) := by decide +kernel
theorem dX5_filledBy_23 : decode cX5_filledBy 23 = .ok (.aload_n 0, 1) := by decide +kernel
theorem dX5_filledBy_24 : decode cX5_filledBy 24 = .ok (.getfield 16, 3) := by decide +kernel
theorem dX5_filledBy_27 : decode cX5_filledBy 27 = .ok (.iconst 0, 1) := by decide +kernel
theorem dX5_filledBy_28 : decode cX5_filledBy 28 = .ok (.aload_n 0, 1) := by decide +kernel
theorem dX5_filledBy_29 : decode cX5_filledBy 29 = .ok (.getfield 22, 3) := by decide +kernel
theorem dX5_filledBy_32 : decode cX5_filledBy 32 = .ok (.iconst 0, 1) := by decide +kernel
theorem dX5_filledBy_33 : decode cX5_filledBy 33 = .ok (.aload_n 0, 1) := by decide +kernel
theorem dX5_filledBy_34 : decode cX5_filledBy 34 = .ok (.getfield 16, 3) := by decide +kernel
theorem dX5_filledBy_37 : decode cX5_filledBy 37 = .ok (.arraylength, 1) := by decide +kernel
theorem dX5_filledBy_38 : decode cX5_filledBy 38 = .ok (.invokestatic 101, 3) := by decide +kernel
theorem dX5_filledBy_41 : decode cX5_filledBy 41 = .ok (.iload_n 1, 1) := by decide +kernel
theorem dX5_filledBy_42 : decode cX5_filledBy 42 = .ok (.iconst (-1), 1) := by decide +kernel
theorem dX5_filledBy_43 : decode cX5_filledBy 43 = .ok (.if_icmp .eq 22, 3) := by decide +kernel
theorem dX5_filledBy_46 : decode cX5_filledBy 46 = .ok (.aload_n 0, 1) := by decide +kernel
theorem dX5_filledBy_47 : decode cX5_filledBy 47 = .ok (.iload_n 1, 1) := by decide +kernel
theorem dX5_filledBy_48 : decode cX5_filledBy 48 = .ok (.iconst 3, 1) := by decide +kernel
theorem dX5_filledBy_49 : decode cX5_filledBy 49 = .ok (.iconst 0, 1) := by decide +kernel
theorem dX5_filledBy_50 : decode cX5_filledBy 50 = .ok (.aload_n 0, 1) := by decide +kernel
theorem dX5_filledBy_51 : decode cX5_filledBy 51 = .ok (.iload_n 1, 1) := by decide +kernel
theorem dX5_filledBy_52 : decode cX5_filledBy 52 = .ok (.iconst 3, 1) := by decide +kernel
theorem dX5_filledBy_53 : decode cX5_filledBy 53 = .ok (.invokevirtual 98, 3) := by decide +kernel
theorem dX5_filledBy_56 : decode cX5_filledBy 56 = .ok (.bipush 15, 2) := by decide +kernel
theorem dX5_filledBy_58 : decode cX5_filledBy 58 = .ok (.isub, 1) := by decide +kernel
theorem dX5_filledBy_59 : decode cX5_filledBy 59 = .ok (.invokestatic 63, 3) := by decide +kernel
theorem dX5_filledBy_62 : decode cX5_filledBy 62 = .ok (.invokevirtual 95, 3) := by decide +kernel
theorem dX5_filledBy_65 : decode cX5_filledBy 65 = .ok (.aload_n 0, 1) := by decide +kernel
theorem dX5_filledBy_66 : decode cX5_filledBy 66 = .ok (.invokevirtual 135, 3) := by decide +kernel
theorem dX5_filledBy_69 : decode cX5_filledBy 69 = .ok (.istore_n 3, 1) := by decide +kernel
theorem dX5_filledBy_70 : decode cX5_filledBy 70 = .ok (.aload_n 0, 1) := by decide +kernel
theorem dX5_filledBy_71 : decode cX5_filledBy 71 = .ok (.iload_n 2, 1) := by decide +kernel
theorem dX5_filledBy_72 : decode cX5_filledBy 72 = .ok (.putfield 42, 3) := by decide +kernel
theorem dX5_filledBy_75 : decode cX5_filledBy 75 = .ok (.aload_n 0, 1) := by decide +kernel
theorem dX5_filledBy_76 : decode cX5_filledBy 76 = .ok (.getfield 19, 3) := by decide +kernel
theorem dX5_filledBy_79 : decode cX5_filledBy 79 = .ok (.iconst 0, 1) := by decide +kernel
theorem dX5_filledBy_80 : decode cX5_filledBy 80 = .ok (.aload_n 0, 1) := by decide +kernel
theorem dX5_filledBy_81 : decode cX5_filledBy 81 = .ok (.getfield 13, 3) := by decide +kernel
theorem dX5_filledBy_84 : decode cX5_filledBy 84 = .ok (.iconst 0, 1) := by decide +kernel
theorem dX5_filledBy_85 : decode cX5_filledBy 85 = .ok (.aload_n 0, 1) := by decide +kernel
theorem dX5_filledBy_86 : decode cX5_filledBy 86 = .ok (.getfield 13, 3) := by decide +kernel
theorem dX5_filledBy_89 : decode cX5_filledBy 89 = .ok (.arraylength, 1) := by decide +kernel
theorem dX5_filledBy_90 : decode cX5_filledBy 90 = .ok (.invokestatic 101, 3) := by decide +kernel
theorem dX5_filledBy_93 : decode cX5_filledBy 93 = .ok (.aload_n 0, 1) := by decide +kernel
theorem dX5_filledBy_94 : decode cX5_filledBy 94 = .ok (.getfield 22, 3) := by decide +kernel
theorem dX5_filledBy_97 : decode cX5_filledBy 97 = .ok (.iconst 0, 1) := by decide +kernel
theorem dX5_filledBy_98 : decode cX5_filledBy 98 = .ok (.aload_n 0, 1) := by decide +kernel
theorem dX5_filledBy_99 : decode cX5_filledBy 99 = .ok (.getfield 16, 3) := by decide +kernel
theorem dX5_filledBy_102 : decode cX5_filledBy 102 = .ok (.iconst 0, 1) := by decide +kernel
theorem dX5_filledBy_103 : decode cX5_filledBy 103 = .ok (.aload_n 0, 1) := by decide +kernel
theorem dX5_filledBy_104 : decode cX5_filledBy 104 = .ok (.getfield 16, 3) := by decide +kernel
theorem dX5_filledBy_107 : decode cX5_filledBy 107 = .ok (.arraylength, 1) := by decide +kernel
theorem dX5_filledBy_108 : decode cX5_filledBy 108 = .ok (.invokestatic 101, 3) := by decide +kernel
theorem dX5_filledBy_111 : decode cX5_filledBy 111 = .ok (.iload_n 3, 1) := by decide +kernel
theorem dX5_filledBy_112 : decode cX5_filledBy 112 = .ok (.ireturn, 1) := by decide +kernel
theorem dX5_advise_0 : decode cX5_advise 0 = .ok (.aload_n 0, 1) := by decide +kernel
theorem dX5_advise_1 : decode cX5_advise 1 = .ok (.iconst 0, 1) := by decide +kernel
theorem dX5_advise_2 : decode cX5_advise 2 = .ok (.putfield 31, 3) := by decide +kernel
theorem dX5_advise_5 : decode cX5_advise 5 = .ok (.iconst (-1), 1) := by decide +kernel
theorem dX5_advise_6 : decode cX5_advise 6 = .ok (.istore_n 1, 1) := by decide +kernel
theorem dX5_advise_7 : decode cX5_advise 7 = .ok (.aload_n 0, 1) := by decide +kernel
theorem dX5_advise_8 : decode cX5_advise 8 = .ok (.iconst (-1), 1) := by decide +kernel
theorem dX5_advise_9 : decode cX5_advise 9 = .ok (.invokevirtual 157, 3) := by decide +kernel
theorem dX5_advise_12 : decode cX5_advise 12 = .ok (.istore_n 2, 1) := by decide +kernel
theorem dX5_advise_13 : decode cX5_advise 13 = .ok (.iconst 0, 1) := by decide +kernel
theorem dX5_advise_14 : decode cX5_advise 14 = .ok (.istore_n 3, 1) := by decide +kernel
theorem dX5_advise_15 : decode cX5_advise 15 = .ok (.iload_n 3, 1) := by decide +kernel
theorem dX5_advise_16 : decode cX5_advise 16 = .ok (.aload_n 0, 1) := by decide +kernel
theorem dX5_advise_17 : decode cX5_advise 17 = .ok (.getfield 42, 3) := by decide +kernel
theorem dX5_advise_20 : decode cX5_advise 20 = .ok (.if_icmp .ge 30, 3) := by decide +kernel
theorem dX5_advise_23 : decode cX5_advise 23 = .ok (.aload_n 0, 1) := by decide +kernel
theorem dX5_advise_24 : decode cX5_advise 24 = .ok (.iload_n 3, 1) := by decide +kernel
theorem dX5_advise_25 : decode cX5_advise 25 = .ok (.invokevirtual 157, 3) := by decide +kernel
theorem dX5_advise_28 : decode cX5_advise 28 = .ok (.istore 4, 2) := by decide +kernel
theorem dX5_advise_30 : decode cX5_advise 30 = .ok (.iload 4, 2) := by decide +kernel
theorem dX5_advise_32 : decode cX5_advise 32 = .ok (.iload_n 2, 1) := by decide +kernel
theorem dX5_advise_33 : decode cX5_advise 33 = .ok (.if_icmp .gt 6, 3) := by decide +kernel
theorem dX5_advise_36 : decode cX5_advise 36 = .ok (.goto 8, 3) := by decide +kernel
theorem dX5_advise_39 : decode cX5_advise 39 = .ok (.iload_n 3, 1) := by decide +kernel
theorem dX5_advise_40 : decode cX5_advise 40 = .ok (.istore_n 1, 1) := by decide +kernel
theorem dX5_advise_41 : decode cX5_advise 41 = .ok (.iload 4, 2) := by decide +kernel
theorem dX5_advise_43 : decode cX5_advise 43 = .ok (.istore_n 2, 1) := by decide +kernel
theorem dX5_advise_44 : decode cX5_advise 44 = .ok (.iinc 3 1, 3) := by decide +kernel
theorem dX5_advise_47 : decode cX5_advise 47 = .ok (.goto (-32), 3) := by decide +kernel
theorem dX5_advise_50 : decode cX5_advise 50 = .ok (.iload_n 1, 1) := by decide +kernel
theorem dX5_advise_51 : decode cX5_advise 51 = .ok (.ireturn, 1) := by decide +kernel
theorem dX5_mean_0 : decode cX5_mean 0 = .ok (.aload_n 0, 1) := by decide +kernel
theorem dX5_mean_1 : decode cX5_mean 1 = .ok (.iconst 0, 1) := by decide +kernel
theorem dX5_mean_2 : decode cX5_mean 2 = .ok (.putfield 31, 3) := by decide +kernel
theorem dX5_mean_5 : decode cX5_mean 5 = .ok (.iconst 0, 1) := by decide +kernel
theorem dX5_mean_6 : decode cX5_mean 6 = .ok (.istore_n 1, 1) := by decide +kernel
theorem dX5_mean_7 : decode cX5_mean 7 = .ok (.iconst 0, 1) := by decide +kernel
theorem dX5_mean_8 : decode cX5_mean 8 = .ok (.istore_n 2, 1) := by decide +kernel
theorem dX5_mean_9 : decode cX5_mean 9 = .ok (.iload_n 2, 1) := by decide +kernel
theorem dX5_mean_10 : decode cX5_mean 10 = .ok (.aload_n 0, 1) := by decide +kernel
theorem dX5_mean_11 : decode cX5_mean 11 = .ok (.getfield 42, 3) := by decide +kernel
theorem dX5_mean_14 : decode cX5_mean 14 = .ok (.if_icmp .ge 18, 3) := by decide +kernel
theorem dX5_mean_17 : decode cX5_mean 17 = .ok (.iload_n 1, 1) := by decide +kernel
theorem dX5_mean_18 : decode cX5_mean 18 = .ok (.aload_n 0, 1) := by decide +kernel
theorem dX5_mean_19 : decode cX5_mean 19 = .ok (.iload_n 2, 1) := by decide +kernel
theorem dX5_mean_20 : decode cX5_mean 20 = .ok (.iconst 3, 1) := by decide +kernel
theorem dX5_mean_21 : decode cX5_mean 21 = .ok (.invokevirtual 98, 3) := by decide +kernel
theorem dX5_mean_24 : decode cX5_mean 24 = .ok (.iadd, 1) := by decide +kernel
theorem dX5_mean_25 : decode cX5_mean 25 = .ok (.istore_n 1, 1) := by decide +kernel
theorem dX5_mean_26 : decode cX5_mean 26 = .ok (.iinc 2 1, 3) := by decide +kernel
theorem dX5_mean_29 : decode cX5_mean 29 = .ok (.goto (-20), 3) := by decide +kernel
theorem dX5_mean_32 : decode cX5_mean 32 = .ok (.aload_n 0, 1) := by decide +kernel
theorem dX5_mean_33 : decode cX5_mean 33 = .ok (.getfield 42, 3) := by decide +kernel
theorem dX5_mean_36 : decode cX5_mean 36 = .ok (.ifCond .ne 7, 3) := by decide +kernel
theorem dX5_mean_39 : decode cX5_mean 39 = .ok (.dconst 0, 1) := by decide +kernel
theorem dX5_mean_40 : decode cX5_mean 40 = .ok (.goto 11, 3) := by decide +kernel
theorem dX5_mean_43 : decode cX5_mean 43 = .ok (.iload_n 1, 1) := by decide +kernel
theorem dX5_mean_44 : decode cX5_mean 44 = .ok (.i2d, 1) := by decide +kernel
theorem dX5_mean_45 : decode cX5_mean 45 = .ok (.aload_n 0, 1) := by decide +kernel
theorem dX5_mean_46 : decode cX5_mean 46 = .ok (.getfield 42, 3) := by decide +kernel
theorem dX5_mean_49 : decode cX5_mean 49 = .ok (.i2d, 1) := by decide +kernel
theorem dX5_mean_50 : decode cX5_mean 50 = .ok (.ddiv, 1) := by decide +kernel
theorem dX5_mean_51 : decode cX5_mean 51 = .ok (.dreturn, 1) := by decide +kernel
theorem dX5_digest_0 : decode cX5_digest 0 = .ok (.aload_n 0, 1) := by decide +kernel
theorem dX5_digest_1 : decode cX5_digest 1 = .ok (.iconst 0, 1) := by decide +kernel
theorem dX5_digest_2 : decode cX5_digest 2 = .ok (.putfield 31, 3) := by decide +kernel
theorem dX5_digest_5 : decode cX5_digest 5 = .ok (.ldc2_w 160, 3) := by decide +kernel
theorem dX5_digest_8 : decode cX5_digest 8 = .ok (.lstore_n 1, 1) := by decide +kernel
theorem dX5_digest_9 : decode cX5_digest 9 = .ok (.iconst 0, 1) := by decide +kernel
theorem dX5_digest_10 : decode cX5_digest 10 = .ok (.istore_n 3, 1) := by decide +kernel
theorem dX5_digest_11 : decode cX5_digest 11 = .ok (.iload_n 3, 1) := by decide +kernel
theorem dX5_digest_12 : decode cX5_digest 12 = .ok (.bipush 8, 2) := by decide +kernel
theorem dX5_digest_14 : decode cX5_digest 14 = .ok (.if_icmp .ge 22, 3) := by decide +kernel
theorem dX5_digest_17 : decode cX5_digest 17 = .ok (.lload_n 1, 1) := by decide +kernel
theorem dX5_digest_18 : decode cX5_digest 18 = .ok (.ldc2_w 162, 3) := by decide +kernel
theorem dX5_digest_21 : decode cX5_digest 21 = .ok (.lmul, 1) := by decide +kernel
theorem dX5_digest_22 : decode cX5_digest 22 = .ok (.aload_n 0, 1) := by decide +kernel
theorem dX5_digest_23 : decode cX5_digest 23 = .ok (.iload_n 3, 1) := by decide +kernel
theorem dX5_digest_24 : decode cX5_digest 24 = .ok (.invokevirtual 154, 3) := by decide +kernel
theorem dX5_digest_27 : decode cX5_digest 27 = .ok (.i2l, 1) := by decide +kernel
theorem dX5_digest_28 : decode cX5_digest 28 = .ok (.ladd, 1) := by decide +kernel
theorem dX5_digest_29 : decode cX5_digest 29 = .ok (.lstore_n 1, 1) := by decide +kernel
theorem dX5_digest_30 : decode cX5_digest 30 = .ok (.iinc 3 1, 3) := by decide +kernel
theorem dX5_digest_33 : decode cX5_digest 33 = .ok (.goto (-22), 3) := by decide +kernel
theorem dX5_digest_36 : decode cX5_digest 36 = .ok (.iconst 0, 1) := by decide +kernel
theorem dX5_digest_37 : decode cX5_digest 37 = .ok (.istore_n 3, 1) := by decide +kernel
theorem dX5_digest_38 : decode cX5_digest 38 = .ok (.iload_n 3, 1) := by decide +kernel
theorem dX5_digest_39 : decode cX5_digest 39 = .ok (.aload_n 0, 1) := by decide +kernel
theorem dX5_digest_40 : decode cX5_digest 40 = .ok (.getfield 35, 3) := by decide +kernel
theorem dX5_digest_43 : decode cX5_digest 43 = .ok (.if_icmp .ge 40, 3) := by decide +kernel
theorem dX5_digest_46 : decode cX5_digest 46 = .ok (.iconst 0, 1) := by decide +kernel
theorem dX5_digest_47 : decode cX5_digest 47 = .ok (.istore 4, 2) := by decide +kernel
theorem dX5_digest_49 : decode cX5_digest 49 = .ok (.iload 4, 2) := by decide +kernel
theorem dX5_digest_51 : decode cX5_digest 51 = .ok (.bipush 8, 2) := by decide +kernel
theorem dX5_digest_53 : decode cX5_digest 53 = .ok (.if_icmp .ge 24, 3) := by decide +kernel
theorem dX5_digest_56 : decode cX5_digest 56 = .ok (.lload_n 1, 1) := by decide +kernel
theorem dX5_digest_57 : decode cX5_digest 57 = .ok (.ldc2_w 162, 3) := by decide +kernel
theorem dX5_digest_60 : decode cX5_digest 60 = .ok (.lmul, 1) := by decide +kernel
theorem dX5_digest_61 : decode cX5_digest 61 = .ok (.aload_n 0, 1) := by decide +kernel
theorem dX5_digest_62 : decode cX5_digest 62 = .ok (.iload_n 3, 1) := by decide +kernel
theorem dX5_digest_63 : decode cX5_digest 63 = .ok (.iload 4, 2) := by decide +kernel
theorem dX5_digest_65 : decode cX5_digest 65 = .ok (.invokevirtual 148, 3) := by decide +kernel
theorem dX5_digest_68 : decode cX5_digest 68 = .ok (.i2l, 1) := by decide +kernel
theorem dX5_digest_69 : decode cX5_digest 69 = .ok (.ladd, 1) := by decide +kernel
theorem dX5_digest_70 : decode cX5_digest 70 = .ok (.lstore_n 1, 1) := by decide +kernel
theorem dX5_digest_71 : decode cX5_digest 71 = .ok (.iinc 4 1, 3) := by decide +kernel
theorem dX5_digest_74 : decode cX5_digest 74 = .ok (.goto (-25), 3) := by decide +kernel
theorem dX5_digest_77 : decode cX5_digest 77 = .ok (.iinc 3 1, 3) := by decide +kernel
theorem dX5_digest_80 : decode cX5_digest 80 = .ok (.goto (-42), 3) := by decide +kernel
theorem dX5_digest_83 : decode cX5_digest 83 = .ok (.iconst 0, 1) := by decide +kernel
theorem dX5_digest_84 : decode cX5_digest 84 = .ok (.istore_n 3, 1) := by decide +kernel
theorem dX5_digest_85 : decode cX5_digest 85 = .ok (.iload_n 3, 1) := by decide +kernel
theorem dX5_digest_86 : decode cX5_digest 86 = .ok (.aload_n 0, 1) := by decide +kernel
theorem dX5_digest_87 : decode cX5_digest 87 = .ok (.getfield 42, 3) := by decide +kernel
theorem dX5_digest_90 : decode cX5_digest 90 = .ok (.if_icmp .ge 40, 3) := by decide +kernel
theorem dX5_digest_93 : decode cX5_digest 93 = .ok (.iconst 0, 1) := by decide +kernel
theorem dX5_digest_94 : decode cX5_digest 94 = .ok (.istore 4, 2) := by decide +kernel
theorem dX5_digest_96 : decode cX5_digest 96 = .ok (.iload 4, 2) := by decide +kernel
theorem dX5_digest_98 : decode cX5_digest 98 = .ok (.bipush 7, 2) := by decide +kernel
theorem dX5_digest_100 : decode cX5_digest 100 = .ok (.if_icmp .ge 24, 3) := by decide +kernel
theorem dX5_digest_103 : decode cX5_digest 103 = .ok (.lload_n 1, 1) := by decide +kernel
theorem dX5_digest_104 : decode cX5_digest 104 = .ok (.ldc2_w 162, 3) := by decide +kernel
theorem dX5_digest_107 : decode cX5_digest 107 = .ok (.lmul, 1) := by decide +kernel
theorem dX5_digest_108 : decode cX5_digest 108 = .ok (.aload_n 0, 1) := by decide +kernel
theorem dX5_digest_109 : decode cX5_digest 109 = .ok (.iload_n 3, 1) := by decide +kernel
theorem dX5_digest_110 : decode cX5_digest 110 = .ok (.iload 4, 2) := by decide +kernel
theorem dX5_digest_112 : decode cX5_digest 112 = .ok (.invokevirtual 151, 3) := by decide +kernel
theorem dX5_digest_115 : decode cX5_digest 115 = .ok (.i2l, 1) := by decide +kernel
theorem dX5_digest_116 : decode cX5_digest 116 = .ok (.ladd, 1) := by decide +kernel
theorem dX5_digest_117 : decode cX5_digest 117 = .ok (.lstore_n 1, 1) := by decide +kernel
theorem dX5_digest_118 : decode cX5_digest 118 = .ok (.iinc 4 1, 3) := by decide +kernel
theorem dX5_digest_121 : decode cX5_digest 121 = .ok (.goto (-25), 3) := by decide +kernel
theorem dX5_digest_124 : decode cX5_digest 124 = .ok (.iinc 3 1, 3) := by decide +kernel
theorem dX5_digest_127 : decode cX5_digest 127 = .ok (.goto (-42), 3) := by decide +kernel
theorem dX5_digest_130 : decode cX5_digest 130 = .ok (.iconst 0, 1) := by decide +kernel
theorem dX5_digest_131 : decode cX5_digest 131 = .ok (.istore_n 3, 1) := by decide +kernel
theorem dX5_digest_132 : decode cX5_digest 132 = .ok (.iload_n 3, 1) := by decide +kernel
theorem dX5_digest_133 : decode cX5_digest 133 = .ok (.aload_n 0, 1) := by decide +kernel
theorem dX5_digest_134 : decode cX5_digest 134 = .ok (.getfield 123, 3) := by decide +kernel
theorem dX5_digest_137 : decode cX5_digest 137 = .ok (.if_icmp .ge 39, 3) := by decide +kernel
theorem dX5_digest_140 : decode cX5_digest 140 = .ok (.iconst 0, 1) := by decide +kernel
theorem dX5_digest_141 : decode cX5_digest 141 = .ok (.istore 4, 2) := by decide +kernel
theorem dX5_digest_143 : decode cX5_digest 143 = .ok (.iload 4, 2) := by decide +kernel
theorem dX5_digest_145 : decode cX5_digest 145 = .ok (.iconst 5, 1) := by decide +kernel
theorem dX5_digest_146 : decode cX5_digest 146 = .ok (.if_icmp .ge 24, 3) := by decide +kernel
theorem dX5_digest_149 : decode cX5_digest 149 = .ok (.lload_n 1, 1) := by decide +kernel
theorem dX5_digest_150 : decode cX5_digest 150 = .ok (.ldc2_w 162, 3) := by decide +kernel
theorem dX5_digest_153 : decode cX5_digest 153 = .ok (.lmul, 1) := by decide +kernel
theorem dX5_digest_154 : decode cX5_digest 154 = .ok (.aload_n 0, 1) := by decide +kernel
theorem dX5_digest_155 : decode cX5_digest 155 = .ok (.iload_n 3, 1) := by decide +kernel
theorem dX5_digest_156 : decode cX5_digest 156 = .ok (.iload 4, 2) := by decide +kernel
theorem dX5_digest_158 : decode cX5_digest 158 = .ok (.invokevirtual 126, 3) := by decide +kernel
theorem dX5_digest_161 : decode cX5_digest 161 = .ok (.i2l, 1) := by decide +kernel
theorem dX5_digest_162 : decode cX5_digest 162 = .ok (.ladd, 1) := by decide +kernel
theorem dX5_digest_163 : decode cX5_digest 163 = .ok (.lstore_n 1, 1) := by decide +kernel
theorem dX5_digest_164 : decode cX5_digest 164 = .ok (.iinc 4 1, 3) := by decide +kernel
theorem dX5_digest_167 : decode cX5_digest 167 = .ok (.goto (-24), 3) := by decide +kernel
theorem dX5_digest_170 : decode cX5_digest 170 = .ok (.iinc 3 1, 3) := by decide +kernel
theorem dX5_digest_173 : decode cX5_digest 173 = .ok (.goto (-41), 3) := by decide +kernel
theorem dX5_digest_176 : decode cX5_digest 176 = .ok (.lload_n 1, 1) := by decide +kernel
theorem dX5_digest_177 : decode cX5_digest 177 = .ok (.lreturn, 1) := by decide +kernel
theorem dJ9_max_7cf53_0 : decode cJ9_max_7cf53 0 = .ok (.iload_n 0, 1) := by decide +kernel
theorem dJ9_max_7cf53_1 : decode cJ9_max_7cf53 1 = .ok (.iload_n 1, 1) := by decide +kernel
theorem dJ9_max_7cf53_2 : decode cJ9_max_7cf53 2 = .ok (.if_icmp .lt 7, 3) := by decide +kernel
theorem dJ9_max_7cf53_5 : decode cJ9_max_7cf53 5 = .ok (.iload_n 0, 1) := by decide +kernel
theorem dJ9_max_7cf53_6 : decode cJ9_max_7cf53 6 = .ok (.goto 4, 3) := by decide +kernel
theorem dJ9_max_7cf53_9 : decode cJ9_max_7cf53 9 = .ok (.iload_n 1, 1) := by decide +kernel
theorem dJ9_max_7cf53_10 : decode cJ9_max_7cf53 10 = .ok (.ireturn, 1) := by decide +kernel
theorem dJ9_min_7cf53_0 : decode cJ9_min_7cf53 0 = .ok (.iload_n 0, 1) := by decide +kernel
theorem dJ9_min_7cf53_1 : decode cJ9_min_7cf53 1 = .ok (.iload_n 1, 1) := by decide +kernel
theorem dJ9_min_7cf53_2 : decode cJ9_min_7cf53 2 = .ok (.if_icmp .gt 7, 3) := by decide +kernel
theorem dJ9_min_7cf53_5 : decode cJ9_min_7cf53 5 = .ok (.iload_n 0, 1) := by decide +kernel
theorem dJ9_min_7cf53_6 : decode cJ9_min_7cf53 6 = .ok (.goto 4, 3) := by decide +kernel
theorem dJ9_min_7cf53_9 : decode cJ9_min_7cf53 9 = .ok (.iload_n 1, 1) := by decide +kernel
theorem dJ9_min_7cf53_10 : decode cJ9_min_7cf53 10 = .ok (.ireturn, 1) := by decide +kernel
theorem dL_bowl_0 : decode cL_bowl 0 = .ok (.aload_n 2, 1) := by decide +kernel
theorem dL_bowl_1 : decode cL_bowl 1 = .ok (.iconst 0, 1) := by decide +kernel
theorem dL_bowl_2 : decode cL_bowl 2 = .ok (.aload_n 0, 1) := by decide +kernel
theorem dL_bowl_3 : decode cL_bowl 3 = .ok (.iload_n 1, 1) := by decide +kernel
theorem dL_bowl_4 : decode cL_bowl 4 = .ok (.invokevirtual 7, 3) := by decide +kernel
theorem dL_bowl_7 : decode cL_bowl 7 = .ok (.i2l, 1) := by decide +kernel
theorem dL_bowl_8 : decode cL_bowl 8 = .ok (.lastore, 1) := by decide +kernel
theorem dL_bowl_9 : decode cL_bowl 9 = .ok (.goto 9, 3) := by decide +kernel
theorem dL_bowl_12 : decode cL_bowl 12 = .ok (.astore_n 3, 1) := by decide +kernel
theorem dL_bowl_13 : decode cL_bowl 13 = .ok (.iconst 1, 1) := by decide +kernel
theorem dL_bowl_14 : decode cL_bowl 14 = .ok (.ireturn, 1) := by decide +kernel
theorem dL_bowl_15 : decode cL_bowl 15 = .ok (.astore_n 3, 1) := by decide +kernel
theorem dL_bowl_16 : decode cL_bowl 16 = .ok (.iconst 2, 1) := by decide +kernel
theorem dL_bowl_17 : decode cL_bowl 17 = .ok (.ireturn, 1) := by decide +kernel
theorem dL_bowl_18 : decode cL_bowl 18 = .ok (.iconst 0, 1) := by decide +kernel
theorem dL_bowl_19 : decode cL_bowl 19 = .ok (.ireturn, 1) := by decide +kernel
theorem dL_warm_0 : decode cL_warm 0 = .ok (.aload 4, 2) := by decide +kernel
theorem dL_warm_2 : decode cL_warm 2 = .ok (.iconst 0, 1) := by decide +kernel
theorem dL_warm_3 : decode cL_warm 3 = .ok (.aload_n 0, 1) := by decide +kernel
theorem dL_warm_4 : decode cL_warm 4 = .ok (.iload_n 1, 1) := by decide +kernel
theorem dL_warm_5 : decode cL_warm 5 = .ok (.iload_n 2, 1) := by decide +kernel
theorem dL_warm_6 : decode cL_warm 6 = .ok (.iload_n 3, 1) := by decide +kernel
theorem dL_warm_7 : decode cL_warm 7 = .ok (.invokevirtual 17, 3) := by decide +kernel
theorem dL_warm_10 : decode cL_warm 10 = .ok (.i2l, 1) := by decide +kernel
theorem dL_warm_11 : decode cL_warm 11 = .ok (.lastore, 1) := by decide +kernel
theorem dL_warm_12 : decode cL_warm 12 = .ok (.goto 11, 3) := by decide +kernel
theorem dL_warm_15 : decode cL_warm 15 = .ok (.astore 5, 2) := by decide +kernel
theorem dL_warm_17 : decode cL_warm 17 = .ok (.iconst 1, 1) := by decide +kernel
theorem dL_warm_18 : decode cL_warm 18 = .ok (.ireturn, 1) := by decide +kernel
theorem dL_warm_19 : decode cL_warm 19 = .ok (.astore 5, 2) := by decide +kernel
theorem dL_warm_21 : decode cL_warm 21 = .ok (.iconst 2, 1) := by decide +kernel
theorem dL_warm_22 : decode cL_warm 22 = .ok (.ireturn, 1) := by decide +kernel
theorem dL_warm_23 : decode cL_warm 23 = .ok (.iconst 0, 1) := by decide +kernel
theorem dL_warm_24 : decode cL_warm 24 = .ok (.ireturn, 1) := by decide +kernel
theorem dL_seed_0 : decode cL_seed 0 = .ok (.aload_n 3, 1) := by decide +kernel
theorem dL_seed_1 : decode cL_seed 1 = .ok (.iconst 0, 1) := by decide +kernel
theorem dL_seed_2 : decode cL_seed 2 = .ok (.aload_n 0, 1) := by decide +kernel
theorem dL_seed_3 : decode cL_seed 3 = .ok (.iload_n 1, 1) := by decide +kernel
theorem dL_seed_4 : decode cL_seed 4 = .ok (.iload_n 2, 1) := by decide +kernel
theorem dL_seed_5 : decode cL_seed 5 = .ok (.invokevirtual 23, 3) := by decide +kernel
theorem dL_seed_8 : decode cL_seed 8 = .ok (.i2l, 1) := by decide +kernel
theorem dL_seed_9 : decode cL_seed 9 = .ok (.lastore, 1) := by decide +kernel
theorem dL_seed_10 : decode cL_seed 10 = .ok (.goto 11, 3) := by decide +kernel
theorem dL_seed_13 : decode cL_seed 13 = .ok (.astore 4, 2) := by decide +kernel
theorem dL_seed_15 : decode cL_seed 15 = .ok (.iconst 1, 1) := by decide +kernel
theorem dL_seed_16 : decode cL_seed 16 = .ok (.ireturn, 1) := by decide +kernel
theorem dL_seed_17 : decode cL_seed 17 = .ok (.astore 4, 2) := by decide +kernel
theorem dL_seed_19 : decode cL_seed 19 = .ok (.iconst 2, 1) := by decide +kernel
theorem dL_seed_20 : decode cL_seed 20 = .ok (.ireturn, 1) := by decide +kernel
theorem dL_seed_21 : decode cL_seed 21 = .ok (.iconst 0, 1) := by decide +kernel
theorem dL_seed_22 : decode cL_seed 22 = .ok (.ireturn, 1) := by decide +kernel
theorem dL_pour_0 : decode cL_pour 0 = .ok (.aload_n 3, 1) := by decide +kernel
theorem dL_pour_1 : decode cL_pour 1 = .ok (.iconst 0, 1) := by decide +kernel
theorem dL_pour_2 : decode cL_pour 2 = .ok (.aload_n 0, 1) := by decide +kernel
theorem dL_pour_3 : decode cL_pour 3 = .ok (.iload_n 1, 1) := by decide +kernel
theorem dL_pour_4 : decode cL_pour 4 = .ok (.iload_n 2, 1) := by decide +kernel
theorem dL_pour_5 : decode cL_pour 5 = .ok (.invokevirtual 27, 3) := by decide +kernel
theorem dL_pour_8 : decode cL_pour 8 = .ok (.i2l, 1) := by decide +kernel
theorem dL_pour_9 : decode cL_pour 9 = .ok (.lastore, 1) := by decide +kernel
theorem dL_pour_10 : decode cL_pour 10 = .ok (.goto 11, 3) := by decide +kernel
theorem dL_pour_13 : decode cL_pour 13 = .ok (.astore 4, 2) := by decide +kernel
theorem dL_pour_15 : decode cL_pour 15 = .ok (.iconst 1, 1) := by decide +kernel
theorem dL_pour_16 : decode cL_pour 16 = .ok (.ireturn, 1) := by decide +kernel
theorem dL_pour_17 : decode cL_pour 17 = .ok (.astore 4, 2) := by decide +kernel
theorem dL_pour_19 : decode cL_pour 19 = .ok (.iconst 2, 1) := by decide +kernel
theorem dL_pour_20 : decode cL_pour 20 = .ok (.ireturn, 1) := by decide +kernel
theorem dL_pour_21 : decode cL_pour 21 = .ok (.iconst 0, 1) := by decide +kernel
theorem dL_pour_22 : decode cL_pour 22 = .ok (.ireturn, 1) := by decide +kernel
theorem dL_cast_0 : decode cL_cast 0 = .ok (.aload 4, 2) := by decide +kernel
theorem dL_cast_2 : decode cL_cast 2 = .ok (.iconst 0, 1) := by decide +kernel
theorem dL_cast_3 : decode cL_cast 3 = .ok (.aload_n 0, 1) := by decide +kernel
theorem dL_cast_4 : decode cL_cast 4 = .ok (.iload_n 1, 1) := by decide +kernel
theorem dL_cast_5 : decode cL_cast 5 = .ok (.iload_n 2, 1) := by decide +kernel
theorem dL_cast_6 : decode cL_cast 6 = .ok (.iload_n 3, 1) := by decide +kernel
theorem dL_cast_7 : decode cL_cast 7 = .ok (.invokevirtual 30, 3) := by decide +kernel
theorem dL_cast_10 : decode cL_cast 10 = .ok (.i2l, 1) := by decide +kernel
theorem dL_cast_11 : decode cL_cast 11 = .ok (.lastore, 1) := by decide +kernel
theorem dL_cast_12 : decode cL_cast 12 = .ok (.goto 15, 3) := by decide +kernel
theorem dL_cast_15 : decode cL_cast 15 = .ok (.astore 5, 2) := by decide +kernel
theorem dL_cast_17 : decode cL_cast 17 = .ok (.iconst 1, 1) := by decide +kernel
theorem dL_cast_18 : decode cL_cast 18 = .ok (.ireturn, 1) := by decide +kernel
theorem dL_cast_19 : decode cL_cast 19 = .ok (.astore 5, 2) := by decide +kernel
theorem dL_cast_21 : decode cL_cast 21 = .ok (.iconst 2, 1) := by decide +kernel
theorem dL_cast_22 : decode cL_cast 22 = .ok (.ireturn, 1) := by decide +kernel
theorem dL_cast_23 : decode cL_cast 23 = .ok (.astore 5, 2) := by decide +kernel
theorem dL_cast_25 : decode cL_cast 25 = .ok (.iconst 3, 1) := by decide +kernel
theorem dL_cast_26 : decode cL_cast 26 = .ok (.ireturn, 1) := by decide +kernel
theorem dL_cast_27 : decode cL_cast 27 = .ok (.iconst 0, 1) := by decide +kernel
theorem dL_cast_28 : decode cL_cast 28 = .ok (.ireturn, 1) := by decide +kernel
theorem dL_polish_0 : decode cL_polish 0 = .ok (.aload_n 2, 1) := by decide +kernel
theorem dL_polish_1 : decode cL_polish 1 = .ok (.iconst 0, 1) := by decide +kernel
theorem dL_polish_2 : decode cL_polish 2 = .ok (.aload_n 0, 1) := by decide +kernel
theorem dL_polish_3 : decode cL_polish 3 = .ok (.iload_n 1, 1) := by decide +kernel
theorem dL_polish_4 : decode cL_polish 4 = .ok (.invokevirtual 33, 3) := by decide +kernel
theorem dL_polish_7 : decode cL_polish 7 = .ok (.i2l, 1) := by decide +kernel
theorem dL_polish_8 : decode cL_polish 8 = .ok (.lastore, 1) := by decide +kernel
theorem dL_polish_9 : decode cL_polish 9 = .ok (.goto 6, 3) := by decide +kernel
theorem dL_polish_12 : decode cL_polish 12 = .ok (.astore_n 3, 1) := by decide +kernel
theorem dL_polish_13 : decode cL_polish 13 = .ok (.iconst 1, 1) := by decide +kernel
theorem dL_polish_14 : decode cL_polish 14 = .ok (.ireturn, 1) := by decide +kernel
theorem dL_polish_15 : decode cL_polish 15 = .ok (.iconst 0, 1) := by decide +kernel
theorem dL_polish_16 : decode cL_polish 16 = .ok (.ireturn, 1) := by decide +kernel
theorem dL_split_0 : decode cL_split 0 = .ok (.aload 4, 2) := by decide +kernel
theorem dL_split_2 : decode cL_split 2 = .ok (.iconst 0, 1) := by decide +kernel
theorem dL_split_3 : decode cL_split 3 = .ok (.aload_n 0, 1) := by decide +kernel
theorem dL_split_4 : decode cL_split 4 = .ok (.iload_n 1, 1) := by decide +kernel
theorem dL_split_5 : decode cL_split 5 = .ok (.iload_n 2, 1) := by decide +kernel
theorem dL_split_6 : decode cL_split 6 = .ok (.iload_n 3, 1) := by decide +kernel
theorem dL_split_7 : decode cL_split 7 = .ok (.invokevirtual 36, 3) := by decide +kernel
theorem dL_split_10 : decode cL_split 10 = .ok (.i2l, 1) := by decide +kernel
theorem dL_split_11 : decode cL_split 11 = .ok (.lastore, 1) := by decide +kernel
theorem dL_split_12 : decode cL_split 12 = .ok (.goto 11, 3) := by decide +kernel
theorem dL_split_15 : decode cL_split 15 = .ok (.astore 5, 2) := by decide +kernel
theorem dL_split_17 : decode cL_split 17 = .ok (.iconst 1, 1) := by decide +kernel
theorem dL_split_18 : decode cL_split 18 = .ok (.ireturn, 1) := by decide +kernel
theorem dL_split_19 : decode cL_split 19 = .ok (.astore 5, 2) := by decide +kernel
theorem dL_split_21 : decode cL_split 21 = .ok (.iconst 2, 1) := by decide +kernel
theorem dL_split_22 : decode cL_split 22 = .ok (.ireturn, 1) := by decide +kernel
theorem dL_split_23 : decode cL_split 23 = .ok (.iconst 0, 1) := by decide +kernel
theorem dL_split_24 : decode cL_split 24 = .ok (.ireturn, 1) := by decide +kernel
theorem dL_melt_0 : decode cL_melt 0 = .ok (.aload_n 3, 1) := by decide +kernel
theorem dL_melt_1 : decode cL_melt 1 = .ok (.iconst 0, 1) := by decide +kernel
theorem dL_melt_2 : decode cL_melt 2 = .ok (.aload_n 0, 1) := by decide +kernel
theorem dL_melt_3 : decode cL_melt 3 = .ok (.iload_n 1, 1) := by decide +kernel
theorem dL_melt_4 : decode cL_melt 4 = .ok (.iload_n 2, 1) := by decide +kernel
theorem dL_melt_5 : decode cL_melt 5 = .ok (.invokevirtual 40, 3) := by decide +kernel
theorem dL_melt_8 : decode cL_melt 8 = .ok (.i2l, 1) := by decide +kernel
theorem dL_melt_9 : decode cL_melt 9 = .ok (.lastore, 1) := by decide +kernel
theorem dL_melt_10 : decode cL_melt 10 = .ok (.goto 11, 3) := by decide +kernel
theorem dL_melt_13 : decode cL_melt 13 = .ok (.astore 4, 2) := by decide +kernel
theorem dL_melt_15 : decode cL_melt 15 = .ok (.iconst 1, 1) := by decide +kernel
theorem dL_melt_16 : decode cL_melt 16 = .ok (.ireturn, 1) := by decide +kernel
theorem dL_melt_17 : decode cL_melt 17 = .ok (.astore 4, 2) := by decide +kernel
theorem dL_melt_19 : decode cL_melt 19 = .ok (.iconst 2, 1) := by decide +kernel
theorem dL_melt_20 : decode cL_melt 20 = .ok (.ireturn, 1) := by decide +kernel
theorem dL_melt_21 : decode cL_melt 21 = .ok (.iconst 0, 1) := by decide +kernel
theorem dL_melt_22 : decode cL_melt 22 = .ok (.ireturn, 1) := by decide +kernel
theorem dL_box_0 : decode cL_box 0 = .ok (.aload_n 3, 1) := by decide +kernel
theorem dL_box_1 : decode cL_box 1 = .ok (.iconst 0, 1) := by decide +kernel
theorem dL_box_2 : decode cL_box 2 = .ok (.aload_n 0, 1) := by decide +kernel
theorem dL_box_3 : decode cL_box 3 = .ok (.iload_n 1, 1) := by decide +kernel
theorem dL_box_4 : decode cL_box 4 = .ok (.iload_n 2, 1) := by decide +kernel
theorem dL_box_5 : decode cL_box 5 = .ok (.invokevirtual 43, 3) := by decide +kernel
theorem dL_box_8 : decode cL_box 8 = .ok (.i2l, 1) := by decide +kernel
theorem dL_box_9 : decode cL_box 9 = .ok (.lastore, 1) := by decide +kernel
theorem dL_box_10 : decode cL_box 10 = .ok (.goto 11, 3) := by decide +kernel
theorem dL_box_13 : decode cL_box 13 = .ok (.astore 4, 2) := by decide +kernel
theorem dL_box_15 : decode cL_box 15 = .ok (.iconst 1, 1) := by decide +kernel
theorem dL_box_16 : decode cL_box 16 = .ok (.ireturn, 1) := by decide +kernel
theorem dL_box_17 : decode cL_box 17 = .ok (.astore 4, 2) := by decide +kernel
theorem dL_box_19 : decode cL_box 19 = .ok (.iconst 2, 1) := by decide +kernel
theorem dL_box_20 : decode cL_box 20 = .ok (.ireturn, 1) := by decide +kernel
theorem dL_box_21 : decode cL_box 21 = .ok (.iconst 0, 1) := by decide +kernel
theorem dL_box_22 : decode cL_box 22 = .ok (.ireturn, 1) := by decide +kernel
theorem dL_pass_0 : decode cL_pass 0 = .ok (.aload_n 3, 1) := by decide +kernel
theorem dL_pass_1 : decode cL_pass 1 = .ok (.iconst 0, 1) := by decide +kernel
theorem dL_pass_2 : decode cL_pass 2 = .ok (.aload_n 0, 1) := by decide +kernel
theorem dL_pass_3 : decode cL_pass 3 = .ok (.iload_n 1, 1) := by decide +kernel
theorem dL_pass_4 : decode cL_pass 4 = .ok (.iload_n 2, 1) := by decide +kernel
theorem dL_pass_5 : decode cL_pass 5 = .ok (.invokevirtual 46, 3) := by decide +kernel
theorem dL_pass_8 : decode cL_pass 8 = .ok (.i2l, 1) := by decide +kernel
theorem dL_pass_9 : decode cL_pass 9 = .ok (.lastore, 1) := by decide +kernel
theorem dL_pass_10 : decode cL_pass 10 = .ok (.goto 7, 3) := by decide +kernel
theorem dL_pass_13 : decode cL_pass 13 = .ok (.astore 4, 2) := by decide +kernel
theorem dL_pass_15 : decode cL_pass 15 = .ok (.iconst 1, 1) := by decide +kernel
theorem dL_pass_16 : decode cL_pass 16 = .ok (.ireturn, 1) := by decide +kernel
theorem dL_pass_17 : decode cL_pass 17 = .ok (.iconst 0, 1) := by decide +kernel
theorem dL_pass_18 : decode cL_pass 18 = .ok (.ireturn, 1) := by decide +kernel
theorem dL_told_0 : decode cL_told 0 = .ok (.aload_n 3, 1) := by decide +kernel
theorem dL_told_1 : decode cL_told 1 = .ok (.iconst 0, 1) := by decide +kernel
theorem dL_told_2 : decode cL_told 2 = .ok (.aload_n 0, 1) := by decide +kernel
theorem dL_told_3 : decode cL_told 3 = .ok (.iload_n 1, 1) := by decide +kernel
theorem dL_told_4 : decode cL_told 4 = .ok (.iload_n 2, 1) := by decide +kernel
theorem dL_told_5 : decode cL_told 5 = .ok (.invokevirtual 49, 3) := by decide +kernel
theorem dL_told_8 : decode cL_told 8 = .ok (.i2l, 1) := by decide +kernel
theorem dL_told_9 : decode cL_told 9 = .ok (.lastore, 1) := by decide +kernel
theorem dL_told_10 : decode cL_told 10 = .ok (.goto 7, 3) := by decide +kernel
theorem dL_told_13 : decode cL_told 13 = .ok (.astore 4, 2) := by decide +kernel
theorem dL_told_15 : decode cL_told 15 = .ok (.iconst 1, 1) := by decide +kernel
theorem dL_told_16 : decode cL_told 16 = .ok (.ireturn, 1) := by decide +kernel
theorem dL_told_17 : decode cL_told 17 = .ok (.iconst 0, 1) := by decide +kernel
theorem dL_told_18 : decode cL_told 18 = .ok (.ireturn, 1) := by decide +kernel
theorem dL_about_0 : decode cL_about 0 = .ok (.aload_n 3, 1) := by decide +kernel
theorem dL_about_1 : decode cL_about 1 = .ok (.iconst 0, 1) := by decide +kernel
theorem dL_about_2 : decode cL_about 2 = .ok (.aload_n 0, 1) := by decide +kernel
theorem dL_about_3 : decode cL_about 3 = .ok (.iload_n 1, 1) := by decide +kernel
theorem dL_about_4 : decode cL_about 4 = .ok (.iload_n 2, 1) := by decide +kernel
theorem dL_about_5 : decode cL_about 5 = .ok (.invokevirtual 52, 3) := by decide +kernel
theorem dL_about_8 : decode cL_about 8 = .ok (.i2l, 1) := by decide +kernel
theorem dL_about_9 : decode cL_about 9 = .ok (.lastore, 1) := by decide +kernel
theorem dL_about_10 : decode cL_about 10 = .ok (.goto 7, 3) := by decide +kernel
theorem dL_about_13 : decode cL_about 13 = .ok (.astore 4, 2) := by decide +kernel
theorem dL_about_15 : decode cL_about 15 = .ok (.iconst 1, 1) := by decide +kernel
theorem dL_about_16 : decode cL_about 16 = .ok (.ireturn, 1) := by decide +kernel
theorem dL_about_17 : decode cL_about 17 = .ok (.iconst 0, 1) := by decide +kernel
theorem dL_about_18 : decode cL_about 18 = .ok (.ireturn, 1) := by decide +kernel
theorem dL_order_0 : decode cL_order 0 = .ok (.aload_n 3, 1) := by decide +kernel
theorem dL_order_1 : decode cL_order 1 = .ok (.iconst 0, 1) := by decide +kernel
theorem dL_order_2 : decode cL_order 2 = .ok (.aload_n 0, 1) := by decide +kernel
theorem dL_order_3 : decode cL_order 3 = .ok (.iload_n 1, 1) := by decide +kernel
theorem dL_order_4 : decode cL_order 4 = .ok (.iload_n 2, 1) := by decide +kernel
theorem dL_order_5 : decode cL_order 5 = .ok (.invokevirtual 55, 3) := by decide +kernel
theorem dL_order_8 : decode cL_order 8 = .ok (.i2l, 1) := by decide +kernel
theorem dL_order_9 : decode cL_order 9 = .ok (.lastore, 1) := by decide +kernel
theorem dL_order_10 : decode cL_order 10 = .ok (.goto 7, 3) := by decide +kernel
theorem dL_order_13 : decode cL_order 13 = .ok (.astore 4, 2) := by decide +kernel
theorem dL_order_15 : decode cL_order 15 = .ok (.iconst 1, 1) := by decide +kernel
theorem dL_order_16 : decode cL_order 16 = .ok (.ireturn, 1) := by decide +kernel
theorem dL_order_17 : decode cL_order 17 = .ok (.iconst 0, 1) := by decide +kernel
theorem dL_order_18 : decode cL_order 18 = .ok (.ireturn, 1) := by decide +kernel
theorem dL_count_0 : decode cL_count 0 = .ok (.aload_n 2, 1) := by decide +kernel
theorem dL_count_1 : decode cL_count 1 = .ok (.iconst 0, 1) := by decide +kernel
theorem dL_count_2 : decode cL_count 2 = .ok (.aload_n 0, 1) := by decide +kernel
theorem dL_count_3 : decode cL_count 3 = .ok (.iload_n 1, 1) := by decide +kernel
theorem dL_count_4 : decode cL_count 4 = .ok (.invokevirtual 58, 3) := by decide +kernel
theorem dL_count_7 : decode cL_count 7 = .ok (.i2l, 1) := by decide +kernel
theorem dL_count_8 : decode cL_count 8 = .ok (.lastore, 1) := by decide +kernel
theorem dL_count_9 : decode cL_count 9 = .ok (.goto 6, 3) := by decide +kernel
theorem dL_count_12 : decode cL_count 12 = .ok (.astore_n 3, 1) := by decide +kernel
theorem dL_count_13 : decode cL_count 13 = .ok (.iconst 1, 1) := by decide +kernel
theorem dL_count_14 : decode cL_count 14 = .ok (.ireturn, 1) := by decide +kernel
theorem dL_count_15 : decode cL_count 15 = .ok (.iconst 0, 1) := by decide +kernel
theorem dL_count_16 : decode cL_count 16 = .ok (.ireturn, 1) := by decide +kernel
theorem dL_would_0 : decode cL_would 0 = .ok (.aload 4, 2) := by decide +kernel
theorem dL_would_2 : decode cL_would 2 = .ok (.iconst 0, 1) := by decide +kernel
theorem dL_would_3 : decode cL_would 3 = .ok (.aload_n 0, 1) := by decide +kernel
theorem dL_would_4 : decode cL_would 4 = .ok (.iload_n 1, 1) := by decide +kernel
theorem dL_would_5 : decode cL_would 5 = .ok (.iload_n 2, 1) := by decide +kernel
theorem dL_would_6 : decode cL_would 6 = .ok (.iload_n 3, 1) := by decide +kernel
theorem dL_would_7 : decode cL_would 7 = .ok (.invokevirtual 61, 3) := by decide +kernel
theorem dL_would_10 : decode cL_would 10 = .ok (.i2l, 1) := by decide +kernel
theorem dL_would_11 : decode cL_would 11 = .ok (.lastore, 1) := by decide +kernel
theorem dL_would_12 : decode cL_would 12 = .ok (.goto 11, 3) := by decide +kernel
theorem dL_would_15 : decode cL_would 15 = .ok (.astore 5, 2) := by decide +kernel
theorem dL_would_17 : decode cL_would 17 = .ok (.iconst 1, 1) := by decide +kernel
theorem dL_would_18 : decode cL_would 18 = .ok (.ireturn, 1) := by decide +kernel
theorem dL_would_19 : decode cL_would 19 = .ok (.astore 5, 2) := by decide +kernel
theorem dL_would_21 : decode cL_would 21 = .ok (.iconst 2, 1) := by decide +kernel
theorem dL_would_22 : decode cL_would 22 = .ok (.ireturn, 1) := by decide +kernel
theorem dL_would_23 : decode cL_would 23 = .ok (.iconst 0, 1) := by decide +kernel
theorem dL_would_24 : decode cL_would 24 = .ok (.ireturn, 1) := by decide +kernel
theorem dL_best_0 : decode cL_best 0 = .ok (.aload 4, 2) := by decide +kernel
theorem dL_best_2 : decode cL_best 2 = .ok (.iconst 0, 1) := by decide +kernel
theorem dL_best_3 : decode cL_best 3 = .ok (.aload_n 0, 1) := by decide +kernel
theorem dL_best_4 : decode cL_best 4 = .ok (.iload_n 1, 1) := by decide +kernel
theorem dL_best_5 : decode cL_best 5 = .ok (.iload_n 2, 1) := by decide +kernel
theorem dL_best_6 : decode cL_best 6 = .ok (.iload_n 3, 1) := by decide +kernel
theorem dL_best_7 : decode cL_best 7 = .ok (.invokevirtual 64, 3) := by decide +kernel
theorem dL_best_10 : decode cL_best 10 = .ok (.i2l, 1) := by decide +kernel
theorem dL_best_11 : decode cL_best 11 = .ok (.lastore, 1) := by decide +kernel
theorem dL_best_12 : decode cL_best 12 = .ok (.goto 11, 3) := by decide +kernel
theorem dL_best_15 : decode cL_best 15 = .ok (.astore 5, 2) := by decide +kernel
theorem dL_best_17 : decode cL_best 17 = .ok (.iconst 1, 1) := by decide +kernel
theorem dL_best_18 : decode cL_best 18 = .ok (.ireturn, 1) := by decide +kernel
theorem dL_best_19 : decode cL_best 19 = .ok (.astore 5, 2) := by decide +kernel
theorem dL_best_21 : decode cL_best 21 = .ok (.iconst 2, 1) := by decide +kernel
theorem dL_best_22 : decode cL_best 22 = .ok (.ireturn, 1) := by decide +kernel
theorem dL_best_23 : decode cL_best 23 = .ok (.iconst 0, 1) := by decide +kernel
theorem dL_best_24 : decode cL_best 24 = .ok (.ireturn, 1) := by decide +kernel
theorem dL_until_0 : decode cL_until 0 = .ok (.aload_n 3, 1) := by decide +kernel
theorem dL_until_1 : decode cL_until 1 = .ok (.iconst 0, 1) := by decide +kernel
theorem dL_until_2 : decode cL_until 2 = .ok (.aload_n 0, 1) := by decide +kernel
theorem dL_until_3 : decode cL_until 3 = .ok (.iload_n 1, 1) := by decide +kernel
theorem dL_until_4 : decode cL_until 4 = .ok (.iload_n 2, 1) := by decide +kernel
theorem dL_until_5 : decode cL_until 5 = .ok (.invokevirtual 67, 3) := by decide +kernel
theorem dL_until_8 : decode cL_until 8 = .ok (.i2l, 1) := by decide +kernel
theorem dL_until_9 : decode cL_until 9 = .ok (.lastore, 1) := by decide +kernel
theorem dL_until_10 : decode cL_until 10 = .ok (.goto 11, 3) := by decide +kernel
theorem dL_until_13 : decode cL_until 13 = .ok (.astore 4, 2) := by decide +kernel
theorem dL_until_15 : decode cL_until 15 = .ok (.iconst 1, 1) := by decide +kernel
theorem dL_until_16 : decode cL_until 16 = .ok (.ireturn, 1) := by decide +kernel
theorem dL_until_17 : decode cL_until 17 = .ok (.astore 4, 2) := by decide +kernel
theorem dL_until_19 : decode cL_until 19 = .ok (.iconst 2, 1) := by decide +kernel
theorem dL_until_20 : decode cL_until 20 = .ok (.ireturn, 1) := by decide +kernel
theorem dL_until_21 : decode cL_until 21 = .ok (.iconst 0, 1) := by decide +kernel
theorem dL_until_22 : decode cL_until 22 = .ok (.ireturn, 1) := by decide +kernel
theorem dL_law_0 : decode cL_law 0 = .ok (.new 8, 3) := by decide +kernel
theorem dL_law_3 : decode cL_law 3 = .ok (.dup, 1) := by decide +kernel
theorem dL_law_4 : decode cL_law 4 = .ok (.invokespecial 70, 3) := by decide +kernel
theorem dL_law_7 : decode cL_law 7 = .ok (.astore_n 1, 1) := by decide +kernel
theorem dL_law_8 : decode cL_law 8 = .ok (.new 71, 3) := by decide +kernel
theorem dL_law_11 : decode cL_law 11 = .ok (.dup, 1) := by decide +kernel
theorem dL_law_12 : decode cL_law 12 = .ok (.invokespecial 73, 3) := by decide +kernel
theorem dL_law_15 : decode cL_law 15 = .ok (.astore_n 2, 1) := by decide +kernel
theorem dL_law_16 : decode cL_law 16 = .ok (.iconst 1, 1) := by decide +kernel
theorem dL_law_17 : decode cL_law 17 = .ok (.newarray .long, 2) := by decide +kernel
theorem dL_law_19 : decode cL_law 19 = .ok (.astore_n 3, 1) := by decide +kernel
theorem dL_law_20 : decode cL_law 20 = .ok (.iconst 0, 1) := by decide +kernel
theorem dL_law_21 : decode cL_law 21 = .ok (.istore 4, 2) := by decide +kernel
theorem dL_law_23 : decode cL_law 23 = .ok (.iload 4, 2) := by decide +kernel
theorem dL_law_25 : decode cL_law 25 = .ok (.aload_n 0, 1) := by decide +kernel
theorem dL_law_26 : decode cL_law 26 = .ok (.arraylength, 1) := by decide +kernel
theorem dL_law_27 : decode cL_law 27 = .ok (.iconst 4, 1) := by decide +kernel
theorem dL_law_28 : decode cL_law 28 = .ok (.isub, 1) := by decide +kernel
theorem dL_law_29 : decode cL_law 29 = .ok (.if_icmp .gt 1390, 3) := by decide +kernel
theorem dL_law_32 : decode cL_law 32 = .ok (.aload_n 0, 1) := by decide +kernel
theorem dL_law_33 : decode cL_law 33 = .ok (.iload 4, 2) := by decide +kernel
theorem dL_law_35 : decode cL_law 35 = .ok (.iaload, 1) := by decide +kernel
theorem dL_law_36 : decode cL_law 36 = .ok (.bipush 31, 2) := by decide +kernel
theorem dL_law_38 : decode cL_law 38 = .ok (.iand, 1) := by decide +kernel
theorem dL_law_39 : decode cL_law 39 = .ok (.tableswitch 1374 0 20 #[97, 153, 233, 301, 369, 449, 505, 601, 669, 737, 750, 818, 886, 954, 1022, 1078, 1158, 1238, 1306, 1319, 1360], 97) := by decide +kernel
theorem dL_law_136 : decode cL_law 136 = .ok (.aload_n 1, 1) := by decide +kernel
theorem dL_law_137 : decode cL_law 137 = .ok (.aload_n 0, 1) := by decide +kernel
theorem dL_law_138 : decode cL_law 138 = .ok (.iload 4, 2) := by decide +kernel
theorem dL_law_140 : decode cL_law 140 = .ok (.iconst 1, 1) := by decide +kernel
theorem dL_law_141 : decode cL_law 141 = .ok (.iadd, 1) := by decide +kernel
theorem dL_law_142 : decode cL_law 142 = .ok (.iaload, 1) := by decide +kernel
theorem dL_law_143 : decode cL_law 143 = .ok (.aload_n 3, 1) := by decide +kernel
theorem dL_law_144 : decode cL_law 144 = .ok (.invokestatic 74, 3) := by decide +kernel
theorem dL_law_147 : decode cL_law 147 = .ok (.istore 5, 2) := by decide +kernel
theorem dL_law_149 : decode cL_law 149 = .ok (.aload_n 2, 1) := by decide +kernel
theorem dL_law_150 : decode cL_law 150 = .ok (.aload_n 0, 1) := by decide +kernel
theorem dL_law_151 : decode cL_law 151 = .ok (.iload 4, 2) := by decide +kernel
theorem dL_law_153 : decode cL_law 153 = .ok (.iconst 1, 1) := by decide +kernel
theorem dL_law_154 : decode cL_law 154 = .ok (.iadd, 1) := by decide +kernel
theorem dL_law_155 : decode cL_law 155 = .ok (.iaload, 1) := by decide +kernel
theorem dL_law_156 : decode cL_law 156 = .ok (.invokevirtual 79, 3) := by decide +kernel
theorem dL_law_159 : decode cL_law 159 = .ok (.istore 6, 2) := by decide +kernel
theorem dL_law_161 : decode cL_law 161 = .ok (.aload_n 2, 1) := by decide +kernel
theorem dL_law_162 : decode cL_law 162 = .ok (.invokevirtual 80, 3) := by decide +kernel
theorem dL_law_165 : decode cL_law 165 = .ok (.iload 5, 2) := by decide +kernel
theorem dL_law_167 : decode cL_law 167 = .ok (.if_icmp .eq 5, 3) := by decide +kernel
theorem dL_law_170 : decode cL_law 170 = .ok (.iconst 0, 1) := by decide +kernel
theorem dL_law_171 : decode cL_law 171 = .ok (.ireturn, 1) := by decide +kernel
theorem dL_law_172 : decode cL_law 172 = .ok (.iload 5, 2) := by decide +kernel
theorem dL_law_174 : decode cL_law 174 = .ok (.ifCond .ne 15, 3) := by decide +kernel
theorem dL_law_177 : decode cL_law 177 = .ok (.aload_n 3, 1) := by decide +kernel
theorem dL_law_178 : decode cL_law 178 = .ok (.iconst 0, 1) := by decide +kernel
theorem dL_law_179 : decode cL_law 179 = .ok (.laload, 1) := by decide +kernel
theorem dL_law_180 : decode cL_law 180 = .ok (.iload 6, 2) := by decide +kernel
theorem dL_law_182 : decode cL_law 182 = .ok (.i2l, 1) := by decide +kernel
theorem dL_law_183 : decode cL_law 183 = .ok (.lcmp, 1) := by decide +kernel
theorem dL_law_184 : decode cL_law 184 = .ok (.ifCond .eq 5, 3) := by decide +kernel
theorem dL_law_187 : decode cL_law 187 = .ok (.iconst 0, 1) := by decide +kernel
theorem dL_law_188 : decode cL_law 188 = .ok (.ireturn, 1) := by decide +kernel
theorem dL_law_189 : decode cL_law 189 = .ok (.goto 1224, 3) := by decide +kernel
theorem dL_law_192 : decode cL_law 192 = .ok (.aload_n 1, 1) := by decide +kernel
theorem dL_law_193 : decode cL_law 193 = .ok (.aload_n 0, 1) := by decide +kernel
theorem dL_law_194 : decode cL_law 194 = .ok (.iload 4, 2) := by decide +kernel
theorem dL_law_196 : decode cL_law 196 = .ok (.iconst 1, 1) := by decide +kernel
theorem dL_law_197 : decode cL_law 197 = .ok (.iadd, 1) := by decide +kernel
theorem dL_law_198 : decode cL_law 198 = .ok (.iaload, 1) := by decide +kernel
theorem dL_law_199 : decode cL_law 199 = .ok (.aload_n 0, 1) := by decide +kernel
theorem dL_law_200 : decode cL_law 200 = .ok (.iload 4, 2) := by decide +kernel
theorem dL_law_202 : decode cL_law 202 = .ok (.iconst 2, 1) := by decide +kernel
theorem dL_law_203 : decode cL_law 203 = .ok (.iadd, 1) := by decide +kernel
theorem dL_law_204 : decode cL_law 204 = .ok (.iaload, 1) := by decide +kernel
theorem dL_law_205 : decode cL_law 205 = .ok (.aload_n 0, 1) := by decide +kernel
theorem dL_law_206 : decode cL_law 206 = .ok (.iload 4, 2) := by decide +kernel
theorem dL_law_208 : decode cL_law 208 = .ok (.iconst 3, 1) := by decide +kernel
theorem dL_law_209 : decode cL_law 209 = .ok (.iadd, 1) := by decide +kernel
theorem dL_law_210 : decode cL_law 210 = .ok (.iaload, 1) := by decide +kernel
theorem dL_law_211 : decode cL_law 211 = .ok (.aload_n 3, 1) := by decide +kernel
theorem dL_law_212 : decode cL_law 212 = .ok (.invokestatic 84, 3) := by decide +kernel
theorem dL_law_215 : decode cL_law 215 = .ok (.istore 5, 2) := by decide +kernel
theorem dL_law_217 : decode cL_law 217 = .ok (.aload_n 2, 1) := by decide +kernel
theorem dL_law_218 : decode cL_law 218 = .ok (.aload_n 0, 1) := by decide +kernel
theorem dL_law_219 : decode cL_law 219 = .ok (.iload 4, 2) := by decide +kernel
theorem dL_law_221 : decode cL_law 221 = .ok (.iconst 1, 1) := by decide +kernel
theorem dL_law_222 : decode cL_law 222 = .ok (.iadd, 1) := by decide +kernel
theorem dL_law_223 : decode cL_law 223 = .ok (.iaload, 1) := by decide +kernel
theorem dL_law_224 : decode cL_law 224 = .ok (.aload_n 0, 1) := by decide +kernel
theorem dL_law_225 : decode cL_law 225 = .ok (.iload 4, 2) := by decide +kernel
theorem dL_law_227 : decode cL_law 227 = .ok (.iconst 2, 1) := by decide +kernel
theorem dL_law_228 : decode cL_law 228 = .ok (.iadd, 1) := by decide +kernel
theorem dL_law_229 : decode cL_law 229 = .ok (.iaload, 1) := by decide +kernel
theorem dL_law_230 : decode cL_law 230 = .ok (.aload_n 0, 1) := by decide +kernel
theorem dL_law_231 : decode cL_law 231 = .ok (.iload 4, 2) := by decide +kernel
theorem dL_law_233 : decode cL_law 233 = .ok (.iconst 3, 1) := by decide +kernel
theorem dL_law_234 : decode cL_law 234 = .ok (.iadd, 1) := by decide +kernel
theorem dL_law_235 : decode cL_law 235 = .ok (.iaload, 1) := by decide +kernel
theorem dL_law_236 : decode cL_law 236 = .ok (.invokevirtual 87, 3) := by decide +kernel
theorem dL_law_239 : decode cL_law 239 = .ok (.istore 6, 2) := by decide +kernel
theorem dL_law_241 : decode cL_law 241 = .ok (.aload_n 2, 1) := by decide +kernel
theorem dL_law_242 : decode cL_law 242 = .ok (.invokevirtual 80, 3) := by decide +kernel
theorem dL_law_245 : decode cL_law 245 = .ok (.iload 5, 2) := by decide +kernel
theorem dL_law_247 : decode cL_law 247 = .ok (.if_icmp .eq 5, 3) := by decide +kernel
theorem dL_law_250 : decode cL_law 250 = .ok (.iconst 0, 1) := by decide +kernel
theorem dL_law_251 : decode cL_law 251 = .ok (.ireturn, 1) := by decide +kernel
theorem dL_law_252 : decode cL_law 252 = .ok (.iload 5, 2) := by decide +kernel
theorem dL_law_254 : decode cL_law 254 = .ok (.ifCond .ne 15, 3) := by decide +kernel
theorem dL_law_257 : decode cL_law 257 = .ok (.aload_n 3, 1) := by decide +kernel
theorem dL_law_258 : decode cL_law 258 = .ok (.iconst 0, 1) := by decide +kernel
theorem dL_law_259 : decode cL_law 259 = .ok (.laload, 1) := by decide +kernel
theorem dL_law_260 : decode cL_law 260 = .ok (.iload 6, 2) := by decide +kernel
theorem dL_law_262 : decode cL_law 262 = .ok (.i2l, 1) := by decide +kernel
theorem dL_law_263 : decode cL_law 263 = .ok (.lcmp, 1) := by decide +kernel
theorem dL_law_264 : decode cL_law 264 = .ok (.ifCond .eq 5, 3) := by decide +kernel
theorem dL_law_267 : decode cL_law 267 = .ok (.iconst 0, 1) := by decide +kernel
theorem dL_law_268 : decode cL_law 268 = .ok (.ireturn, 1) := by decide +kernel
theorem dL_law_269 : decode cL_law 269 = .ok (.goto 1144, 3) := by decide +kernel
theorem dL_law_272 : decode cL_law 272 = .ok (.aload_n 1, 1) := by decide +kernel
theorem dL_law_273 : decode cL_law 273 = .ok (.aload_n 0, 1) := by decide +kernel
theorem dL_law_274 : decode cL_law 274 = .ok (.iload 4, 2) := by decide +kernel
theorem dL_law_276 : decode cL_law 276 = .ok (.iconst 1, 1) := by decide +kernel
theorem dL_law_277 : decode cL_law 277 = .ok (.iadd, 1) := by decide +kernel
theorem dL_law_278 : decode cL_law 278 = .ok (.iaload, 1) := by decide +kernel
theorem dL_law_279 : decode cL_law 279 = .ok (.aload_n 0, 1) := by decide +kernel
theorem dL_law_280 : decode cL_law 280 = .ok (.iload 4, 2) := by decide +kernel
theorem dL_law_282 : decode cL_law 282 = .ok (.iconst 2, 1) := by decide +kernel
theorem dL_law_283 : decode cL_law 283 = .ok (.iadd, 1) := by decide +kernel
theorem dL_law_284 : decode cL_law 284 = .ok (.iaload, 1) := by decide +kernel
theorem dL_law_285 : decode cL_law 285 = .ok (.aload_n 3, 1) := by decide +kernel
theorem dL_law_286 : decode cL_law 286 = .ok (.invokestatic 88, 3) := by decide +kernel
theorem dL_law_289 : decode cL_law 289 = .ok (.istore 5, 2) := by decide +kernel
theorem dL_law_291 : decode cL_law 291 = .ok (.aload_n 2, 1) := by decide +kernel
theorem dL_law_292 : decode cL_law 292 = .ok (.aload_n 0, 1) := by decide +kernel
theorem dL_law_293 : decode cL_law 293 = .ok (.iload 4, 2) := by decide +kernel
theorem dL_law_295 : decode cL_law 295 = .ok (.iconst 1, 1) := by decide +kernel
theorem dL_law_296 : decode cL_law 296 = .ok (.iadd, 1) := by decide +kernel
theorem dL_law_297 : decode cL_law 297 = .ok (.iaload, 1) := by decide +kernel
theorem dL_law_298 : decode cL_law 298 = .ok (.aload_n 0, 1) := by decide +kernel
theorem dL_law_299 : decode cL_law 299 = .ok (.iload 4, 2) := by decide +kernel
theorem dL_law_301 : decode cL_law 301 = .ok (.iconst 2, 1) := by decide +kernel
theorem dL_law_302 : decode cL_law 302 = .ok (.iadd, 1) := by decide +kernel
theorem dL_law_303 : decode cL_law 303 = .ok (.iaload, 1) := by decide +kernel
theorem dL_law_304 : decode cL_law 304 = .ok (.invokevirtual 91, 3) := by decide +kernel
theorem dL_law_307 : decode cL_law 307 = .ok (.istore 6, 2) := by decide +kernel
theorem dL_law_309 : decode cL_law 309 = .ok (.aload_n 2, 1) := by decide +kernel
theorem dL_law_310 : decode cL_law 310 = .ok (.invokevirtual 80, 3) := by decide +kernel
theorem dL_law_313 : decode cL_law 313 = .ok (.iload 5, 2) := by decide +kernel
theorem dL_law_315 : decode cL_law 315 = .ok (.if_icmp .eq 5, 3) := by decide +kernel
theorem dL_law_318 : decode cL_law 318 = .ok (.iconst 0, 1) := by decide +kernel
theorem dL_law_319 : decode cL_law 319 = .ok (.ireturn, 1) := by decide +kernel
theorem dL_law_320 : decode cL_law 320 = .ok (.iload 5, 2) := by decide +kernel
theorem dL_law_322 : decode cL_law 322 = .ok (.ifCond .ne 15, 3) := by decide +kernel
theorem dL_law_325 : decode cL_law 325 = .ok (.aload_n 3, 1) := by decide +kernel
theorem dL_law_326 : decode cL_law 326 = .ok (.iconst 0, 1) := by decide +kernel
theorem dL_law_327 : decode cL_law 327 = .ok (.laload, 1) := by decide +kernel
theorem dL_law_328 : decode cL_law 328 = .ok (.iload 6, 2) := by decide +kernel
theorem dL_law_330 : decode cL_law 330 = .ok (.i2l, 1) := by decide +kernel
theorem dL_law_331 : decode cL_law 331 = .ok (.lcmp, 1) := by decide +kernel
theorem dL_law_332 : decode cL_law 332 = .ok (.ifCond .eq 5, 3) := by decide +kernel
theorem dL_law_335 : decode cL_law 335 = .ok (.iconst 0, 1) := by decide +kernel
theorem dL_law_336 : decode cL_law 336 = .ok (.ireturn, 1) := by decide +kernel
theorem dL_law_337 : decode cL_law 337 = .ok (.goto 1076, 3) := by decide +kernel
theorem dL_law_340 : decode cL_law 340 = .ok (.aload_n 1, 1) := by decide +kernel
theorem dL_law_341 : decode cL_law 341 = .ok (.aload_n 0, 1) := by decide +kernel
theorem dL_law_342 : decode cL_law 342 = .ok (.iload 4, 2) := by decide +kernel
theorem dL_law_344 : decode cL_law 344 = .ok (.iconst 1, 1) := by decide +kernel
theorem dL_law_345 : decode cL_law 345 = .ok (.iadd, 1) := by decide +kernel
theorem dL_law_346 : decode cL_law 346 = .ok (.iaload, 1) := by decide +kernel
theorem dL_law_347 : decode cL_law 347 = .ok (.aload_n 0, 1) := by decide +kernel
theorem dL_law_348 : decode cL_law 348 = .ok (.iload 4, 2) := by decide +kernel
theorem dL_law_350 : decode cL_law 350 = .ok (.iconst 2, 1) := by decide +kernel
theorem dL_law_351 : decode cL_law 351 = .ok (.iadd, 1) := by decide +kernel
theorem dL_law_352 : decode cL_law 352 = .ok (.iaload, 1) := by decide +kernel
theorem dL_law_353 : decode cL_law 353 = .ok (.aload_n 3, 1) := by decide +kernel
theorem dL_law_354 : decode cL_law 354 = .ok (.invokestatic 92, 3) := by decide +kernel
theorem dL_law_357 : decode cL_law 357 = .ok (.istore 5, 2) := by decide +kernel
theorem dL_law_359 : decode cL_law 359 = .ok (.aload_n 2, 1) := by decide +kernel
theorem dL_law_360 : decode cL_law 360 = .ok (.aload_n 0, 1) := by decide +kernel
theorem dL_law_361 : decode cL_law 361 = .ok (.iload 4, 2) := by decide +kernel
theorem dL_law_363 : decode cL_law 363 = .ok (.iconst 1, 1) := by decide +kernel
theorem dL_law_364 : decode cL_law 364 = .ok (.iadd, 1) := by decide +kernel
theorem dL_law_365 : decode cL_law 365 = .ok (.iaload, 1) := by decide +kernel
theorem dL_law_366 : decode cL_law 366 = .ok (.aload_n 0, 1) := by decide +kernel
theorem dL_law_367 : decode cL_law 367 = .ok (.iload 4, 2) := by decide +kernel
theorem dL_law_369 : decode cL_law 369 = .ok (.iconst 2, 1) := by decide +kernel
theorem dL_law_370 : decode cL_law 370 = .ok (.iadd, 1) := by decide +kernel
theorem dL_law_371 : decode cL_law 371 = .ok (.iaload, 1) := by decide +kernel
theorem dL_law_372 : decode cL_law 372 = .ok (.invokevirtual 94, 3) := by decide +kernel
theorem dL_law_375 : decode cL_law 375 = .ok (.istore 6, 2) := by decide +kernel
theorem dL_law_377 : decode cL_law 377 = .ok (.aload_n 2, 1) := by decide +kernel
theorem dL_law_378 : decode cL_law 378 = .ok (.invokevirtual 80, 3) := by decide +kernel
theorem dL_law_381 : decode cL_law 381 = .ok (.iload 5, 2) := by decide +kernel
theorem dL_law_383 : decode cL_law 383 = .ok (.if_icmp .eq 5, 3) := by decide +kernel
theorem dL_law_386 : decode cL_law 386 = .ok (.iconst 0, 1) := by decide +kernel
theorem dL_law_387 : decode cL_law 387 = .ok (.ireturn, 1) := by decide +kernel
theorem dL_law_388 : decode cL_law 388 = .ok (.iload 5, 2) := by decide +kernel
theorem dL_law_390 : decode cL_law 390 = .ok (.ifCond .ne 15, 3) := by decide +kernel
theorem dL_law_393 : decode cL_law 393 = .ok (.aload_n 3, 1) := by decide +kernel
theorem dL_law_394 : decode cL_law 394 = .ok (.iconst 0, 1) := by decide +kernel
theorem dL_law_395 : decode cL_law 395 = .ok (.laload, 1) := by decide +kernel
theorem dL_law_396 : decode cL_law 396 = .ok (.iload 6, 2) := by decide +kernel
theorem dL_law_398 : decode cL_law 398 = .ok (.i2l, 1) := by decide +kernel
theorem dL_law_399 : decode cL_law 399 = .ok (.lcmp, 1) := by decide +kernel
theorem dL_law_400 : decode cL_law 400 = .ok (.ifCond .eq 5, 3) := by decide +kernel
theorem dL_law_403 : decode cL_law 403 = .ok (.iconst 0, 1) := by decide +kernel
theorem dL_law_404 : decode cL_law 404 = .ok (.ireturn, 1) := by decide +kernel
theorem dL_law_405 : decode cL_law 405 = .ok (.goto 1008, 3) := by decide +kernel
theorem dL_law_408 : decode cL_law 408 = .ok (.aload_n 1, 1) := by decide +kernel
theorem dL_law_409 : decode cL_law 409 = .ok (.aload_n 0, 1) := by decide +kernel
theorem dL_law_410 : decode cL_law 410 = .ok (.iload 4, 2) := by decide +kernel
theorem dL_law_412 : decode cL_law 412 = .ok (.iconst 1, 1) := by decide +kernel
theorem dL_law_413 : decode cL_law 413 = .ok (.iadd, 1) := by decide +kernel
theorem dL_law_414 : decode cL_law 414 = .ok (.iaload, 1) := by decide +kernel
theorem dL_law_415 : decode cL_law 415 = .ok (.aload_n 0, 1) := by decide +kernel
theorem dL_law_416 : decode cL_law 416 = .ok (.iload 4, 2) := by decide +kernel
theorem dL_law_418 : decode cL_law 418 = .ok (.iconst 2, 1) := by decide +kernel
theorem dL_law_419 : decode cL_law 419 = .ok (.iadd, 1) := by decide +kernel
theorem dL_law_420 : decode cL_law 420 = .ok (.iaload, 1) := by decide +kernel
theorem dL_law_421 : decode cL_law 421 = .ok (.aload_n 0, 1) := by decide +kernel
theorem dL_law_422 : decode cL_law 422 = .ok (.iload 4, 2) := by decide +kernel
theorem dL_law_424 : decode cL_law 424 = .ok (.iconst 3, 1) := by decide +kernel
theorem dL_law_425 : decode cL_law 425 = .ok (.iadd, 1) := by decide +kernel
theorem dL_law_426 : decode cL_law 426 = .ok (.iaload, 1) := by decide +kernel
theorem dL_law_427 : decode cL_law 427 = .ok (.aload_n 3, 1) := by decide +kernel
theorem dL_law_428 : decode cL_law 428 = .ok (.invokestatic 95, 3) := by decide +kernel
theorem dL_law_431 : decode cL_law 431 = .ok (.istore 5, 2) := by decide +kernel
theorem dL_law_433 : decode cL_law 433 = .ok (.aload_n 2, 1) := by decide +kernel
theorem dL_law_434 : decode cL_law 434 = .ok (.aload_n 0, 1) := by decide +kernel
theorem dL_law_435 : decode cL_law 435 = .ok (.iload 4, 2) := by decide +kernel
theorem dL_law_437 : decode cL_law 437 = .ok (.iconst 1, 1) := by decide +kernel
theorem dL_law_438 : decode cL_law 438 = .ok (.iadd, 1) := by decide +kernel
theorem dL_law_439 : decode cL_law 439 = .ok (.iaload, 1) := by decide +kernel
theorem dL_law_440 : decode cL_law 440 = .ok (.aload_n 0, 1) := by decide +kernel
theorem dL_law_441 : decode cL_law 441 = .ok (.iload 4, 2) := by decide +kernel
theorem dL_law_443 : decode cL_law 443 = .ok (.iconst 2, 1) := by decide +kernel
theorem dL_law_444 : decode cL_law 444 = .ok (.iadd, 1) := by decide +kernel
theorem dL_law_445 : decode cL_law 445 = .ok (.iaload, 1) := by decide +kernel
theorem dL_law_446 : decode cL_law 446 = .ok (.aload_n 0, 1) := by decide +kernel
theorem dL_law_447 : decode cL_law 447 = .ok (.iload 4, 2) := by decide +kernel
theorem dL_law_449 : decode cL_law 449 = .ok (.iconst 3, 1) := by decide +kernel
theorem dL_law_450 : decode cL_law 450 = .ok (.iadd, 1) := by decide +kernel
theorem dL_law_451 : decode cL_law 451 = .ok (.iaload, 1) := by decide +kernel
theorem dL_law_452 : decode cL_law 452 = .ok (.invokevirtual 97, 3) := by decide +kernel
theorem dL_law_455 : decode cL_law 455 = .ok (.istore 6, 2) := by decide +kernel
theorem dL_law_457 : decode cL_law 457 = .ok (.aload_n 2, 1) := by decide +kernel
theorem dL_law_458 : decode cL_law 458 = .ok (.invokevirtual 80, 3) := by decide +kernel
theorem dL_law_461 : decode cL_law 461 = .ok (.iload 5, 2) := by decide +kernel
theorem dL_law_463 : decode cL_law 463 = .ok (.if_icmp .eq 5, 3) := by decide +kernel
theorem dL_law_466 : decode cL_law 466 = .ok (.iconst 0, 1) := by decide +kernel
theorem dL_law_467 : decode cL_law 467 = .ok (.ireturn, 1) := by decide +kernel
theorem dL_law_468 : decode cL_law 468 = .ok (.iload 5, 2) := by decide +kernel
theorem dL_law_470 : decode cL_law 470 = .ok (.ifCond .ne 15, 3) := by decide +kernel
theorem dL_law_473 : decode cL_law 473 = .ok (.aload_n 3, 1) := by decide +kernel
theorem dL_law_474 : decode cL_law 474 = .ok (.iconst 0, 1) := by decide +kernel
theorem dL_law_475 : decode cL_law 475 = .ok (.laload, 1) := by decide +kernel
theorem dL_law_476 : decode cL_law 476 = .ok (.iload 6, 2) := by decide +kernel
theorem dL_law_478 : decode cL_law 478 = .ok (.i2l, 1) := by decide +kernel
theorem dL_law_479 : decode cL_law 479 = .ok (.lcmp, 1) := by decide +kernel
theorem dL_law_480 : decode cL_law 480 = .ok (.ifCond .eq 5, 3) := by decide +kernel
theorem dL_law_483 : decode cL_law 483 = .ok (.iconst 0, 1) := by decide +kernel
theorem dL_law_484 : decode cL_law 484 = .ok (.ireturn, 1) := by decide +kernel
theorem dL_law_485 : decode cL_law 485 = .ok (.goto 928, 3) := by decide +kernel
theorem dL_law_488 : decode cL_law 488 = .ok (.aload_n 1, 1) := by decide +kernel
theorem dL_law_489 : decode cL_law 489 = .ok (.aload_n 0, 1) := by decide +kernel
theorem dL_law_490 : decode cL_law 490 = .ok (.iload 4, 2) := by decide +kernel
theorem dL_law_492 : decode cL_law 492 = .ok (.iconst 1, 1) := by decide +kernel
theorem dL_law_493 : decode cL_law 493 = .ok (.iadd, 1) := by decide +kernel
theorem dL_law_494 : decode cL_law 494 = .ok (.iaload, 1) := by decide +kernel
theorem dL_law_495 : decode cL_law 495 = .ok (.aload_n 3, 1) := by decide +kernel
theorem dL_law_496 : decode cL_law 496 = .ok (.invokestatic 98, 3) := by decide +kernel
theorem dL_law_499 : decode cL_law 499 = .ok (.istore 5, 2) := by decide +kernel
theorem dL_law_501 : decode cL_law 501 = .ok (.aload_n 2, 1) := by decide +kernel
theorem dL_law_502 : decode cL_law 502 = .ok (.aload_n 0, 1) := by decide +kernel
theorem dL_law_503 : decode cL_law 503 = .ok (.iload 4, 2) := by decide +kernel
theorem dL_law_505 : decode cL_law 505 = .ok (.iconst 1, 1) := by decide +kernel
theorem dL_law_506 : decode cL_law 506 = .ok (.iadd, 1) := by decide +kernel
theorem dL_law_507 : decode cL_law 507 = .ok (.iaload, 1) := by decide +kernel
theorem dL_law_508 : decode cL_law 508 = .ok (.invokevirtual 100, 3) := by decide +kernel
theorem dL_law_511 : decode cL_law 511 = .ok (.istore 6, 2) := by decide +kernel
theorem dL_law_513 : decode cL_law 513 = .ok (.aload_n 2, 1) := by decide +kernel
theorem dL_law_514 : decode cL_law 514 = .ok (.invokevirtual 80, 3) := by decide +kernel
theorem dL_law_517 : decode cL_law 517 = .ok (.iload 5, 2) := by decide +kernel
theorem dL_law_519 : decode cL_law 519 = .ok (.if_icmp .eq 5, 3) := by decide +kernel
theorem dL_law_522 : decode cL_law 522 = .ok (.iconst 0, 1) := by decide +kernel
theorem dL_law_523 : decode cL_law 523 = .ok (.ireturn, 1) := by decide +kernel
theorem dL_law_524 : decode cL_law 524 = .ok (.iload 5, 2) := by decide +kernel
theorem dL_law_526 : decode cL_law 526 = .ok (.ifCond .ne 15, 3) := by decide +kernel
theorem dL_law_529 : decode cL_law 529 = .ok (.aload_n 3, 1) := by decide +kernel
theorem dL_law_530 : decode cL_law 530 = .ok (.iconst 0, 1) := by decide +kernel
theorem dL_law_531 : decode cL_law 531 = .ok (.laload, 1) := by decide +kernel
theorem dL_law_532 : decode cL_law 532 = .ok (.iload 6, 2) := by decide +kernel
theorem dL_law_534 : decode cL_law 534 = .ok (.i2l, 1) := by decide +kernel
theorem dL_law_535 : decode cL_law 535 = .ok (.lcmp, 1) := by decide +kernel
theorem dL_law_536 : decode cL_law 536 = .ok (.ifCond .eq 5, 3) := by decide +kernel
theorem dL_law_539 : decode cL_law 539 = .ok (.iconst 0, 1) := by decide +kernel
theorem dL_law_540 : decode cL_law 540 = .ok (.ireturn, 1) := by decide +kernel
theorem dL_law_541 : decode cL_law 541 = .ok (.goto 872, 3) := by decide +kernel
theorem dL_law_544 : decode cL_law 544 = .ok (.aload_n 1, 1) := by decide +kernel
theorem dL_law_545 : decode cL_law 545 = .ok (.aload_n 0, 1) := by decide +kernel
theorem dL_law_546 : decode cL_law 546 = .ok (.iload 4, 2) := by decide +kernel
theorem dL_law_548 : decode cL_law 548 = .ok (.iconst 1, 1) := by decide +kernel
theorem dL_law_549 : decode cL_law 549 = .ok (.iadd, 1) := by decide +kernel
theorem dL_law_550 : decode cL_law 550 = .ok (.iaload, 1) := by decide +kernel
theorem dL_law_551 : decode cL_law 551 = .ok (.aload_n 0, 1) := by decide +kernel
theorem dL_law_552 : decode cL_law 552 = .ok (.iload 4, 2) := by decide +kernel
theorem dL_law_554 : decode cL_law 554 = .ok (.iconst 2, 1) := by decide +kernel
theorem dL_law_555 : decode cL_law 555 = .ok (.iadd, 1) := by decide +kernel
theorem dL_law_556 : decode cL_law 556 = .ok (.iaload, 1) := by decide +kernel
theorem dL_law_557 : decode cL_law 557 = .ok (.aload_n 0, 1) := by decide +kernel
theorem dL_law_558 : decode cL_law 558 = .ok (.iload 4, 2) := by decide +kernel
theorem dL_law_560 : decode cL_law 560 = .ok (.iconst 3, 1) := by decide +kernel
theorem dL_law_561 : decode cL_law 561 = .ok (.iadd, 1) := by decide +kernel
theorem dL_law_562 : decode cL_law 562 = .ok (.iaload, 1) := by decide +kernel
theorem dL_law_563 : decode cL_law 563 = .ok (.ifCond .eq 7, 3) := by decide +kernel
theorem dL_law_566 : decode cL_law 566 = .ok (.iconst 1, 1) := by decide +kernel
theorem dL_law_567 : decode cL_law 567 = .ok (.goto 4, 3) := by decide +kernel
theorem dL_law_570 : decode cL_law 570 = .ok (.iconst 0, 1) := by decide +kernel
theorem dL_law_571 : decode cL_law 571 = .ok (.aload_n 3, 1) := by decide +kernel
theorem dL_law_572 : decode cL_law 572 = .ok (.invokestatic 101, 3) := by decide +kernel
theorem dL_law_575 : decode cL_law 575 = .ok (.istore 5, 2) := by decide +kernel
theorem dL_law_577 : decode cL_law 577 = .ok (.aload_n 2, 1) := by decide +kernel
theorem dL_law_578 : decode cL_law 578 = .ok (.aload_n 0, 1) := by decide +kernel
theorem dL_law_579 : decode cL_law 579 = .ok (.iload 4, 2) := by decide +kernel
theorem dL_law_581 : decode cL_law 581 = .ok (.iconst 1, 1) := by decide +kernel
theorem dL_law_582 : decode cL_law 582 = .ok (.iadd, 1) := by decide +kernel
theorem dL_law_583 : decode cL_law 583 = .ok (.iaload, 1) := by decide +kernel
theorem dL_law_584 : decode cL_law 584 = .ok (.aload_n 0, 1) := by decide +kernel
theorem dL_law_585 : decode cL_law 585 = .ok (.iload 4, 2) := by decide +kernel
theorem dL_law_587 : decode cL_law 587 = .ok (.iconst 2, 1) := by decide +kernel
theorem dL_law_588 : decode cL_law 588 = .ok (.iadd, 1) := by decide +kernel
theorem dL_law_589 : decode cL_law 589 = .ok (.iaload, 1) := by decide +kernel
theorem dL_law_590 : decode cL_law 590 = .ok (.aload_n 0, 1) := by decide +kernel
theorem dL_law_591 : decode cL_law 591 = .ok (.iload 4, 2) := by decide +kernel
theorem dL_law_593 : decode cL_law 593 = .ok (.iconst 3, 1) := by decide +kernel
theorem dL_law_594 : decode cL_law 594 = .ok (.iadd, 1) := by decide +kernel
theorem dL_law_595 : decode cL_law 595 = .ok (.iaload, 1) := by decide +kernel
theorem dL_law_596 : decode cL_law 596 = .ok (.ifCond .eq 7, 3) := by decide +kernel
theorem dL_law_599 : decode cL_law 599 = .ok (.iconst 1, 1) := by decide +kernel
theorem dL_law_600 : decode cL_law 600 = .ok (.goto 4, 3) := by decide +kernel
theorem dL_law_603 : decode cL_law 603 = .ok (.iconst 0, 1) := by decide +kernel
theorem dL_law_604 : decode cL_law 604 = .ok (.invokevirtual 104, 3) := by decide +kernel
theorem dL_law_607 : decode cL_law 607 = .ok (.istore 6, 2) := by decide +kernel
theorem dL_law_609 : decode cL_law 609 = .ok (.aload_n 2, 1) := by decide +kernel
theorem dL_law_610 : decode cL_law 610 = .ok (.invokevirtual 80, 3) := by decide +kernel
theorem dL_law_613 : decode cL_law 613 = .ok (.iload 5, 2) := by decide +kernel
theorem dL_law_615 : decode cL_law 615 = .ok (.if_icmp .eq 5, 3) := by decide +kernel
theorem dL_law_618 : decode cL_law 618 = .ok (.iconst 0, 1) := by decide +kernel
theorem dL_law_619 : decode cL_law 619 = .ok (.ireturn, 1) := by decide +kernel
theorem dL_law_620 : decode cL_law 620 = .ok (.iload 5, 2) := by decide +kernel
theorem dL_law_622 : decode cL_law 622 = .ok (.ifCond .ne 15, 3) := by decide +kernel
theorem dL_law_625 : decode cL_law 625 = .ok (.aload_n 3, 1) := by decide +kernel
theorem dL_law_626 : decode cL_law 626 = .ok (.iconst 0, 1) := by decide +kernel
theorem dL_law_627 : decode cL_law 627 = .ok (.laload, 1) := by decide +kernel
theorem dL_law_628 : decode cL_law 628 = .ok (.iload 6, 2) := by decide +kernel
theorem dL_law_630 : decode cL_law 630 = .ok (.i2l, 1) := by decide +kernel
theorem dL_law_631 : decode cL_law 631 = .ok (.lcmp, 1) := by decide +kernel
theorem dL_law_632 : decode cL_law 632 = .ok (.ifCond .eq 5, 3) := by decide +kernel
theorem dL_law_635 : decode cL_law 635 = .ok (.iconst 0, 1) := by decide +kernel
theorem dL_law_636 : decode cL_law 636 = .ok (.ireturn, 1) := by decide +kernel
theorem dL_law_637 : decode cL_law 637 = .ok (.goto 776, 3) := by decide +kernel
theorem dL_law_640 : decode cL_law 640 = .ok (.aload_n 1, 1) := by decide +kernel
theorem dL_law_641 : decode cL_law 641 = .ok (.aload_n 0, 1) := by decide +kernel
theorem dL_law_642 : decode cL_law 642 = .ok (.iload 4, 2) := by decide +kernel
theorem dL_law_644 : decode cL_law 644 = .ok (.iconst 1, 1) := by decide +kernel
theorem dL_law_645 : decode cL_law 645 = .ok (.iadd, 1) := by decide +kernel
theorem dL_law_646 : decode cL_law 646 = .ok (.iaload, 1) := by decide +kernel
theorem dL_law_647 : decode cL_law 647 = .ok (.aload_n 0, 1) := by decide +kernel
theorem dL_law_648 : decode cL_law 648 = .ok (.iload 4, 2) := by decide +kernel
theorem dL_law_650 : decode cL_law 650 = .ok (.iconst 2, 1) := by decide +kernel
theorem dL_law_651 : decode cL_law 651 = .ok (.iadd, 1) := by decide +kernel
theorem dL_law_652 : decode cL_law 652 = .ok (.iaload, 1) := by decide +kernel
theorem dL_law_653 : decode cL_law 653 = .ok (.aload_n 3, 1) := by decide +kernel
theorem dL_law_654 : decode cL_law 654 = .ok (.invokestatic 105, 3) := by decide +kernel
theorem dL_law_657 : decode cL_law 657 = .ok (.istore 5, 2) := by decide +kernel
theorem dL_law_659 : decode cL_law 659 = .ok (.aload_n 2, 1) := by decide +kernel
theorem dL_law_660 : decode cL_law 660 = .ok (.aload_n 0, 1) := by decide +kernel
theorem dL_law_661 : decode cL_law 661 = .ok (.iload 4, 2) := by decide +kernel
theorem dL_law_663 : decode cL_law 663 = .ok (.iconst 1, 1) := by decide +kernel
theorem dL_law_664 : decode cL_law 664 = .ok (.iadd, 1) := by decide +kernel
theorem dL_law_665 : decode cL_law 665 = .ok (.iaload, 1) := by decide +kernel
theorem dL_law_666 : decode cL_law 666 = .ok (.aload_n 0, 1) := by decide +kernel
theorem dL_law_667 : decode cL_law 667 = .ok (.iload 4, 2) := by decide +kernel
theorem dL_law_669 : decode cL_law 669 = .ok (.iconst 2, 1) := by decide +kernel
theorem dL_law_670 : decode cL_law 670 = .ok (.iadd, 1) := by decide +kernel
theorem dL_law_671 : decode cL_law 671 = .ok (.iaload, 1) := by decide +kernel
theorem dL_law_672 : decode cL_law 672 = .ok (.invokevirtual 107, 3) := by decide +kernel
theorem dL_law_675 : decode cL_law 675 = .ok (.istore 6, 2) := by decide +kernel
theorem dL_law_677 : decode cL_law 677 = .ok (.aload_n 2, 1) := by decide +kernel
theorem dL_law_678 : decode cL_law 678 = .ok (.invokevirtual 80, 3) := by decide +kernel
theorem dL_law_681 : decode cL_law 681 = .ok (.iload 5, 2) := by decide +kernel
theorem dL_law_683 : decode cL_law 683 = .ok (.if_icmp .eq 5, 3) := by decide +kernel
theorem dL_law_686 : decode cL_law 686 = .ok (.iconst 0, 1) := by decide +kernel
theorem dL_law_687 : decode cL_law 687 = .ok (.ireturn, 1) := by decide +kernel
theorem dL_law_688 : decode cL_law 688 = .ok (.iload 5, 2) := by decide +kernel
theorem dL_law_690 : decode cL_law 690 = .ok (.ifCond .ne 15, 3) := by decide +kernel
theorem dL_law_693 : decode cL_law 693 = .ok (.aload_n 3, 1) := by decide +kernel
theorem dL_law_694 : decode cL_law 694 = .ok (.iconst 0, 1) := by decide +kernel
theorem dL_law_695 : decode cL_law 695 = .ok (.laload, 1) := by decide +kernel
theorem dL_law_696 : decode cL_law 696 = .ok (.iload 6, 2) := by decide +kernel
theorem dL_law_698 : decode cL_law 698 = .ok (.i2l, 1) := by decide +kernel
theorem dL_law_699 : decode cL_law 699 = .ok (.lcmp, 1) := by decide +kernel
theorem dL_law_700 : decode cL_law 700 = .ok (.ifCond .eq 5, 3) := by decide +kernel
theorem dL_law_703 : decode cL_law 703 = .ok (.iconst 0, 1) := by decide +kernel
theorem dL_law_704 : decode cL_law 704 = .ok (.ireturn, 1) := by decide +kernel
theorem dL_law_705 : decode cL_law 705 = .ok (.goto 708, 3) := by decide +kernel
theorem dL_law_708 : decode cL_law 708 = .ok (.aload_n 1, 1) := by decide +kernel
theorem dL_law_709 : decode cL_law 709 = .ok (.aload_n 0, 1) := by decide +kernel
theorem dL_law_710 : decode cL_law 710 = .ok (.iload 4, 2) := by decide +kernel
theorem dL_law_712 : decode cL_law 712 = .ok (.iconst 1, 1) := by decide +kernel
theorem dL_law_713 : decode cL_law 713 = .ok (.iadd, 1) := by decide +kernel
theorem dL_law_714 : decode cL_law 714 = .ok (.iaload, 1) := by decide +kernel
theorem dL_law_715 : decode cL_law 715 = .ok (.aload_n 0, 1) := by decide +kernel
theorem dL_law_716 : decode cL_law 716 = .ok (.iload 4, 2) := by decide +kernel
theorem dL_law_718 : decode cL_law 718 = .ok (.iconst 2, 1) := by decide +kernel
theorem dL_law_719 : decode cL_law 719 = .ok (.iadd, 1) := by decide +kernel
theorem dL_law_720 : decode cL_law 720 = .ok (.iaload, 1) := by decide +kernel
theorem dL_law_721 : decode cL_law 721 = .ok (.aload_n 3, 1) := by decide +kernel
theorem dL_law_722 : decode cL_law 722 = .ok (.invokestatic 108, 3) := by decide +kernel
theorem dL_law_725 : decode cL_law 725 = .ok (.istore 5, 2) := by decide +kernel
theorem dL_law_727 : decode cL_law 727 = .ok (.aload_n 2, 1) := by decide +kernel
theorem dL_law_728 : decode cL_law 728 = .ok (.aload_n 0, 1) := by decide +kernel
theorem dL_law_729 : decode cL_law 729 = .ok (.iload 4, 2) := by decide +kernel
theorem dL_law_731 : decode cL_law 731 = .ok (.iconst 1, 1) := by decide +kernel
theorem dL_law_732 : decode cL_law 732 = .ok (.iadd, 1) := by decide +kernel
theorem dL_law_733 : decode cL_law 733 = .ok (.iaload, 1) := by decide +kernel
theorem dL_law_734 : decode cL_law 734 = .ok (.aload_n 0, 1) := by decide +kernel
theorem dL_law_735 : decode cL_law 735 = .ok (.iload 4, 2) := by decide +kernel
theorem dL_law_737 : decode cL_law 737 = .ok (.iconst 2, 1) := by decide +kernel
theorem dL_law_738 : decode cL_law 738 = .ok (.iadd, 1) := by decide +kernel
theorem dL_law_739 : decode cL_law 739 = .ok (.iaload, 1) := by decide +kernel
theorem dL_law_740 : decode cL_law 740 = .ok (.invokevirtual 110, 3) := by decide +kernel
theorem dL_law_743 : decode cL_law 743 = .ok (.istore 6, 2) := by decide +kernel
theorem dL_law_745 : decode cL_law 745 = .ok (.aload_n 2, 1) := by decide +kernel
theorem dL_law_746 : decode cL_law 746 = .ok (.invokevirtual 80, 3) := by decide +kernel
theorem dL_law_749 : decode cL_law 749 = .ok (.iload 5, 2) := by decide +kernel
theorem dL_law_751 : decode cL_law 751 = .ok (.if_icmp .eq 5, 3) := by decide +kernel
theorem dL_law_754 : decode cL_law 754 = .ok (.iconst 0, 1) := by decide +kernel
theorem dL_law_755 : decode cL_law 755 = .ok (.ireturn, 1) := by decide +kernel
theorem dL_law_756 : decode cL_law 756 = .ok (.iload 5, 2) := by decide +kernel
theorem dL_law_758 : decode cL_law 758 = .ok (.ifCond .ne 15, 3) := by decide +kernel
theorem dL_law_761 : decode cL_law 761 = .ok (.aload_n 3, 1) := by decide +kernel
theorem dL_law_762 : decode cL_law 762 = .ok (.iconst 0, 1) := by decide +kernel
theorem dL_law_763 : decode cL_law 763 = .ok (.laload, 1) := by decide +kernel
theorem dL_law_764 : decode cL_law 764 = .ok (.iload 6, 2) := by decide +kernel
theorem dL_law_766 : decode cL_law 766 = .ok (.i2l, 1) := by decide +kernel
theorem dL_law_767 : decode cL_law 767 = .ok (.lcmp, 1) := by decide +kernel
theorem dL_law_768 : decode cL_law 768 = .ok (.ifCond .eq 5, 3) := by decide +kernel
theorem dL_law_771 : decode cL_law 771 = .ok (.iconst 0, 1) := by decide +kernel
theorem dL_law_772 : decode cL_law 772 = .ok (.ireturn, 1) := by decide +kernel
theorem dL_law_773 : decode cL_law 773 = .ok (.goto 640, 3) := by decide +kernel
theorem dL_law_776 : decode cL_law 776 = .ok (.aload_n 1, 1) := by decide +kernel
theorem dL_law_777 : decode cL_law 777 = .ok (.invokevirtual 111, 3) := by decide +kernel
theorem dL_law_780 : decode cL_law 780 = .ok (.aload_n 2, 1) := by decide +kernel
theorem dL_law_781 : decode cL_law 781 = .ok (.invokevirtual 114, 3) := by decide +kernel
theorem dL_law_784 : decode cL_law 784 = .ok (.if_icmp .eq 629, 3) := by decide +kernel
theorem dL_law_787 : decode cL_law 787 = .ok (.iconst 0, 1) := by decide +kernel
theorem dL_law_788 : decode cL_law 788 = .ok (.ireturn, 1) := by decide +kernel
theorem dL_law_789 : decode cL_law 789 = .ok (.aload_n 1, 1) := by decide +kernel
theorem dL_law_790 : decode cL_law 790 = .ok (.aload_n 0, 1) := by decide +kernel
theorem dL_law_791 : decode cL_law 791 = .ok (.iload 4, 2) := by decide +kernel
theorem dL_law_793 : decode cL_law 793 = .ok (.iconst 1, 1) := by decide +kernel
theorem dL_law_794 : decode cL_law 794 = .ok (.iadd, 1) := by decide +kernel
theorem dL_law_795 : decode cL_law 795 = .ok (.iaload, 1) := by decide +kernel
theorem dL_law_796 : decode cL_law 796 = .ok (.aload_n 0, 1) := by decide +kernel
theorem dL_law_797 : decode cL_law 797 = .ok (.iload 4, 2) := by decide +kernel
theorem dL_law_799 : decode cL_law 799 = .ok (.iconst 2, 1) := by decide +kernel
theorem dL_law_800 : decode cL_law 800 = .ok (.iadd, 1) := by decide +kernel
theorem dL_law_801 : decode cL_law 801 = .ok (.iaload, 1) := by decide +kernel
theorem dL_law_802 : decode cL_law 802 = .ok (.aload_n 3, 1) := by decide +kernel
theorem dL_law_803 : decode cL_law 803 = .ok (.invokestatic 115, 3) := by decide +kernel
theorem dL_law_806 : decode cL_law 806 = .ok (.istore 5, 2) := by decide +kernel
theorem dL_law_808 : decode cL_law 808 = .ok (.aload_n 2, 1) := by decide +kernel
theorem dL_law_809 : decode cL_law 809 = .ok (.aload_n 0, 1) := by decide +kernel
theorem dL_law_810 : decode cL_law 810 = .ok (.iload 4, 2) := by decide +kernel
theorem dL_law_812 : decode cL_law 812 = .ok (.iconst 1, 1) := by decide +kernel
theorem dL_law_813 : decode cL_law 813 = .ok (.iadd, 1) := by decide +kernel
theorem dL_law_814 : decode cL_law 814 = .ok (.iaload, 1) := by decide +kernel
theorem dL_law_815 : decode cL_law 815 = .ok (.aload_n 0, 1) := by decide +kernel
theorem dL_law_816 : decode cL_law 816 = .ok (.iload 4, 2) := by decide +kernel
theorem dL_law_818 : decode cL_law 818 = .ok (.iconst 2, 1) := by decide +kernel
theorem dL_law_819 : decode cL_law 819 = .ok (.iadd, 1) := by decide +kernel
theorem dL_law_820 : decode cL_law 820 = .ok (.iaload, 1) := by decide +kernel
theorem dL_law_821 : decode cL_law 821 = .ok (.invokevirtual 117, 3) := by decide +kernel
theorem dL_law_824 : decode cL_law 824 = .ok (.istore 6, 2) := by decide +kernel
theorem dL_law_826 : decode cL_law 826 = .ok (.aload_n 2, 1) := by decide +kernel
theorem dL_law_827 : decode cL_law 827 = .ok (.invokevirtual 80, 3) := by decide +kernel
theorem dL_law_830 : decode cL_law 830 = .ok (.iload 5, 2) := by decide +kernel
theorem dL_law_832 : decode cL_law 832 = .ok (.if_icmp .eq 5, 3) := by decide +kernel
theorem dL_law_835 : decode cL_law 835 = .ok (.iconst 0, 1) := by decide +kernel
theorem dL_law_836 : decode cL_law 836 = .ok (.ireturn, 1) := by decide +kernel
theorem dL_law_837 : decode cL_law 837 = .ok (.iload 5, 2) := by decide +kernel
theorem dL_law_839 : decode cL_law 839 = .ok (.ifCond .ne 15, 3) := by decide +kernel
theorem dL_law_842 : decode cL_law 842 = .ok (.aload_n 3, 1) := by decide +kernel
theorem dL_law_843 : decode cL_law 843 = .ok (.iconst 0, 1) := by decide +kernel
theorem dL_law_844 : decode cL_law 844 = .ok (.laload, 1) := by decide +kernel
theorem dL_law_845 : decode cL_law 845 = .ok (.iload 6, 2) := by decide +kernel
theorem dL_law_847 : decode cL_law 847 = .ok (.i2l, 1) := by decide +kernel
theorem dL_law_848 : decode cL_law 848 = .ok (.lcmp, 1) := by decide +kernel
theorem dL_law_849 : decode cL_law 849 = .ok (.ifCond .eq 5, 3) := by decide +kernel
theorem dL_law_852 : decode cL_law 852 = .ok (.iconst 0, 1) := by decide +kernel
theorem dL_law_853 : decode cL_law 853 = .ok (.ireturn, 1) := by decide +kernel
theorem dL_law_854 : decode cL_law 854 = .ok (.goto 559, 3) := by decide +kernel
theorem dL_law_857 : decode cL_law 857 = .ok (.aload_n 1, 1) := by decide +kernel
theorem dL_law_858 : decode cL_law 858 = .ok (.aload_n 0, 1) := by decide +kernel
theorem dL_law_859 : decode cL_law 859 = .ok (.iload 4, 2) := by decide +kernel
theorem dL_law_861 : decode cL_law 861 = .ok (.iconst 1, 1) := by decide +kernel
theorem dL_law_862 : decode cL_law 862 = .ok (.iadd, 1) := by decide +kernel
theorem dL_law_863 : decode cL_law 863 = .ok (.iaload, 1) := by decide +kernel
theorem dL_law_864 : decode cL_law 864 = .ok (.aload_n 0, 1) := by decide +kernel
theorem dL_law_865 : decode cL_law 865 = .ok (.iload 4, 2) := by decide +kernel
theorem dL_law_867 : decode cL_law 867 = .ok (.iconst 2, 1) := by decide +kernel
theorem dL_law_868 : decode cL_law 868 = .ok (.iadd, 1) := by decide +kernel
theorem dL_law_869 : decode cL_law 869 = .ok (.iaload, 1) := by decide +kernel
theorem dL_law_870 : decode cL_law 870 = .ok (.aload_n 3, 1) := by decide +kernel
theorem dL_law_871 : decode cL_law 871 = .ok (.invokestatic 118, 3) := by decide +kernel
theorem dL_law_874 : decode cL_law 874 = .ok (.istore 5, 2) := by decide +kernel
theorem dL_law_876 : decode cL_law 876 = .ok (.aload_n 2, 1) := by decide +kernel
theorem dL_law_877 : decode cL_law 877 = .ok (.aload_n 0, 1) := by decide +kernel
theorem dL_law_878 : decode cL_law 878 = .ok (.iload 4, 2) := by decide +kernel
theorem dL_law_880 : decode cL_law 880 = .ok (.iconst 1, 1) := by decide +kernel
theorem dL_law_881 : decode cL_law 881 = .ok (.iadd, 1) := by decide +kernel
theorem dL_law_882 : decode cL_law 882 = .ok (.iaload, 1) := by decide +kernel
theorem dL_law_883 : decode cL_law 883 = .ok (.aload_n 0, 1) := by decide +kernel
theorem dL_law_884 : decode cL_law 884 = .ok (.iload 4, 2) := by decide +kernel
theorem dL_law_886 : decode cL_law 886 = .ok (.iconst 2, 1) := by decide +kernel
theorem dL_law_887 : decode cL_law 887 = .ok (.iadd, 1) := by decide +kernel
theorem dL_law_888 : decode cL_law 888 = .ok (.iaload, 1) := by decide +kernel
theorem dL_law_889 : decode cL_law 889 = .ok (.invokevirtual 120, 3) := by decide +kernel
theorem dL_law_892 : decode cL_law 892 = .ok (.istore 6, 2) := by decide +kernel
theorem dL_law_894 : decode cL_law 894 = .ok (.aload_n 2, 1) := by decide +kernel
theorem dL_law_895 : decode cL_law 895 = .ok (.invokevirtual 80, 3) := by decide +kernel
theorem dL_law_898 : decode cL_law 898 = .ok (.iload 5, 2) := by decide +kernel
theorem dL_law_900 : decode cL_law 900 = .ok (.if_icmp .eq 5, 3) := by decide +kernel
theorem dL_law_903 : decode cL_law 903 = .ok (.iconst 0, 1) := by decide +kernel
theorem dL_law_904 : decode cL_law 904 = .ok (.ireturn, 1) := by decide +kernel
theorem dL_law_905 : decode cL_law 905 = .ok (.iload 5, 2) := by decide +kernel
theorem dL_law_907 : decode cL_law 907 = .ok (.ifCond .ne 15, 3) := by decide +kernel
theorem dL_law_910 : decode cL_law 910 = .ok (.aload_n 3, 1) := by decide +kernel
theorem dL_law_911 : decode cL_law 911 = .ok (.iconst 0, 1) := by decide +kernel
theorem dL_law_912 : decode cL_law 912 = .ok (.laload, 1) := by decide +kernel
theorem dL_law_913 : decode cL_law 913 = .ok (.iload 6, 2) := by decide +kernel
theorem dL_law_915 : decode cL_law 915 = .ok (.i2l, 1) := by decide +kernel
theorem dL_law_916 : decode cL_law 916 = .ok (.lcmp, 1) := by decide +kernel
theorem dL_law_917 : decode cL_law 917 = .ok (.ifCond .eq 5, 3) := by decide +kernel
theorem dL_law_920 : decode cL_law 920 = .ok (.iconst 0, 1) := by decide +kernel
theorem dL_law_921 : decode cL_law 921 = .ok (.ireturn, 1) := by decide +kernel
theorem dL_law_922 : decode cL_law 922 = .ok (.goto 491, 3) := by decide +kernel
theorem dL_law_925 : decode cL_law 925 = .ok (.aload_n 1, 1) := by decide +kernel
theorem dL_law_926 : decode cL_law 926 = .ok (.aload_n 0, 1) := by decide +kernel
theorem dL_law_927 : decode cL_law 927 = .ok (.iload 4, 2) := by decide +kernel
theorem dL_law_929 : decode cL_law 929 = .ok (.iconst 1, 1) := by decide +kernel
theorem dL_law_930 : decode cL_law 930 = .ok (.iadd, 1) := by decide +kernel
theorem dL_law_931 : decode cL_law 931 = .ok (.iaload, 1) := by decide +kernel
theorem dL_law_932 : decode cL_law 932 = .ok (.aload_n 0, 1) := by decide +kernel
theorem dL_law_933 : decode cL_law 933 = .ok (.iload 4, 2) := by decide +kernel
theorem dL_law_935 : decode cL_law 935 = .ok (.iconst 2, 1) := by decide +kernel
theorem dL_law_936 : decode cL_law 936 = .ok (.iadd, 1) := by decide +kernel
theorem dL_law_937 : decode cL_law 937 = .ok (.iaload, 1) := by decide +kernel
theorem dL_law_938 : decode cL_law 938 = .ok (.aload_n 3, 1) := by decide +kernel
theorem dL_law_939 : decode cL_law 939 = .ok (.invokestatic 121, 3) := by decide +kernel
theorem dL_law_942 : decode cL_law 942 = .ok (.istore 5, 2) := by decide +kernel
theorem dL_law_944 : decode cL_law 944 = .ok (.aload_n 2, 1) := by decide +kernel
theorem dL_law_945 : decode cL_law 945 = .ok (.aload_n 0, 1) := by decide +kernel
theorem dL_law_946 : decode cL_law 946 = .ok (.iload 4, 2) := by decide +kernel
theorem dL_law_948 : decode cL_law 948 = .ok (.iconst 1, 1) := by decide +kernel
theorem dL_law_949 : decode cL_law 949 = .ok (.iadd, 1) := by decide +kernel
theorem dL_law_950 : decode cL_law 950 = .ok (.iaload, 1) := by decide +kernel
theorem dL_law_951 : decode cL_law 951 = .ok (.aload_n 0, 1) := by decide +kernel
theorem dL_law_952 : decode cL_law 952 = .ok (.iload 4, 2) := by decide +kernel
theorem dL_law_954 : decode cL_law 954 = .ok (.iconst 2, 1) := by decide +kernel
theorem dL_law_955 : decode cL_law 955 = .ok (.iadd, 1) := by decide +kernel
theorem dL_law_956 : decode cL_law 956 = .ok (.iaload, 1) := by decide +kernel
theorem dL_law_957 : decode cL_law 957 = .ok (.invokevirtual 123, 3) := by decide +kernel
theorem dL_law_960 : decode cL_law 960 = .ok (.istore 6, 2) := by decide +kernel
theorem dL_law_962 : decode cL_law 962 = .ok (.aload_n 2, 1) := by decide +kernel
theorem dL_law_963 : decode cL_law 963 = .ok (.invokevirtual 80, 3) := by decide +kernel
theorem dL_law_966 : decode cL_law 966 = .ok (.iload 5, 2) := by decide +kernel
theorem dL_law_968 : decode cL_law 968 = .ok (.if_icmp .eq 5, 3) := by decide +kernel
theorem dL_law_971 : decode cL_law 971 = .ok (.iconst 0, 1) := by decide +kernel
theorem dL_law_972 : decode cL_law 972 = .ok (.ireturn, 1) := by decide +kernel
theorem dL_law_973 : decode cL_law 973 = .ok (.iload 5, 2) := by decide +kernel
theorem dL_law_975 : decode cL_law 975 = .ok (.ifCond .ne 15, 3) := by decide +kernel
theorem dL_law_978 : decode cL_law 978 = .ok (.aload_n 3, 1) := by decide +kernel
theorem dL_law_979 : decode cL_law 979 = .ok (.iconst 0, 1) := by decide +kernel
theorem dL_law_980 : decode cL_law 980 = .ok (.laload, 1) := by decide +kernel
theorem dL_law_981 : decode cL_law 981 = .ok (.iload 6, 2) := by decide +kernel
theorem dL_law_983 : decode cL_law 983 = .ok (.i2l, 1) := by decide +kernel
theorem dL_law_984 : decode cL_law 984 = .ok (.lcmp, 1) := by decide +kernel
theorem dL_law_985 : decode cL_law 985 = .ok (.ifCond .eq 5, 3) := by decide +kernel
theorem dL_law_988 : decode cL_law 988 = .ok (.iconst 0, 1) := by decide +kernel
theorem dL_law_989 : decode cL_law 989 = .ok (.ireturn, 1) := by decide +kernel
theorem dL_law_990 : decode cL_law 990 = .ok (.goto 423, 3) := by decide +kernel
theorem dL_law_993 : decode cL_law 993 = .ok (.aload_n 1, 1) := by decide +kernel
theorem dL_law_994 : decode cL_law 994 = .ok (.aload_n 0, 1) := by decide +kernel
theorem dL_law_995 : decode cL_law 995 = .ok (.iload 4, 2) := by decide +kernel
theorem dL_law_997 : decode cL_law 997 = .ok (.iconst 1, 1) := by decide +kernel
theorem dL_law_998 : decode cL_law 998 = .ok (.iadd, 1) := by decide +kernel
theorem dL_law_999 : decode cL_law 999 = .ok (.iaload, 1) := by decide +kernel
theorem dL_law_1000 : decode cL_law 1000 = .ok (.aload_n 0, 1) := by decide +kernel
theorem dL_law_1001 : decode cL_law 1001 = .ok (.iload 4, 2) := by decide +kernel
theorem dL_law_1003 : decode cL_law 1003 = .ok (.iconst 2, 1) := by decide +kernel
theorem dL_law_1004 : decode cL_law 1004 = .ok (.iadd, 1) := by decide +kernel
theorem dL_law_1005 : decode cL_law 1005 = .ok (.iaload, 1) := by decide +kernel
theorem dL_law_1006 : decode cL_law 1006 = .ok (.aload_n 3, 1) := by decide +kernel
theorem dL_law_1007 : decode cL_law 1007 = .ok (.invokestatic 124, 3) := by decide +kernel
theorem dL_law_1010 : decode cL_law 1010 = .ok (.istore 5, 2) := by decide +kernel
theorem dL_law_1012 : decode cL_law 1012 = .ok (.aload_n 2, 1) := by decide +kernel
theorem dL_law_1013 : decode cL_law 1013 = .ok (.aload_n 0, 1) := by decide +kernel
theorem dL_law_1014 : decode cL_law 1014 = .ok (.iload 4, 2) := by decide +kernel
theorem dL_law_1016 : decode cL_law 1016 = .ok (.iconst 1, 1) := by decide +kernel
theorem dL_law_1017 : decode cL_law 1017 = .ok (.iadd, 1) := by decide +kernel
theorem dL_law_1018 : decode cL_law 1018 = .ok (.iaload, 1) := by decide +kernel
theorem dL_law_1019 : decode cL_law 1019 = .ok (.aload_n 0, 1) := by decide +kernel
theorem dL_law_1020 : decode cL_law 1020 = .ok (.iload 4, 2) := by decide +kernel
theorem dL_law_1022 : decode cL_law 1022 = .ok (.iconst 2, 1) := by decide +kernel
theorem dL_law_1023 : decode cL_law 1023 = .ok (.iadd, 1) := by decide +kernel
theorem dL_law_1024 : decode cL_law 1024 = .ok (.iaload, 1) := by decide +kernel
theorem dL_law_1025 : decode cL_law 1025 = .ok (.invokevirtual 126, 3) := by decide +kernel
theorem dL_law_1028 : decode cL_law 1028 = .ok (.istore 6, 2) := by decide +kernel
theorem dL_law_1030 : decode cL_law 1030 = .ok (.aload_n 2, 1) := by decide +kernel
theorem dL_law_1031 : decode cL_law 1031 = .ok (.invokevirtual 80, 3) := by decide +kernel
theorem dL_law_1034 : decode cL_law 1034 = .ok (.iload 5, 2) := by decide +kernel
theorem dL_law_1036 : decode cL_law 1036 = .ok (.if_icmp .eq 5, 3) := by decide +kernel
theorem dL_law_1039 : decode cL_law 1039 = .ok (.iconst 0, 1) := by decide +kernel
theorem dL_law_1040 : decode cL_law 1040 = .ok (.ireturn, 1) := by decide +kernel
theorem dL_law_1041 : decode cL_law 1041 = .ok (.iload 5, 2) := by decide +kernel
theorem dL_law_1043 : decode cL_law 1043 = .ok (.ifCond .ne 15, 3) := by decide +kernel
theorem dL_law_1046 : decode cL_law 1046 = .ok (.aload_n 3, 1) := by decide +kernel
theorem dL_law_1047 : decode cL_law 1047 = .ok (.iconst 0, 1) := by decide +kernel
theorem dL_law_1048 : decode cL_law 1048 = .ok (.laload, 1) := by decide +kernel
theorem dL_law_1049 : decode cL_law 1049 = .ok (.iload 6, 2) := by decide +kernel
theorem dL_law_1051 : decode cL_law 1051 = .ok (.i2l, 1) := by decide +kernel
theorem dL_law_1052 : decode cL_law 1052 = .ok (.lcmp, 1) := by decide +kernel
theorem dL_law_1053 : decode cL_law 1053 = .ok (.ifCond .eq 5, 3) := by decide +kernel
theorem dL_law_1056 : decode cL_law 1056 = .ok (.iconst 0, 1) := by decide +kernel
theorem dL_law_1057 : decode cL_law 1057 = .ok (.ireturn, 1) := by decide +kernel
theorem dL_law_1058 : decode cL_law 1058 = .ok (.goto 355, 3) := by decide +kernel
theorem dL_law_1061 : decode cL_law 1061 = .ok (.aload_n 1, 1) := by decide +kernel
theorem dL_law_1062 : decode cL_law 1062 = .ok (.aload_n 0, 1) := by decide +kernel
theorem dL_law_1063 : decode cL_law 1063 = .ok (.iload 4, 2) := by decide +kernel
theorem dL_law_1065 : decode cL_law 1065 = .ok (.iconst 1, 1) := by decide +kernel
theorem dL_law_1066 : decode cL_law 1066 = .ok (.iadd, 1) := by decide +kernel
theorem dL_law_1067 : decode cL_law 1067 = .ok (.iaload, 1) := by decide +kernel
theorem dL_law_1068 : decode cL_law 1068 = .ok (.aload_n 3, 1) := by decide +kernel
theorem dL_law_1069 : decode cL_law 1069 = .ok (.invokestatic 127, 3) := by decide +kernel
theorem dL_law_1072 : decode cL_law 1072 = .ok (.istore 5, 2) := by decide +kernel
theorem dL_law_1074 : decode cL_law 1074 = .ok (.aload_n 2, 1) := by decide +kernel
theorem dL_law_1075 : decode cL_law 1075 = .ok (.aload_n 0, 1) := by decide +kernel
theorem dL_law_1076 : decode cL_law 1076 = .ok (.iload 4, 2) := by decide +kernel
theorem dL_law_1078 : decode cL_law 1078 = .ok (.iconst 1, 1) := by decide +kernel
theorem dL_law_1079 : decode cL_law 1079 = .ok (.iadd, 1) := by decide +kernel
theorem dL_law_1080 : decode cL_law 1080 = .ok (.iaload, 1) := by decide +kernel
theorem dL_law_1081 : decode cL_law 1081 = .ok (.invokevirtual 129, 3) := by decide +kernel
theorem dL_law_1084 : decode cL_law 1084 = .ok (.istore 6, 2) := by decide +kernel
theorem dL_law_1086 : decode cL_law 1086 = .ok (.aload_n 2, 1) := by decide +kernel
theorem dL_law_1087 : decode cL_law 1087 = .ok (.invokevirtual 80, 3) := by decide +kernel
theorem dL_law_1090 : decode cL_law 1090 = .ok (.iload 5, 2) := by decide +kernel
theorem dL_law_1092 : decode cL_law 1092 = .ok (.if_icmp .eq 5, 3) := by decide +kernel
theorem dL_law_1095 : decode cL_law 1095 = .ok (.iconst 0, 1) := by decide +kernel
theorem dL_law_1096 : decode cL_law 1096 = .ok (.ireturn, 1) := by decide +kernel
theorem dL_law_1097 : decode cL_law 1097 = .ok (.iload 5, 2) := by decide +kernel
theorem dL_law_1099 : decode cL_law 1099 = .ok (.ifCond .ne 15, 3) := by decide +kernel
theorem dL_law_1102 : decode cL_law 1102 = .ok (.aload_n 3, 1) := by decide +kernel
theorem dL_law_1103 : decode cL_law 1103 = .ok (.iconst 0, 1) := by decide +kernel
theorem dL_law_1104 : decode cL_law 1104 = .ok (.laload, 1) := by decide +kernel
theorem dL_law_1105 : decode cL_law 1105 = .ok (.iload 6, 2) := by decide +kernel
theorem dL_law_1107 : decode cL_law 1107 = .ok (.i2l, 1) := by decide +kernel
theorem dL_law_1108 : decode cL_law 1108 = .ok (.lcmp, 1) := by decide +kernel
theorem dL_law_1109 : decode cL_law 1109 = .ok (.ifCond .eq 5, 3) := by decide +kernel
theorem dL_law_1112 : decode cL_law 1112 = .ok (.iconst 0, 1) := by decide +kernel
theorem dL_law_1113 : decode cL_law 1113 = .ok (.ireturn, 1) := by decide +kernel
theorem dL_law_1114 : decode cL_law 1114 = .ok (.goto 299, 3) := by decide +kernel
theorem dL_law_1117 : decode cL_law 1117 = .ok (.aload_n 1, 1) := by decide +kernel
theorem dL_law_1118 : decode cL_law 1118 = .ok (.aload_n 0, 1) := by decide +kernel
theorem dL_law_1119 : decode cL_law 1119 = .ok (.iload 4, 2) := by decide +kernel
theorem dL_law_1121 : decode cL_law 1121 = .ok (.iconst 1, 1) := by decide +kernel
theorem dL_law_1122 : decode cL_law 1122 = .ok (.iadd, 1) := by decide +kernel
theorem dL_law_1123 : decode cL_law 1123 = .ok (.iaload, 1) := by decide +kernel
theorem dL_law_1124 : decode cL_law 1124 = .ok (.aload_n 0, 1) := by decide +kernel
theorem dL_law_1125 : decode cL_law 1125 = .ok (.iload 4, 2) := by decide +kernel
theorem dL_law_1127 : decode cL_law 1127 = .ok (.iconst 2, 1) := by decide +kernel
theorem dL_law_1128 : decode cL_law 1128 = .ok (.iadd, 1) := by decide +kernel
theorem dL_law_1129 : decode cL_law 1129 = .ok (.iaload, 1) := by decide +kernel
theorem dL_law_1130 : decode cL_law 1130 = .ok (.aload_n 0, 1) := by decide +kernel
theorem dL_law_1131 : decode cL_law 1131 = .ok (.iload 4, 2) := by decide +kernel
theorem dL_law_1133 : decode cL_law 1133 = .ok (.iconst 3, 1) := by decide +kernel
theorem dL_law_1134 : decode cL_law 1134 = .ok (.iadd, 1) := by decide +kernel
theorem dL_law_1135 : decode cL_law 1135 = .ok (.iaload, 1) := by decide +kernel
theorem dL_law_1136 : decode cL_law 1136 = .ok (.aload_n 3, 1) := by decide +kernel
theorem dL_law_1137 : decode cL_law 1137 = .ok (.invokestatic 130, 3) := by decide +kernel
theorem dL_law_1140 : decode cL_law 1140 = .ok (.istore 5, 2) := by decide +kernel
theorem dL_law_1142 : decode cL_law 1142 = .ok (.aload_n 2, 1) := by decide +kernel
theorem dL_law_1143 : decode cL_law 1143 = .ok (.aload_n 0, 1) := by decide +kernel
theorem dL_law_1144 : decode cL_law 1144 = .ok (.iload 4, 2) := by decide +kernel
theorem dL_law_1146 : decode cL_law 1146 = .ok (.iconst 1, 1) := by decide +kernel
theorem dL_law_1147 : decode cL_law 1147 = .ok (.iadd, 1) := by decide +kernel
theorem dL_law_1148 : decode cL_law 1148 = .ok (.iaload, 1) := by decide +kernel
theorem dL_law_1149 : decode cL_law 1149 = .ok (.aload_n 0, 1) := by decide +kernel
theorem dL_law_1150 : decode cL_law 1150 = .ok (.iload 4, 2) := by decide +kernel
theorem dL_law_1152 : decode cL_law 1152 = .ok (.iconst 2, 1) := by decide +kernel
theorem dL_law_1153 : decode cL_law 1153 = .ok (.iadd, 1) := by decide +kernel
theorem dL_law_1154 : decode cL_law 1154 = .ok (.iaload, 1) := by decide +kernel
theorem dL_law_1155 : decode cL_law 1155 = .ok (.aload_n 0, 1) := by decide +kernel
theorem dL_law_1156 : decode cL_law 1156 = .ok (.iload 4, 2) := by decide +kernel
theorem dL_law_1158 : decode cL_law 1158 = .ok (.iconst 3, 1) := by decide +kernel
theorem dL_law_1159 : decode cL_law 1159 = .ok (.iadd, 1) := by decide +kernel
theorem dL_law_1160 : decode cL_law 1160 = .ok (.iaload, 1) := by decide +kernel
theorem dL_law_1161 : decode cL_law 1161 = .ok (.invokevirtual 132, 3) := by decide +kernel
theorem dL_law_1164 : decode cL_law 1164 = .ok (.istore 6, 2) := by decide +kernel
theorem dL_law_1166 : decode cL_law 1166 = .ok (.aload_n 2, 1) := by decide +kernel
theorem dL_law_1167 : decode cL_law 1167 = .ok (.invokevirtual 80, 3) := by decide +kernel
theorem dL_law_1170 : decode cL_law 1170 = .ok (.iload 5, 2) := by decide +kernel
theorem dL_law_1172 : decode cL_law 1172 = .ok (.if_icmp .eq 5, 3) := by decide +kernel
theorem dL_law_1175 : decode cL_law 1175 = .ok (.iconst 0, 1) := by decide +kernel
theorem dL_law_1176 : decode cL_law 1176 = .ok (.ireturn, 1) := by decide +kernel
theorem dL_law_1177 : decode cL_law 1177 = .ok (.iload 5, 2) := by decide +kernel
theorem dL_law_1179 : decode cL_law 1179 = .ok (.ifCond .ne 15, 3) := by decide +kernel
theorem dL_law_1182 : decode cL_law 1182 = .ok (.aload_n 3, 1) := by decide +kernel
theorem dL_law_1183 : decode cL_law 1183 = .ok (.iconst 0, 1) := by decide +kernel
theorem dL_law_1184 : decode cL_law 1184 = .ok (.laload, 1) := by decide +kernel
theorem dL_law_1185 : decode cL_law 1185 = .ok (.iload 6, 2) := by decide +kernel
theorem dL_law_1187 : decode cL_law 1187 = .ok (.i2l, 1) := by decide +kernel
theorem dL_law_1188 : decode cL_law 1188 = .ok (.lcmp, 1) := by decide +kernel
theorem dL_law_1189 : decode cL_law 1189 = .ok (.ifCond .eq 5, 3) := by decide +kernel
theorem dL_law_1192 : decode cL_law 1192 = .ok (.iconst 0, 1) := by decide +kernel
theorem dL_law_1193 : decode cL_law 1193 = .ok (.ireturn, 1) := by decide +kernel
theorem dL_law_1194 : decode cL_law 1194 = .ok (.goto 219, 3) := by decide +kernel
theorem dL_law_1197 : decode cL_law 1197 = .ok (.aload_n 1, 1) := by decide +kernel
theorem dL_law_1198 : decode cL_law 1198 = .ok (.aload_n 0, 1) := by decide +kernel
theorem dL_law_1199 : decode cL_law 1199 = .ok (.iload 4, 2) := by decide +kernel
theorem dL_law_1201 : decode cL_law 1201 = .ok (.iconst 1, 1) := by decide +kernel
theorem dL_law_1202 : decode cL_law 1202 = .ok (.iadd, 1) := by decide +kernel
theorem dL_law_1203 : decode cL_law 1203 = .ok (.iaload, 1) := by decide +kernel
theorem dL_law_1204 : decode cL_law 1204 = .ok (.aload_n 0, 1) := by decide +kernel
theorem dL_law_1205 : decode cL_law 1205 = .ok (.iload 4, 2) := by decide +kernel
theorem dL_law_1207 : decode cL_law 1207 = .ok (.iconst 2, 1) := by decide +kernel
theorem dL_law_1208 : decode cL_law 1208 = .ok (.iadd, 1) := by decide +kernel
theorem dL_law_1209 : decode cL_law 1209 = .ok (.iaload, 1) := by decide +kernel
theorem dL_law_1210 : decode cL_law 1210 = .ok (.aload_n 0, 1) := by decide +kernel
theorem dL_law_1211 : decode cL_law 1211 = .ok (.iload 4, 2) := by decide +kernel
theorem dL_law_1213 : decode cL_law 1213 = .ok (.iconst 3, 1) := by decide +kernel
theorem dL_law_1214 : decode cL_law 1214 = .ok (.iadd, 1) := by decide +kernel
theorem dL_law_1215 : decode cL_law 1215 = .ok (.iaload, 1) := by decide +kernel
theorem dL_law_1216 : decode cL_law 1216 = .ok (.aload_n 3, 1) := by decide +kernel
theorem dL_law_1217 : decode cL_law 1217 = .ok (.invokestatic 133, 3) := by decide +kernel
theorem dL_law_1220 : decode cL_law 1220 = .ok (.istore 5, 2) := by decide +kernel
theorem dL_law_1222 : decode cL_law 1222 = .ok (.aload_n 2, 1) := by decide +kernel
theorem dL_law_1223 : decode cL_law 1223 = .ok (.aload_n 0, 1) := by decide +kernel
theorem dL_law_1224 : decode cL_law 1224 = .ok (.iload 4, 2) := by decide +kernel
theorem dL_law_1226 : decode cL_law 1226 = .ok (.iconst 1, 1) := by decide +kernel
theorem dL_law_1227 : decode cL_law 1227 = .ok (.iadd, 1) := by decide +kernel
theorem dL_law_1228 : decode cL_law 1228 = .ok (.iaload, 1) := by decide +kernel
theorem dL_law_1229 : decode cL_law 1229 = .ok (.aload_n 0, 1) := by decide +kernel
theorem dL_law_1230 : decode cL_law 1230 = .ok (.iload 4, 2) := by decide +kernel
theorem dL_law_1232 : decode cL_law 1232 = .ok (.iconst 2, 1) := by decide +kernel
theorem dL_law_1233 : decode cL_law 1233 = .ok (.iadd, 1) := by decide +kernel
theorem dL_law_1234 : decode cL_law 1234 = .ok (.iaload, 1) := by decide +kernel
theorem dL_law_1235 : decode cL_law 1235 = .ok (.aload_n 0, 1) := by decide +kernel
theorem dL_law_1236 : decode cL_law 1236 = .ok (.iload 4, 2) := by decide +kernel
theorem dL_law_1238 : decode cL_law 1238 = .ok (.iconst 3, 1) := by decide +kernel
theorem dL_law_1239 : decode cL_law 1239 = .ok (.iadd, 1) := by decide +kernel
theorem dL_law_1240 : decode cL_law 1240 = .ok (.iaload, 1) := by decide +kernel
theorem dL_law_1241 : decode cL_law 1241 = .ok (.invokevirtual 135, 3) := by decide +kernel
theorem dL_law_1244 : decode cL_law 1244 = .ok (.istore 6, 2) := by decide +kernel
theorem dL_law_1246 : decode cL_law 1246 = .ok (.aload_n 2, 1) := by decide +kernel
theorem dL_law_1247 : decode cL_law 1247 = .ok (.invokevirtual 80, 3) := by decide +kernel
theorem dL_law_1250 : decode cL_law 1250 = .ok (.iload 5, 2) := by decide +kernel
theorem dL_law_1252 : decode cL_law 1252 = .ok (.if_icmp .eq 5, 3) := by decide +kernel
theorem dL_law_1255 : decode cL_law 1255 = .ok (.iconst 0, 1) := by decide +kernel
theorem dL_law_1256 : decode cL_law 1256 = .ok (.ireturn, 1) := by decide +kernel
theorem dL_law_1257 : decode cL_law 1257 = .ok (.iload 5, 2) := by decide +kernel
theorem dL_law_1259 : decode cL_law 1259 = .ok (.ifCond .ne 15, 3) := by decide +kernel
theorem dL_law_1262 : decode cL_law 1262 = .ok (.aload_n 3, 1) := by decide +kernel
theorem dL_law_1263 : decode cL_law 1263 = .ok (.iconst 0, 1) := by decide +kernel
theorem dL_law_1264 : decode cL_law 1264 = .ok (.laload, 1) := by decide +kernel
theorem dL_law_1265 : decode cL_law 1265 = .ok (.iload 6, 2) := by decide +kernel
theorem dL_law_1267 : decode cL_law 1267 = .ok (.i2l, 1) := by decide +kernel
theorem dL_law_1268 : decode cL_law 1268 = .ok (.lcmp, 1) := by decide +kernel
theorem dL_law_1269 : decode cL_law 1269 = .ok (.ifCond .eq 5, 3) := by decide +kernel
theorem dL_law_1272 : decode cL_law 1272 = .ok (.iconst 0, 1) := by decide +kernel
theorem dL_law_1273 : decode cL_law 1273 = .ok (.ireturn, 1) := by decide +kernel
theorem dL_law_1274 : decode cL_law 1274 = .ok (.goto 139, 3) := by decide +kernel
theorem dL_law_1277 : decode cL_law 1277 = .ok (.aload_n 1, 1) := by decide +kernel
theorem dL_law_1278 : decode cL_law 1278 = .ok (.aload_n 0, 1) := by decide +kernel
theorem dL_law_1279 : decode cL_law 1279 = .ok (.iload 4, 2) := by decide +kernel
theorem dL_law_1281 : decode cL_law 1281 = .ok (.iconst 1, 1) := by decide +kernel
theorem dL_law_1282 : decode cL_law 1282 = .ok (.iadd, 1) := by decide +kernel
theorem dL_law_1283 : decode cL_law 1283 = .ok (.iaload, 1) := by decide +kernel
theorem dL_law_1284 : decode cL_law 1284 = .ok (.aload_n 0, 1) := by decide +kernel
theorem dL_law_1285 : decode cL_law 1285 = .ok (.iload 4, 2) := by decide +kernel
theorem dL_law_1287 : decode cL_law 1287 = .ok (.iconst 2, 1) := by decide +kernel
theorem dL_law_1288 : decode cL_law 1288 = .ok (.iadd, 1) := by decide +kernel
theorem dL_law_1289 : decode cL_law 1289 = .ok (.iaload, 1) := by decide +kernel
theorem dL_law_1290 : decode cL_law 1290 = .ok (.aload_n 3, 1) := by decide +kernel
theorem dL_law_1291 : decode cL_law 1291 = .ok (.invokestatic 136, 3) := by decide +kernel
theorem dL_law_1294 : decode cL_law 1294 = .ok (.istore 5, 2) := by decide +kernel
theorem dL_law_1296 : decode cL_law 1296 = .ok (.aload_n 2, 1) := by decide +kernel
theorem dL_law_1297 : decode cL_law 1297 = .ok (.aload_n 0, 1) := by decide +kernel
theorem dL_law_1298 : decode cL_law 1298 = .ok (.iload 4, 2) := by decide +kernel
theorem dL_law_1300 : decode cL_law 1300 = .ok (.iconst 1, 1) := by decide +kernel
theorem dL_law_1301 : decode cL_law 1301 = .ok (.iadd, 1) := by decide +kernel
theorem dL_law_1302 : decode cL_law 1302 = .ok (.iaload, 1) := by decide +kernel
theorem dL_law_1303 : decode cL_law 1303 = .ok (.aload_n 0, 1) := by decide +kernel
theorem dL_law_1304 : decode cL_law 1304 = .ok (.iload 4, 2) := by decide +kernel
theorem dL_law_1306 : decode cL_law 1306 = .ok (.iconst 2, 1) := by decide +kernel
theorem dL_law_1307 : decode cL_law 1307 = .ok (.iadd, 1) := by decide +kernel
theorem dL_law_1308 : decode cL_law 1308 = .ok (.iaload, 1) := by decide +kernel
theorem dL_law_1309 : decode cL_law 1309 = .ok (.invokevirtual 138, 3) := by decide +kernel
theorem dL_law_1312 : decode cL_law 1312 = .ok (.istore 6, 2) := by decide +kernel
theorem dL_law_1314 : decode cL_law 1314 = .ok (.aload_n 2, 1) := by decide +kernel
theorem dL_law_1315 : decode cL_law 1315 = .ok (.invokevirtual 80, 3) := by decide +kernel
theorem dL_law_1318 : decode cL_law 1318 = .ok (.iload 5, 2) := by decide +kernel
theorem dL_law_1320 : decode cL_law 1320 = .ok (.if_icmp .eq 5, 3) := by decide +kernel
theorem dL_law_1323 : decode cL_law 1323 = .ok (.iconst 0, 1) := by decide +kernel
theorem dL_law_1324 : decode cL_law 1324 = .ok (.ireturn, 1) := by decide +kernel
theorem dL_law_1325 : decode cL_law 1325 = .ok (.iload 5, 2) := by decide +kernel
theorem dL_law_1327 : decode cL_law 1327 = .ok (.ifCond .ne 15, 3) := by decide +kernel
theorem dL_law_1330 : decode cL_law 1330 = .ok (.aload_n 3, 1) := by decide +kernel
theorem dL_law_1331 : decode cL_law 1331 = .ok (.iconst 0, 1) := by decide +kernel
theorem dL_law_1332 : decode cL_law 1332 = .ok (.laload, 1) := by decide +kernel
theorem dL_law_1333 : decode cL_law 1333 = .ok (.iload 6, 2) := by decide +kernel
theorem dL_law_1335 : decode cL_law 1335 = .ok (.i2l, 1) := by decide +kernel
theorem dL_law_1336 : decode cL_law 1336 = .ok (.lcmp, 1) := by decide +kernel
theorem dL_law_1337 : decode cL_law 1337 = .ok (.ifCond .eq 5, 3) := by decide +kernel
theorem dL_law_1340 : decode cL_law 1340 = .ok (.iconst 0, 1) := by decide +kernel
theorem dL_law_1341 : decode cL_law 1341 = .ok (.ireturn, 1) := by decide +kernel
theorem dL_law_1342 : decode cL_law 1342 = .ok (.goto 71, 3) := by decide +kernel
theorem dL_law_1345 : decode cL_law 1345 = .ok (.aload_n 1, 1) := by decide +kernel
theorem dL_law_1346 : decode cL_law 1346 = .ok (.invokevirtual 139, 3) := by decide +kernel
theorem dL_law_1349 : decode cL_law 1349 = .ok (.aload_n 2, 1) := by decide +kernel
theorem dL_law_1350 : decode cL_law 1350 = .ok (.invokevirtual 142, 3) := by decide +kernel
theorem dL_law_1353 : decode cL_law 1353 = .ok (.if_icmp .eq 60, 3) := by decide +kernel
theorem dL_law_1356 : decode cL_law 1356 = .ok (.iconst 0, 1) := by decide +kernel
theorem dL_law_1357 : decode cL_law 1357 = .ok (.ireturn, 1) := by decide +kernel
theorem dL_law_1358 : decode cL_law 1358 = .ok (.aload_n 1, 1) := by decide +kernel
theorem dL_law_1359 : decode cL_law 1359 = .ok (.invokevirtual 143, 3) := by decide +kernel
theorem dL_law_1362 : decode cL_law 1362 = .ok (.dstore 5, 2) := by decide +kernel
theorem dL_law_1364 : decode cL_law 1364 = .ok (.aload_n 2, 1) := by decide +kernel
theorem dL_law_1365 : decode cL_law 1365 = .ok (.invokevirtual 147, 3) := by decide +kernel
theorem dL_law_1368 : decode cL_law 1368 = .ok (.dstore 7, 2) := by decide +kernel
theorem dL_law_1370 : decode cL_law 1370 = .ok (.dload 5, 2) := by decide +kernel
theorem dL_law_1372 : decode cL_law 1372 = .ok (.dload 7, 2) := by decide +kernel
theorem dL_law_1374 : decode cL_law 1374 = .ok (.dcmp .l, 1) := by decide +kernel
theorem dL_law_1375 : decode cL_law 1375 = .ok (.ifCond .eq 21, 3) := by decide +kernel
theorem dL_law_1378 : decode cL_law 1378 = .ok (.dload 5, 2) := by decide +kernel
theorem dL_law_1380 : decode cL_law 1380 = .ok (.dload 5, 2) := by decide +kernel
theorem dL_law_1382 : decode cL_law 1382 = .ok (.dcmp .l, 1) := by decide +kernel
theorem dL_law_1383 : decode cL_law 1383 = .ok (.ifCond .eq 11, 3) := by decide +kernel
theorem dL_law_1386 : decode cL_law 1386 = .ok (.dload 7, 2) := by decide +kernel
theorem dL_law_1388 : decode cL_law 1388 = .ok (.dload 7, 2) := by decide +kernel
theorem dL_law_1390 : decode cL_law 1390 = .ok (.dcmp .l, 1) := by decide +kernel
theorem dL_law_1391 : decode cL_law 1391 = .ok (.ifCond .ne 5, 3) := by decide +kernel
theorem dL_law_1394 : decode cL_law 1394 = .ok (.iconst 0, 1) := by decide +kernel
theorem dL_law_1395 : decode cL_law 1395 = .ok (.ireturn, 1) := by decide +kernel
theorem dL_law_1396 : decode cL_law 1396 = .ok (.goto 17, 3) := by decide +kernel
theorem dL_law_1399 : decode cL_law 1399 = .ok (.aload_n 1, 1) := by decide +kernel
theorem dL_law_1400 : decode cL_law 1400 = .ok (.invokevirtual 148, 3) := by decide +kernel
theorem dL_law_1403 : decode cL_law 1403 = .ok (.aload_n 2, 1) := by decide +kernel
theorem dL_law_1404 : decode cL_law 1404 = .ok (.invokevirtual 152, 3) := by decide +kernel
theorem dL_law_1407 : decode cL_law 1407 = .ok (.lcmp, 1) := by decide +kernel
theorem dL_law_1408 : decode cL_law 1408 = .ok (.ifCond .eq 5, 3) := by decide +kernel
theorem dL_law_1411 : decode cL_law 1411 = .ok (.iconst 0, 1) := by decide +kernel
theorem dL_law_1412 : decode cL_law 1412 = .ok (.ireturn, 1) := by decide +kernel
theorem dL_law_1413 : decode cL_law 1413 = .ok (.iinc 4 4, 3) := by decide +kernel
theorem dL_law_1416 : decode cL_law 1416 = .ok (.goto (-1393), 3) := by decide +kernel
theorem dL_law_1419 : decode cL_law 1419 = .ok (.iconst 1, 1) := by decide +kernel
theorem dL_law_1420 : decode cL_law 1420 = .ok (.ireturn, 1) := by decide +kernel
end
section
/-- the words that every method may use -/
def WALL : List Cond := lw_tbl.filter goodWord
theorem wall_good : ∀ w ∈ WALL, (w.onTables && w.keeps) = true ∨ ∃ ty, w = .arrayClass ty := fun _ h => good_of_word (List.mem_filter.mp h).2
theorem wall_tbl : ∀ w ∈ WALL, w ∈ lw_tbl := fun _ h => (List.mem_filter.mp h).1
theorem wall_cons {w0 : Cond} (h : w0 ∈ WALL) : GoodIn WALL (w0 :: WALL) := fun w hw => by
  rcases List.mem_cons.mp hw with rfl | hw
  · exact ⟨h, wall_good _ h⟩
  · exact ⟨hw, wall_good _ hw⟩
theorem wall_of {w : Cond} (h : w ∈ tables_1) (g : goodWord w = true) : w ∈ WALL := List.mem_filter.mpr ⟨List.mem_append_right _ h, g⟩
theorem wall_sel {w : Cond} (h : w ∈ k2_sels lw_privs) (g : goodWord w = true) : w ∈ WALL := List.mem_filter.mpr ⟨List.mem_append_left _ h, g⟩
theorem wd_1_0 : (Jvm.Cond.initialized "ChocolateMouldsLaw") ∈ WALL := wall_of (List.mem_append_left _ (List.mem_of_getElem? (l := tables_1_1) (i := 0) (by decide +kernel))) rfl
theorem wd_1_1 : (Jvm.Cond.initialized "ChocolateMoulds") ∈ WALL := wall_of (List.mem_append_left _ (List.mem_of_getElem? (l := tables_1_1) (i := 1) (by decide +kernel))) rfl
theorem wd_1_2 : (Jvm.Cond.initialized "ChocolateMoulds$Crystals") ∈ WALL := wall_of (List.mem_append_left _ (List.mem_of_getElem? (l := tables_1_1) (i := 2) (by decide +kernel))) rfl
theorem wd_1_3 : (Jvm.Cond.initialized "ChocolateMouldsModel") ∈ WALL := wall_of (List.mem_append_left _ (List.mem_of_getElem? (l := tables_1_1) (i := 3) (by decide +kernel))) rfl
theorem wd_1_4 : (Jvm.Cond.initialized "java/lang/Throwable") ∈ WALL := wall_of (List.mem_append_left _ (List.mem_of_getElem? (l := tables_1_1) (i := 4) (by decide +kernel))) rfl
theorem wd_1_5 : (Jvm.Cond.initialized "java/lang/Exception") ∈ WALL := wall_of (List.mem_append_left _ (List.mem_of_getElem? (l := tables_1_1) (i := 5) (by decide +kernel))) rfl
theorem wd_1_6 : (Jvm.Cond.initialized "java/lang/RuntimeException") ∈ WALL := wall_of (List.mem_append_left _ (List.mem_of_getElem? (l := tables_1_1) (i := 6) (by decide +kernel))) rfl
theorem wd_1_7 : (Jvm.Cond.initialized "java/lang/IllegalArgumentException") ∈ WALL := wall_of (List.mem_append_left _ (List.mem_of_getElem? (l := tables_1_1) (i := 7) (by decide +kernel))) rfl
theorem wd_1_8 : (Jvm.Cond.initialized "java/lang/IllegalStateException") ∈ WALL := wall_of (List.mem_append_left _ (List.mem_of_getElem? (l := tables_1_1) (i := 8) (by decide +kernel))) rfl
theorem wd_1_9 : (Jvm.Cond.initialized "ChocolateMoulds$Bowl") ∈ WALL := wall_of (List.mem_append_left _ (List.mem_of_getElem? (l := tables_1_1) (i := 9) (by decide +kernel))) rfl
theorem wd_1_10 : (Jvm.Cond.initialized "java/lang/IndexOutOfBoundsException") ∈ WALL := wall_of (List.mem_append_left _ (List.mem_of_getElem? (l := tables_1_1) (i := 10) (by decide +kernel))) rfl
theorem wd_1_11 : (Jvm.Cond.initialized "java/lang/Math") ∈ WALL := wall_of (List.mem_append_left _ (List.mem_of_getElem? (l := tables_1_1) (i := 11) (by decide +kernel))) rfl
theorem wd_1_12 : (Jvm.Cond.initialized "ChocolateMoulds$Slab") ∈ WALL := wall_of (List.mem_append_left _ (List.mem_of_getElem? (l := tables_1_1) (i := 12) (by decide +kernel))) rfl
theorem wd_1_13 : (Jvm.Cond.initialized "java/lang/System") ∈ WALL := wall_of (List.mem_append_left _ (List.mem_of_getElem? (l := tables_1_1) (i := 13) (by decide +kernel))) rfl
theorem wd_1_14 : (Jvm.Cond.initialized "ChocolateMoulds$Box") ∈ WALL := wall_of (List.mem_append_left _ (List.mem_of_getElem? (l := tables_1_1) (i := 14) (by decide +kernel))) rfl
theorem wd_1_15 : (Jvm.Cond.classLink "ChocolateMouldsLaw" (8 : Nat) "ChocolateMoulds") ∈ WALL := wall_of (List.mem_append_left _ (List.mem_of_getElem? (l := tables_1_1) (i := 15) (by decide +kernel))) rfl
theorem wd_1_16 : (Jvm.Cond.instantiable "ChocolateMoulds" (11 : Nat)) ∈ WALL := wall_of (List.mem_append_left _ (List.mem_of_getElem? (l := tables_1_1) (i := 16) (by decide +kernel))) rfl
theorem wd_1_17 : (Jvm.Cond.methodLink "ChocolateMouldsLaw" (70 : Nat) ({ cls := "ChocolateMoulds", name := "<init>", desc := "()V" } : Jvm.MethodName)) ∈ WALL := wall_of (List.mem_append_left _ (List.mem_of_getElem? (l := tables_1_1) (i := 17) (by decide +kernel))) rfl
theorem wd_1_18 : (Jvm.Cond.instanceMethod ({ cls := "ChocolateMoulds", name := "<init>", desc := "()V" } : Jvm.MethodName)) ∈ WALL := wall_of (List.mem_append_left _ (List.mem_of_getElem? (l := tables_1_1) (i := 18) (by decide +kernel))) rfl
theorem wd_1_19 : (Jvm.Cond.code ({ cls := "ChocolateMoulds", name := "<init>", desc := "()V" } : Jvm.MethodName) prog_1_method_1_code (1 : Nat) (Option.none : Option Jvm.ClassFile.FieldType)) ∈ WALL := wall_of (List.mem_append_left _ (List.mem_of_getElem? (l := tables_1_1) (i := 19) (by decide +kernel))) rfl
theorem wd_1_20 : (Jvm.Cond.methodLink "ChocolateMoulds" (3 : Nat) ({ cls := "java/lang/Object", name := "<init>", desc := "()V" } : Jvm.MethodName)) ∈ WALL := wall_of (List.mem_append_left _ (List.mem_of_getElem? (l := tables_1_1) (i := 20) (by decide +kernel))) rfl
theorem wd_1_21 : (Jvm.Cond.instanceMethod ({ cls := "java/lang/Object", name := "<init>", desc := "()V" } : Jvm.MethodName)) ∈ WALL := wall_of (List.mem_append_left _ (List.mem_of_getElem? (l := tables_1_1) (i := 21) (by decide +kernel))) rfl
theorem wd_1_22 : (Jvm.Cond.code ({ cls := "java/lang/Object", name := "<init>", desc := "()V" } : Jvm.MethodName) object_method_1_code (1 : Nat) (Option.none : Option Jvm.ClassFile.FieldType)) ∈ WALL := wall_of (List.mem_append_left _ (List.mem_of_getElem? (l := tables_1_1) (i := 22) (by decide +kernel))) rfl
theorem wd_1_23 : (Jvm.Cond.classLink "ChocolateMoulds" (9 : Nat) "ChocolateMoulds$Bowl") ∈ WALL := wall_of (List.mem_append_left _ (List.mem_of_getElem? (l := tables_1_1) (i := 23) (by decide +kernel))) rfl
theorem wd_1_25 : (Jvm.Cond.classLink "ChocolateMoulds" (15 : Nat) "ChocolateMoulds$Slab") ∈ WALL := wall_of (List.mem_append_left _ (List.mem_of_getElem? (l := tables_1_1) (i := 25) (by decide +kernel))) rfl
theorem wd_1_27 : (Jvm.Cond.classLink "ChocolateMoulds" (21 : Nat) "ChocolateMoulds$Box") ∈ WALL := wall_of (List.mem_append_left _ (List.mem_of_getElem? (l := tables_1_1) (i := 27) (by decide +kernel))) rfl
theorem wd_1_29 : (Jvm.Cond.classLink "ChocolateMoulds" (27 : Nat) "ChocolateMoulds$Crystals") ∈ WALL := wall_of (List.mem_append_left _ (List.mem_of_getElem? (l := tables_1_1) (i := 29) (by decide +kernel))) rfl
theorem wd_1_30 : (Jvm.Cond.instantiable "ChocolateMoulds$Crystals" (1 : Nat)) ∈ WALL := wall_of (List.mem_append_left _ (List.mem_of_getElem? (l := tables_1_1) (i := 30) (by decide +kernel))) rfl
theorem wd_1_31 : (Jvm.Cond.methodLink "ChocolateMoulds" (29 : Nat) ({ cls := "ChocolateMoulds$Crystals", name := "<init>", desc := "()V" } : Jvm.MethodName)) ∈ WALL := wall_of (List.mem_append_left _ (List.mem_of_getElem? (l := tables_1_1) (i := 31) (by decide +kernel))) rfl
theorem wd_1_32 : (Jvm.Cond.instanceMethod ({ cls := "ChocolateMoulds$Crystals", name := "<init>", desc := "()V" } : Jvm.MethodName)) ∈ WALL := wall_of (List.mem_append_left _ (List.mem_of_getElem? (l := tables_1_1) (i := 32) (by decide +kernel))) rfl
theorem wd_1_33 : (Jvm.Cond.code ({ cls := "ChocolateMoulds$Crystals", name := "<init>", desc := "()V" } : Jvm.MethodName) prog_4_method_1_code (1 : Nat) (Option.none : Option Jvm.ClassFile.FieldType)) ∈ WALL := wall_of (List.mem_append_left _ (List.mem_of_getElem? (l := tables_1_1) (i := 33) (by decide +kernel))) rfl
theorem wd_1_34 : (Jvm.Cond.methodLink "ChocolateMoulds$Crystals" (3 : Nat) ({ cls := "java/lang/Object", name := "<init>", desc := "()V" } : Jvm.MethodName)) ∈ WALL := wall_of (List.mem_append_left _ (List.mem_of_getElem? (l := tables_1_1) (i := 34) (by decide +kernel))) rfl
theorem wd_1_35 : (Jvm.Cond.fieldLink "ChocolateMoulds$Crystals" (11 : Nat) "ChocolateMoulds$Crystals" "many" "[I") ∈ WALL := wall_of (List.mem_append_left _ (List.mem_of_getElem? (l := tables_1_1) (i := 35) (by decide +kernel))) rfl
theorem wd_1_36 : (Jvm.Cond.fieldLink "ChocolateMoulds$Bowl" (23 : Nat) "ChocolateMoulds$Crystals" "many" "[I") ∈ WALL := wall_of (List.mem_append_left _ (List.mem_of_getElem? (l := tables_1_1) (i := 36) (by decide +kernel))) rfl
theorem wd_1_37 : (Jvm.Cond.fieldLink "ChocolateMoulds" (90 : Nat) "ChocolateMoulds$Crystals" "many" "[I") ∈ WALL := wall_of (List.mem_append_left _ (List.mem_of_getElem? (l := tables_1_1) (i := 37) (by decide +kernel))) rfl
theorem wd_1_38 : (Jvm.Cond.laysFinal "ChocolateMoulds$Crystals" "ChocolateMoulds$Crystals" "many" "[I") ∈ WALL := wall_of (List.mem_append_left _ (List.mem_of_getElem? (l := tables_1_1) (i := 38) (by decide +kernel))) rfl
theorem wd_1_40 : (Jvm.Cond.superclass "ChocolateMoulds$Crystals" "java/lang/Object") ∈ WALL := wall_of (List.mem_append_left _ (List.mem_of_getElem? (l := tables_1_1) (i := 40) (by decide +kernel))) rfl
theorem wd_1_41 : (Jvm.Cond.arrayClass Jvm.ClassFile.FieldType.int) ∈ WALL := wall_of (List.mem_append_left _ (List.mem_of_getElem? (l := tables_1_1) (i := 41) (by decide +kernel))) rfl
theorem wd_1_42 : (Jvm.Cond.fieldLink "ChocolateMoulds" (11 : Nat) "ChocolateMoulds" "bowls" "[LChocolateMoulds$Bowl;") ∈ WALL := wall_of (List.mem_append_left _ (List.mem_of_getElem? (l := tables_1_1) (i := 42) (by decide +kernel))) rfl
theorem wd_1_43 : (Jvm.Cond.fieldLink "ChocolateMoulds" (17 : Nat) "ChocolateMoulds" "slabs" "[LChocolateMoulds$Slab;") ∈ WALL := wall_of (List.mem_append_left _ (List.mem_of_getElem? (l := tables_1_1) (i := 43) (by decide +kernel))) rfl
theorem wd_1_44 : (Jvm.Cond.fieldLink "ChocolateMoulds" (23 : Nat) "ChocolateMoulds" "boxes" "[LChocolateMoulds$Box;") ∈ WALL := wall_of (List.mem_append_left _ (List.mem_of_getElem? (l := tables_1_1) (i := 44) (by decide +kernel))) rfl
theorem wd_1_45 : (Jvm.Cond.fieldLink "ChocolateMoulds" (52 : Nat) "ChocolateMoulds" "bowlCount" "I") ∈ WALL := wall_of (List.mem_append_left _ (List.mem_of_getElem? (l := tables_1_1) (i := 45) (by decide +kernel))) rfl
theorem wd_1_46 : (Jvm.Cond.fieldLink "ChocolateMoulds" (211 : Nat) "ChocolateMoulds" "slabCount" "I") ∈ WALL := wall_of (List.mem_append_left _ (List.mem_of_getElem? (l := tables_1_1) (i := 46) (by decide +kernel))) rfl
theorem wd_1_47 : (Jvm.Cond.fieldLink "ChocolateMoulds" (151 : Nat) "ChocolateMoulds" "boxCount" "I") ∈ WALL := wall_of (List.mem_append_left _ (List.mem_of_getElem? (l := tables_1_1) (i := 47) (by decide +kernel))) rfl
theorem wd_1_48 : (Jvm.Cond.fieldLink "ChocolateMoulds" (174 : Nat) "ChocolateMoulds" "day" "I") ∈ WALL := wall_of (List.mem_append_left _ (List.mem_of_getElem? (l := tables_1_1) (i := 48) (by decide +kernel))) rfl
theorem wd_1_49 : (Jvm.Cond.fieldLink "ChocolateMoulds" (30 : Nat) "ChocolateMoulds" "firstTrial" "LChocolateMoulds$Crystals;") ∈ WALL := wall_of (List.mem_append_left _ (List.mem_of_getElem? (l := tables_1_1) (i := 49) (by decide +kernel))) rfl
theorem wd_1_50 : (Jvm.Cond.fieldLink "ChocolateMoulds" (34 : Nat) "ChocolateMoulds" "secondTrial" "LChocolateMoulds$Crystals;") ∈ WALL := wall_of (List.mem_append_left _ (List.mem_of_getElem? (l := tables_1_1) (i := 50) (by decide +kernel))) rfl
theorem wd_1_51 : (Jvm.Cond.fieldLink "ChocolateMoulds" (37 : Nat) "ChocolateMoulds" "slabForBox" "[I") ∈ WALL := wall_of (List.mem_append_left _ (List.mem_of_getElem? (l := tables_1_1) (i := 51) (by decide +kernel))) rfl
theorem wd_1_52 : (Jvm.Cond.fieldLink "ChocolateMoulds" (41 : Nat) "ChocolateMoulds" "isPlanned" "[Z") ∈ WALL := wall_of (List.mem_append_left _ (List.mem_of_getElem? (l := tables_1_1) (i := 52) (by decide +kernel))) rfl
theorem wd_1_53 : (Jvm.Cond.laysFinal "ChocolateMoulds" "ChocolateMoulds" "bowls" "[LChocolateMoulds$Bowl;") ∈ WALL := wall_of (List.mem_append_left _ (List.mem_of_getElem? (l := tables_1_1) (i := 53) (by decide +kernel))) rfl
theorem wd_1_55 : (Jvm.Cond.laysFinal "ChocolateMoulds" "ChocolateMoulds" "slabs" "[LChocolateMoulds$Slab;") ∈ WALL := wall_of (List.mem_append_left _ (List.mem_of_getElem? (l := tables_1_1) (i := 55) (by decide +kernel))) rfl
theorem wd_1_57 : (Jvm.Cond.laysFinal "ChocolateMoulds" "ChocolateMoulds" "boxes" "[LChocolateMoulds$Box;") ∈ WALL := wall_of (List.mem_append_left _ (List.mem_of_getElem? (l := tables_1_1) (i := 57) (by decide +kernel))) rfl
theorem wd_1_59 : (Jvm.Cond.lays "ChocolateMoulds" "ChocolateMoulds" "bowlCount" "I") ∈ WALL := wall_of (List.mem_append_left _ (List.mem_of_getElem? (l := tables_1_1) (i := 59) (by decide +kernel))) rfl
theorem wd_1_61 : (Jvm.Cond.lays "ChocolateMoulds" "ChocolateMoulds" "slabCount" "I") ∈ WALL := wall_of (List.mem_append_left _ (List.mem_of_getElem? (l := tables_1_1) (i := 61) (by decide +kernel))) rfl
theorem wd_1_63 : (Jvm.Cond.lays "ChocolateMoulds" "ChocolateMoulds" "boxCount" "I") ∈ WALL := wall_of (List.mem_append_left _ (List.mem_of_getElem? (l := tables_1_1) (i := 63) (by decide +kernel))) rfl
theorem wd_1_65 : (Jvm.Cond.lays "ChocolateMoulds" "ChocolateMoulds" "day" "I") ∈ WALL := wall_of (List.mem_append_left _ (List.mem_of_getElem? (l := tables_1_1) (i := 65) (by decide +kernel))) rfl
theorem wd_1_67 : (Jvm.Cond.laysFinal "ChocolateMoulds" "ChocolateMoulds" "firstTrial" "LChocolateMoulds$Crystals;") ∈ WALL := wall_of (List.mem_append_left _ (List.mem_of_getElem? (l := tables_1_1) (i := 67) (by decide +kernel))) rfl
theorem wd_1_69 : (Jvm.Cond.laysFinal "ChocolateMoulds" "ChocolateMoulds" "secondTrial" "LChocolateMoulds$Crystals;") ∈ WALL := wall_of (List.mem_append_left _ (List.mem_of_getElem? (l := tables_1_1) (i := 69) (by decide +kernel))) rfl
theorem wd_1_71 : (Jvm.Cond.laysFinal "ChocolateMoulds" "ChocolateMoulds" "slabForBox" "[I") ∈ WALL := wall_of (List.mem_append_left _ (List.mem_of_getElem? (l := tables_1_1) (i := 71) (by decide +kernel))) rfl
theorem wd_1_73 : (Jvm.Cond.laysFinal "ChocolateMoulds" "ChocolateMoulds" "isPlanned" "[Z") ∈ WALL := wall_of (List.mem_append_left _ (List.mem_of_getElem? (l := tables_1_1) (i := 73) (by decide +kernel))) rfl
theorem wd_1_75 : (Jvm.Cond.superclass "ChocolateMoulds" "java/lang/Object") ∈ WALL := wall_of (List.mem_append_left _ (List.mem_of_getElem? (l := tables_1_1) (i := 75) (by decide +kernel))) rfl
theorem wd_1_76 : (Jvm.Cond.arrayClass Jvm.ClassFile.FieldType.boolean) ∈ WALL := wall_of (List.mem_append_left _ (List.mem_of_getElem? (l := tables_1_1) (i := 76) (by decide +kernel))) rfl
theorem wd_1_77 : (Jvm.Cond.methodLink "ChocolateMouldsLaw" (111 : Nat) ({ cls := "ChocolateMoulds", name := "fill", desc := "()I" } : Jvm.MethodName)) ∈ WALL := wall_of (List.mem_append_left _ (List.mem_of_getElem? (l := tables_1_1) (i := 77) (by decide +kernel))) rfl
theorem wd_1_78 : (Jvm.Cond.instanceMethod ({ cls := "ChocolateMoulds", name := "fill", desc := "()I" } : Jvm.MethodName)) ∈ WALL := wall_of (List.mem_append_left _ (List.mem_of_getElem? (l := tables_1_1) (i := 78) (by decide +kernel))) rfl
theorem wd_1_79 : (Jvm.Cond.selects "ChocolateMoulds" ({ cls := "ChocolateMoulds", name := "fill", desc := "()I" } : Jvm.MethodName) ({ cls := "ChocolateMoulds", name := "fill", desc := "()I" } : Jvm.MethodName)) ∈ WALL := wall_of (List.mem_append_left _ (List.mem_of_getElem? (l := tables_1_1) (i := 79) (by decide +kernel))) rfl
theorem wd_1_80 : (Jvm.Cond.code ({ cls := "ChocolateMoulds", name := "fill", desc := "()I" } : Jvm.MethodName) prog_1_method_11_code (3 : Nat) (Option.some Jvm.ClassFile.FieldType.int)) ∈ WALL := wall_of (List.mem_append_left _ (List.mem_of_getElem? (l := tables_1_1) (i := 80) (by decide +kernel))) rfl
theorem wd_1_81 : (Jvm.Cond.methodLink "ChocolateMoulds" (158 : Nat) ({ cls := "ChocolateMoulds", name := "planFilling", desc := "(I)I" } : Jvm.MethodName)) ∈ WALL := wall_of (List.mem_append_left _ (List.mem_of_getElem? (l := tables_1_1) (i := 81) (by decide +kernel))) rfl
theorem wd_1_83 : (Jvm.Cond.instanceMethod ({ cls := "ChocolateMoulds", name := "planFilling", desc := "(I)I" } : Jvm.MethodName)) ∈ WALL := wall_of (List.mem_append_left _ (List.mem_of_getElem? (l := tables_1_1) (i := 83) (by decide +kernel))) rfl
theorem wd_1_84 : (Jvm.Cond.code ({ cls := "ChocolateMoulds", name := "planFilling", desc := "(I)I" } : Jvm.MethodName) prog_1_method_37_code (5 : Nat) (Option.some Jvm.ClassFile.FieldType.int)) ∈ WALL := wall_of (List.mem_append_left _ (List.mem_of_getElem? (l := tables_1_1) (i := 84) (by decide +kernel))) rfl
theorem wd_1_85 : (Jvm.Cond.methodLink "ChocolateMoulds" (274 : Nat) ({ cls := "ChocolateMoulds", name := "planSlab", desc := "(LChocolateMoulds$Box;I)I" } : Jvm.MethodName)) ∈ WALL := wall_of (List.mem_append_left _ (List.mem_of_getElem? (l := tables_1_1) (i := 85) (by decide +kernel))) rfl
theorem wd_1_87 : (Jvm.Cond.instanceMethod ({ cls := "ChocolateMoulds", name := "planSlab", desc := "(LChocolateMoulds$Box;I)I" } : Jvm.MethodName)) ∈ WALL := wall_of (List.mem_append_left _ (List.mem_of_getElem? (l := tables_1_1) (i := 87) (by decide +kernel))) rfl
theorem wd_1_88 : (Jvm.Cond.code ({ cls := "ChocolateMoulds", name := "planSlab", desc := "(LChocolateMoulds$Box;I)I" } : Jvm.MethodName) prog_1_method_38_code (6 : Nat) (Option.some Jvm.ClassFile.FieldType.int)) ∈ WALL := wall_of (List.mem_append_left _ (List.mem_of_getElem? (l := tables_1_1) (i := 88) (by decide +kernel))) rfl
theorem wd_1_89 : (Jvm.Cond.methodLink "ChocolateMoulds" (119 : Nat) ({ cls := "ChocolateMoulds$Slab", name := "bloomBehindPolish", desc := "()I" } : Jvm.MethodName)) ∈ WALL := wall_of (List.mem_append_left _ (List.mem_of_getElem? (l := tables_1_1) (i := 89) (by decide +kernel))) rfl
theorem wd_1_90 : (Jvm.Cond.instanceMethod ({ cls := "ChocolateMoulds$Slab", name := "bloomBehindPolish", desc := "()I" } : Jvm.MethodName)) ∈ WALL := wall_of (List.mem_append_left _ (List.mem_of_getElem? (l := tables_1_1) (i := 90) (by decide +kernel))) rfl
theorem wd_1_91 : (Jvm.Cond.selects "ChocolateMoulds$Slab" ({ cls := "ChocolateMoulds$Slab", name := "bloomBehindPolish", desc := "()I" } : Jvm.MethodName) ({ cls := "ChocolateMoulds$Slab", name := "bloomBehindPolish", desc := "()I" } : Jvm.MethodName)) ∈ WALL := wall_of (List.mem_append_left _ (List.mem_of_getElem? (l := tables_1_1) (i := 91) (by decide +kernel))) rfl
theorem wd_1_92 : (Jvm.Cond.code ({ cls := "ChocolateMoulds$Slab", name := "bloomBehindPolish", desc := "()I" } : Jvm.MethodName) prog_5_method_5_code (1 : Nat) (Option.some Jvm.ClassFile.FieldType.int)) ∈ WALL := wall_of (List.mem_append_left _ (List.mem_of_getElem? (l := tables_1_1) (i := 92) (by decide +kernel))) rfl
theorem wd_1_93 : (Jvm.Cond.methodLink "ChocolateMoulds$Slab" (28 : Nat) ({ cls := "java/lang/Math", name := "max", desc := "(II)I" } : Jvm.MethodName)) ∈ WALL := wall_of (List.mem_append_left _ (List.mem_of_getElem? (l := tables_1_1) (i := 93) (by decide +kernel))) rfl
theorem wd_1_94 : (Jvm.Cond.static ({ cls := "java/lang/Math", name := "max", desc := "(II)I" } : Jvm.MethodName)) ∈ WALL := wall_of (List.mem_append_left _ (List.mem_of_getElem? (l := tables_1_1) (i := 94) (by decide +kernel))) rfl
theorem wd_1_95 : (Jvm.Cond.code ({ cls := "java/lang/Math", name := "max", desc := "(II)I" } : Jvm.MethodName) prog_12_method_65_code (2 : Nat) (Option.some Jvm.ClassFile.FieldType.int)) ∈ WALL := wall_of (List.mem_append_left _ (List.mem_of_getElem? (l := tables_1_1) (i := 95) (by decide +kernel))) rfl
theorem wd_1_96 : (Jvm.Cond.methodLink "ChocolateMoulds" (270 : Nat) ({ cls := "ChocolateMoulds$Box", name := "suits", desc := "(LChocolateMoulds$Slab;I)Z" } : Jvm.MethodName)) ∈ WALL := wall_of (List.mem_append_left _ (List.mem_of_getElem? (l := tables_1_1) (i := 96) (by decide +kernel))) rfl
theorem wd_1_97 : (Jvm.Cond.instanceMethod ({ cls := "ChocolateMoulds$Box", name := "suits", desc := "(LChocolateMoulds$Slab;I)Z" } : Jvm.MethodName)) ∈ WALL := wall_of (List.mem_append_left _ (List.mem_of_getElem? (l := tables_1_1) (i := 97) (by decide +kernel))) rfl
theorem wd_1_98 : (Jvm.Cond.selects "ChocolateMoulds$Box" ({ cls := "ChocolateMoulds$Box", name := "suits", desc := "(LChocolateMoulds$Slab;I)Z" } : Jvm.MethodName) ({ cls := "ChocolateMoulds$Box", name := "suits", desc := "(LChocolateMoulds$Slab;I)Z" } : Jvm.MethodName)) ∈ WALL := wall_of (List.mem_append_left _ (List.mem_of_getElem? (l := tables_1_1) (i := 98) (by decide +kernel))) rfl
theorem wd_1_99 : (Jvm.Cond.code ({ cls := "ChocolateMoulds$Box", name := "suits", desc := "(LChocolateMoulds$Slab;I)Z" } : Jvm.MethodName) prog_3_method_2_code (3 : Nat) (Option.some Jvm.ClassFile.FieldType.boolean)) ∈ WALL := wall_of (List.mem_append_left _ (List.mem_of_getElem? (l := tables_1_1) (i := 99) (by decide +kernel))) rfl
theorem wd_1_100 : (Jvm.Cond.methodLink "ChocolateMoulds$Box" (24 : Nat) ({ cls := "ChocolateMoulds$Slab", name := "squares", desc := "()I" } : Jvm.MethodName)) ∈ WALL := wall_of (List.mem_append_left _ (List.mem_of_getElem? (l := tables_1_1) (i := 100) (by decide +kernel))) rfl
theorem wd_1_101 : (Jvm.Cond.instanceMethod ({ cls := "ChocolateMoulds$Slab", name := "squares", desc := "()I" } : Jvm.MethodName)) ∈ WALL := wall_of (List.mem_append_left _ (List.mem_of_getElem? (l := tables_1_1) (i := 101) (by decide +kernel))) rfl
theorem wd_1_102 : (Jvm.Cond.selects "ChocolateMoulds$Slab" ({ cls := "ChocolateMoulds$Slab", name := "squares", desc := "()I" } : Jvm.MethodName) ({ cls := "ChocolateMoulds$Slab", name := "squares", desc := "()I" } : Jvm.MethodName)) ∈ WALL := wall_of (List.mem_append_left _ (List.mem_of_getElem? (l := tables_1_1) (i := 102) (by decide +kernel))) rfl
theorem wd_1_103 : (Jvm.Cond.code ({ cls := "ChocolateMoulds$Slab", name := "squares", desc := "()I" } : Jvm.MethodName) prog_5_method_2_code (1 : Nat) (Option.some Jvm.ClassFile.FieldType.int)) ∈ WALL := wall_of (List.mem_append_left _ (List.mem_of_getElem? (l := tables_1_1) (i := 103) (by decide +kernel))) rfl
theorem wd_1_104 : (Jvm.Cond.methodLink "ChocolateMoulds" (162 : Nat) ({ cls := "ChocolateMoulds", name := "moveIntoBox", desc := "(ILChocolateMoulds$Box;)V" } : Jvm.MethodName)) ∈ WALL := wall_of (List.mem_append_left _ (List.mem_of_getElem? (l := tables_1_1) (i := 104) (by decide +kernel))) rfl
theorem wd_1_106 : (Jvm.Cond.instanceMethod ({ cls := "ChocolateMoulds", name := "moveIntoBox", desc := "(ILChocolateMoulds$Box;)V" } : Jvm.MethodName)) ∈ WALL := wall_of (List.mem_append_left _ (List.mem_of_getElem? (l := tables_1_1) (i := 106) (by decide +kernel))) rfl
theorem wd_1_107 : (Jvm.Cond.code ({ cls := "ChocolateMoulds", name := "moveIntoBox", desc := "(ILChocolateMoulds$Box;)V" } : Jvm.MethodName) prog_1_method_39_code (4 : Nat) (Option.none : Option Jvm.ClassFile.FieldType)) ∈ WALL := wall_of (List.mem_append_left _ (List.mem_of_getElem? (l := tables_1_1) (i := 107) (by decide +kernel))) rfl
theorem wd_1_108 : (Jvm.Cond.methodLink "ChocolateMoulds" (261 : Nat) ({ cls := "ChocolateMoulds", name := "findSlab", desc := "(I)LChocolateMoulds$Slab;" } : Jvm.MethodName)) ∈ WALL := wall_of (List.mem_append_left _ (List.mem_of_getElem? (l := tables_1_1) (i := 108) (by decide +kernel))) rfl
theorem wd_1_110 : (Jvm.Cond.instanceMethod ({ cls := "ChocolateMoulds", name := "findSlab", desc := "(I)LChocolateMoulds$Slab;" } : Jvm.MethodName)) ∈ WALL := wall_of (List.mem_append_left _ (List.mem_of_getElem? (l := tables_1_1) (i := 110) (by decide +kernel))) rfl
theorem wd_1_111 : (Jvm.Cond.code ({ cls := "ChocolateMoulds", name := "findSlab", desc := "(I)LChocolateMoulds$Slab;" } : Jvm.MethodName) prog_1_method_28_code (2 : Nat) (Option.some (Jvm.ClassFile.FieldType.object "ChocolateMoulds$Slab"))) ∈ WALL := wall_of (List.mem_append_left _ (List.mem_of_getElem? (l := tables_1_1) (i := 111) (by decide +kernel))) rfl
theorem wd_1_112 : (Jvm.Cond.methodLink "ChocolateMoulds" (278 : Nat) ({ cls := "ChocolateMoulds$Box", name := "take", desc := "(LChocolateMoulds$Slab;)V" } : Jvm.MethodName)) ∈ WALL := wall_of (List.mem_append_left _ (List.mem_of_getElem? (l := tables_1_1) (i := 112) (by decide +kernel))) rfl
theorem wd_1_113 : (Jvm.Cond.instanceMethod ({ cls := "ChocolateMoulds$Box", name := "take", desc := "(LChocolateMoulds$Slab;)V" } : Jvm.MethodName)) ∈ WALL := wall_of (List.mem_append_left _ (List.mem_of_getElem? (l := tables_1_1) (i := 113) (by decide +kernel))) rfl
theorem wd_1_114 : (Jvm.Cond.selects "ChocolateMoulds$Box" ({ cls := "ChocolateMoulds$Box", name := "take", desc := "(LChocolateMoulds$Slab;)V" } : Jvm.MethodName) ({ cls := "ChocolateMoulds$Box", name := "take", desc := "(LChocolateMoulds$Slab;)V" } : Jvm.MethodName)) ∈ WALL := wall_of (List.mem_append_left _ (List.mem_of_getElem? (l := tables_1_1) (i := 114) (by decide +kernel))) rfl
theorem wd_1_115 : (Jvm.Cond.code ({ cls := "ChocolateMoulds$Box", name := "take", desc := "(LChocolateMoulds$Slab;)V" } : Jvm.MethodName) prog_3_method_3_code (2 : Nat) (Option.none : Option Jvm.ClassFile.FieldType)) ∈ WALL := wall_of (List.mem_append_left _ (List.mem_of_getElem? (l := tables_1_1) (i := 115) (by decide +kernel))) rfl
theorem wd_1_116 : (Jvm.Cond.methodLink "ChocolateMoulds" (146 : Nat) ({ cls := "ChocolateMoulds", name := "closeGaps", desc := "()V" } : Jvm.MethodName)) ∈ WALL := wall_of (List.mem_append_left _ (List.mem_of_getElem? (l := tables_1_1) (i := 116) (by decide +kernel))) rfl
theorem wd_1_118 : (Jvm.Cond.instanceMethod ({ cls := "ChocolateMoulds", name := "closeGaps", desc := "()V" } : Jvm.MethodName)) ∈ WALL := wall_of (List.mem_append_left _ (List.mem_of_getElem? (l := tables_1_1) (i := 118) (by decide +kernel))) rfl
theorem wd_1_119 : (Jvm.Cond.code ({ cls := "ChocolateMoulds", name := "closeGaps", desc := "()V" } : Jvm.MethodName) prog_1_method_31_code (4 : Nat) (Option.none : Option Jvm.ClassFile.FieldType)) ∈ WALL := wall_of (List.mem_append_left _ (List.mem_of_getElem? (l := tables_1_1) (i := 119) (by decide +kernel))) rfl
theorem wd_1_120 : (Jvm.Cond.methodLink "ChocolateMouldsLaw" (139 : Nat) ({ cls := "ChocolateMoulds", name := "advise", desc := "()I" } : Jvm.MethodName)) ∈ WALL := wall_of (List.mem_append_left _ (List.mem_of_getElem? (l := tables_1_1) (i := 120) (by decide +kernel))) rfl
theorem wd_1_121 : (Jvm.Cond.instanceMethod ({ cls := "ChocolateMoulds", name := "advise", desc := "()I" } : Jvm.MethodName)) ∈ WALL := wall_of (List.mem_append_left _ (List.mem_of_getElem? (l := tables_1_1) (i := 121) (by decide +kernel))) rfl
theorem wd_1_122 : (Jvm.Cond.selects "ChocolateMoulds" ({ cls := "ChocolateMoulds", name := "advise", desc := "()I" } : Jvm.MethodName) ({ cls := "ChocolateMoulds", name := "advise", desc := "()I" } : Jvm.MethodName)) ∈ WALL := wall_of (List.mem_append_left _ (List.mem_of_getElem? (l := tables_1_1) (i := 122) (by decide +kernel))) rfl
theorem wd_1_123 : (Jvm.Cond.code ({ cls := "ChocolateMoulds", name := "advise", desc := "()I" } : Jvm.MethodName) prog_1_method_20_code (5 : Nat) (Option.some Jvm.ClassFile.FieldType.int)) ∈ WALL := wall_of (List.mem_append_left _ (List.mem_of_getElem? (l := tables_1_1) (i := 123) (by decide +kernel))) rfl
theorem wd_1_124 : (Jvm.Cond.methodLink "ChocolateMouldsLaw" (143 : Nat) ({ cls := "ChocolateMoulds", name := "mean", desc := "()D" } : Jvm.MethodName)) ∈ WALL := wall_of (List.mem_append_left _ (List.mem_of_getElem? (l := tables_1_1) (i := 124) (by decide +kernel))) rfl
theorem wd_1_125 : (Jvm.Cond.instanceMethod ({ cls := "ChocolateMoulds", name := "mean", desc := "()D" } : Jvm.MethodName)) ∈ WALL := wall_of (List.mem_append_left _ (List.mem_of_getElem? (l := tables_1_1) (i := 125) (by decide +kernel))) rfl
theorem wd_1_126 : (Jvm.Cond.selects "ChocolateMoulds" ({ cls := "ChocolateMoulds", name := "mean", desc := "()D" } : Jvm.MethodName) ({ cls := "ChocolateMoulds", name := "mean", desc := "()D" } : Jvm.MethodName)) ∈ WALL := wall_of (List.mem_append_left _ (List.mem_of_getElem? (l := tables_1_1) (i := 126) (by decide +kernel))) rfl
theorem wd_1_127 : (Jvm.Cond.code ({ cls := "ChocolateMoulds", name := "mean", desc := "()D" } : Jvm.MethodName) prog_1_method_21_code (6 : Nat) (Option.some Jvm.ClassFile.FieldType.double)) ∈ WALL := wall_of (List.mem_append_left _ (List.mem_of_getElem? (l := tables_1_1) (i := 127) (by decide +kernel))) rfl
theorem wd_1_128 : (Jvm.Cond.methodLink "ChocolateMouldsLaw" (148 : Nat) ({ cls := "ChocolateMoulds", name := "digest", desc := "()J" } : Jvm.MethodName)) ∈ WALL := wall_of (List.mem_append_left _ (List.mem_of_getElem? (l := tables_1_1) (i := 128) (by decide +kernel))) rfl
theorem wd_1_129 : (Jvm.Cond.instanceMethod ({ cls := "ChocolateMoulds", name := "digest", desc := "()J" } : Jvm.MethodName)) ∈ WALL := wall_of (List.mem_append_left _ (List.mem_of_getElem? (l := tables_1_1) (i := 129) (by decide +kernel))) rfl
theorem wd_1_130 : (Jvm.Cond.selects "ChocolateMoulds" ({ cls := "ChocolateMoulds", name := "digest", desc := "()J" } : Jvm.MethodName) ({ cls := "ChocolateMoulds", name := "digest", desc := "()J" } : Jvm.MethodName)) ∈ WALL := wall_of (List.mem_append_left _ (List.mem_of_getElem? (l := tables_1_1) (i := 130) (by decide +kernel))) rfl
theorem wd_1_131 : (Jvm.Cond.code ({ cls := "ChocolateMoulds", name := "digest", desc := "()J" } : Jvm.MethodName) prog_1_method_22_code (5 : Nat) (Option.some Jvm.ClassFile.FieldType.long)) ∈ WALL := wall_of (List.mem_append_left _ (List.mem_of_getElem? (l := tables_1_1) (i := 131) (by decide +kernel))) rfl
theorem wd_1_132 : (Jvm.Cond.constantLong "ChocolateMoulds" (236 : Nat) (1789 : Int64)) ∈ WALL := wall_of (List.mem_append_left _ (List.mem_of_getElem? (l := tables_1_1) (i := 132) (by decide +kernel))) rfl
theorem wd_1_133 : (Jvm.Cond.constantLong "ChocolateMoulds" (238 : Nat) (31 : Int64)) ∈ WALL := wall_of (List.mem_append_left _ (List.mem_of_getElem? (l := tables_1_1) (i := 133) (by decide +kernel))) rfl
theorem wd_1_134 : (Jvm.Cond.methodLink "ChocolateMoulds" (240 : Nat) ({ cls := "ChocolateMoulds", name := "count", desc := "(I)I" } : Jvm.MethodName)) ∈ WALL := wall_of (List.mem_append_left _ (List.mem_of_getElem? (l := tables_1_1) (i := 134) (by decide +kernel))) rfl
theorem wd_1_135 : (Jvm.Cond.instanceMethod ({ cls := "ChocolateMoulds", name := "count", desc := "(I)I" } : Jvm.MethodName)) ∈ WALL := wall_of (List.mem_append_left _ (List.mem_of_getElem? (l := tables_1_1) (i := 135) (by decide +kernel))) rfl
theorem wd_1_136 : (Jvm.Cond.selects "ChocolateMoulds" ({ cls := "ChocolateMoulds", name := "count", desc := "(I)I" } : Jvm.MethodName) ({ cls := "ChocolateMoulds", name := "count", desc := "(I)I" } : Jvm.MethodName)) ∈ WALL := wall_of (List.mem_append_left _ (List.mem_of_getElem? (l := tables_1_1) (i := 136) (by decide +kernel))) rfl
theorem wd_1_137 : (Jvm.Cond.code ({ cls := "ChocolateMoulds", name := "count", desc := "(I)I" } : Jvm.MethodName) prog_1_method_16_code (2 : Nat) (Option.some Jvm.ClassFile.FieldType.int)) ∈ WALL := wall_of (List.mem_append_left _ (List.mem_of_getElem? (l := tables_1_1) (i := 137) (by decide +kernel))) rfl
theorem wd_1_138 : (Jvm.Cond.methodLink "ChocolateMoulds" (180 : Nat) ({ cls := "ChocolateMoulds", name := "checkWhat", desc := "(II)V" } : Jvm.MethodName)) ∈ WALL := wall_of (List.mem_append_left _ (List.mem_of_getElem? (l := tables_1_1) (i := 138) (by decide +kernel))) rfl
theorem wd_1_139 : (Jvm.Cond.static ({ cls := "ChocolateMoulds", name := "checkWhat", desc := "(II)V" } : Jvm.MethodName)) ∈ WALL := wall_of (List.mem_append_left _ (List.mem_of_getElem? (l := tables_1_1) (i := 139) (by decide +kernel))) rfl
theorem wd_1_140 : (Jvm.Cond.code ({ cls := "ChocolateMoulds", name := "checkWhat", desc := "(II)V" } : Jvm.MethodName) prog_1_method_25_code (2 : Nat) (Option.none : Option Jvm.ClassFile.FieldType)) ∈ WALL := wall_of (List.mem_append_left _ (List.mem_of_getElem? (l := tables_1_1) (i := 140) (by decide +kernel))) rfl
theorem wd_1_141 : (Jvm.Cond.classLink "ChocolateMoulds" (131 : Nat) "java/lang/IndexOutOfBoundsException") ∈ WALL := wall_of (List.mem_append_left _ (List.mem_of_getElem? (l := tables_1_1) (i := 141) (by decide +kernel))) rfl
theorem wd_1_142 : (Jvm.Cond.instantiable "java/lang/IndexOutOfBoundsException" (6 : Nat)) ∈ WALL := wall_of (List.mem_append_left _ (List.mem_of_getElem? (l := tables_1_1) (i := 142) (by decide +kernel))) rfl
theorem wd_1_150 : (Jvm.Cond.selects "java/lang/IndexOutOfBoundsException" ({ cls := "java/lang/Throwable", name := "fillInStackTrace", desc := "(I)Ljava/lang/Throwable;" } : Jvm.MethodName) ({ cls := "java/lang/Throwable", name := "fillInStackTrace", desc := "(I)Ljava/lang/Throwable;" } : Jvm.MethodName)) ∈ WALL := wall_of (List.mem_append_left _ (List.mem_of_getElem? (l := tables_1_1) (i := 150) (by decide +kernel))) rfl
theorem wd_1_151 : (Jvm.Cond.selects "java/lang/IndexOutOfBoundsException" ({ cls := "java/lang/Throwable", name := "fillInStackTrace", desc := "()Ljava/lang/Throwable;" } : Jvm.MethodName) ({ cls := "java/lang/Throwable", name := "fillInStackTrace", desc := "()Ljava/lang/Throwable;" } : Jvm.MethodName)) ∈ WALL := wall_of (List.mem_append_left _ (List.mem_of_getElem? (l := tables_1_1) (i := 151) (by decide +kernel))) rfl
theorem wd_1_152 : (Jvm.Cond.lays "java/lang/IndexOutOfBoundsException" "java/lang/Throwable" "cause" "Ljava/lang/Throwable;") ∈ WALL := wall_of (List.mem_append_left _ (List.mem_of_getElem? (l := tables_1_1) (i := 152) (by decide +kernel))) rfl
theorem wd_1_153 : (Jvm.Cond.lays "java/lang/Throwable" "java/lang/Throwable" "cause" "Ljava/lang/Throwable;") ∈ WALL := wall_of (List.mem_append_left _ (List.mem_of_getElem? (l := tables_1_1) (i := 153) (by decide +kernel))) rfl
theorem wd_1_154 : (Jvm.Cond.lays "java/lang/IndexOutOfBoundsException" "java/lang/Throwable" "stackTrace" "[Ljava/lang/StackTraceElement;") ∈ WALL := wall_of (List.mem_append_left _ (List.mem_of_getElem? (l := tables_1_1) (i := 154) (by decide +kernel))) rfl
theorem wd_1_155 : (Jvm.Cond.lays "java/lang/Throwable" "java/lang/Throwable" "stackTrace" "[Ljava/lang/StackTraceElement;") ∈ WALL := wall_of (List.mem_append_left _ (List.mem_of_getElem? (l := tables_1_1) (i := 155) (by decide +kernel))) rfl
theorem wd_1_156 : (Jvm.Cond.lays "java/lang/IndexOutOfBoundsException" "java/lang/Throwable" "suppressedExceptions" "Ljava/util/List;") ∈ WALL := wall_of (List.mem_append_left _ (List.mem_of_getElem? (l := tables_1_1) (i := 156) (by decide +kernel))) rfl
theorem wd_1_157 : (Jvm.Cond.lays "java/lang/Throwable" "java/lang/Throwable" "suppressedExceptions" "Ljava/util/List;") ∈ WALL := wall_of (List.mem_append_left _ (List.mem_of_getElem? (l := tables_1_1) (i := 157) (by decide +kernel))) rfl
theorem wd_1_158 : (Jvm.Cond.lays "java/lang/IndexOutOfBoundsException" "java/lang/Throwable" "detailMessage" "Ljava/lang/String;") ∈ WALL := wall_of (List.mem_append_left _ (List.mem_of_getElem? (l := tables_1_1) (i := 158) (by decide +kernel))) rfl
theorem wd_1_159 : (Jvm.Cond.lays "java/lang/Throwable" "java/lang/Throwable" "detailMessage" "Ljava/lang/String;") ∈ WALL := wall_of (List.mem_append_left _ (List.mem_of_getElem? (l := tables_1_1) (i := 159) (by decide +kernel))) rfl
theorem wd_1_160 : (Jvm.Cond.lays "java/lang/IndexOutOfBoundsException" "java/lang/Throwable" "backtrace" "Ljava/lang/Object;") ∈ WALL := wall_of (List.mem_append_left _ (List.mem_of_getElem? (l := tables_1_1) (i := 160) (by decide +kernel))) rfl
theorem wd_1_161 : (Jvm.Cond.lays "java/lang/Throwable" "java/lang/Throwable" "backtrace" "Ljava/lang/Object;") ∈ WALL := wall_of (List.mem_append_left _ (List.mem_of_getElem? (l := tables_1_1) (i := 161) (by decide +kernel))) rfl
theorem wd_1_162 : (Jvm.Cond.fieldLink "java/lang/Throwable" (198 : Nat) "java/lang/Throwable" "backtrace" "Ljava/lang/Object;") ∈ WALL := wall_of (List.mem_append_left _ (List.mem_of_getElem? (l := tables_1_1) (i := 162) (by decide +kernel))) rfl
theorem wd_1_163 : (Jvm.Cond.superclass "java/lang/Throwable" "java/lang/Object") ∈ WALL := wall_of (List.mem_append_left _ (List.mem_of_getElem? (l := tables_1_1) (i := 163) (by decide +kernel))) rfl
theorem wd_1_164 : (Jvm.Cond.instanceMethod ({ cls := "java/lang/Throwable", name := "<init>", desc := "()V" } : Jvm.MethodName)) ∈ WALL := wall_of (List.mem_append_left _ (List.mem_of_getElem? (l := tables_1_1) (i := 164) (by decide +kernel))) rfl
theorem wd_1_165 : (Jvm.Cond.code ({ cls := "java/lang/Throwable", name := "<init>", desc := "()V" } : Jvm.MethodName) prog_16_method_1_code (1 : Nat) (Option.none : Option Jvm.ClassFile.FieldType)) ∈ WALL := wall_of (List.mem_append_left _ (List.mem_of_getElem? (l := tables_1_1) (i := 165) (by decide +kernel))) rfl
theorem wd_1_166 : (Jvm.Cond.methodLink "java/lang/Throwable" (1 : Nat) ({ cls := "java/lang/Object", name := "<init>", desc := "()V" } : Jvm.MethodName)) ∈ WALL := wall_of (List.mem_append_left _ (List.mem_of_getElem? (l := tables_1_1) (i := 166) (by decide +kernel))) rfl
theorem wd_1_167 : (Jvm.Cond.fieldLink "java/lang/Throwable" (13 : Nat) "java/lang/Throwable" "UNASSIGNED_STACK" "[Ljava/lang/StackTraceElement;") ∈ WALL := wall_of (List.mem_append_left _ (List.mem_of_getElem? (l := tables_1_1) (i := 167) (by decide +kernel))) rfl
theorem wd_1_169 : (Jvm.Cond.fieldLink "java/lang/Throwable" (20 : Nat) "java/lang/Throwable" "SUPPRESSED_SENTINEL" "Ljava/util/List;") ∈ WALL := wall_of (List.mem_append_left _ (List.mem_of_getElem? (l := tables_1_1) (i := 169) (by decide +kernel))) rfl
theorem wd_1_171 : (Jvm.Cond.methodLink "java/lang/Throwable" (27 : Nat) ({ cls := "java/lang/Throwable", name := "fillInStackTrace", desc := "()Ljava/lang/Throwable;" } : Jvm.MethodName)) ∈ WALL := wall_of (List.mem_append_left _ (List.mem_of_getElem? (l := tables_1_1) (i := 171) (by decide +kernel))) rfl
theorem wd_1_172 : (Jvm.Cond.instanceMethod ({ cls := "java/lang/Throwable", name := "fillInStackTrace", desc := "()Ljava/lang/Throwable;" } : Jvm.MethodName)) ∈ WALL := wall_of (List.mem_append_left _ (List.mem_of_getElem? (l := tables_1_1) (i := 172) (by decide +kernel))) rfl
theorem wd_1_174 : (Jvm.Cond.selects "java/lang/IllegalArgumentException" ({ cls := "java/lang/Throwable", name := "fillInStackTrace", desc := "()Ljava/lang/Throwable;" } : Jvm.MethodName) ({ cls := "java/lang/Throwable", name := "fillInStackTrace", desc := "()Ljava/lang/Throwable;" } : Jvm.MethodName)) ∈ WALL := wall_of (List.mem_append_left _ (List.mem_of_getElem? (l := tables_1_1) (i := 174) (by decide +kernel))) rfl
theorem wd_1_175 : (Jvm.Cond.selects "java/lang/IllegalStateException" ({ cls := "java/lang/Throwable", name := "fillInStackTrace", desc := "()Ljava/lang/Throwable;" } : Jvm.MethodName) ({ cls := "java/lang/Throwable", name := "fillInStackTrace", desc := "()Ljava/lang/Throwable;" } : Jvm.MethodName)) ∈ WALL := wall_of (List.mem_append_left _ (List.mem_of_getElem? (l := tables_1_1) (i := 175) (by decide +kernel))) rfl
theorem wd_1_177 : (Jvm.Cond.methodLink "java/lang/Throwable" (202 : Nat) ({ cls := "java/lang/Throwable", name := "fillInStackTrace", desc := "(I)Ljava/lang/Throwable;" } : Jvm.MethodName)) ∈ WALL := wall_of (List.mem_append_left _ (List.mem_of_getElem? (l := tables_1_1) (i := 177) (by decide +kernel))) rfl
theorem wd_1_179 : (Jvm.Cond.instanceMethod ({ cls := "java/lang/Throwable", name := "fillInStackTrace", desc := "(I)Ljava/lang/Throwable;" } : Jvm.MethodName)) ∈ WALL := wall_of (List.mem_append_left _ (List.mem_of_getElem? (l := tables_1_1) (i := 179) (by decide +kernel))) rfl
theorem wd_1_180 : (Jvm.Cond.instantiable "java/lang/Throwable" (6 : Nat)) ∈ WALL := wall_of (List.mem_append_left _ (List.mem_of_getElem? (l := tables_1_1) (i := 180) (by decide +kernel))) rfl
theorem wd_1_181 : (Jvm.Cond.native ({ cls := "java/lang/Throwable", name := "fillInStackTrace", desc := "(I)Ljava/lang/Throwable;" } : Jvm.MethodName)) ∈ WALL := wall_of (List.mem_append_left _ (List.mem_of_getElem? (l := tables_1_1) (i := 181) (by decide +kernel))) rfl
theorem wd_1_183 : (Jvm.Cond.methodLink "ChocolateMoulds" (135 : Nat) ({ cls := "java/lang/IndexOutOfBoundsException", name := "<init>", desc := "(Ljava/lang/String;)V" } : Jvm.MethodName)) ∈ WALL := wall_of (List.mem_append_left _ (List.mem_of_getElem? (l := tables_1_1) (i := 183) (by decide +kernel))) rfl
theorem wd_1_184 : (Jvm.Cond.instanceMethod ({ cls := "java/lang/IndexOutOfBoundsException", name := "<init>", desc := "(Ljava/lang/String;)V" } : Jvm.MethodName)) ∈ WALL := wall_of (List.mem_append_left _ (List.mem_of_getElem? (l := tables_1_1) (i := 184) (by decide +kernel))) rfl
theorem wd_1_185 : (Jvm.Cond.code ({ cls := "java/lang/IndexOutOfBoundsException", name := "<init>", desc := "(Ljava/lang/String;)V" } : Jvm.MethodName) prog_11_method_2_code (2 : Nat) (Option.none : Option Jvm.ClassFile.FieldType)) ∈ WALL := wall_of (List.mem_append_left _ (List.mem_of_getElem? (l := tables_1_1) (i := 185) (by decide +kernel))) rfl
theorem wd_1_186 : (Jvm.Cond.methodLink "java/lang/IndexOutOfBoundsException" (7 : Nat) ({ cls := "java/lang/RuntimeException", name := "<init>", desc := "(Ljava/lang/String;)V" } : Jvm.MethodName)) ∈ WALL := wall_of (List.mem_append_left _ (List.mem_of_getElem? (l := tables_1_1) (i := 186) (by decide +kernel))) rfl
theorem wd_1_187 : (Jvm.Cond.instanceMethod ({ cls := "java/lang/RuntimeException", name := "<init>", desc := "(Ljava/lang/String;)V" } : Jvm.MethodName)) ∈ WALL := wall_of (List.mem_append_left _ (List.mem_of_getElem? (l := tables_1_1) (i := 187) (by decide +kernel))) rfl
theorem wd_1_188 : (Jvm.Cond.code ({ cls := "java/lang/RuntimeException", name := "<init>", desc := "(Ljava/lang/String;)V" } : Jvm.MethodName) prog_13_method_2_code (2 : Nat) (Option.none : Option Jvm.ClassFile.FieldType)) ∈ WALL := wall_of (List.mem_append_left _ (List.mem_of_getElem? (l := tables_1_1) (i := 188) (by decide +kernel))) rfl
theorem wd_1_189 : (Jvm.Cond.methodLink "java/lang/RuntimeException" (7 : Nat) ({ cls := "java/lang/Exception", name := "<init>", desc := "(Ljava/lang/String;)V" } : Jvm.MethodName)) ∈ WALL := wall_of (List.mem_append_left _ (List.mem_of_getElem? (l := tables_1_1) (i := 189) (by decide +kernel))) rfl
theorem wd_1_190 : (Jvm.Cond.instanceMethod ({ cls := "java/lang/Exception", name := "<init>", desc := "(Ljava/lang/String;)V" } : Jvm.MethodName)) ∈ WALL := wall_of (List.mem_append_left _ (List.mem_of_getElem? (l := tables_1_1) (i := 190) (by decide +kernel))) rfl
theorem wd_1_191 : (Jvm.Cond.code ({ cls := "java/lang/Exception", name := "<init>", desc := "(Ljava/lang/String;)V" } : Jvm.MethodName) prog_8_method_2_code (2 : Nat) (Option.none : Option Jvm.ClassFile.FieldType)) ∈ WALL := wall_of (List.mem_append_left _ (List.mem_of_getElem? (l := tables_1_1) (i := 191) (by decide +kernel))) rfl
theorem wd_1_192 : (Jvm.Cond.methodLink "java/lang/Exception" (7 : Nat) ({ cls := "java/lang/Throwable", name := "<init>", desc := "(Ljava/lang/String;)V" } : Jvm.MethodName)) ∈ WALL := wall_of (List.mem_append_left _ (List.mem_of_getElem? (l := tables_1_1) (i := 192) (by decide +kernel))) rfl
theorem wd_1_193 : (Jvm.Cond.instanceMethod ({ cls := "java/lang/Throwable", name := "<init>", desc := "(Ljava/lang/String;)V" } : Jvm.MethodName)) ∈ WALL := wall_of (List.mem_append_left _ (List.mem_of_getElem? (l := tables_1_1) (i := 193) (by decide +kernel))) rfl
theorem wd_1_194 : (Jvm.Cond.code ({ cls := "java/lang/Throwable", name := "<init>", desc := "(Ljava/lang/String;)V" } : Jvm.MethodName) prog_16_method_2_code (2 : Nat) (Option.none : Option Jvm.ClassFile.FieldType)) ∈ WALL := wall_of (List.mem_append_left _ (List.mem_of_getElem? (l := tables_1_1) (i := 194) (by decide +kernel))) rfl
theorem wd_1_195 : (Jvm.Cond.fieldLink "java/lang/Throwable" (198 : Nat) "java/lang/Throwable" "backtrace" "Ljava/lang/Object;") ∈ WALL := wall_of (List.mem_append_left _ (List.mem_of_getElem? (l := tables_1_1) (i := 195) (by decide +kernel))) rfl
theorem wd_1_196 : (Jvm.Cond.fieldLink "java/lang/Throwable" (31 : Nat) "java/lang/Throwable" "detailMessage" "Ljava/lang/String;") ∈ WALL := wall_of (List.mem_append_left _ (List.mem_of_getElem? (l := tables_1_1) (i := 196) (by decide +kernel))) rfl
theorem wd_1_197 : (Jvm.Cond.fieldLink "java/lang/Throwable" (7 : Nat) "java/lang/Throwable" "cause" "Ljava/lang/Throwable;") ∈ WALL := wall_of (List.mem_append_left _ (List.mem_of_getElem? (l := tables_1_1) (i := 197) (by decide +kernel))) rfl
theorem wd_1_198 : (Jvm.Cond.fieldLink "java/lang/Throwable" (17 : Nat) "java/lang/Throwable" "stackTrace" "[Ljava/lang/StackTraceElement;") ∈ WALL := wall_of (List.mem_append_left _ (List.mem_of_getElem? (l := tables_1_1) (i := 198) (by decide +kernel))) rfl
theorem wd_1_199 : (Jvm.Cond.fieldLink "java/lang/Throwable" (24 : Nat) "java/lang/Throwable" "suppressedExceptions" "Ljava/util/List;") ∈ WALL := wall_of (List.mem_append_left _ (List.mem_of_getElem? (l := tables_1_1) (i := 199) (by decide +kernel))) rfl
theorem wd_1_204 : (Jvm.Cond.lays "java/lang/IndexOutOfBoundsException" "java/lang/Throwable" "depth" "I") ∈ WALL := wall_of (List.mem_append_left _ (List.mem_of_getElem? (l := tables_1_1) (i := 204) (by decide +kernel))) rfl
theorem wd_1_207 : (Jvm.Cond.superclass "java/lang/IndexOutOfBoundsException" "java/lang/RuntimeException") ∈ WALL := wall_of (List.mem_append_left _ (List.mem_of_getElem? (l := tables_1_1) (i := 207) (by decide +kernel))) rfl
theorem wd_1_208 : (Jvm.Cond.arrayClass Jvm.ClassFile.FieldType.byte) ∈ WALL := wall_of (List.mem_append_left _ (List.mem_of_getElem? (l := tables_1_1) (i := 208) (by decide +kernel))) rfl
theorem wd_1_209 : (Jvm.Cond.methodLink "ChocolateMoulds" (214 : Nat) ({ cls := "ChocolateMoulds", name := "filledBoxes", desc := "()I" } : Jvm.MethodName)) ∈ WALL := wall_of (List.mem_append_left _ (List.mem_of_getElem? (l := tables_1_1) (i := 209) (by decide +kernel))) rfl
theorem wd_1_211 : (Jvm.Cond.instanceMethod ({ cls := "ChocolateMoulds", name := "filledBoxes", desc := "()I" } : Jvm.MethodName)) ∈ WALL := wall_of (List.mem_append_left _ (List.mem_of_getElem? (l := tables_1_1) (i := 211) (by decide +kernel))) rfl
theorem wd_1_212 : (Jvm.Cond.code ({ cls := "ChocolateMoulds", name := "filledBoxes", desc := "()I" } : Jvm.MethodName) prog_1_method_32_code (6 : Nat) (Option.some Jvm.ClassFile.FieldType.int)) ∈ WALL := wall_of (List.mem_append_left _ (List.mem_of_getElem? (l := tables_1_1) (i := 212) (by decide +kernel))) rfl
theorem wd_1_213 : (Jvm.Cond.methodLink "ChocolateMoulds" (217 : Nat) ({ cls := "ChocolateMoulds", name := "gramsOfBowls", desc := "()I" } : Jvm.MethodName)) ∈ WALL := wall_of (List.mem_append_left _ (List.mem_of_getElem? (l := tables_1_1) (i := 213) (by decide +kernel))) rfl
theorem wd_1_215 : (Jvm.Cond.instanceMethod ({ cls := "ChocolateMoulds", name := "gramsOfBowls", desc := "()I" } : Jvm.MethodName)) ∈ WALL := wall_of (List.mem_append_left _ (List.mem_of_getElem? (l := tables_1_1) (i := 215) (by decide +kernel))) rfl
theorem wd_1_216 : (Jvm.Cond.code ({ cls := "ChocolateMoulds", name := "gramsOfBowls", desc := "()I" } : Jvm.MethodName) prog_1_method_33_code (6 : Nat) (Option.some Jvm.ClassFile.FieldType.int)) ∈ WALL := wall_of (List.mem_append_left _ (List.mem_of_getElem? (l := tables_1_1) (i := 216) (by decide +kernel))) rfl
theorem wd_1_217 : (Jvm.Cond.methodLink "ChocolateMoulds" (220 : Nat) ({ cls := "ChocolateMoulds", name := "squaresOfSlabs", desc := "()I" } : Jvm.MethodName)) ∈ WALL := wall_of (List.mem_append_left _ (List.mem_of_getElem? (l := tables_1_1) (i := 217) (by decide +kernel))) rfl
theorem wd_1_219 : (Jvm.Cond.instanceMethod ({ cls := "ChocolateMoulds", name := "squaresOfSlabs", desc := "()I" } : Jvm.MethodName)) ∈ WALL := wall_of (List.mem_append_left _ (List.mem_of_getElem? (l := tables_1_1) (i := 219) (by decide +kernel))) rfl
theorem wd_1_220 : (Jvm.Cond.code ({ cls := "ChocolateMoulds", name := "squaresOfSlabs", desc := "()I" } : Jvm.MethodName) prog_1_method_34_code (6 : Nat) (Option.some Jvm.ClassFile.FieldType.int)) ∈ WALL := wall_of (List.mem_append_left _ (List.mem_of_getElem? (l := tables_1_1) (i := 220) (by decide +kernel))) rfl
theorem wd_1_221 : (Jvm.Cond.methodLink "ChocolateMoulds" (188 : Nat) ({ cls := "ChocolateMoulds$Slab", name := "squares", desc := "()I" } : Jvm.MethodName)) ∈ WALL := wall_of (List.mem_append_left _ (List.mem_of_getElem? (l := tables_1_1) (i := 221) (by decide +kernel))) rfl
theorem wd_1_222 : (Jvm.Cond.methodLink "ChocolateMoulds" (177 : Nat) ({ cls := "ChocolateMoulds", name := "bloomedSlabs", desc := "()I" } : Jvm.MethodName)) ∈ WALL := wall_of (List.mem_append_left _ (List.mem_of_getElem? (l := tables_1_1) (i := 222) (by decide +kernel))) rfl
theorem wd_1_224 : (Jvm.Cond.instanceMethod ({ cls := "ChocolateMoulds", name := "bloomedSlabs", desc := "()I" } : Jvm.MethodName)) ∈ WALL := wall_of (List.mem_append_left _ (List.mem_of_getElem? (l := tables_1_1) (i := 224) (by decide +kernel))) rfl
theorem wd_1_225 : (Jvm.Cond.code ({ cls := "ChocolateMoulds", name := "bloomedSlabs", desc := "()I" } : Jvm.MethodName) prog_1_method_35_code (6 : Nat) (Option.some Jvm.ClassFile.FieldType.int)) ∈ WALL := wall_of (List.mem_append_left _ (List.mem_of_getElem? (l := tables_1_1) (i := 225) (by decide +kernel))) rfl
theorem wd_1_226 : (Jvm.Cond.methodLink "ChocolateMoulds" (229 : Nat) ({ cls := "ChocolateMoulds$Slab", name := "isBloomed", desc := "()Z" } : Jvm.MethodName)) ∈ WALL := wall_of (List.mem_append_left _ (List.mem_of_getElem? (l := tables_1_1) (i := 226) (by decide +kernel))) rfl
theorem wd_1_227 : (Jvm.Cond.instanceMethod ({ cls := "ChocolateMoulds$Slab", name := "isBloomed", desc := "()Z" } : Jvm.MethodName)) ∈ WALL := wall_of (List.mem_append_left _ (List.mem_of_getElem? (l := tables_1_1) (i := 227) (by decide +kernel))) rfl
theorem wd_1_228 : (Jvm.Cond.selects "ChocolateMoulds$Slab" ({ cls := "ChocolateMoulds$Slab", name := "isBloomed", desc := "()Z" } : Jvm.MethodName) ({ cls := "ChocolateMoulds$Slab", name := "isBloomed", desc := "()Z" } : Jvm.MethodName)) ∈ WALL := wall_of (List.mem_append_left _ (List.mem_of_getElem? (l := tables_1_1) (i := 228) (by decide +kernel))) rfl
theorem wd_1_229 : (Jvm.Cond.code ({ cls := "ChocolateMoulds$Slab", name := "isBloomed", desc := "()Z" } : Jvm.MethodName) prog_5_method_4_code (1 : Nat) (Option.some Jvm.ClassFile.FieldType.boolean)) ∈ WALL := wall_of (List.mem_append_left _ (List.mem_of_getElem? (l := tables_1_1) (i := 229) (by decide +kernel))) rfl
theorem wd_1_230 : (Jvm.Cond.methodLink "ChocolateMoulds" (243 : Nat) ({ cls := "ChocolateMoulds", name := "told", desc := "(II)I" } : Jvm.MethodName)) ∈ WALL := wall_of (List.mem_append_left _ (List.mem_of_getElem? (l := tables_1_1) (i := 230) (by decide +kernel))) rfl
theorem wd_1_231 : (Jvm.Cond.instanceMethod ({ cls := "ChocolateMoulds", name := "told", desc := "(II)I" } : Jvm.MethodName)) ∈ WALL := wall_of (List.mem_append_left _ (List.mem_of_getElem? (l := tables_1_1) (i := 231) (by decide +kernel))) rfl
theorem wd_1_232 : (Jvm.Cond.selects "ChocolateMoulds" ({ cls := "ChocolateMoulds", name := "told", desc := "(II)I" } : Jvm.MethodName) ({ cls := "ChocolateMoulds", name := "told", desc := "(II)I" } : Jvm.MethodName)) ∈ WALL := wall_of (List.mem_append_left _ (List.mem_of_getElem? (l := tables_1_1) (i := 232) (by decide +kernel))) rfl
theorem wd_1_233 : (Jvm.Cond.code ({ cls := "ChocolateMoulds", name := "told", desc := "(II)I" } : Jvm.MethodName) prog_1_method_13_code (4 : Nat) (Option.some Jvm.ClassFile.FieldType.int)) ∈ WALL := wall_of (List.mem_append_left _ (List.mem_of_getElem? (l := tables_1_1) (i := 233) (by decide +kernel))) rfl
theorem wd_1_234 : (Jvm.Cond.methodLink "ChocolateMoulds" (64 : Nat) ({ cls := "ChocolateMoulds", name := "bowlAt", desc := "(I)LChocolateMoulds$Bowl;" } : Jvm.MethodName)) ∈ WALL := wall_of (List.mem_append_left _ (List.mem_of_getElem? (l := tables_1_1) (i := 234) (by decide +kernel))) rfl
theorem wd_1_236 : (Jvm.Cond.instanceMethod ({ cls := "ChocolateMoulds", name := "bowlAt", desc := "(I)LChocolateMoulds$Bowl;" } : Jvm.MethodName)) ∈ WALL := wall_of (List.mem_append_left _ (List.mem_of_getElem? (l := tables_1_1) (i := 236) (by decide +kernel))) rfl
theorem wd_1_237 : (Jvm.Cond.code ({ cls := "ChocolateMoulds", name := "bowlAt", desc := "(I)LChocolateMoulds$Bowl;" } : Jvm.MethodName) prog_1_method_26_code (3 : Nat) (Option.some (Jvm.ClassFile.FieldType.object "ChocolateMoulds$Bowl"))) ∈ WALL := wall_of (List.mem_append_left _ (List.mem_of_getElem? (l := tables_1_1) (i := 237) (by decide +kernel))) rfl
theorem wd_1_239 : (Jvm.Cond.methodLink "ChocolateMoulds" (81 : Nat) ({ cls := "ChocolateMoulds$Crystals", name := "temper", desc := "()I" } : Jvm.MethodName)) ∈ WALL := wall_of (List.mem_append_left _ (List.mem_of_getElem? (l := tables_1_1) (i := 239) (by decide +kernel))) rfl
theorem wd_2_0 : (Jvm.Cond.instanceMethod ({ cls := "ChocolateMoulds$Crystals", name := "temper", desc := "()I" } : Jvm.MethodName)) ∈ WALL := wall_of (List.mem_append_right _ (List.mem_append_left _ (List.mem_of_getElem? (l := tables_1_2) (i := 0) (by decide +kernel)))) rfl
theorem wd_2_1 : (Jvm.Cond.selects "ChocolateMoulds$Crystals" ({ cls := "ChocolateMoulds$Crystals", name := "temper", desc := "()I" } : Jvm.MethodName) ({ cls := "ChocolateMoulds$Crystals", name := "temper", desc := "()I" } : Jvm.MethodName)) ∈ WALL := wall_of (List.mem_append_right _ (List.mem_append_left _ (List.mem_of_getElem? (l := tables_1_2) (i := 1) (by decide +kernel)))) rfl
theorem wd_2_2 : (Jvm.Cond.code ({ cls := "ChocolateMoulds$Crystals", name := "temper", desc := "()I" } : Jvm.MethodName) prog_4_method_11_code (2 : Nat) (Option.some Jvm.ClassFile.FieldType.int)) ∈ WALL := wall_of (List.mem_append_right _ (List.mem_append_left _ (List.mem_of_getElem? (l := tables_1_2) (i := 2) (by decide +kernel)))) rfl
theorem wd_2_3 : (Jvm.Cond.methodLink "ChocolateMoulds$Crystals" (37 : Nat) ({ cls := "java/lang/Math", name := "min", desc := "(II)I" } : Jvm.MethodName)) ∈ WALL := wall_of (List.mem_append_right _ (List.mem_append_left _ (List.mem_of_getElem? (l := tables_1_2) (i := 3) (by decide +kernel)))) rfl
theorem wd_2_4 : (Jvm.Cond.static ({ cls := "java/lang/Math", name := "min", desc := "(II)I" } : Jvm.MethodName)) ∈ WALL := wall_of (List.mem_append_right _ (List.mem_append_left _ (List.mem_of_getElem? (l := tables_1_2) (i := 4) (by decide +kernel)))) rfl
theorem wd_2_5 : (Jvm.Cond.code ({ cls := "java/lang/Math", name := "min", desc := "(II)I" } : Jvm.MethodName) prog_12_method_69_code (2 : Nat) (Option.some Jvm.ClassFile.FieldType.int)) ∈ WALL := wall_of (List.mem_append_right _ (List.mem_append_left _ (List.mem_of_getElem? (l := tables_1_2) (i := 5) (by decide +kernel)))) rfl
theorem wd_2_6 : (Jvm.Cond.methodLink "ChocolateMoulds$Crystals" (43 : Nat) ({ cls := "java/lang/Math", name := "max", desc := "(II)I" } : Jvm.MethodName)) ∈ WALL := wall_of (List.mem_append_right _ (List.mem_append_left _ (List.mem_of_getElem? (l := tables_1_2) (i := 6) (by decide +kernel)))) rfl
theorem wd_2_7 : (Jvm.Cond.methodLink "ChocolateMoulds" (247 : Nat) ({ cls := "ChocolateMoulds", name := "about", desc := "(II)I" } : Jvm.MethodName)) ∈ WALL := wall_of (List.mem_append_right _ (List.mem_append_left _ (List.mem_of_getElem? (l := tables_1_2) (i := 7) (by decide +kernel)))) rfl
theorem wd_2_8 : (Jvm.Cond.instanceMethod ({ cls := "ChocolateMoulds", name := "about", desc := "(II)I" } : Jvm.MethodName)) ∈ WALL := wall_of (List.mem_append_right _ (List.mem_append_left _ (List.mem_of_getElem? (l := tables_1_2) (i := 8) (by decide +kernel)))) rfl
theorem wd_2_9 : (Jvm.Cond.selects "ChocolateMoulds" ({ cls := "ChocolateMoulds", name := "about", desc := "(II)I" } : Jvm.MethodName) ({ cls := "ChocolateMoulds", name := "about", desc := "(II)I" } : Jvm.MethodName)) ∈ WALL := wall_of (List.mem_append_right _ (List.mem_append_left _ (List.mem_of_getElem? (l := tables_1_2) (i := 9) (by decide +kernel)))) rfl
theorem wd_2_10 : (Jvm.Cond.code ({ cls := "ChocolateMoulds", name := "about", desc := "(II)I" } : Jvm.MethodName) prog_1_method_14_code (4 : Nat) (Option.some Jvm.ClassFile.FieldType.int)) ∈ WALL := wall_of (List.mem_append_right _ (List.mem_append_left _ (List.mem_of_getElem? (l := tables_1_2) (i := 10) (by decide +kernel)))) rfl
theorem wd_2_11 : (Jvm.Cond.methodLink "ChocolateMoulds" (115 : Nat) ({ cls := "ChocolateMoulds", name := "slabAt", desc := "(I)LChocolateMoulds$Slab;" } : Jvm.MethodName)) ∈ WALL := wall_of (List.mem_append_right _ (List.mem_append_left _ (List.mem_of_getElem? (l := tables_1_2) (i := 11) (by decide +kernel)))) rfl
theorem wd_2_13 : (Jvm.Cond.instanceMethod ({ cls := "ChocolateMoulds", name := "slabAt", desc := "(I)LChocolateMoulds$Slab;" } : Jvm.MethodName)) ∈ WALL := wall_of (List.mem_append_right _ (List.mem_append_left _ (List.mem_of_getElem? (l := tables_1_2) (i := 13) (by decide +kernel)))) rfl
theorem wd_2_14 : (Jvm.Cond.code ({ cls := "ChocolateMoulds", name := "slabAt", desc := "(I)LChocolateMoulds$Slab;" } : Jvm.MethodName) prog_1_method_27_code (3 : Nat) (Option.some (Jvm.ClassFile.FieldType.object "ChocolateMoulds$Slab"))) ∈ WALL := wall_of (List.mem_append_right _ (List.mem_append_left _ (List.mem_of_getElem? (l := tables_1_2) (i := 14) (by decide +kernel)))) rfl
theorem wd_2_16 : (Jvm.Cond.methodLink "ChocolateMoulds" (191 : Nat) ({ cls := "ChocolateMoulds", name := "firstEmptyBoxFor", desc := "(LChocolateMoulds$Slab;)I" } : Jvm.MethodName)) ∈ WALL := wall_of (List.mem_append_right _ (List.mem_append_left _ (List.mem_of_getElem? (l := tables_1_2) (i := 16) (by decide +kernel)))) rfl
theorem wd_2_18 : (Jvm.Cond.instanceMethod ({ cls := "ChocolateMoulds", name := "firstEmptyBoxFor", desc := "(LChocolateMoulds$Slab;)I" } : Jvm.MethodName)) ∈ WALL := wall_of (List.mem_append_right _ (List.mem_append_left _ (List.mem_of_getElem? (l := tables_1_2) (i := 18) (by decide +kernel)))) rfl
theorem wd_2_19 : (Jvm.Cond.code ({ cls := "ChocolateMoulds", name := "firstEmptyBoxFor", desc := "(LChocolateMoulds$Slab;)I" } : Jvm.MethodName) prog_1_method_36_code (4 : Nat) (Option.some Jvm.ClassFile.FieldType.int)) ∈ WALL := wall_of (List.mem_append_right _ (List.mem_append_left _ (List.mem_of_getElem? (l := tables_1_2) (i := 19) (by decide +kernel)))) rfl
theorem wd_2_20 : (Jvm.Cond.methodLink "ChocolateMoulds" (250 : Nat) ({ cls := "ChocolateMoulds", name := "order", desc := "(II)I" } : Jvm.MethodName)) ∈ WALL := wall_of (List.mem_append_right _ (List.mem_append_left _ (List.mem_of_getElem? (l := tables_1_2) (i := 20) (by decide +kernel)))) rfl
theorem wd_2_21 : (Jvm.Cond.instanceMethod ({ cls := "ChocolateMoulds", name := "order", desc := "(II)I" } : Jvm.MethodName)) ∈ WALL := wall_of (List.mem_append_right _ (List.mem_append_left _ (List.mem_of_getElem? (l := tables_1_2) (i := 21) (by decide +kernel)))) rfl
theorem wd_2_22 : (Jvm.Cond.selects "ChocolateMoulds" ({ cls := "ChocolateMoulds", name := "order", desc := "(II)I" } : Jvm.MethodName) ({ cls := "ChocolateMoulds", name := "order", desc := "(II)I" } : Jvm.MethodName)) ∈ WALL := wall_of (List.mem_append_right _ (List.mem_append_left _ (List.mem_of_getElem? (l := tables_1_2) (i := 22) (by decide +kernel)))) rfl
theorem wd_2_23 : (Jvm.Cond.code ({ cls := "ChocolateMoulds", name := "order", desc := "(II)I" } : Jvm.MethodName) prog_1_method_15_code (4 : Nat) (Option.some Jvm.ClassFile.FieldType.int)) ∈ WALL := wall_of (List.mem_append_right _ (List.mem_append_left _ (List.mem_of_getElem? (l := tables_1_2) (i := 23) (by decide +kernel)))) rfl
theorem wd_2_24 : (Jvm.Cond.methodLink "ChocolateMoulds" (194 : Nat) ({ cls := "ChocolateMoulds", name := "boxAt", desc := "(I)LChocolateMoulds$Box;" } : Jvm.MethodName)) ∈ WALL := wall_of (List.mem_append_right _ (List.mem_append_left _ (List.mem_of_getElem? (l := tables_1_2) (i := 24) (by decide +kernel)))) rfl
theorem wd_2_26 : (Jvm.Cond.instanceMethod ({ cls := "ChocolateMoulds", name := "boxAt", desc := "(I)LChocolateMoulds$Box;" } : Jvm.MethodName)) ∈ WALL := wall_of (List.mem_append_right _ (List.mem_append_left _ (List.mem_of_getElem? (l := tables_1_2) (i := 26) (by decide +kernel)))) rfl
theorem wd_2_27 : (Jvm.Cond.code ({ cls := "ChocolateMoulds", name := "boxAt", desc := "(I)LChocolateMoulds$Box;" } : Jvm.MethodName) prog_1_method_29_code (3 : Nat) (Option.some (Jvm.ClassFile.FieldType.object "ChocolateMoulds$Box"))) ∈ WALL := wall_of (List.mem_append_right _ (List.mem_append_left _ (List.mem_of_getElem? (l := tables_1_2) (i := 27) (by decide +kernel)))) rfl
theorem wd_2_29 : (Jvm.Cond.methodLink "ChocolateMouldsLaw" (74 : Nat) ({ cls := "ChocolateMouldsLaw", name := "bowl", desc := "(LChocolateMoulds;I[J)I" } : Jvm.MethodName)) ∈ WALL := wall_of (List.mem_append_right _ (List.mem_append_left _ (List.mem_of_getElem? (l := tables_1_2) (i := 29) (by decide +kernel)))) rfl
theorem wd_2_30 : (Jvm.Cond.static ({ cls := "ChocolateMouldsLaw", name := "bowl", desc := "(LChocolateMoulds;I[J)I" } : Jvm.MethodName)) ∈ WALL := wall_of (List.mem_append_right _ (List.mem_append_left _ (List.mem_of_getElem? (l := tables_1_2) (i := 30) (by decide +kernel)))) rfl
theorem wd_2_31 : (Jvm.Cond.codeWith ({ cls := "ChocolateMouldsLaw", name := "bowl", desc := "(LChocolateMoulds;I[J)I" } : Jvm.MethodName) method_3_code (4 : Nat) (Option.some Jvm.ClassFile.FieldType.int) [((0 : Nat), (9 : Nat), (12 : Nat), (13 : Nat)), ((0 : Nat), (9 : Nat), (15 : Nat), (15 : Nat))]) ∈ WALL := wall_of (List.mem_append_right _ (List.mem_append_left _ (List.mem_of_getElem? (l := tables_1_2) (i := 31) (by decide +kernel)))) rfl
theorem wd_2_32 : (Jvm.Cond.classLink "ChocolateMouldsLaw" (13 : Nat) "java/lang/IllegalArgumentException") ∈ WALL := wall_of (List.mem_append_right _ (List.mem_append_left _ (List.mem_of_getElem? (l := tables_1_2) (i := 32) (by decide +kernel)))) rfl
theorem wd_2_33 : (Jvm.Cond.classLink "ChocolateMouldsLaw" (15 : Nat) "java/lang/IllegalStateException") ∈ WALL := wall_of (List.mem_append_right _ (List.mem_append_left _ (List.mem_of_getElem? (l := tables_1_2) (i := 33) (by decide +kernel)))) rfl
theorem wd_2_34 : (Jvm.Cond.methodLink "ChocolateMouldsLaw" (7 : Nat) ({ cls := "ChocolateMoulds", name := "bowl", desc := "(I)I" } : Jvm.MethodName)) ∈ WALL := wall_of (List.mem_append_right _ (List.mem_append_left _ (List.mem_of_getElem? (l := tables_1_2) (i := 34) (by decide +kernel)))) rfl
theorem wd_2_35 : (Jvm.Cond.instanceMethod ({ cls := "ChocolateMoulds", name := "bowl", desc := "(I)I" } : Jvm.MethodName)) ∈ WALL := wall_of (List.mem_append_right _ (List.mem_append_left _ (List.mem_of_getElem? (l := tables_1_2) (i := 35) (by decide +kernel)))) rfl
theorem wd_2_36 : (Jvm.Cond.selects "ChocolateMoulds" ({ cls := "ChocolateMoulds", name := "bowl", desc := "(I)I" } : Jvm.MethodName) ({ cls := "ChocolateMoulds", name := "bowl", desc := "(I)I" } : Jvm.MethodName)) ∈ WALL := wall_of (List.mem_append_right _ (List.mem_append_left _ (List.mem_of_getElem? (l := tables_1_2) (i := 36) (by decide +kernel)))) rfl
theorem wd_2_37 : (Jvm.Cond.code ({ cls := "ChocolateMoulds", name := "bowl", desc := "(I)I" } : Jvm.MethodName) prog_1_method_2_code (3 : Nat) (Option.some Jvm.ClassFile.FieldType.int)) ∈ WALL := wall_of (List.mem_append_right _ (List.mem_append_left _ (List.mem_of_getElem? (l := tables_1_2) (i := 37) (by decide +kernel)))) rfl
theorem wd_2_38 : (Jvm.Cond.classLink "ChocolateMoulds" (45 : Nat) "java/lang/IllegalArgumentException") ∈ WALL := wall_of (List.mem_append_right _ (List.mem_append_left _ (List.mem_of_getElem? (l := tables_1_2) (i := 38) (by decide +kernel)))) rfl
theorem wd_2_39 : (Jvm.Cond.instantiable "java/lang/IllegalArgumentException" (6 : Nat)) ∈ WALL := wall_of (List.mem_append_right _ (List.mem_append_left _ (List.mem_of_getElem? (l := tables_1_2) (i := 39) (by decide +kernel)))) rfl
theorem wd_2_41 : (Jvm.Cond.selects "java/lang/IllegalArgumentException" ({ cls := "java/lang/Throwable", name := "fillInStackTrace", desc := "(I)Ljava/lang/Throwable;" } : Jvm.MethodName) ({ cls := "java/lang/Throwable", name := "fillInStackTrace", desc := "(I)Ljava/lang/Throwable;" } : Jvm.MethodName)) ∈ WALL := wall_of (List.mem_append_right _ (List.mem_append_left _ (List.mem_of_getElem? (l := tables_1_2) (i := 41) (by decide +kernel)))) rfl
theorem wd_2_42 : (Jvm.Cond.lays "java/lang/IllegalArgumentException" "java/lang/Throwable" "cause" "Ljava/lang/Throwable;") ∈ WALL := wall_of (List.mem_append_right _ (List.mem_append_left _ (List.mem_of_getElem? (l := tables_1_2) (i := 42) (by decide +kernel)))) rfl
theorem wd_2_43 : (Jvm.Cond.lays "java/lang/IllegalArgumentException" "java/lang/Throwable" "stackTrace" "[Ljava/lang/StackTraceElement;") ∈ WALL := wall_of (List.mem_append_right _ (List.mem_append_left _ (List.mem_of_getElem? (l := tables_1_2) (i := 43) (by decide +kernel)))) rfl
theorem wd_2_44 : (Jvm.Cond.lays "java/lang/IllegalArgumentException" "java/lang/Throwable" "suppressedExceptions" "Ljava/util/List;") ∈ WALL := wall_of (List.mem_append_right _ (List.mem_append_left _ (List.mem_of_getElem? (l := tables_1_2) (i := 44) (by decide +kernel)))) rfl
theorem wd_2_45 : (Jvm.Cond.lays "java/lang/IllegalArgumentException" "java/lang/Throwable" "detailMessage" "Ljava/lang/String;") ∈ WALL := wall_of (List.mem_append_right _ (List.mem_append_left _ (List.mem_of_getElem? (l := tables_1_2) (i := 45) (by decide +kernel)))) rfl
theorem wd_2_46 : (Jvm.Cond.lays "java/lang/IllegalArgumentException" "java/lang/Throwable" "backtrace" "Ljava/lang/Object;") ∈ WALL := wall_of (List.mem_append_right _ (List.mem_append_left _ (List.mem_of_getElem? (l := tables_1_2) (i := 46) (by decide +kernel)))) rfl
theorem wd_2_48 : (Jvm.Cond.methodLink "ChocolateMoulds" (49 : Nat) ({ cls := "java/lang/IllegalArgumentException", name := "<init>", desc := "(Ljava/lang/String;)V" } : Jvm.MethodName)) ∈ WALL := wall_of (List.mem_append_right _ (List.mem_append_left _ (List.mem_of_getElem? (l := tables_1_2) (i := 48) (by decide +kernel)))) rfl
theorem wd_2_49 : (Jvm.Cond.instanceMethod ({ cls := "java/lang/IllegalArgumentException", name := "<init>", desc := "(Ljava/lang/String;)V" } : Jvm.MethodName)) ∈ WALL := wall_of (List.mem_append_right _ (List.mem_append_left _ (List.mem_of_getElem? (l := tables_1_2) (i := 49) (by decide +kernel)))) rfl
theorem wd_2_50 : (Jvm.Cond.code ({ cls := "java/lang/IllegalArgumentException", name := "<init>", desc := "(Ljava/lang/String;)V" } : Jvm.MethodName) prog_9_method_2_code (2 : Nat) (Option.none : Option Jvm.ClassFile.FieldType)) ∈ WALL := wall_of (List.mem_append_right _ (List.mem_append_left _ (List.mem_of_getElem? (l := tables_1_2) (i := 50) (by decide +kernel)))) rfl
theorem wd_2_51 : (Jvm.Cond.methodLink "java/lang/IllegalArgumentException" (7 : Nat) ({ cls := "java/lang/RuntimeException", name := "<init>", desc := "(Ljava/lang/String;)V" } : Jvm.MethodName)) ∈ WALL := wall_of (List.mem_append_right _ (List.mem_append_left _ (List.mem_of_getElem? (l := tables_1_2) (i := 51) (by decide +kernel)))) rfl
theorem wd_2_52 : (Jvm.Cond.lays "java/lang/IllegalArgumentException" "java/lang/Throwable" "depth" "I") ∈ WALL := wall_of (List.mem_append_right _ (List.mem_append_left _ (List.mem_of_getElem? (l := tables_1_2) (i := 52) (by decide +kernel)))) rfl
theorem wd_2_53 : (Jvm.Cond.superclass "java/lang/IllegalArgumentException" "java/lang/RuntimeException") ∈ WALL := wall_of (List.mem_append_right _ (List.mem_append_left _ (List.mem_of_getElem? (l := tables_1_2) (i := 53) (by decide +kernel)))) rfl
theorem wd_2_54 : (Jvm.Cond.classLink "ChocolateMoulds" (56 : Nat) "java/lang/IllegalStateException") ∈ WALL := wall_of (List.mem_append_right _ (List.mem_append_left _ (List.mem_of_getElem? (l := tables_1_2) (i := 54) (by decide +kernel)))) rfl
theorem wd_2_55 : (Jvm.Cond.instantiable "java/lang/IllegalStateException" (6 : Nat)) ∈ WALL := wall_of (List.mem_append_right _ (List.mem_append_left _ (List.mem_of_getElem? (l := tables_1_2) (i := 55) (by decide +kernel)))) rfl
theorem wd_2_57 : (Jvm.Cond.selects "java/lang/IllegalStateException" ({ cls := "java/lang/Throwable", name := "fillInStackTrace", desc := "(I)Ljava/lang/Throwable;" } : Jvm.MethodName) ({ cls := "java/lang/Throwable", name := "fillInStackTrace", desc := "(I)Ljava/lang/Throwable;" } : Jvm.MethodName)) ∈ WALL := wall_of (List.mem_append_right _ (List.mem_append_left _ (List.mem_of_getElem? (l := tables_1_2) (i := 57) (by decide +kernel)))) rfl
theorem wd_2_58 : (Jvm.Cond.lays "java/lang/IllegalStateException" "java/lang/Throwable" "cause" "Ljava/lang/Throwable;") ∈ WALL := wall_of (List.mem_append_right _ (List.mem_append_left _ (List.mem_of_getElem? (l := tables_1_2) (i := 58) (by decide +kernel)))) rfl
theorem wd_2_59 : (Jvm.Cond.lays "java/lang/IllegalStateException" "java/lang/Throwable" "stackTrace" "[Ljava/lang/StackTraceElement;") ∈ WALL := wall_of (List.mem_append_right _ (List.mem_append_left _ (List.mem_of_getElem? (l := tables_1_2) (i := 59) (by decide +kernel)))) rfl
theorem wd_2_60 : (Jvm.Cond.lays "java/lang/IllegalStateException" "java/lang/Throwable" "suppressedExceptions" "Ljava/util/List;") ∈ WALL := wall_of (List.mem_append_right _ (List.mem_append_left _ (List.mem_of_getElem? (l := tables_1_2) (i := 60) (by decide +kernel)))) rfl
theorem wd_2_61 : (Jvm.Cond.lays "java/lang/IllegalStateException" "java/lang/Throwable" "detailMessage" "Ljava/lang/String;") ∈ WALL := wall_of (List.mem_append_right _ (List.mem_append_left _ (List.mem_of_getElem? (l := tables_1_2) (i := 61) (by decide +kernel)))) rfl
theorem wd_2_62 : (Jvm.Cond.lays "java/lang/IllegalStateException" "java/lang/Throwable" "backtrace" "Ljava/lang/Object;") ∈ WALL := wall_of (List.mem_append_right _ (List.mem_append_left _ (List.mem_of_getElem? (l := tables_1_2) (i := 62) (by decide +kernel)))) rfl
theorem wd_2_64 : (Jvm.Cond.methodLink "ChocolateMoulds" (60 : Nat) ({ cls := "java/lang/IllegalStateException", name := "<init>", desc := "(Ljava/lang/String;)V" } : Jvm.MethodName)) ∈ WALL := wall_of (List.mem_append_right _ (List.mem_append_left _ (List.mem_of_getElem? (l := tables_1_2) (i := 64) (by decide +kernel)))) rfl
theorem wd_2_65 : (Jvm.Cond.instanceMethod ({ cls := "java/lang/IllegalStateException", name := "<init>", desc := "(Ljava/lang/String;)V" } : Jvm.MethodName)) ∈ WALL := wall_of (List.mem_append_right _ (List.mem_append_left _ (List.mem_of_getElem? (l := tables_1_2) (i := 65) (by decide +kernel)))) rfl
theorem wd_2_66 : (Jvm.Cond.code ({ cls := "java/lang/IllegalStateException", name := "<init>", desc := "(Ljava/lang/String;)V" } : Jvm.MethodName) prog_10_method_2_code (2 : Nat) (Option.none : Option Jvm.ClassFile.FieldType)) ∈ WALL := wall_of (List.mem_append_right _ (List.mem_append_left _ (List.mem_of_getElem? (l := tables_1_2) (i := 66) (by decide +kernel)))) rfl
theorem wd_2_67 : (Jvm.Cond.methodLink "java/lang/IllegalStateException" (7 : Nat) ({ cls := "java/lang/RuntimeException", name := "<init>", desc := "(Ljava/lang/String;)V" } : Jvm.MethodName)) ∈ WALL := wall_of (List.mem_append_right _ (List.mem_append_left _ (List.mem_of_getElem? (l := tables_1_2) (i := 67) (by decide +kernel)))) rfl
theorem wd_2_68 : (Jvm.Cond.lays "java/lang/IllegalStateException" "java/lang/Throwable" "depth" "I") ∈ WALL := wall_of (List.mem_append_right _ (List.mem_append_left _ (List.mem_of_getElem? (l := tables_1_2) (i := 68) (by decide +kernel)))) rfl
theorem wd_2_69 : (Jvm.Cond.superclass "java/lang/IllegalStateException" "java/lang/RuntimeException") ∈ WALL := wall_of (List.mem_append_right _ (List.mem_append_left _ (List.mem_of_getElem? (l := tables_1_2) (i := 69) (by decide +kernel)))) rfl
theorem wd_2_70 : (Jvm.Cond.instantiable "ChocolateMoulds$Bowl" (3 : Nat)) ∈ WALL := wall_of (List.mem_append_right _ (List.mem_append_left _ (List.mem_of_getElem? (l := tables_1_2) (i := 70) (by decide +kernel)))) rfl
theorem wd_2_71 : (Jvm.Cond.methodLink "ChocolateMoulds" (61 : Nat) ({ cls := "ChocolateMoulds$Bowl", name := "<init>", desc := "(I)V" } : Jvm.MethodName)) ∈ WALL := wall_of (List.mem_append_right _ (List.mem_append_left _ (List.mem_of_getElem? (l := tables_1_2) (i := 71) (by decide +kernel)))) rfl
theorem wd_2_72 : (Jvm.Cond.instanceMethod ({ cls := "ChocolateMoulds$Bowl", name := "<init>", desc := "(I)V" } : Jvm.MethodName)) ∈ WALL := wall_of (List.mem_append_right _ (List.mem_append_left _ (List.mem_of_getElem? (l := tables_1_2) (i := 72) (by decide +kernel)))) rfl
theorem wd_2_73 : (Jvm.Cond.code ({ cls := "ChocolateMoulds$Bowl", name := "<init>", desc := "(I)V" } : Jvm.MethodName) prog_2_method_1_code (2 : Nat) (Option.none : Option Jvm.ClassFile.FieldType)) ∈ WALL := wall_of (List.mem_append_right _ (List.mem_append_left _ (List.mem_of_getElem? (l := tables_1_2) (i := 73) (by decide +kernel)))) rfl
theorem wd_2_74 : (Jvm.Cond.methodLink "ChocolateMoulds$Bowl" (1 : Nat) ({ cls := "java/lang/Object", name := "<init>", desc := "()V" } : Jvm.MethodName)) ∈ WALL := wall_of (List.mem_append_right _ (List.mem_append_left _ (List.mem_of_getElem? (l := tables_1_2) (i := 74) (by decide +kernel)))) rfl
theorem wd_2_75 : (Jvm.Cond.classLink "ChocolateMoulds$Bowl" (7 : Nat) "ChocolateMoulds$Crystals") ∈ WALL := wall_of (List.mem_append_right _ (List.mem_append_left _ (List.mem_of_getElem? (l := tables_1_2) (i := 75) (by decide +kernel)))) rfl
theorem wd_2_76 : (Jvm.Cond.methodLink "ChocolateMoulds$Bowl" (9 : Nat) ({ cls := "ChocolateMoulds$Crystals", name := "<init>", desc := "()V" } : Jvm.MethodName)) ∈ WALL := wall_of (List.mem_append_right _ (List.mem_append_left _ (List.mem_of_getElem? (l := tables_1_2) (i := 76) (by decide +kernel)))) rfl
theorem wd_2_77 : (Jvm.Cond.fieldLink "ChocolateMoulds$Bowl" (10 : Nat) "ChocolateMoulds$Bowl" "crystals" "LChocolateMoulds$Crystals;") ∈ WALL := wall_of (List.mem_append_right _ (List.mem_append_left _ (List.mem_of_getElem? (l := tables_1_2) (i := 77) (by decide +kernel)))) rfl
theorem wd_2_78 : (Jvm.Cond.fieldLink "ChocolateMoulds" (75 : Nat) "ChocolateMoulds$Bowl" "crystals" "LChocolateMoulds$Crystals;") ∈ WALL := wall_of (List.mem_append_right _ (List.mem_append_left _ (List.mem_of_getElem? (l := tables_1_2) (i := 78) (by decide +kernel)))) rfl
theorem wd_2_79 : (Jvm.Cond.fieldLink "ChocolateMoulds$Bowl" (16 : Nat) "ChocolateMoulds$Bowl" "grams" "I") ∈ WALL := wall_of (List.mem_append_right _ (List.mem_append_left _ (List.mem_of_getElem? (l := tables_1_2) (i := 79) (by decide +kernel)))) rfl
theorem wd_2_80 : (Jvm.Cond.fieldLink "ChocolateMoulds" (93 : Nat) "ChocolateMoulds$Bowl" "grams" "I") ∈ WALL := wall_of (List.mem_append_right _ (List.mem_append_left _ (List.mem_of_getElem? (l := tables_1_2) (i := 80) (by decide +kernel)))) rfl
theorem wd_2_81 : (Jvm.Cond.fieldLink "ChocolateMoulds$Bowl" (20 : Nat) "ChocolateMoulds$Bowl" "warmth" "I") ∈ WALL := wall_of (List.mem_append_right _ (List.mem_append_left _ (List.mem_of_getElem? (l := tables_1_2) (i := 81) (by decide +kernel)))) rfl
theorem wd_2_82 : (Jvm.Cond.fieldLink "ChocolateMoulds" (72 : Nat) "ChocolateMoulds$Bowl" "warmth" "I") ∈ WALL := wall_of (List.mem_append_right _ (List.mem_append_left _ (List.mem_of_getElem? (l := tables_1_2) (i := 82) (by decide +kernel)))) rfl
theorem wd_2_83 : (Jvm.Cond.laysFinal "ChocolateMoulds$Bowl" "ChocolateMoulds$Bowl" "crystals" "LChocolateMoulds$Crystals;") ∈ WALL := wall_of (List.mem_append_right _ (List.mem_append_left _ (List.mem_of_getElem? (l := tables_1_2) (i := 83) (by decide +kernel)))) rfl
theorem wd_2_85 : (Jvm.Cond.lays "ChocolateMoulds$Bowl" "ChocolateMoulds$Bowl" "grams" "I") ∈ WALL := wall_of (List.mem_append_right _ (List.mem_append_left _ (List.mem_of_getElem? (l := tables_1_2) (i := 85) (by decide +kernel)))) rfl
theorem wd_2_87 : (Jvm.Cond.lays "ChocolateMoulds$Bowl" "ChocolateMoulds$Bowl" "warmth" "I") ∈ WALL := wall_of (List.mem_append_right _ (List.mem_append_left _ (List.mem_of_getElem? (l := tables_1_2) (i := 87) (by decide +kernel)))) rfl
theorem wd_2_89 : (Jvm.Cond.superclass "ChocolateMoulds$Bowl" "java/lang/Object") ∈ WALL := wall_of (List.mem_append_right _ (List.mem_append_left _ (List.mem_of_getElem? (l := tables_1_2) (i := 89) (by decide +kernel)))) rfl
theorem wd_2_90 : (Jvm.Cond.methodLink "ChocolateMouldsLaw" (84 : Nat) ({ cls := "ChocolateMouldsLaw", name := "warm", desc := "(LChocolateMoulds;III[J)I" } : Jvm.MethodName)) ∈ WALL := wall_of (List.mem_append_right _ (List.mem_append_left _ (List.mem_of_getElem? (l := tables_1_2) (i := 90) (by decide +kernel)))) rfl
theorem wd_2_91 : (Jvm.Cond.static ({ cls := "ChocolateMouldsLaw", name := "warm", desc := "(LChocolateMoulds;III[J)I" } : Jvm.MethodName)) ∈ WALL := wall_of (List.mem_append_right _ (List.mem_append_left _ (List.mem_of_getElem? (l := tables_1_2) (i := 91) (by decide +kernel)))) rfl
theorem wd_2_92 : (Jvm.Cond.codeWith ({ cls := "ChocolateMouldsLaw", name := "warm", desc := "(LChocolateMoulds;III[J)I" } : Jvm.MethodName) method_4_code (6 : Nat) (Option.some Jvm.ClassFile.FieldType.int) [((0 : Nat), (12 : Nat), (15 : Nat), (21 : Nat)), ((0 : Nat), (12 : Nat), (19 : Nat), (13 : Nat))]) ∈ WALL := wall_of (List.mem_append_right _ (List.mem_append_left _ (List.mem_of_getElem? (l := tables_1_2) (i := 92) (by decide +kernel)))) rfl
theorem wd_2_93 : (Jvm.Cond.classLink "ChocolateMouldsLaw" (21 : Nat) "java/lang/IndexOutOfBoundsException") ∈ WALL := wall_of (List.mem_append_right _ (List.mem_append_left _ (List.mem_of_getElem? (l := tables_1_2) (i := 93) (by decide +kernel)))) rfl
theorem wd_2_94 : (Jvm.Cond.methodLink "ChocolateMouldsLaw" (17 : Nat) ({ cls := "ChocolateMoulds", name := "warm", desc := "(III)I" } : Jvm.MethodName)) ∈ WALL := wall_of (List.mem_append_right _ (List.mem_append_left _ (List.mem_of_getElem? (l := tables_1_2) (i := 94) (by decide +kernel)))) rfl
theorem wd_2_95 : (Jvm.Cond.instanceMethod ({ cls := "ChocolateMoulds", name := "warm", desc := "(III)I" } : Jvm.MethodName)) ∈ WALL := wall_of (List.mem_append_right _ (List.mem_append_left _ (List.mem_of_getElem? (l := tables_1_2) (i := 95) (by decide +kernel)))) rfl
theorem wd_2_96 : (Jvm.Cond.selects "ChocolateMoulds" ({ cls := "ChocolateMoulds", name := "warm", desc := "(III)I" } : Jvm.MethodName) ({ cls := "ChocolateMoulds", name := "warm", desc := "(III)I" } : Jvm.MethodName)) ∈ WALL := wall_of (List.mem_append_right _ (List.mem_append_left _ (List.mem_of_getElem? (l := tables_1_2) (i := 96) (by decide +kernel)))) rfl
theorem wd_2_97 : (Jvm.Cond.code ({ cls := "ChocolateMoulds", name := "warm", desc := "(III)I" } : Jvm.MethodName) prog_1_method_3_code (5 : Nat) (Option.some Jvm.ClassFile.FieldType.int)) ∈ WALL := wall_of (List.mem_append_right _ (List.mem_append_left _ (List.mem_of_getElem? (l := tables_1_2) (i := 97) (by decide +kernel)))) rfl
theorem wd_2_98 : (Jvm.Cond.methodLink "ChocolateMoulds" (68 : Nat) ({ cls := "ChocolateMoulds", name := "checkWarming", desc := "(II)V" } : Jvm.MethodName)) ∈ WALL := wall_of (List.mem_append_right _ (List.mem_append_left _ (List.mem_of_getElem? (l := tables_1_2) (i := 98) (by decide +kernel)))) rfl
theorem wd_2_99 : (Jvm.Cond.static ({ cls := "ChocolateMoulds", name := "checkWarming", desc := "(II)V" } : Jvm.MethodName)) ∈ WALL := wall_of (List.mem_append_right _ (List.mem_append_left _ (List.mem_of_getElem? (l := tables_1_2) (i := 99) (by decide +kernel)))) rfl
theorem wd_2_100 : (Jvm.Cond.code ({ cls := "ChocolateMoulds", name := "checkWarming", desc := "(II)V" } : Jvm.MethodName) prog_1_method_23_code (2 : Nat) (Option.none : Option Jvm.ClassFile.FieldType)) ∈ WALL := wall_of (List.mem_append_right _ (List.mem_append_left _ (List.mem_of_getElem? (l := tables_1_2) (i := 100) (by decide +kernel)))) rfl
theorem wd_2_102 : (Jvm.Cond.methodLink "ChocolateMoulds" (78 : Nat) ({ cls := "ChocolateMoulds$Crystals", name := "keepAt", desc := "(II)V" } : Jvm.MethodName)) ∈ WALL := wall_of (List.mem_append_right _ (List.mem_append_left _ (List.mem_of_getElem? (l := tables_1_2) (i := 102) (by decide +kernel)))) rfl
theorem wd_2_103 : (Jvm.Cond.instanceMethod ({ cls := "ChocolateMoulds$Crystals", name := "keepAt", desc := "(II)V" } : Jvm.MethodName)) ∈ WALL := wall_of (List.mem_append_right _ (List.mem_append_left _ (List.mem_of_getElem? (l := tables_1_2) (i := 103) (by decide +kernel)))) rfl
theorem wd_2_104 : (Jvm.Cond.selects "ChocolateMoulds$Crystals" ({ cls := "ChocolateMoulds$Crystals", name := "keepAt", desc := "(II)V" } : Jvm.MethodName) ({ cls := "ChocolateMoulds$Crystals", name := "keepAt", desc := "(II)V" } : Jvm.MethodName)) ∈ WALL := wall_of (List.mem_append_right _ (List.mem_append_left _ (List.mem_of_getElem? (l := tables_1_2) (i := 104) (by decide +kernel)))) rfl
theorem wd_2_105 : (Jvm.Cond.code ({ cls := "ChocolateMoulds$Crystals", name := "keepAt", desc := "(II)V" } : Jvm.MethodName) prog_4_method_4_code (4 : Nat) (Option.none : Option Jvm.ClassFile.FieldType)) ∈ WALL := wall_of (List.mem_append_right _ (List.mem_append_left _ (List.mem_of_getElem? (l := tables_1_2) (i := 105) (by decide +kernel)))) rfl
theorem wd_2_106 : (Jvm.Cond.methodLink "ChocolateMoulds$Crystals" (15 : Nat) ({ cls := "ChocolateMoulds$Crystals", name := "halveWhatMelts", desc := "(I)V" } : Jvm.MethodName)) ∈ WALL := wall_of (List.mem_append_right _ (List.mem_append_left _ (List.mem_of_getElem? (l := tables_1_2) (i := 106) (by decide +kernel)))) rfl
theorem wd_2_107 : (Jvm.Cond.instanceMethod ({ cls := "ChocolateMoulds$Crystals", name := "halveWhatMelts", desc := "(I)V" } : Jvm.MethodName)) ∈ WALL := wall_of (List.mem_append_right _ (List.mem_append_left _ (List.mem_of_getElem? (l := tables_1_2) (i := 107) (by decide +kernel)))) rfl
theorem wd_2_108 : (Jvm.Cond.selects "ChocolateMoulds$Crystals" ({ cls := "ChocolateMoulds$Crystals", name := "halveWhatMelts", desc := "(I)V" } : Jvm.MethodName) ({ cls := "ChocolateMoulds$Crystals", name := "halveWhatMelts", desc := "(I)V" } : Jvm.MethodName)) ∈ WALL := wall_of (List.mem_append_right _ (List.mem_append_left _ (List.mem_of_getElem? (l := tables_1_2) (i := 108) (by decide +kernel)))) rfl
theorem wd_2_109 : (Jvm.Cond.code ({ cls := "ChocolateMoulds$Crystals", name := "halveWhatMelts", desc := "(I)V" } : Jvm.MethodName) prog_4_method_5_code (3 : Nat) (Option.none : Option Jvm.ClassFile.FieldType)) ∈ WALL := wall_of (List.mem_append_right _ (List.mem_append_left _ (List.mem_of_getElem? (l := tables_1_2) (i := 109) (by decide +kernel)))) rfl
theorem wd_2_110 : (Jvm.Cond.methodLink "ChocolateMoulds$Crystals" (22 : Nat) ({ cls := "ChocolateMoulds$Crystals", name := "meltingPoint", desc := "(I)I" } : Jvm.MethodName)) ∈ WALL := wall_of (List.mem_append_right _ (List.mem_append_left _ (List.mem_of_getElem? (l := tables_1_2) (i := 110) (by decide +kernel)))) rfl
theorem wd_2_111 : (Jvm.Cond.static ({ cls := "ChocolateMoulds$Crystals", name := "meltingPoint", desc := "(I)I" } : Jvm.MethodName)) ∈ WALL := wall_of (List.mem_append_right _ (List.mem_append_left _ (List.mem_of_getElem? (l := tables_1_2) (i := 111) (by decide +kernel)))) rfl
theorem wd_2_112 : (Jvm.Cond.code ({ cls := "ChocolateMoulds$Crystals", name := "meltingPoint", desc := "(I)I" } : Jvm.MethodName) prog_4_method_7_code (1 : Nat) (Option.some Jvm.ClassFile.FieldType.int)) ∈ WALL := wall_of (List.mem_append_right _ (List.mem_append_left _ (List.mem_of_getElem? (l := tables_1_2) (i := 112) (by decide +kernel)))) rfl
theorem wd_2_113 : (Jvm.Cond.methodLink "ChocolateMoulds$Crystals" (19 : Nat) ({ cls := "ChocolateMoulds$Crystals", name := "letGrow", desc := "(I)V" } : Jvm.MethodName)) ∈ WALL := wall_of (List.mem_append_right _ (List.mem_append_left _ (List.mem_of_getElem? (l := tables_1_2) (i := 113) (by decide +kernel)))) rfl
theorem wd_2_114 : (Jvm.Cond.instanceMethod ({ cls := "ChocolateMoulds$Crystals", name := "letGrow", desc := "(I)V" } : Jvm.MethodName)) ∈ WALL := wall_of (List.mem_append_right _ (List.mem_append_left _ (List.mem_of_getElem? (l := tables_1_2) (i := 114) (by decide +kernel)))) rfl
theorem wd_2_115 : (Jvm.Cond.selects "ChocolateMoulds$Crystals" ({ cls := "ChocolateMoulds$Crystals", name := "letGrow", desc := "(I)V" } : Jvm.MethodName) ({ cls := "ChocolateMoulds$Crystals", name := "letGrow", desc := "(I)V" } : Jvm.MethodName)) ∈ WALL := wall_of (List.mem_append_right _ (List.mem_append_left _ (List.mem_of_getElem? (l := tables_1_2) (i := 115) (by decide +kernel)))) rfl
theorem wd_2_116 : (Jvm.Cond.code ({ cls := "ChocolateMoulds$Crystals", name := "letGrow", desc := "(I)V" } : Jvm.MethodName) prog_4_method_6_code (3 : Nat) (Option.none : Option Jvm.ClassFile.FieldType)) ∈ WALL := wall_of (List.mem_append_right _ (List.mem_append_left _ (List.mem_of_getElem? (l := tables_1_2) (i := 116) (by decide +kernel)))) rfl
theorem wd_2_117 : (Jvm.Cond.methodLink "ChocolateMoulds$Crystals" (26 : Nat) ({ cls := "ChocolateMoulds$Crystals", name := "growingSort", desc := "(I)I" } : Jvm.MethodName)) ∈ WALL := wall_of (List.mem_append_right _ (List.mem_append_left _ (List.mem_of_getElem? (l := tables_1_2) (i := 117) (by decide +kernel)))) rfl
theorem wd_2_118 : (Jvm.Cond.static ({ cls := "ChocolateMoulds$Crystals", name := "growingSort", desc := "(I)I" } : Jvm.MethodName)) ∈ WALL := wall_of (List.mem_append_right _ (List.mem_append_left _ (List.mem_of_getElem? (l := tables_1_2) (i := 118) (by decide +kernel)))) rfl
theorem wd_2_119 : (Jvm.Cond.code ({ cls := "ChocolateMoulds$Crystals", name := "growingSort", desc := "(I)I" } : Jvm.MethodName) prog_4_method_8_code (2 : Nat) (Option.some Jvm.ClassFile.FieldType.int)) ∈ WALL := wall_of (List.mem_append_right _ (List.mem_append_left _ (List.mem_of_getElem? (l := tables_1_2) (i := 119) (by decide +kernel)))) rfl
theorem wd_2_120 : (Jvm.Cond.methodLink "ChocolateMoulds$Crystals" (29 : Nat) ({ cls := "ChocolateMoulds$Crystals", name := "increase", desc := "(II)V" } : Jvm.MethodName)) ∈ WALL := wall_of (List.mem_append_right _ (List.mem_append_left _ (List.mem_of_getElem? (l := tables_1_2) (i := 120) (by decide +kernel)))) rfl
theorem wd_2_121 : (Jvm.Cond.instanceMethod ({ cls := "ChocolateMoulds$Crystals", name := "increase", desc := "(II)V" } : Jvm.MethodName)) ∈ WALL := wall_of (List.mem_append_right _ (List.mem_append_left _ (List.mem_of_getElem? (l := tables_1_2) (i := 121) (by decide +kernel)))) rfl
theorem wd_2_122 : (Jvm.Cond.selects "ChocolateMoulds$Crystals" ({ cls := "ChocolateMoulds$Crystals", name := "increase", desc := "(II)V" } : Jvm.MethodName) ({ cls := "ChocolateMoulds$Crystals", name := "increase", desc := "(II)V" } : Jvm.MethodName)) ∈ WALL := wall_of (List.mem_append_right _ (List.mem_append_left _ (List.mem_of_getElem? (l := tables_1_2) (i := 122) (by decide +kernel)))) rfl
theorem wd_2_123 : (Jvm.Cond.code ({ cls := "ChocolateMoulds$Crystals", name := "increase", desc := "(II)V" } : Jvm.MethodName) prog_4_method_9_code (3 : Nat) (Option.none : Option Jvm.ClassFile.FieldType)) ∈ WALL := wall_of (List.mem_append_right _ (List.mem_append_left _ (List.mem_of_getElem? (l := tables_1_2) (i := 123) (by decide +kernel)))) rfl
theorem wd_2_124 : (Jvm.Cond.methodLink "ChocolateMoulds$Crystals" (33 : Nat) ({ cls := "ChocolateMoulds$Crystals", name := "total", desc := "()I" } : Jvm.MethodName)) ∈ WALL := wall_of (List.mem_append_right _ (List.mem_append_left _ (List.mem_of_getElem? (l := tables_1_2) (i := 124) (by decide +kernel)))) rfl
theorem wd_2_125 : (Jvm.Cond.instanceMethod ({ cls := "ChocolateMoulds$Crystals", name := "total", desc := "()I" } : Jvm.MethodName)) ∈ WALL := wall_of (List.mem_append_right _ (List.mem_append_left _ (List.mem_of_getElem? (l := tables_1_2) (i := 125) (by decide +kernel)))) rfl
theorem wd_2_126 : (Jvm.Cond.selects "ChocolateMoulds$Crystals" ({ cls := "ChocolateMoulds$Crystals", name := "total", desc := "()I" } : Jvm.MethodName) ({ cls := "ChocolateMoulds$Crystals", name := "total", desc := "()I" } : Jvm.MethodName)) ∈ WALL := wall_of (List.mem_append_right _ (List.mem_append_left _ (List.mem_of_getElem? (l := tables_1_2) (i := 126) (by decide +kernel)))) rfl
theorem wd_2_127 : (Jvm.Cond.code ({ cls := "ChocolateMoulds$Crystals", name := "total", desc := "()I" } : Jvm.MethodName) prog_4_method_10_code (3 : Nat) (Option.some Jvm.ClassFile.FieldType.int)) ∈ WALL := wall_of (List.mem_append_right _ (List.mem_append_left _ (List.mem_of_getElem? (l := tables_1_2) (i := 127) (by decide +kernel)))) rfl
theorem wd_2_128 : (Jvm.Cond.methodLink "ChocolateMouldsLaw" (88 : Nat) ({ cls := "ChocolateMouldsLaw", name := "seed", desc := "(LChocolateMoulds;II[J)I" } : Jvm.MethodName)) ∈ WALL := wall_of (List.mem_append_right _ (List.mem_append_left _ (List.mem_of_getElem? (l := tables_1_2) (i := 128) (by decide +kernel)))) rfl
theorem wd_2_129 : (Jvm.Cond.static ({ cls := "ChocolateMouldsLaw", name := "seed", desc := "(LChocolateMoulds;II[J)I" } : Jvm.MethodName)) ∈ WALL := wall_of (List.mem_append_right _ (List.mem_append_left _ (List.mem_of_getElem? (l := tables_1_2) (i := 129) (by decide +kernel)))) rfl
theorem wd_2_130 : (Jvm.Cond.codeWith ({ cls := "ChocolateMouldsLaw", name := "seed", desc := "(LChocolateMoulds;II[J)I" } : Jvm.MethodName) method_5_code (5 : Nat) (Option.some Jvm.ClassFile.FieldType.int) [((0 : Nat), (10 : Nat), (13 : Nat), (21 : Nat)), ((0 : Nat), (10 : Nat), (17 : Nat), (13 : Nat))]) ∈ WALL := wall_of (List.mem_append_right _ (List.mem_append_left _ (List.mem_of_getElem? (l := tables_1_2) (i := 130) (by decide +kernel)))) rfl
theorem wd_2_131 : (Jvm.Cond.methodLink "ChocolateMouldsLaw" (23 : Nat) ({ cls := "ChocolateMoulds", name := "seed", desc := "(II)I" } : Jvm.MethodName)) ∈ WALL := wall_of (List.mem_append_right _ (List.mem_append_left _ (List.mem_of_getElem? (l := tables_1_2) (i := 131) (by decide +kernel)))) rfl
theorem wd_2_132 : (Jvm.Cond.instanceMethod ({ cls := "ChocolateMoulds", name := "seed", desc := "(II)I" } : Jvm.MethodName)) ∈ WALL := wall_of (List.mem_append_right _ (List.mem_append_left _ (List.mem_of_getElem? (l := tables_1_2) (i := 132) (by decide +kernel)))) rfl
theorem wd_2_133 : (Jvm.Cond.selects "ChocolateMoulds" ({ cls := "ChocolateMoulds", name := "seed", desc := "(II)I" } : Jvm.MethodName) ({ cls := "ChocolateMoulds", name := "seed", desc := "(II)I" } : Jvm.MethodName)) ∈ WALL := wall_of (List.mem_append_right _ (List.mem_append_left _ (List.mem_of_getElem? (l := tables_1_2) (i := 133) (by decide +kernel)))) rfl
theorem wd_2_134 : (Jvm.Cond.code ({ cls := "ChocolateMoulds", name := "seed", desc := "(II)I" } : Jvm.MethodName) prog_1_method_4_code (4 : Nat) (Option.some Jvm.ClassFile.FieldType.int)) ∈ WALL := wall_of (List.mem_append_right _ (List.mem_append_left _ (List.mem_of_getElem? (l := tables_1_2) (i := 134) (by decide +kernel)))) rfl
theorem wd_2_136 : (Jvm.Cond.methodLink "ChocolateMoulds" (87 : Nat) ({ cls := "ChocolateMoulds$Crystals", name := "increase", desc := "(II)V" } : Jvm.MethodName)) ∈ WALL := wall_of (List.mem_append_right _ (List.mem_append_left _ (List.mem_of_getElem? (l := tables_1_2) (i := 136) (by decide +kernel)))) rfl
theorem wd_2_137 : (Jvm.Cond.methodLink "ChocolateMouldsLaw" (92 : Nat) ({ cls := "ChocolateMouldsLaw", name := "pour", desc := "(LChocolateMoulds;II[J)I" } : Jvm.MethodName)) ∈ WALL := wall_of (List.mem_append_right _ (List.mem_append_left _ (List.mem_of_getElem? (l := tables_1_2) (i := 137) (by decide +kernel)))) rfl
theorem wd_2_138 : (Jvm.Cond.static ({ cls := "ChocolateMouldsLaw", name := "pour", desc := "(LChocolateMoulds;II[J)I" } : Jvm.MethodName)) ∈ WALL := wall_of (List.mem_append_right _ (List.mem_append_left _ (List.mem_of_getElem? (l := tables_1_2) (i := 138) (by decide +kernel)))) rfl
theorem wd_2_139 : (Jvm.Cond.codeWith ({ cls := "ChocolateMouldsLaw", name := "pour", desc := "(LChocolateMoulds;II[J)I" } : Jvm.MethodName) method_6_code (5 : Nat) (Option.some Jvm.ClassFile.FieldType.int) [((0 : Nat), (10 : Nat), (13 : Nat), (21 : Nat)), ((0 : Nat), (10 : Nat), (17 : Nat), (13 : Nat))]) ∈ WALL := wall_of (List.mem_append_right _ (List.mem_append_left _ (List.mem_of_getElem? (l := tables_1_2) (i := 139) (by decide +kernel)))) rfl
theorem wd_2_140 : (Jvm.Cond.methodLink "ChocolateMouldsLaw" (27 : Nat) ({ cls := "ChocolateMoulds", name := "pour", desc := "(II)I" } : Jvm.MethodName)) ∈ WALL := wall_of (List.mem_append_right _ (List.mem_append_left _ (List.mem_of_getElem? (l := tables_1_2) (i := 140) (by decide +kernel)))) rfl
theorem wd_2_141 : (Jvm.Cond.instanceMethod ({ cls := "ChocolateMoulds", name := "pour", desc := "(II)I" } : Jvm.MethodName)) ∈ WALL := wall_of (List.mem_append_right _ (List.mem_append_left _ (List.mem_of_getElem? (l := tables_1_2) (i := 141) (by decide +kernel)))) rfl
theorem wd_2_142 : (Jvm.Cond.selects "ChocolateMoulds" ({ cls := "ChocolateMoulds", name := "pour", desc := "(II)I" } : Jvm.MethodName) ({ cls := "ChocolateMoulds", name := "pour", desc := "(II)I" } : Jvm.MethodName)) ∈ WALL := wall_of (List.mem_append_right _ (List.mem_append_left _ (List.mem_of_getElem? (l := tables_1_2) (i := 142) (by decide +kernel)))) rfl
theorem wd_2_143 : (Jvm.Cond.code ({ cls := "ChocolateMoulds", name := "pour", desc := "(II)I" } : Jvm.MethodName) prog_1_method_5_code (6 : Nat) (Option.some Jvm.ClassFile.FieldType.int)) ∈ WALL := wall_of (List.mem_append_right _ (List.mem_append_left _ (List.mem_of_getElem? (l := tables_1_2) (i := 143) (by decide +kernel)))) rfl
theorem wd_2_145 : (Jvm.Cond.methodLink "ChocolateMoulds" (98 : Nat) ({ cls := "ChocolateMoulds$Bowl", name := "takeIn", desc := "(LChocolateMoulds$Bowl;)V" } : Jvm.MethodName)) ∈ WALL := wall_of (List.mem_append_right _ (List.mem_append_left _ (List.mem_of_getElem? (l := tables_1_2) (i := 145) (by decide +kernel)))) rfl
theorem wd_2_146 : (Jvm.Cond.instanceMethod ({ cls := "ChocolateMoulds$Bowl", name := "takeIn", desc := "(LChocolateMoulds$Bowl;)V" } : Jvm.MethodName)) ∈ WALL := wall_of (List.mem_append_right _ (List.mem_append_left _ (List.mem_of_getElem? (l := tables_1_2) (i := 146) (by decide +kernel)))) rfl
theorem wd_2_147 : (Jvm.Cond.selects "ChocolateMoulds$Bowl" ({ cls := "ChocolateMoulds$Bowl", name := "takeIn", desc := "(LChocolateMoulds$Bowl;)V" } : Jvm.MethodName) ({ cls := "ChocolateMoulds$Bowl", name := "takeIn", desc := "(LChocolateMoulds$Bowl;)V" } : Jvm.MethodName)) ∈ WALL := wall_of (List.mem_append_right _ (List.mem_append_left _ (List.mem_of_getElem? (l := tables_1_2) (i := 147) (by decide +kernel)))) rfl
theorem wd_2_148 : (Jvm.Cond.code ({ cls := "ChocolateMoulds$Bowl", name := "takeIn", desc := "(LChocolateMoulds$Bowl;)V" } : Jvm.MethodName) prog_2_method_2_code (3 : Nat) (Option.none : Option Jvm.ClassFile.FieldType)) ∈ WALL := wall_of (List.mem_append_right _ (List.mem_append_left _ (List.mem_of_getElem? (l := tables_1_2) (i := 148) (by decide +kernel)))) rfl
theorem wd_2_149 : (Jvm.Cond.methodLink "ChocolateMoulds$Bowl" (27 : Nat) ({ cls := "ChocolateMoulds$Bowl", name := "mixed", desc := "(III)I" } : Jvm.MethodName)) ∈ WALL := wall_of (List.mem_append_right _ (List.mem_append_left _ (List.mem_of_getElem? (l := tables_1_2) (i := 149) (by decide +kernel)))) rfl
theorem wd_2_150 : (Jvm.Cond.instanceMethod ({ cls := "ChocolateMoulds$Bowl", name := "mixed", desc := "(III)I" } : Jvm.MethodName)) ∈ WALL := wall_of (List.mem_append_right _ (List.mem_append_left _ (List.mem_of_getElem? (l := tables_1_2) (i := 150) (by decide +kernel)))) rfl
theorem wd_2_151 : (Jvm.Cond.selects "ChocolateMoulds$Bowl" ({ cls := "ChocolateMoulds$Bowl", name := "mixed", desc := "(III)I" } : Jvm.MethodName) ({ cls := "ChocolateMoulds$Bowl", name := "mixed", desc := "(III)I" } : Jvm.MethodName)) ∈ WALL := wall_of (List.mem_append_right _ (List.mem_append_left _ (List.mem_of_getElem? (l := tables_1_2) (i := 151) (by decide +kernel)))) rfl
theorem wd_2_152 : (Jvm.Cond.code ({ cls := "ChocolateMoulds$Bowl", name := "mixed", desc := "(III)I" } : Jvm.MethodName) prog_2_method_3_code (5 : Nat) (Option.some Jvm.ClassFile.FieldType.int)) ∈ WALL := wall_of (List.mem_append_right _ (List.mem_append_left _ (List.mem_of_getElem? (l := tables_1_2) (i := 152) (by decide +kernel)))) rfl
theorem wd_2_153 : (Jvm.Cond.methodLink "ChocolateMoulds$Bowl" (31 : Nat) ({ cls := "ChocolateMoulds$Crystals", name := "vanish", desc := "()V" } : Jvm.MethodName)) ∈ WALL := wall_of (List.mem_append_right _ (List.mem_append_left _ (List.mem_of_getElem? (l := tables_1_2) (i := 153) (by decide +kernel)))) rfl
theorem wd_2_154 : (Jvm.Cond.instanceMethod ({ cls := "ChocolateMoulds$Crystals", name := "vanish", desc := "()V" } : Jvm.MethodName)) ∈ WALL := wall_of (List.mem_append_right _ (List.mem_append_left _ (List.mem_of_getElem? (l := tables_1_2) (i := 154) (by decide +kernel)))) rfl
theorem wd_2_155 : (Jvm.Cond.selects "ChocolateMoulds$Crystals" ({ cls := "ChocolateMoulds$Crystals", name := "vanish", desc := "()V" } : Jvm.MethodName) ({ cls := "ChocolateMoulds$Crystals", name := "vanish", desc := "()V" } : Jvm.MethodName)) ∈ WALL := wall_of (List.mem_append_right _ (List.mem_append_left _ (List.mem_of_getElem? (l := tables_1_2) (i := 155) (by decide +kernel)))) rfl
theorem wd_2_156 : (Jvm.Cond.code ({ cls := "ChocolateMoulds$Crystals", name := "vanish", desc := "()V" } : Jvm.MethodName) prog_4_method_3_code (2 : Nat) (Option.none : Option Jvm.ClassFile.FieldType)) ∈ WALL := wall_of (List.mem_append_right _ (List.mem_append_left _ (List.mem_of_getElem? (l := tables_1_2) (i := 156) (by decide +kernel)))) rfl
theorem wd_2_157 : (Jvm.Cond.methodLink "ChocolateMouldsLaw" (95 : Nat) ({ cls := "ChocolateMouldsLaw", name := "cast", desc := "(LChocolateMoulds;III[J)I" } : Jvm.MethodName)) ∈ WALL := wall_of (List.mem_append_right _ (List.mem_append_left _ (List.mem_of_getElem? (l := tables_1_2) (i := 157) (by decide +kernel)))) rfl
theorem wd_2_158 : (Jvm.Cond.static ({ cls := "ChocolateMouldsLaw", name := "cast", desc := "(LChocolateMoulds;III[J)I" } : Jvm.MethodName)) ∈ WALL := wall_of (List.mem_append_right _ (List.mem_append_left _ (List.mem_of_getElem? (l := tables_1_2) (i := 158) (by decide +kernel)))) rfl
theorem wd_2_159 : (Jvm.Cond.codeWith ({ cls := "ChocolateMouldsLaw", name := "cast", desc := "(LChocolateMoulds;III[J)I" } : Jvm.MethodName) method_7_code (6 : Nat) (Option.some Jvm.ClassFile.FieldType.int) [((0 : Nat), (12 : Nat), (15 : Nat), (21 : Nat)), ((0 : Nat), (12 : Nat), (19 : Nat), (13 : Nat)), ((0 : Nat), (12 : Nat), (23 : Nat), (15 : Nat))]) ∈ WALL := wall_of (List.mem_append_right _ (List.mem_append_left _ (List.mem_of_getElem? (l := tables_1_2) (i := 159) (by decide +kernel)))) rfl
theorem wd_2_160 : (Jvm.Cond.methodLink "ChocolateMouldsLaw" (30 : Nat) ({ cls := "ChocolateMoulds", name := "cast", desc := "(III)I" } : Jvm.MethodName)) ∈ WALL := wall_of (List.mem_append_right _ (List.mem_append_left _ (List.mem_of_getElem? (l := tables_1_2) (i := 160) (by decide +kernel)))) rfl
theorem wd_2_161 : (Jvm.Cond.instanceMethod ({ cls := "ChocolateMoulds", name := "cast", desc := "(III)I" } : Jvm.MethodName)) ∈ WALL := wall_of (List.mem_append_right _ (List.mem_append_left _ (List.mem_of_getElem? (l := tables_1_2) (i := 161) (by decide +kernel)))) rfl
theorem wd_2_162 : (Jvm.Cond.selects "ChocolateMoulds" ({ cls := "ChocolateMoulds", name := "cast", desc := "(III)I" } : Jvm.MethodName) ({ cls := "ChocolateMoulds", name := "cast", desc := "(III)I" } : Jvm.MethodName)) ∈ WALL := wall_of (List.mem_append_right _ (List.mem_append_left _ (List.mem_of_getElem? (l := tables_1_2) (i := 162) (by decide +kernel)))) rfl
theorem wd_2_163 : (Jvm.Cond.code ({ cls := "ChocolateMoulds", name := "cast", desc := "(III)I" } : Jvm.MethodName) prog_1_method_6_code (7 : Nat) (Option.some Jvm.ClassFile.FieldType.int)) ∈ WALL := wall_of (List.mem_append_right _ (List.mem_append_left _ (List.mem_of_getElem? (l := tables_1_2) (i := 163) (by decide +kernel)))) rfl
theorem wd_2_165 : (Jvm.Cond.instantiable "ChocolateMoulds$Slab" (5 : Nat)) ∈ WALL := wall_of (List.mem_append_right _ (List.mem_append_left _ (List.mem_of_getElem? (l := tables_1_2) (i := 165) (by decide +kernel)))) rfl
theorem wd_2_166 : (Jvm.Cond.methodLink "ChocolateMoulds" (104 : Nat) ({ cls := "ChocolateMoulds$Slab", name := "<init>", desc := "(III)V" } : Jvm.MethodName)) ∈ WALL := wall_of (List.mem_append_right _ (List.mem_append_left _ (List.mem_of_getElem? (l := tables_1_2) (i := 166) (by decide +kernel)))) rfl
theorem wd_2_167 : (Jvm.Cond.instanceMethod ({ cls := "ChocolateMoulds$Slab", name := "<init>", desc := "(III)V" } : Jvm.MethodName)) ∈ WALL := wall_of (List.mem_append_right _ (List.mem_append_left _ (List.mem_of_getElem? (l := tables_1_2) (i := 167) (by decide +kernel)))) rfl
theorem wd_2_168 : (Jvm.Cond.code ({ cls := "ChocolateMoulds$Slab", name := "<init>", desc := "(III)V" } : Jvm.MethodName) prog_5_method_1_code (4 : Nat) (Option.none : Option Jvm.ClassFile.FieldType)) ∈ WALL := wall_of (List.mem_append_right _ (List.mem_append_left _ (List.mem_of_getElem? (l := tables_1_2) (i := 168) (by decide +kernel)))) rfl
theorem wd_2_169 : (Jvm.Cond.methodLink "ChocolateMoulds$Slab" (3 : Nat) ({ cls := "java/lang/Object", name := "<init>", desc := "()V" } : Jvm.MethodName)) ∈ WALL := wall_of (List.mem_append_right _ (List.mem_append_left _ (List.mem_of_getElem? (l := tables_1_2) (i := 169) (by decide +kernel)))) rfl
theorem wd_2_170 : (Jvm.Cond.fieldLink "ChocolateMoulds$Slab" (18 : Nat) "ChocolateMoulds$Slab" "temper" "I") ∈ WALL := wall_of (List.mem_append_right _ (List.mem_append_left _ (List.mem_of_getElem? (l := tables_1_2) (i := 170) (by decide +kernel)))) rfl
theorem wd_2_171 : (Jvm.Cond.fieldLink "ChocolateMoulds$Box" (29 : Nat) "ChocolateMoulds$Slab" "temper" "I") ∈ WALL := wall_of (List.mem_append_right _ (List.mem_append_left _ (List.mem_of_getElem? (l := tables_1_2) (i := 171) (by decide +kernel)))) rfl
theorem wd_2_172 : (Jvm.Cond.fieldLink "ChocolateMoulds" (183 : Nat) "ChocolateMoulds$Slab" "temper" "I") ∈ WALL := wall_of (List.mem_append_right _ (List.mem_append_left _ (List.mem_of_getElem? (l := tables_1_2) (i := 172) (by decide +kernel)))) rfl
theorem wd_2_173 : (Jvm.Cond.fieldLink "ChocolateMoulds$Slab" (9 : Nat) "ChocolateMoulds$Slab" "columns" "I") ∈ WALL := wall_of (List.mem_append_right _ (List.mem_append_left _ (List.mem_of_getElem? (l := tables_1_2) (i := 173) (by decide +kernel)))) rfl
theorem wd_2_174 : (Jvm.Cond.fieldLink "ChocolateMoulds" (128 : Nat) "ChocolateMoulds$Slab" "columns" "I") ∈ WALL := wall_of (List.mem_append_right _ (List.mem_append_left _ (List.mem_of_getElem? (l := tables_1_2) (i := 174) (by decide +kernel)))) rfl
theorem wd_2_175 : (Jvm.Cond.fieldLink "ChocolateMoulds$Slab" (15 : Nat) "ChocolateMoulds$Slab" "rows" "I") ∈ WALL := wall_of (List.mem_append_right _ (List.mem_append_left _ (List.mem_of_getElem? (l := tables_1_2) (i := 175) (by decide +kernel)))) rfl
theorem wd_2_176 : (Jvm.Cond.fieldLink "ChocolateMoulds" (125 : Nat) "ChocolateMoulds$Slab" "rows" "I") ∈ WALL := wall_of (List.mem_append_right _ (List.mem_append_left _ (List.mem_of_getElem? (l := tables_1_2) (i := 176) (by decide +kernel)))) rfl
theorem wd_2_177 : (Jvm.Cond.fieldLink "ChocolateMoulds$Box" (34 : Nat) "ChocolateMoulds$Slab" "bloom" "I") ∈ WALL := wall_of (List.mem_append_right _ (List.mem_append_left _ (List.mem_of_getElem? (l := tables_1_2) (i := 177) (by decide +kernel)))) rfl
theorem wd_2_178 : (Jvm.Cond.fieldLink "ChocolateMoulds$Slab" (25 : Nat) "ChocolateMoulds$Slab" "bloom" "I") ∈ WALL := wall_of (List.mem_append_right _ (List.mem_append_left _ (List.mem_of_getElem? (l := tables_1_2) (i := 178) (by decide +kernel)))) rfl
theorem wd_2_179 : (Jvm.Cond.fieldLink "ChocolateMoulds" (122 : Nat) "ChocolateMoulds$Slab" "bloom" "I") ∈ WALL := wall_of (List.mem_append_right _ (List.mem_append_left _ (List.mem_of_getElem? (l := tables_1_2) (i := 179) (by decide +kernel)))) rfl
theorem wd_2_180 : (Jvm.Cond.fieldLink "ChocolateMoulds$Slab" (41 : Nat) "ChocolateMoulds$Slab" "age" "I") ∈ WALL := wall_of (List.mem_append_right _ (List.mem_append_left _ (List.mem_of_getElem? (l := tables_1_2) (i := 180) (by decide +kernel)))) rfl
theorem wd_2_181 : (Jvm.Cond.fieldLink "ChocolateMoulds" (185 : Nat) "ChocolateMoulds$Slab" "age" "I") ∈ WALL := wall_of (List.mem_append_right _ (List.mem_append_left _ (List.mem_of_getElem? (l := tables_1_2) (i := 181) (by decide +kernel)))) rfl
theorem wd_2_182 : (Jvm.Cond.laysFinal "ChocolateMoulds$Slab" "ChocolateMoulds$Slab" "temper" "I") ∈ WALL := wall_of (List.mem_append_right _ (List.mem_append_left _ (List.mem_of_getElem? (l := tables_1_2) (i := 182) (by decide +kernel)))) rfl
theorem wd_2_184 : (Jvm.Cond.lays "ChocolateMoulds$Slab" "ChocolateMoulds$Slab" "columns" "I") ∈ WALL := wall_of (List.mem_append_right _ (List.mem_append_left _ (List.mem_of_getElem? (l := tables_1_2) (i := 184) (by decide +kernel)))) rfl
theorem wd_2_186 : (Jvm.Cond.lays "ChocolateMoulds$Slab" "ChocolateMoulds$Slab" "rows" "I") ∈ WALL := wall_of (List.mem_append_right _ (List.mem_append_left _ (List.mem_of_getElem? (l := tables_1_2) (i := 186) (by decide +kernel)))) rfl
theorem wd_2_188 : (Jvm.Cond.lays "ChocolateMoulds$Slab" "ChocolateMoulds$Slab" "bloom" "I") ∈ WALL := wall_of (List.mem_append_right _ (List.mem_append_left _ (List.mem_of_getElem? (l := tables_1_2) (i := 188) (by decide +kernel)))) rfl
theorem wd_2_190 : (Jvm.Cond.lays "ChocolateMoulds$Slab" "ChocolateMoulds$Slab" "age" "I") ∈ WALL := wall_of (List.mem_append_right _ (List.mem_append_left _ (List.mem_of_getElem? (l := tables_1_2) (i := 190) (by decide +kernel)))) rfl
theorem wd_2_192 : (Jvm.Cond.superclass "ChocolateMoulds$Slab" "java/lang/Object") ∈ WALL := wall_of (List.mem_append_right _ (List.mem_append_left _ (List.mem_of_getElem? (l := tables_1_2) (i := 192) (by decide +kernel)))) rfl
theorem wd_2_193 : (Jvm.Cond.methodLink "ChocolateMoulds" (107 : Nat) ({ cls := "ChocolateMoulds$Slab", name := "grams", desc := "()I" } : Jvm.MethodName)) ∈ WALL := wall_of (List.mem_append_right _ (List.mem_append_left _ (List.mem_of_getElem? (l := tables_1_2) (i := 193) (by decide +kernel)))) rfl
theorem wd_2_194 : (Jvm.Cond.instanceMethod ({ cls := "ChocolateMoulds$Slab", name := "grams", desc := "()I" } : Jvm.MethodName)) ∈ WALL := wall_of (List.mem_append_right _ (List.mem_append_left _ (List.mem_of_getElem? (l := tables_1_2) (i := 194) (by decide +kernel)))) rfl
theorem wd_2_195 : (Jvm.Cond.selects "ChocolateMoulds$Slab" ({ cls := "ChocolateMoulds$Slab", name := "grams", desc := "()I" } : Jvm.MethodName) ({ cls := "ChocolateMoulds$Slab", name := "grams", desc := "()I" } : Jvm.MethodName)) ∈ WALL := wall_of (List.mem_append_right _ (List.mem_append_left _ (List.mem_of_getElem? (l := tables_1_2) (i := 195) (by decide +kernel)))) rfl
theorem wd_2_196 : (Jvm.Cond.code ({ cls := "ChocolateMoulds$Slab", name := "grams", desc := "()I" } : Jvm.MethodName) prog_5_method_3_code (1 : Nat) (Option.some Jvm.ClassFile.FieldType.int)) ∈ WALL := wall_of (List.mem_append_right _ (List.mem_append_left _ (List.mem_of_getElem? (l := tables_1_2) (i := 196) (by decide +kernel)))) rfl
theorem wd_2_197 : (Jvm.Cond.methodLink "ChocolateMoulds$Slab" (21 : Nat) ({ cls := "ChocolateMoulds$Slab", name := "squares", desc := "()I" } : Jvm.MethodName)) ∈ WALL := wall_of (List.mem_append_right _ (List.mem_append_left _ (List.mem_of_getElem? (l := tables_1_2) (i := 197) (by decide +kernel)))) rfl
theorem wd_2_199 : (Jvm.Cond.methodLink "ChocolateMoulds" (111 : Nat) ({ cls := "ChocolateMoulds", name := "addSlab", desc := "(LChocolateMoulds$Slab;)I" } : Jvm.MethodName)) ∈ WALL := wall_of (List.mem_append_right _ (List.mem_append_left _ (List.mem_of_getElem? (l := tables_1_2) (i := 199) (by decide +kernel)))) rfl
theorem wd_2_201 : (Jvm.Cond.instanceMethod ({ cls := "ChocolateMoulds", name := "addSlab", desc := "(LChocolateMoulds$Slab;)I" } : Jvm.MethodName)) ∈ WALL := wall_of (List.mem_append_right _ (List.mem_append_left _ (List.mem_of_getElem? (l := tables_1_2) (i := 201) (by decide +kernel)))) rfl
theorem wd_2_202 : (Jvm.Cond.code ({ cls := "ChocolateMoulds", name := "addSlab", desc := "(LChocolateMoulds$Slab;)I" } : Jvm.MethodName) prog_1_method_30_code (3 : Nat) (Option.some Jvm.ClassFile.FieldType.int)) ∈ WALL := wall_of (List.mem_append_right _ (List.mem_append_left _ (List.mem_of_getElem? (l := tables_1_2) (i := 202) (by decide +kernel)))) rfl
theorem wd_2_204 : (Jvm.Cond.methodLink "ChocolateMouldsLaw" (98 : Nat) ({ cls := "ChocolateMouldsLaw", name := "polish", desc := "(LChocolateMoulds;I[J)I" } : Jvm.MethodName)) ∈ WALL := wall_of (List.mem_append_right _ (List.mem_append_left _ (List.mem_of_getElem? (l := tables_1_2) (i := 204) (by decide +kernel)))) rfl
theorem wd_2_205 : (Jvm.Cond.static ({ cls := "ChocolateMouldsLaw", name := "polish", desc := "(LChocolateMoulds;I[J)I" } : Jvm.MethodName)) ∈ WALL := wall_of (List.mem_append_right _ (List.mem_append_left _ (List.mem_of_getElem? (l := tables_1_2) (i := 205) (by decide +kernel)))) rfl
theorem wd_2_206 : (Jvm.Cond.codeWith ({ cls := "ChocolateMouldsLaw", name := "polish", desc := "(LChocolateMoulds;I[J)I" } : Jvm.MethodName) method_8_code (4 : Nat) (Option.some Jvm.ClassFile.FieldType.int) [((0 : Nat), (9 : Nat), (12 : Nat), (21 : Nat))]) ∈ WALL := wall_of (List.mem_append_right _ (List.mem_append_left _ (List.mem_of_getElem? (l := tables_1_2) (i := 206) (by decide +kernel)))) rfl
theorem wd_2_207 : (Jvm.Cond.methodLink "ChocolateMouldsLaw" (33 : Nat) ({ cls := "ChocolateMoulds", name := "polish", desc := "(I)I" } : Jvm.MethodName)) ∈ WALL := wall_of (List.mem_append_right _ (List.mem_append_left _ (List.mem_of_getElem? (l := tables_1_2) (i := 207) (by decide +kernel)))) rfl
theorem wd_2_208 : (Jvm.Cond.instanceMethod ({ cls := "ChocolateMoulds", name := "polish", desc := "(I)I" } : Jvm.MethodName)) ∈ WALL := wall_of (List.mem_append_right _ (List.mem_append_left _ (List.mem_of_getElem? (l := tables_1_2) (i := 208) (by decide +kernel)))) rfl
theorem wd_2_209 : (Jvm.Cond.selects "ChocolateMoulds" ({ cls := "ChocolateMoulds", name := "polish", desc := "(I)I" } : Jvm.MethodName) ({ cls := "ChocolateMoulds", name := "polish", desc := "(I)I" } : Jvm.MethodName)) ∈ WALL := wall_of (List.mem_append_right _ (List.mem_append_left _ (List.mem_of_getElem? (l := tables_1_2) (i := 209) (by decide +kernel)))) rfl
theorem wd_2_210 : (Jvm.Cond.code ({ cls := "ChocolateMoulds", name := "polish", desc := "(I)I" } : Jvm.MethodName) prog_1_method_7_code (3 : Nat) (Option.some Jvm.ClassFile.FieldType.int)) ∈ WALL := wall_of (List.mem_append_right _ (List.mem_append_left _ (List.mem_of_getElem? (l := tables_1_2) (i := 210) (by decide +kernel)))) rfl
theorem wd_2_211 : (Jvm.Cond.methodLink "ChocolateMouldsLaw" (101 : Nat) ({ cls := "ChocolateMouldsLaw", name := "split", desc := "(LChocolateMoulds;IIZ[J)I" } : Jvm.MethodName)) ∈ WALL := wall_of (List.mem_append_right _ (List.mem_append_left _ (List.mem_of_getElem? (l := tables_1_2) (i := 211) (by decide +kernel)))) rfl
theorem wd_2_212 : (Jvm.Cond.static ({ cls := "ChocolateMouldsLaw", name := "split", desc := "(LChocolateMoulds;IIZ[J)I" } : Jvm.MethodName)) ∈ WALL := wall_of (List.mem_append_right _ (List.mem_append_left _ (List.mem_of_getElem? (l := tables_1_2) (i := 212) (by decide +kernel)))) rfl
theorem wd_2_213 : (Jvm.Cond.codeWith ({ cls := "ChocolateMouldsLaw", name := "split", desc := "(LChocolateMoulds;IIZ[J)I" } : Jvm.MethodName) method_9_code (6 : Nat) (Option.some Jvm.ClassFile.FieldType.int) [((0 : Nat), (12 : Nat), (15 : Nat), (21 : Nat)), ((0 : Nat), (12 : Nat), (19 : Nat), (15 : Nat))]) ∈ WALL := wall_of (List.mem_append_right _ (List.mem_append_left _ (List.mem_of_getElem? (l := tables_1_2) (i := 213) (by decide +kernel)))) rfl
theorem wd_2_214 : (Jvm.Cond.methodLink "ChocolateMouldsLaw" (36 : Nat) ({ cls := "ChocolateMoulds", name := "split", desc := "(IIZ)I" } : Jvm.MethodName)) ∈ WALL := wall_of (List.mem_append_right _ (List.mem_append_left _ (List.mem_of_getElem? (l := tables_1_2) (i := 214) (by decide +kernel)))) rfl
theorem wd_2_215 : (Jvm.Cond.instanceMethod ({ cls := "ChocolateMoulds", name := "split", desc := "(IIZ)I" } : Jvm.MethodName)) ∈ WALL := wall_of (List.mem_append_right _ (List.mem_append_left _ (List.mem_of_getElem? (l := tables_1_2) (i := 215) (by decide +kernel)))) rfl
theorem wd_2_216 : (Jvm.Cond.selects "ChocolateMoulds" ({ cls := "ChocolateMoulds", name := "split", desc := "(IIZ)I" } : Jvm.MethodName) ({ cls := "ChocolateMoulds", name := "split", desc := "(IIZ)I" } : Jvm.MethodName)) ∈ WALL := wall_of (List.mem_append_right _ (List.mem_append_left _ (List.mem_of_getElem? (l := tables_1_2) (i := 216) (by decide +kernel)))) rfl
theorem wd_2_217 : (Jvm.Cond.code ({ cls := "ChocolateMoulds", name := "split", desc := "(IIZ)I" } : Jvm.MethodName) prog_1_method_8_code (7 : Nat) (Option.some Jvm.ClassFile.FieldType.int)) ∈ WALL := wall_of (List.mem_append_right _ (List.mem_append_left _ (List.mem_of_getElem? (l := tables_1_2) (i := 217) (by decide +kernel)))) rfl
theorem wd_2_219 : (Jvm.Cond.methodLink "ChocolateMoulds" (136 : Nat) ({ cls := "ChocolateMoulds$Slab", name := "partBehind", desc := "(IZ)LChocolateMoulds$Slab;" } : Jvm.MethodName)) ∈ WALL := wall_of (List.mem_append_right _ (List.mem_append_left _ (List.mem_of_getElem? (l := tables_1_2) (i := 219) (by decide +kernel)))) rfl
theorem wd_2_220 : (Jvm.Cond.instanceMethod ({ cls := "ChocolateMoulds$Slab", name := "partBehind", desc := "(IZ)LChocolateMoulds$Slab;" } : Jvm.MethodName)) ∈ WALL := wall_of (List.mem_append_right _ (List.mem_append_left _ (List.mem_of_getElem? (l := tables_1_2) (i := 220) (by decide +kernel)))) rfl
theorem wd_2_221 : (Jvm.Cond.selects "ChocolateMoulds$Slab" ({ cls := "ChocolateMoulds$Slab", name := "partBehind", desc := "(IZ)LChocolateMoulds$Slab;" } : Jvm.MethodName) ({ cls := "ChocolateMoulds$Slab", name := "partBehind", desc := "(IZ)LChocolateMoulds$Slab;" } : Jvm.MethodName)) ∈ WALL := wall_of (List.mem_append_right _ (List.mem_append_left _ (List.mem_of_getElem? (l := tables_1_2) (i := 221) (by decide +kernel)))) rfl
theorem wd_2_222 : (Jvm.Cond.code ({ cls := "ChocolateMoulds$Slab", name := "partBehind", desc := "(IZ)LChocolateMoulds$Slab;" } : Jvm.MethodName) prog_5_method_8_code (4 : Nat) (Option.some (Jvm.ClassFile.FieldType.object "ChocolateMoulds$Slab"))) ∈ WALL := wall_of (List.mem_append_right _ (List.mem_append_left _ (List.mem_of_getElem? (l := tables_1_2) (i := 222) (by decide +kernel)))) rfl
theorem wd_2_223 : (Jvm.Cond.classLink "ChocolateMoulds$Slab" (10 : Nat) "ChocolateMoulds$Slab") ∈ WALL := wall_of (List.mem_append_right _ (List.mem_append_left _ (List.mem_of_getElem? (l := tables_1_2) (i := 223) (by decide +kernel)))) rfl
theorem wd_2_224 : (Jvm.Cond.methodLink "ChocolateMoulds$Slab" (44 : Nat) ({ cls := "ChocolateMoulds$Slab", name := "<init>", desc := "(III)V" } : Jvm.MethodName)) ∈ WALL := wall_of (List.mem_append_right _ (List.mem_append_left _ (List.mem_of_getElem? (l := tables_1_2) (i := 224) (by decide +kernel)))) rfl
theorem wd_2_225 : (Jvm.Cond.methodLink "ChocolateMoulds" (140 : Nat) ({ cls := "ChocolateMoulds$Slab", name := "cutDownTo", desc := "(IZ)V" } : Jvm.MethodName)) ∈ WALL := wall_of (List.mem_append_right _ (List.mem_append_left _ (List.mem_of_getElem? (l := tables_1_2) (i := 225) (by decide +kernel)))) rfl
theorem wd_2_226 : (Jvm.Cond.instanceMethod ({ cls := "ChocolateMoulds$Slab", name := "cutDownTo", desc := "(IZ)V" } : Jvm.MethodName)) ∈ WALL := wall_of (List.mem_append_right _ (List.mem_append_left _ (List.mem_of_getElem? (l := tables_1_2) (i := 226) (by decide +kernel)))) rfl
theorem wd_2_227 : (Jvm.Cond.selects "ChocolateMoulds$Slab" ({ cls := "ChocolateMoulds$Slab", name := "cutDownTo", desc := "(IZ)V" } : Jvm.MethodName) ({ cls := "ChocolateMoulds$Slab", name := "cutDownTo", desc := "(IZ)V" } : Jvm.MethodName)) ∈ WALL := wall_of (List.mem_append_right _ (List.mem_append_left _ (List.mem_of_getElem? (l := tables_1_2) (i := 227) (by decide +kernel)))) rfl
theorem wd_2_228 : (Jvm.Cond.code ({ cls := "ChocolateMoulds$Slab", name := "cutDownTo", desc := "(IZ)V" } : Jvm.MethodName) prog_5_method_9_code (3 : Nat) (Option.none : Option Jvm.ClassFile.FieldType)) ∈ WALL := wall_of (List.mem_append_right _ (List.mem_append_left _ (List.mem_of_getElem? (l := tables_1_2) (i := 228) (by decide +kernel)))) rfl
theorem wd_2_229 : (Jvm.Cond.methodLink "ChocolateMouldsLaw" (105 : Nat) ({ cls := "ChocolateMouldsLaw", name := "melt", desc := "(LChocolateMoulds;II[J)I" } : Jvm.MethodName)) ∈ WALL := wall_of (List.mem_append_right _ (List.mem_append_left _ (List.mem_of_getElem? (l := tables_1_2) (i := 229) (by decide +kernel)))) rfl
theorem wd_2_230 : (Jvm.Cond.static ({ cls := "ChocolateMouldsLaw", name := "melt", desc := "(LChocolateMoulds;II[J)I" } : Jvm.MethodName)) ∈ WALL := wall_of (List.mem_append_right _ (List.mem_append_left _ (List.mem_of_getElem? (l := tables_1_2) (i := 230) (by decide +kernel)))) rfl
theorem wd_2_231 : (Jvm.Cond.codeWith ({ cls := "ChocolateMouldsLaw", name := "melt", desc := "(LChocolateMoulds;II[J)I" } : Jvm.MethodName) method_10_code (5 : Nat) (Option.some Jvm.ClassFile.FieldType.int) [((0 : Nat), (10 : Nat), (13 : Nat), (21 : Nat)), ((0 : Nat), (10 : Nat), (17 : Nat), (13 : Nat))]) ∈ WALL := wall_of (List.mem_append_right _ (List.mem_append_left _ (List.mem_of_getElem? (l := tables_1_2) (i := 231) (by decide +kernel)))) rfl
theorem wd_2_232 : (Jvm.Cond.methodLink "ChocolateMouldsLaw" (40 : Nat) ({ cls := "ChocolateMoulds", name := "melt", desc := "(II)I" } : Jvm.MethodName)) ∈ WALL := wall_of (List.mem_append_right _ (List.mem_append_left _ (List.mem_of_getElem? (l := tables_1_2) (i := 232) (by decide +kernel)))) rfl
theorem wd_2_233 : (Jvm.Cond.instanceMethod ({ cls := "ChocolateMoulds", name := "melt", desc := "(II)I" } : Jvm.MethodName)) ∈ WALL := wall_of (List.mem_append_right _ (List.mem_append_left _ (List.mem_of_getElem? (l := tables_1_2) (i := 233) (by decide +kernel)))) rfl
theorem wd_2_234 : (Jvm.Cond.selects "ChocolateMoulds" ({ cls := "ChocolateMoulds", name := "melt", desc := "(II)I" } : Jvm.MethodName) ({ cls := "ChocolateMoulds", name := "melt", desc := "(II)I" } : Jvm.MethodName)) ∈ WALL := wall_of (List.mem_append_right _ (List.mem_append_left _ (List.mem_of_getElem? (l := tables_1_2) (i := 234) (by decide +kernel)))) rfl
theorem wd_2_235 : (Jvm.Cond.code ({ cls := "ChocolateMoulds", name := "melt", desc := "(II)I" } : Jvm.MethodName) prog_1_method_9_code (5 : Nat) (Option.some Jvm.ClassFile.FieldType.int)) ∈ WALL := wall_of (List.mem_append_right _ (List.mem_append_left _ (List.mem_of_getElem? (l := tables_1_2) (i := 235) (by decide +kernel)))) rfl
theorem wd_2_237 : (Jvm.Cond.methodLink "ChocolateMouldsLaw" (108 : Nat) ({ cls := "ChocolateMouldsLaw", name := "box", desc := "(LChocolateMoulds;II[J)I" } : Jvm.MethodName)) ∈ WALL := wall_of (List.mem_append_right _ (List.mem_append_left _ (List.mem_of_getElem? (l := tables_1_2) (i := 237) (by decide +kernel)))) rfl
theorem wd_2_238 : (Jvm.Cond.static ({ cls := "ChocolateMouldsLaw", name := "box", desc := "(LChocolateMoulds;II[J)I" } : Jvm.MethodName)) ∈ WALL := wall_of (List.mem_append_right _ (List.mem_append_left _ (List.mem_of_getElem? (l := tables_1_2) (i := 238) (by decide +kernel)))) rfl
theorem wd_2_239 : (Jvm.Cond.codeWith ({ cls := "ChocolateMouldsLaw", name := "box", desc := "(LChocolateMoulds;II[J)I" } : Jvm.MethodName) method_11_code (5 : Nat) (Option.some Jvm.ClassFile.FieldType.int) [((0 : Nat), (10 : Nat), (13 : Nat), (13 : Nat)), ((0 : Nat), (10 : Nat), (17 : Nat), (15 : Nat))]) ∈ WALL := wall_of (List.mem_append_right _ (List.mem_append_left _ (List.mem_of_getElem? (l := tables_1_2) (i := 239) (by decide +kernel)))) rfl
theorem wd_3_0 : (Jvm.Cond.methodLink "ChocolateMouldsLaw" (43 : Nat) ({ cls := "ChocolateMoulds", name := "box", desc := "(II)I" } : Jvm.MethodName)) ∈ WALL := wall_of (List.mem_append_right _ (List.mem_append_right _ (List.mem_append_left _ (List.mem_of_getElem? (l := tables_1_3) (i := 0) (by decide +kernel))))) rfl
theorem wd_3_1 : (Jvm.Cond.instanceMethod ({ cls := "ChocolateMoulds", name := "box", desc := "(II)I" } : Jvm.MethodName)) ∈ WALL := wall_of (List.mem_append_right _ (List.mem_append_right _ (List.mem_append_left _ (List.mem_of_getElem? (l := tables_1_3) (i := 1) (by decide +kernel))))) rfl
theorem wd_3_2 : (Jvm.Cond.selects "ChocolateMoulds" ({ cls := "ChocolateMoulds", name := "box", desc := "(II)I" } : Jvm.MethodName) ({ cls := "ChocolateMoulds", name := "box", desc := "(II)I" } : Jvm.MethodName)) ∈ WALL := wall_of (List.mem_append_right _ (List.mem_append_right _ (List.mem_append_left _ (List.mem_of_getElem? (l := tables_1_3) (i := 2) (by decide +kernel))))) rfl
theorem wd_3_3 : (Jvm.Cond.code ({ cls := "ChocolateMoulds", name := "box", desc := "(II)I" } : Jvm.MethodName) prog_1_method_10_code (4 : Nat) (Option.some Jvm.ClassFile.FieldType.int)) ∈ WALL := wall_of (List.mem_append_right _ (List.mem_append_right _ (List.mem_append_left _ (List.mem_of_getElem? (l := tables_1_3) (i := 3) (by decide +kernel))))) rfl
theorem wd_3_6 : (Jvm.Cond.instantiable "ChocolateMoulds$Box" (5 : Nat)) ∈ WALL := wall_of (List.mem_append_right _ (List.mem_append_right _ (List.mem_append_left _ (List.mem_of_getElem? (l := tables_1_3) (i := 6) (by decide +kernel))))) rfl
theorem wd_3_7 : (Jvm.Cond.methodLink "ChocolateMoulds" (156 : Nat) ({ cls := "ChocolateMoulds$Box", name := "<init>", desc := "(II)V" } : Jvm.MethodName)) ∈ WALL := wall_of (List.mem_append_right _ (List.mem_append_right _ (List.mem_append_left _ (List.mem_of_getElem? (l := tables_1_3) (i := 7) (by decide +kernel))))) rfl
theorem wd_3_8 : (Jvm.Cond.instanceMethod ({ cls := "ChocolateMoulds$Box", name := "<init>", desc := "(II)V" } : Jvm.MethodName)) ∈ WALL := wall_of (List.mem_append_right _ (List.mem_append_right _ (List.mem_append_left _ (List.mem_of_getElem? (l := tables_1_3) (i := 8) (by decide +kernel))))) rfl
theorem wd_3_9 : (Jvm.Cond.code ({ cls := "ChocolateMoulds$Box", name := "<init>", desc := "(II)V" } : Jvm.MethodName) prog_3_method_1_code (3 : Nat) (Option.none : Option Jvm.ClassFile.FieldType)) ∈ WALL := wall_of (List.mem_append_right _ (List.mem_append_right _ (List.mem_append_left _ (List.mem_of_getElem? (l := tables_1_3) (i := 9) (by decide +kernel))))) rfl
theorem wd_3_10 : (Jvm.Cond.methodLink "ChocolateMoulds$Box" (3 : Nat) ({ cls := "java/lang/Object", name := "<init>", desc := "()V" } : Jvm.MethodName)) ∈ WALL := wall_of (List.mem_append_right _ (List.mem_append_right _ (List.mem_append_left _ (List.mem_of_getElem? (l := tables_1_3) (i := 10) (by decide +kernel))))) rfl
theorem wd_3_11 : (Jvm.Cond.fieldLink "ChocolateMoulds$Box" (9 : Nat) "ChocolateMoulds$Box" "squares" "I") ∈ WALL := wall_of (List.mem_append_right _ (List.mem_append_right _ (List.mem_append_left _ (List.mem_of_getElem? (l := tables_1_3) (i := 11) (by decide +kernel))))) rfl
theorem wd_3_12 : (Jvm.Cond.fieldLink "ChocolateMoulds" (198 : Nat) "ChocolateMoulds$Box" "squares" "I") ∈ WALL := wall_of (List.mem_append_right _ (List.mem_append_right _ (List.mem_append_left _ (List.mem_of_getElem? (l := tables_1_3) (i := 12) (by decide +kernel))))) rfl
theorem wd_3_13 : (Jvm.Cond.fieldLink "ChocolateMoulds$Box" (15 : Nat) "ChocolateMoulds$Box" "temper" "I") ∈ WALL := wall_of (List.mem_append_right _ (List.mem_append_right _ (List.mem_append_left _ (List.mem_of_getElem? (l := tables_1_3) (i := 13) (by decide +kernel))))) rfl
theorem wd_3_14 : (Jvm.Cond.fieldLink "ChocolateMoulds" (200 : Nat) "ChocolateMoulds$Box" "temper" "I") ∈ WALL := wall_of (List.mem_append_right _ (List.mem_append_right _ (List.mem_append_left _ (List.mem_of_getElem? (l := tables_1_3) (i := 14) (by decide +kernel))))) rfl
theorem wd_3_15 : (Jvm.Cond.fieldLink "ChocolateMoulds$Box" (30 : Nat) "ChocolateMoulds$Box" "isFilled" "Z") ∈ WALL := wall_of (List.mem_append_right _ (List.mem_append_right _ (List.mem_append_left _ (List.mem_of_getElem? (l := tables_1_3) (i := 15) (by decide +kernel))))) rfl
theorem wd_3_16 : (Jvm.Cond.fieldLink "ChocolateMoulds" (201 : Nat) "ChocolateMoulds$Box" "isFilled" "Z") ∈ WALL := wall_of (List.mem_append_right _ (List.mem_append_right _ (List.mem_append_left _ (List.mem_of_getElem? (l := tables_1_3) (i := 16) (by decide +kernel))))) rfl
theorem wd_3_17 : (Jvm.Cond.fieldLink "ChocolateMoulds$Box" (18 : Nat) "ChocolateMoulds$Box" "slabTemper" "I") ∈ WALL := wall_of (List.mem_append_right _ (List.mem_append_right _ (List.mem_append_left _ (List.mem_of_getElem? (l := tables_1_3) (i := 17) (by decide +kernel))))) rfl
theorem wd_3_18 : (Jvm.Cond.fieldLink "ChocolateMoulds" (205 : Nat) "ChocolateMoulds$Box" "slabTemper" "I") ∈ WALL := wall_of (List.mem_append_right _ (List.mem_append_right _ (List.mem_append_left _ (List.mem_of_getElem? (l := tables_1_3) (i := 18) (by decide +kernel))))) rfl
theorem wd_3_19 : (Jvm.Cond.fieldLink "ChocolateMoulds$Box" (21 : Nat) "ChocolateMoulds$Box" "slabBloom" "I") ∈ WALL := wall_of (List.mem_append_right _ (List.mem_append_right _ (List.mem_append_left _ (List.mem_of_getElem? (l := tables_1_3) (i := 19) (by decide +kernel))))) rfl
theorem wd_3_20 : (Jvm.Cond.fieldLink "ChocolateMoulds" (208 : Nat) "ChocolateMoulds$Box" "slabBloom" "I") ∈ WALL := wall_of (List.mem_append_right _ (List.mem_append_right _ (List.mem_append_left _ (List.mem_of_getElem? (l := tables_1_3) (i := 20) (by decide +kernel))))) rfl
theorem wd_3_21 : (Jvm.Cond.laysFinal "ChocolateMoulds$Box" "ChocolateMoulds$Box" "squares" "I") ∈ WALL := wall_of (List.mem_append_right _ (List.mem_append_right _ (List.mem_append_left _ (List.mem_of_getElem? (l := tables_1_3) (i := 21) (by decide +kernel))))) rfl
theorem wd_3_23 : (Jvm.Cond.laysFinal "ChocolateMoulds$Box" "ChocolateMoulds$Box" "temper" "I") ∈ WALL := wall_of (List.mem_append_right _ (List.mem_append_right _ (List.mem_append_left _ (List.mem_of_getElem? (l := tables_1_3) (i := 23) (by decide +kernel))))) rfl
theorem wd_3_25 : (Jvm.Cond.lays "ChocolateMoulds$Box" "ChocolateMoulds$Box" "isFilled" "Z") ∈ WALL := wall_of (List.mem_append_right _ (List.mem_append_right _ (List.mem_append_left _ (List.mem_of_getElem? (l := tables_1_3) (i := 25) (by decide +kernel))))) rfl
theorem wd_3_27 : (Jvm.Cond.lays "ChocolateMoulds$Box" "ChocolateMoulds$Box" "slabTemper" "I") ∈ WALL := wall_of (List.mem_append_right _ (List.mem_append_right _ (List.mem_append_left _ (List.mem_of_getElem? (l := tables_1_3) (i := 27) (by decide +kernel))))) rfl
theorem wd_3_29 : (Jvm.Cond.lays "ChocolateMoulds$Box" "ChocolateMoulds$Box" "slabBloom" "I") ∈ WALL := wall_of (List.mem_append_right _ (List.mem_append_right _ (List.mem_append_left _ (List.mem_of_getElem? (l := tables_1_3) (i := 29) (by decide +kernel))))) rfl
theorem wd_3_31 : (Jvm.Cond.superclass "ChocolateMoulds$Box" "java/lang/Object") ∈ WALL := wall_of (List.mem_append_right _ (List.mem_append_right _ (List.mem_append_left _ (List.mem_of_getElem? (l := tables_1_3) (i := 31) (by decide +kernel))))) rfl
theorem wd_3_32 : (Jvm.Cond.methodLink "ChocolateMouldsLaw" (115 : Nat) ({ cls := "ChocolateMouldsLaw", name := "pass", desc := "(LChocolateMoulds;II[J)I" } : Jvm.MethodName)) ∈ WALL := wall_of (List.mem_append_right _ (List.mem_append_right _ (List.mem_append_left _ (List.mem_of_getElem? (l := tables_1_3) (i := 32) (by decide +kernel))))) rfl
theorem wd_3_33 : (Jvm.Cond.static ({ cls := "ChocolateMouldsLaw", name := "pass", desc := "(LChocolateMoulds;II[J)I" } : Jvm.MethodName)) ∈ WALL := wall_of (List.mem_append_right _ (List.mem_append_right _ (List.mem_append_left _ (List.mem_of_getElem? (l := tables_1_3) (i := 33) (by decide +kernel))))) rfl
theorem wd_3_34 : (Jvm.Cond.codeWith ({ cls := "ChocolateMouldsLaw", name := "pass", desc := "(LChocolateMoulds;II[J)I" } : Jvm.MethodName) method_12_code (5 : Nat) (Option.some Jvm.ClassFile.FieldType.int) [((0 : Nat), (10 : Nat), (13 : Nat), (13 : Nat))]) ∈ WALL := wall_of (List.mem_append_right _ (List.mem_append_right _ (List.mem_append_left _ (List.mem_of_getElem? (l := tables_1_3) (i := 34) (by decide +kernel))))) rfl
theorem wd_3_35 : (Jvm.Cond.methodLink "ChocolateMouldsLaw" (46 : Nat) ({ cls := "ChocolateMoulds", name := "pass", desc := "(II)I" } : Jvm.MethodName)) ∈ WALL := wall_of (List.mem_append_right _ (List.mem_append_right _ (List.mem_append_left _ (List.mem_of_getElem? (l := tables_1_3) (i := 35) (by decide +kernel))))) rfl
theorem wd_3_36 : (Jvm.Cond.instanceMethod ({ cls := "ChocolateMoulds", name := "pass", desc := "(II)I" } : Jvm.MethodName)) ∈ WALL := wall_of (List.mem_append_right _ (List.mem_append_right _ (List.mem_append_left _ (List.mem_of_getElem? (l := tables_1_3) (i := 36) (by decide +kernel))))) rfl
theorem wd_3_37 : (Jvm.Cond.selects "ChocolateMoulds" ({ cls := "ChocolateMoulds", name := "pass", desc := "(II)I" } : Jvm.MethodName) ({ cls := "ChocolateMoulds", name := "pass", desc := "(II)I" } : Jvm.MethodName)) ∈ WALL := wall_of (List.mem_append_right _ (List.mem_append_right _ (List.mem_append_left _ (List.mem_of_getElem? (l := tables_1_3) (i := 37) (by decide +kernel))))) rfl
theorem wd_3_38 : (Jvm.Cond.code ({ cls := "ChocolateMoulds", name := "pass", desc := "(II)I" } : Jvm.MethodName) prog_1_method_12_code (7 : Nat) (Option.some Jvm.ClassFile.FieldType.int)) ∈ WALL := wall_of (List.mem_append_right _ (List.mem_append_right _ (List.mem_append_left _ (List.mem_of_getElem? (l := tables_1_3) (i := 38) (by decide +kernel))))) rfl
theorem wd_3_39 : (Jvm.Cond.methodLink "ChocolateMoulds" (166 : Nat) ({ cls := "ChocolateMoulds", name := "checkRoom", desc := "(I)V" } : Jvm.MethodName)) ∈ WALL := wall_of (List.mem_append_right _ (List.mem_append_right _ (List.mem_append_left _ (List.mem_of_getElem? (l := tables_1_3) (i := 39) (by decide +kernel))))) rfl
theorem wd_3_40 : (Jvm.Cond.static ({ cls := "ChocolateMoulds", name := "checkRoom", desc := "(I)V" } : Jvm.MethodName)) ∈ WALL := wall_of (List.mem_append_right _ (List.mem_append_right _ (List.mem_append_left _ (List.mem_of_getElem? (l := tables_1_3) (i := 40) (by decide +kernel))))) rfl
theorem wd_3_41 : (Jvm.Cond.code ({ cls := "ChocolateMoulds", name := "checkRoom", desc := "(I)V" } : Jvm.MethodName) prog_1_method_24_code (1 : Nat) (Option.none : Option Jvm.ClassFile.FieldType)) ∈ WALL := wall_of (List.mem_append_right _ (List.mem_append_right _ (List.mem_append_left _ (List.mem_of_getElem? (l := tables_1_3) (i := 41) (by decide +kernel))))) rfl
theorem wd_3_44 : (Jvm.Cond.methodLink "ChocolateMoulds" (171 : Nat) ({ cls := "ChocolateMoulds$Slab", name := "standFor", desc := "(II)V" } : Jvm.MethodName)) ∈ WALL := wall_of (List.mem_append_right _ (List.mem_append_right _ (List.mem_append_left _ (List.mem_of_getElem? (l := tables_1_3) (i := 44) (by decide +kernel))))) rfl
theorem wd_3_45 : (Jvm.Cond.instanceMethod ({ cls := "ChocolateMoulds$Slab", name := "standFor", desc := "(II)V" } : Jvm.MethodName)) ∈ WALL := wall_of (List.mem_append_right _ (List.mem_append_right _ (List.mem_append_left _ (List.mem_of_getElem? (l := tables_1_3) (i := 45) (by decide +kernel))))) rfl
theorem wd_3_46 : (Jvm.Cond.selects "ChocolateMoulds$Slab" ({ cls := "ChocolateMoulds$Slab", name := "standFor", desc := "(II)V" } : Jvm.MethodName) ({ cls := "ChocolateMoulds$Slab", name := "standFor", desc := "(II)V" } : Jvm.MethodName)) ∈ WALL := wall_of (List.mem_append_right _ (List.mem_append_right _ (List.mem_append_left _ (List.mem_of_getElem? (l := tables_1_3) (i := 46) (by decide +kernel))))) rfl
theorem wd_3_47 : (Jvm.Cond.code ({ cls := "ChocolateMoulds$Slab", name := "standFor", desc := "(II)V" } : Jvm.MethodName) prog_5_method_7_code (3 : Nat) (Option.none : Option Jvm.ClassFile.FieldType)) ∈ WALL := wall_of (List.mem_append_right _ (List.mem_append_right _ (List.mem_append_left _ (List.mem_of_getElem? (l := tables_1_3) (i := 47) (by decide +kernel))))) rfl
theorem wd_3_48 : (Jvm.Cond.methodLink "ChocolateMoulds$Slab" (34 : Nat) ({ cls := "ChocolateMoulds$Slab", name := "bloomOfADay", desc := "(I)I" } : Jvm.MethodName)) ∈ WALL := wall_of (List.mem_append_right _ (List.mem_append_right _ (List.mem_append_left _ (List.mem_of_getElem? (l := tables_1_3) (i := 48) (by decide +kernel))))) rfl
theorem wd_3_49 : (Jvm.Cond.instanceMethod ({ cls := "ChocolateMoulds$Slab", name := "bloomOfADay", desc := "(I)I" } : Jvm.MethodName)) ∈ WALL := wall_of (List.mem_append_right _ (List.mem_append_right _ (List.mem_append_left _ (List.mem_of_getElem? (l := tables_1_3) (i := 49) (by decide +kernel))))) rfl
theorem wd_3_50 : (Jvm.Cond.selects "ChocolateMoulds$Slab" ({ cls := "ChocolateMoulds$Slab", name := "bloomOfADay", desc := "(I)I" } : Jvm.MethodName) ({ cls := "ChocolateMoulds$Slab", name := "bloomOfADay", desc := "(I)I" } : Jvm.MethodName)) ∈ WALL := wall_of (List.mem_append_right _ (List.mem_append_right _ (List.mem_append_left _ (List.mem_of_getElem? (l := tables_1_3) (i := 50) (by decide +kernel))))) rfl
theorem wd_3_51 : (Jvm.Cond.code ({ cls := "ChocolateMoulds$Slab", name := "bloomOfADay", desc := "(I)I" } : Jvm.MethodName) prog_5_method_6_code (2 : Nat) (Option.some Jvm.ClassFile.FieldType.int)) ∈ WALL := wall_of (List.mem_append_right _ (List.mem_append_right _ (List.mem_append_left _ (List.mem_of_getElem? (l := tables_1_3) (i := 51) (by decide +kernel))))) rfl
theorem wd_3_52 : (Jvm.Cond.methodLink "ChocolateMoulds$Slab" (38 : Nat) ({ cls := "java/lang/Math", name := "min", desc := "(II)I" } : Jvm.MethodName)) ∈ WALL := wall_of (List.mem_append_right _ (List.mem_append_right _ (List.mem_append_left _ (List.mem_of_getElem? (l := tables_1_3) (i := 52) (by decide +kernel))))) rfl
theorem wd_3_53 : (Jvm.Cond.methodLink "ChocolateMouldsLaw" (118 : Nat) ({ cls := "ChocolateMouldsLaw", name := "told", desc := "(LChocolateMoulds;II[J)I" } : Jvm.MethodName)) ∈ WALL := wall_of (List.mem_append_right _ (List.mem_append_right _ (List.mem_append_left _ (List.mem_of_getElem? (l := tables_1_3) (i := 53) (by decide +kernel))))) rfl
theorem wd_3_54 : (Jvm.Cond.static ({ cls := "ChocolateMouldsLaw", name := "told", desc := "(LChocolateMoulds;II[J)I" } : Jvm.MethodName)) ∈ WALL := wall_of (List.mem_append_right _ (List.mem_append_right _ (List.mem_append_left _ (List.mem_of_getElem? (l := tables_1_3) (i := 54) (by decide +kernel))))) rfl
theorem wd_3_55 : (Jvm.Cond.codeWith ({ cls := "ChocolateMouldsLaw", name := "told", desc := "(LChocolateMoulds;II[J)I" } : Jvm.MethodName) method_13_code (5 : Nat) (Option.some Jvm.ClassFile.FieldType.int) [((0 : Nat), (10 : Nat), (13 : Nat), (21 : Nat))]) ∈ WALL := wall_of (List.mem_append_right _ (List.mem_append_right _ (List.mem_append_left _ (List.mem_of_getElem? (l := tables_1_3) (i := 55) (by decide +kernel))))) rfl
theorem wd_3_56 : (Jvm.Cond.methodLink "ChocolateMouldsLaw" (49 : Nat) ({ cls := "ChocolateMoulds", name := "told", desc := "(II)I" } : Jvm.MethodName)) ∈ WALL := wall_of (List.mem_append_right _ (List.mem_append_right _ (List.mem_append_left _ (List.mem_of_getElem? (l := tables_1_3) (i := 56) (by decide +kernel))))) rfl
theorem wd_3_57 : (Jvm.Cond.methodLink "ChocolateMouldsLaw" (121 : Nat) ({ cls := "ChocolateMouldsLaw", name := "about", desc := "(LChocolateMoulds;II[J)I" } : Jvm.MethodName)) ∈ WALL := wall_of (List.mem_append_right _ (List.mem_append_right _ (List.mem_append_left _ (List.mem_of_getElem? (l := tables_1_3) (i := 57) (by decide +kernel))))) rfl
theorem wd_3_58 : (Jvm.Cond.static ({ cls := "ChocolateMouldsLaw", name := "about", desc := "(LChocolateMoulds;II[J)I" } : Jvm.MethodName)) ∈ WALL := wall_of (List.mem_append_right _ (List.mem_append_right _ (List.mem_append_left _ (List.mem_of_getElem? (l := tables_1_3) (i := 58) (by decide +kernel))))) rfl
theorem wd_3_59 : (Jvm.Cond.codeWith ({ cls := "ChocolateMouldsLaw", name := "about", desc := "(LChocolateMoulds;II[J)I" } : Jvm.MethodName) method_14_code (5 : Nat) (Option.some Jvm.ClassFile.FieldType.int) [((0 : Nat), (10 : Nat), (13 : Nat), (21 : Nat))]) ∈ WALL := wall_of (List.mem_append_right _ (List.mem_append_right _ (List.mem_append_left _ (List.mem_of_getElem? (l := tables_1_3) (i := 59) (by decide +kernel))))) rfl
theorem wd_3_60 : (Jvm.Cond.methodLink "ChocolateMouldsLaw" (52 : Nat) ({ cls := "ChocolateMoulds", name := "about", desc := "(II)I" } : Jvm.MethodName)) ∈ WALL := wall_of (List.mem_append_right _ (List.mem_append_right _ (List.mem_append_left _ (List.mem_of_getElem? (l := tables_1_3) (i := 60) (by decide +kernel))))) rfl
theorem wd_3_61 : (Jvm.Cond.methodLink "ChocolateMouldsLaw" (124 : Nat) ({ cls := "ChocolateMouldsLaw", name := "order", desc := "(LChocolateMoulds;II[J)I" } : Jvm.MethodName)) ∈ WALL := wall_of (List.mem_append_right _ (List.mem_append_right _ (List.mem_append_left _ (List.mem_of_getElem? (l := tables_1_3) (i := 61) (by decide +kernel))))) rfl
theorem wd_3_62 : (Jvm.Cond.static ({ cls := "ChocolateMouldsLaw", name := "order", desc := "(LChocolateMoulds;II[J)I" } : Jvm.MethodName)) ∈ WALL := wall_of (List.mem_append_right _ (List.mem_append_right _ (List.mem_append_left _ (List.mem_of_getElem? (l := tables_1_3) (i := 62) (by decide +kernel))))) rfl
theorem wd_3_63 : (Jvm.Cond.codeWith ({ cls := "ChocolateMouldsLaw", name := "order", desc := "(LChocolateMoulds;II[J)I" } : Jvm.MethodName) method_15_code (5 : Nat) (Option.some Jvm.ClassFile.FieldType.int) [((0 : Nat), (10 : Nat), (13 : Nat), (21 : Nat))]) ∈ WALL := wall_of (List.mem_append_right _ (List.mem_append_right _ (List.mem_append_left _ (List.mem_of_getElem? (l := tables_1_3) (i := 63) (by decide +kernel))))) rfl
theorem wd_3_64 : (Jvm.Cond.methodLink "ChocolateMouldsLaw" (55 : Nat) ({ cls := "ChocolateMoulds", name := "order", desc := "(II)I" } : Jvm.MethodName)) ∈ WALL := wall_of (List.mem_append_right _ (List.mem_append_right _ (List.mem_append_left _ (List.mem_of_getElem? (l := tables_1_3) (i := 64) (by decide +kernel))))) rfl
theorem wd_3_65 : (Jvm.Cond.methodLink "ChocolateMouldsLaw" (127 : Nat) ({ cls := "ChocolateMouldsLaw", name := "count", desc := "(LChocolateMoulds;I[J)I" } : Jvm.MethodName)) ∈ WALL := wall_of (List.mem_append_right _ (List.mem_append_right _ (List.mem_append_left _ (List.mem_of_getElem? (l := tables_1_3) (i := 65) (by decide +kernel))))) rfl
theorem wd_3_66 : (Jvm.Cond.static ({ cls := "ChocolateMouldsLaw", name := "count", desc := "(LChocolateMoulds;I[J)I" } : Jvm.MethodName)) ∈ WALL := wall_of (List.mem_append_right _ (List.mem_append_right _ (List.mem_append_left _ (List.mem_of_getElem? (l := tables_1_3) (i := 66) (by decide +kernel))))) rfl
theorem wd_3_67 : (Jvm.Cond.codeWith ({ cls := "ChocolateMouldsLaw", name := "count", desc := "(LChocolateMoulds;I[J)I" } : Jvm.MethodName) method_16_code (4 : Nat) (Option.some Jvm.ClassFile.FieldType.int) [((0 : Nat), (9 : Nat), (12 : Nat), (21 : Nat))]) ∈ WALL := wall_of (List.mem_append_right _ (List.mem_append_right _ (List.mem_append_left _ (List.mem_of_getElem? (l := tables_1_3) (i := 67) (by decide +kernel))))) rfl
theorem wd_3_68 : (Jvm.Cond.methodLink "ChocolateMouldsLaw" (58 : Nat) ({ cls := "ChocolateMoulds", name := "count", desc := "(I)I" } : Jvm.MethodName)) ∈ WALL := wall_of (List.mem_append_right _ (List.mem_append_right _ (List.mem_append_left _ (List.mem_of_getElem? (l := tables_1_3) (i := 68) (by decide +kernel))))) rfl
theorem wd_3_69 : (Jvm.Cond.methodLink "ChocolateMouldsLaw" (130 : Nat) ({ cls := "ChocolateMouldsLaw", name := "would", desc := "(LChocolateMoulds;III[J)I" } : Jvm.MethodName)) ∈ WALL := wall_of (List.mem_append_right _ (List.mem_append_right _ (List.mem_append_left _ (List.mem_of_getElem? (l := tables_1_3) (i := 69) (by decide +kernel))))) rfl
theorem wd_3_70 : (Jvm.Cond.static ({ cls := "ChocolateMouldsLaw", name := "would", desc := "(LChocolateMoulds;III[J)I" } : Jvm.MethodName)) ∈ WALL := wall_of (List.mem_append_right _ (List.mem_append_right _ (List.mem_append_left _ (List.mem_of_getElem? (l := tables_1_3) (i := 70) (by decide +kernel))))) rfl
theorem wd_3_71 : (Jvm.Cond.codeWith ({ cls := "ChocolateMouldsLaw", name := "would", desc := "(LChocolateMoulds;III[J)I" } : Jvm.MethodName) method_17_code (6 : Nat) (Option.some Jvm.ClassFile.FieldType.int) [((0 : Nat), (12 : Nat), (15 : Nat), (21 : Nat)), ((0 : Nat), (12 : Nat), (19 : Nat), (13 : Nat))]) ∈ WALL := wall_of (List.mem_append_right _ (List.mem_append_right _ (List.mem_append_left _ (List.mem_of_getElem? (l := tables_1_3) (i := 71) (by decide +kernel))))) rfl
theorem wd_3_72 : (Jvm.Cond.methodLink "ChocolateMouldsLaw" (61 : Nat) ({ cls := "ChocolateMoulds", name := "would", desc := "(III)I" } : Jvm.MethodName)) ∈ WALL := wall_of (List.mem_append_right _ (List.mem_append_right _ (List.mem_append_left _ (List.mem_of_getElem? (l := tables_1_3) (i := 72) (by decide +kernel))))) rfl
theorem wd_3_73 : (Jvm.Cond.instanceMethod ({ cls := "ChocolateMoulds", name := "would", desc := "(III)I" } : Jvm.MethodName)) ∈ WALL := wall_of (List.mem_append_right _ (List.mem_append_right _ (List.mem_append_left _ (List.mem_of_getElem? (l := tables_1_3) (i := 73) (by decide +kernel))))) rfl
theorem wd_3_74 : (Jvm.Cond.selects "ChocolateMoulds" ({ cls := "ChocolateMoulds", name := "would", desc := "(III)I" } : Jvm.MethodName) ({ cls := "ChocolateMoulds", name := "would", desc := "(III)I" } : Jvm.MethodName)) ∈ WALL := wall_of (List.mem_append_right _ (List.mem_append_right _ (List.mem_append_left _ (List.mem_of_getElem? (l := tables_1_3) (i := 74) (by decide +kernel))))) rfl
theorem wd_3_75 : (Jvm.Cond.code ({ cls := "ChocolateMoulds", name := "would", desc := "(III)I" } : Jvm.MethodName) prog_1_method_17_code (5 : Nat) (Option.some Jvm.ClassFile.FieldType.int)) ∈ WALL := wall_of (List.mem_append_right _ (List.mem_append_right _ (List.mem_append_left _ (List.mem_of_getElem? (l := tables_1_3) (i := 75) (by decide +kernel))))) rfl
theorem wd_3_76 : (Jvm.Cond.methodLink "ChocolateMoulds" (223 : Nat) ({ cls := "ChocolateMoulds$Crystals", name := "becomeLike", desc := "(LChocolateMoulds$Crystals;)V" } : Jvm.MethodName)) ∈ WALL := wall_of (List.mem_append_right _ (List.mem_append_right _ (List.mem_append_left _ (List.mem_of_getElem? (l := tables_1_3) (i := 76) (by decide +kernel))))) rfl
theorem wd_3_77 : (Jvm.Cond.instanceMethod ({ cls := "ChocolateMoulds$Crystals", name := "becomeLike", desc := "(LChocolateMoulds$Crystals;)V" } : Jvm.MethodName)) ∈ WALL := wall_of (List.mem_append_right _ (List.mem_append_right _ (List.mem_append_left _ (List.mem_of_getElem? (l := tables_1_3) (i := 77) (by decide +kernel))))) rfl
theorem wd_3_78 : (Jvm.Cond.selects "ChocolateMoulds$Crystals" ({ cls := "ChocolateMoulds$Crystals", name := "becomeLike", desc := "(LChocolateMoulds$Crystals;)V" } : Jvm.MethodName) ({ cls := "ChocolateMoulds$Crystals", name := "becomeLike", desc := "(LChocolateMoulds$Crystals;)V" } : Jvm.MethodName)) ∈ WALL := wall_of (List.mem_append_right _ (List.mem_append_right _ (List.mem_append_left _ (List.mem_of_getElem? (l := tables_1_3) (i := 78) (by decide +kernel))))) rfl
theorem wd_3_79 : (Jvm.Cond.code ({ cls := "ChocolateMoulds$Crystals", name := "becomeLike", desc := "(LChocolateMoulds$Crystals;)V" } : Jvm.MethodName) prog_4_method_2_code (3 : Nat) (Option.none : Option Jvm.ClassFile.FieldType)) ∈ WALL := wall_of (List.mem_append_right _ (List.mem_append_right _ (List.mem_append_left _ (List.mem_of_getElem? (l := tables_1_3) (i := 79) (by decide +kernel))))) rfl
theorem wd_3_80 : (Jvm.Cond.methodLink "ChocolateMouldsLaw" (133 : Nat) ({ cls := "ChocolateMouldsLaw", name := "best", desc := "(LChocolateMoulds;III[J)I" } : Jvm.MethodName)) ∈ WALL := wall_of (List.mem_append_right _ (List.mem_append_right _ (List.mem_append_left _ (List.mem_of_getElem? (l := tables_1_3) (i := 80) (by decide +kernel))))) rfl
theorem wd_3_81 : (Jvm.Cond.static ({ cls := "ChocolateMouldsLaw", name := "best", desc := "(LChocolateMoulds;III[J)I" } : Jvm.MethodName)) ∈ WALL := wall_of (List.mem_append_right _ (List.mem_append_right _ (List.mem_append_left _ (List.mem_of_getElem? (l := tables_1_3) (i := 81) (by decide +kernel))))) rfl
theorem wd_3_82 : (Jvm.Cond.codeWith ({ cls := "ChocolateMouldsLaw", name := "best", desc := "(LChocolateMoulds;III[J)I" } : Jvm.MethodName) method_18_code (6 : Nat) (Option.some Jvm.ClassFile.FieldType.int) [((0 : Nat), (12 : Nat), (15 : Nat), (21 : Nat)), ((0 : Nat), (12 : Nat), (19 : Nat), (13 : Nat))]) ∈ WALL := wall_of (List.mem_append_right _ (List.mem_append_right _ (List.mem_append_left _ (List.mem_of_getElem? (l := tables_1_3) (i := 82) (by decide +kernel))))) rfl
theorem wd_3_83 : (Jvm.Cond.methodLink "ChocolateMouldsLaw" (64 : Nat) ({ cls := "ChocolateMoulds", name := "best", desc := "(III)I" } : Jvm.MethodName)) ∈ WALL := wall_of (List.mem_append_right _ (List.mem_append_right _ (List.mem_append_left _ (List.mem_of_getElem? (l := tables_1_3) (i := 83) (by decide +kernel))))) rfl
theorem wd_3_84 : (Jvm.Cond.instanceMethod ({ cls := "ChocolateMoulds", name := "best", desc := "(III)I" } : Jvm.MethodName)) ∈ WALL := wall_of (List.mem_append_right _ (List.mem_append_right _ (List.mem_append_left _ (List.mem_of_getElem? (l := tables_1_3) (i := 84) (by decide +kernel))))) rfl
theorem wd_3_85 : (Jvm.Cond.selects "ChocolateMoulds" ({ cls := "ChocolateMoulds", name := "best", desc := "(III)I" } : Jvm.MethodName) ({ cls := "ChocolateMoulds", name := "best", desc := "(III)I" } : Jvm.MethodName)) ∈ WALL := wall_of (List.mem_append_right _ (List.mem_append_right _ (List.mem_append_left _ (List.mem_of_getElem? (l := tables_1_3) (i := 85) (by decide +kernel))))) rfl
theorem wd_3_86 : (Jvm.Cond.code ({ cls := "ChocolateMoulds", name := "best", desc := "(III)I" } : Jvm.MethodName) prog_1_method_18_code (11 : Nat) (Option.some Jvm.ClassFile.FieldType.int)) ∈ WALL := wall_of (List.mem_append_right _ (List.mem_append_right _ (List.mem_append_left _ (List.mem_of_getElem? (l := tables_1_3) (i := 86) (by decide +kernel))))) rfl
theorem wd_3_88 : (Jvm.Cond.methodLink "ChocolateMouldsLaw" (136 : Nat) ({ cls := "ChocolateMouldsLaw", name := "until", desc := "(LChocolateMoulds;II[J)I" } : Jvm.MethodName)) ∈ WALL := wall_of (List.mem_append_right _ (List.mem_append_right _ (List.mem_append_left _ (List.mem_of_getElem? (l := tables_1_3) (i := 88) (by decide +kernel))))) rfl
theorem wd_3_89 : (Jvm.Cond.static ({ cls := "ChocolateMouldsLaw", name := "until", desc := "(LChocolateMoulds;II[J)I" } : Jvm.MethodName)) ∈ WALL := wall_of (List.mem_append_right _ (List.mem_append_right _ (List.mem_append_left _ (List.mem_of_getElem? (l := tables_1_3) (i := 89) (by decide +kernel))))) rfl
theorem wd_3_90 : (Jvm.Cond.codeWith ({ cls := "ChocolateMouldsLaw", name := "until", desc := "(LChocolateMoulds;II[J)I" } : Jvm.MethodName) method_19_code (5 : Nat) (Option.some Jvm.ClassFile.FieldType.int) [((0 : Nat), (10 : Nat), (13 : Nat), (21 : Nat)), ((0 : Nat), (10 : Nat), (17 : Nat), (13 : Nat))]) ∈ WALL := wall_of (List.mem_append_right _ (List.mem_append_right _ (List.mem_append_left _ (List.mem_of_getElem? (l := tables_1_3) (i := 90) (by decide +kernel))))) rfl
theorem wd_3_91 : (Jvm.Cond.methodLink "ChocolateMouldsLaw" (67 : Nat) ({ cls := "ChocolateMoulds", name := "until", desc := "(II)I" } : Jvm.MethodName)) ∈ WALL := wall_of (List.mem_append_right _ (List.mem_append_right _ (List.mem_append_left _ (List.mem_of_getElem? (l := tables_1_3) (i := 91) (by decide +kernel))))) rfl
theorem wd_3_92 : (Jvm.Cond.instanceMethod ({ cls := "ChocolateMoulds", name := "until", desc := "(II)I" } : Jvm.MethodName)) ∈ WALL := wall_of (List.mem_append_right _ (List.mem_append_right _ (List.mem_append_left _ (List.mem_of_getElem? (l := tables_1_3) (i := 92) (by decide +kernel))))) rfl
theorem wd_3_93 : (Jvm.Cond.selects "ChocolateMoulds" ({ cls := "ChocolateMoulds", name := "until", desc := "(II)I" } : Jvm.MethodName) ({ cls := "ChocolateMoulds", name := "until", desc := "(II)I" } : Jvm.MethodName)) ∈ WALL := wall_of (List.mem_append_right _ (List.mem_append_right _ (List.mem_append_left _ (List.mem_of_getElem? (l := tables_1_3) (i := 93) (by decide +kernel))))) rfl
theorem wd_3_94 : (Jvm.Cond.code ({ cls := "ChocolateMoulds", name := "until", desc := "(II)I" } : Jvm.MethodName) prog_1_method_19_code (5 : Nat) (Option.some Jvm.ClassFile.FieldType.int)) ∈ WALL := wall_of (List.mem_append_right _ (List.mem_append_right _ (List.mem_append_left _ (List.mem_of_getElem? (l := tables_1_3) (i := 94) (by decide +kernel))))) rfl
theorem wd_3_95 : (Jvm.Cond.methodLink "ChocolateMoulds" (233 : Nat) ({ cls := "ChocolateMoulds$Slab", name := "bloomOfADay", desc := "(I)I" } : Jvm.MethodName)) ∈ WALL := wall_of (List.mem_append_right _ (List.mem_append_right _ (List.mem_append_left _ (List.mem_of_getElem? (l := tables_1_3) (i := 95) (by decide +kernel))))) rfl
theorem wd_3_96 : (Jvm.Cond.classLink "ChocolateMouldsLaw" (71 : Nat) "ChocolateMouldsModel") ∈ WALL := wall_of (List.mem_append_right _ (List.mem_append_right _ (List.mem_append_left _ (List.mem_of_getElem? (l := tables_1_3) (i := 96) (by decide +kernel))))) rfl
theorem wd_3_97 : (Jvm.Cond.instantiable "ChocolateMouldsModel" (12 : Nat)) ∈ WALL := wall_of (List.mem_append_right _ (List.mem_append_right _ (List.mem_append_left _ (List.mem_of_getElem? (l := tables_1_3) (i := 97) (by decide +kernel))))) rfl
theorem wd_3_98 : (Jvm.Cond.methodLink "ChocolateMouldsLaw" (73 : Nat) ({ cls := "ChocolateMouldsModel", name := "<init>", desc := "()V" } : Jvm.MethodName)) ∈ WALL := wall_of (List.mem_append_right _ (List.mem_append_right _ (List.mem_append_left _ (List.mem_of_getElem? (l := tables_1_3) (i := 98) (by decide +kernel))))) rfl
theorem wd_3_99 : (Jvm.Cond.instanceMethod ({ cls := "ChocolateMouldsModel", name := "<init>", desc := "()V" } : Jvm.MethodName)) ∈ WALL := wall_of (List.mem_append_right _ (List.mem_append_right _ (List.mem_append_left _ (List.mem_of_getElem? (l := tables_1_3) (i := 99) (by decide +kernel))))) rfl
theorem wd_3_100 : (Jvm.Cond.code ({ cls := "ChocolateMouldsModel", name := "<init>", desc := "()V" } : Jvm.MethodName) prog_7_method_1_code (1 : Nat) (Option.none : Option Jvm.ClassFile.FieldType)) ∈ WALL := wall_of (List.mem_append_right _ (List.mem_append_right _ (List.mem_append_left _ (List.mem_of_getElem? (l := tables_1_3) (i := 100) (by decide +kernel))))) rfl
theorem wd_3_101 : (Jvm.Cond.methodLink "ChocolateMouldsModel" (1 : Nat) ({ cls := "java/lang/Object", name := "<init>", desc := "()V" } : Jvm.MethodName)) ∈ WALL := wall_of (List.mem_append_right _ (List.mem_append_right _ (List.mem_append_left _ (List.mem_of_getElem? (l := tables_1_3) (i := 101) (by decide +kernel))))) rfl
theorem wd_3_102 : (Jvm.Cond.fieldLink "ChocolateMouldsModel" (31 : Nat) "ChocolateMouldsModel" "thrown" "I") ∈ WALL := wall_of (List.mem_append_right _ (List.mem_append_right _ (List.mem_append_left _ (List.mem_of_getElem? (l := tables_1_3) (i := 102) (by decide +kernel))))) rfl
theorem wd_3_103 : (Jvm.Cond.fieldLink "ChocolateMouldsModel" (142 : Nat) "ChocolateMouldsModel" "day" "I") ∈ WALL := wall_of (List.mem_append_right _ (List.mem_append_right _ (List.mem_append_left _ (List.mem_of_getElem? (l := tables_1_3) (i := 103) (by decide +kernel))))) rfl
theorem wd_3_104 : (Jvm.Cond.fieldLink "ChocolateMouldsModel" (35 : Nat) "ChocolateMouldsModel" "bowls" "I") ∈ WALL := wall_of (List.mem_append_right _ (List.mem_append_right _ (List.mem_append_left _ (List.mem_of_getElem? (l := tables_1_3) (i := 104) (by decide +kernel))))) rfl
theorem wd_3_105 : (Jvm.Cond.fieldLink "ChocolateMouldsModel" (42 : Nat) "ChocolateMouldsModel" "slabs" "I") ∈ WALL := wall_of (List.mem_append_right _ (List.mem_append_right _ (List.mem_append_left _ (List.mem_of_getElem? (l := tables_1_3) (i := 105) (by decide +kernel))))) rfl
theorem wd_3_106 : (Jvm.Cond.fieldLink "ChocolateMouldsModel" (123 : Nat) "ChocolateMouldsModel" "boxes" "I") ∈ WALL := wall_of (List.mem_append_right _ (List.mem_append_right _ (List.mem_append_left _ (List.mem_of_getElem? (l := tables_1_3) (i := 106) (by decide +kernel))))) rfl
theorem wd_3_107 : (Jvm.Cond.fieldLink "ChocolateMouldsModel" (9 : Nat) "ChocolateMouldsModel" "bowlRow" "[I") ∈ WALL := wall_of (List.mem_append_right _ (List.mem_append_right _ (List.mem_append_left _ (List.mem_of_getElem? (l := tables_1_3) (i := 107) (by decide +kernel))))) rfl
theorem wd_3_108 : (Jvm.Cond.fieldLink "ChocolateMouldsModel" (13 : Nat) "ChocolateMouldsModel" "slabRow" "[I") ∈ WALL := wall_of (List.mem_append_right _ (List.mem_append_right _ (List.mem_append_left _ (List.mem_of_getElem? (l := tables_1_3) (i := 108) (by decide +kernel))))) rfl
theorem wd_3_109 : (Jvm.Cond.fieldLink "ChocolateMouldsModel" (16 : Nat) "ChocolateMouldsModel" "boxRow" "[I") ∈ WALL := wall_of (List.mem_append_right _ (List.mem_append_right _ (List.mem_append_left _ (List.mem_of_getElem? (l := tables_1_3) (i := 109) (by decide +kernel))))) rfl
theorem wd_3_110 : (Jvm.Cond.fieldLink "ChocolateMouldsModel" (19 : Nat) "ChocolateMouldsModel" "keptSlabs" "[I") ∈ WALL := wall_of (List.mem_append_right _ (List.mem_append_right _ (List.mem_append_left _ (List.mem_of_getElem? (l := tables_1_3) (i := 110) (by decide +kernel))))) rfl
theorem wd_3_111 : (Jvm.Cond.fieldLink "ChocolateMouldsModel" (22 : Nat) "ChocolateMouldsModel" "keptBoxes" "[I") ∈ WALL := wall_of (List.mem_append_right _ (List.mem_append_right _ (List.mem_append_left _ (List.mem_of_getElem? (l := tables_1_3) (i := 111) (by decide +kernel))))) rfl
theorem wd_3_112 : (Jvm.Cond.fieldLink "ChocolateMouldsModel" (25 : Nat) "ChocolateMouldsModel" "tried" "[I") ∈ WALL := wall_of (List.mem_append_right _ (List.mem_append_right _ (List.mem_append_left _ (List.mem_of_getElem? (l := tables_1_3) (i := 112) (by decide +kernel))))) rfl
theorem wd_3_113 : (Jvm.Cond.fieldLink "ChocolateMouldsModel" (28 : Nat) "ChocolateMouldsModel" "first" "[I") ∈ WALL := wall_of (List.mem_append_right _ (List.mem_append_right _ (List.mem_append_left _ (List.mem_of_getElem? (l := tables_1_3) (i := 113) (by decide +kernel))))) rfl
theorem wd_3_114 : (Jvm.Cond.lays "ChocolateMouldsModel" "ChocolateMouldsModel" "thrown" "I") ∈ WALL := wall_of (List.mem_append_right _ (List.mem_append_right _ (List.mem_append_left _ (List.mem_of_getElem? (l := tables_1_3) (i := 114) (by decide +kernel))))) rfl
theorem wd_3_116 : (Jvm.Cond.lays "ChocolateMouldsModel" "ChocolateMouldsModel" "day" "I") ∈ WALL := wall_of (List.mem_append_right _ (List.mem_append_right _ (List.mem_append_left _ (List.mem_of_getElem? (l := tables_1_3) (i := 116) (by decide +kernel))))) rfl
theorem wd_3_118 : (Jvm.Cond.lays "ChocolateMouldsModel" "ChocolateMouldsModel" "bowls" "I") ∈ WALL := wall_of (List.mem_append_right _ (List.mem_append_right _ (List.mem_append_left _ (List.mem_of_getElem? (l := tables_1_3) (i := 118) (by decide +kernel))))) rfl
theorem wd_3_120 : (Jvm.Cond.lays "ChocolateMouldsModel" "ChocolateMouldsModel" "slabs" "I") ∈ WALL := wall_of (List.mem_append_right _ (List.mem_append_right _ (List.mem_append_left _ (List.mem_of_getElem? (l := tables_1_3) (i := 120) (by decide +kernel))))) rfl
theorem wd_3_122 : (Jvm.Cond.lays "ChocolateMouldsModel" "ChocolateMouldsModel" "boxes" "I") ∈ WALL := wall_of (List.mem_append_right _ (List.mem_append_right _ (List.mem_append_left _ (List.mem_of_getElem? (l := tables_1_3) (i := 122) (by decide +kernel))))) rfl
theorem wd_3_124 : (Jvm.Cond.laysFinal "ChocolateMouldsModel" "ChocolateMouldsModel" "bowlRow" "[I") ∈ WALL := wall_of (List.mem_append_right _ (List.mem_append_right _ (List.mem_append_left _ (List.mem_of_getElem? (l := tables_1_3) (i := 124) (by decide +kernel))))) rfl
theorem wd_3_126 : (Jvm.Cond.laysFinal "ChocolateMouldsModel" "ChocolateMouldsModel" "slabRow" "[I") ∈ WALL := wall_of (List.mem_append_right _ (List.mem_append_right _ (List.mem_append_left _ (List.mem_of_getElem? (l := tables_1_3) (i := 126) (by decide +kernel))))) rfl
theorem wd_3_128 : (Jvm.Cond.laysFinal "ChocolateMouldsModel" "ChocolateMouldsModel" "boxRow" "[I") ∈ WALL := wall_of (List.mem_append_right _ (List.mem_append_right _ (List.mem_append_left _ (List.mem_of_getElem? (l := tables_1_3) (i := 128) (by decide +kernel))))) rfl
theorem wd_3_130 : (Jvm.Cond.laysFinal "ChocolateMouldsModel" "ChocolateMouldsModel" "keptSlabs" "[I") ∈ WALL := wall_of (List.mem_append_right _ (List.mem_append_right _ (List.mem_append_left _ (List.mem_of_getElem? (l := tables_1_3) (i := 130) (by decide +kernel))))) rfl
theorem wd_3_132 : (Jvm.Cond.laysFinal "ChocolateMouldsModel" "ChocolateMouldsModel" "keptBoxes" "[I") ∈ WALL := wall_of (List.mem_append_right _ (List.mem_append_right _ (List.mem_append_left _ (List.mem_of_getElem? (l := tables_1_3) (i := 132) (by decide +kernel))))) rfl
theorem wd_3_134 : (Jvm.Cond.laysFinal "ChocolateMouldsModel" "ChocolateMouldsModel" "tried" "[I") ∈ WALL := wall_of (List.mem_append_right _ (List.mem_append_right _ (List.mem_append_left _ (List.mem_of_getElem? (l := tables_1_3) (i := 134) (by decide +kernel))))) rfl
theorem wd_3_136 : (Jvm.Cond.laysFinal "ChocolateMouldsModel" "ChocolateMouldsModel" "first" "[I") ∈ WALL := wall_of (List.mem_append_right _ (List.mem_append_right _ (List.mem_append_left _ (List.mem_of_getElem? (l := tables_1_3) (i := 136) (by decide +kernel))))) rfl
theorem wd_3_138 : (Jvm.Cond.superclass "ChocolateMouldsModel" "java/lang/Object") ∈ WALL := wall_of (List.mem_append_right _ (List.mem_append_right _ (List.mem_append_left _ (List.mem_of_getElem? (l := tables_1_3) (i := 138) (by decide +kernel))))) rfl
theorem wd_3_139 : (Jvm.Cond.methodLink "ChocolateMouldsLaw" (80 : Nat) ({ cls := "ChocolateMouldsModel", name := "thrown", desc := "()I" } : Jvm.MethodName)) ∈ WALL := wall_of (List.mem_append_right _ (List.mem_append_right _ (List.mem_append_left _ (List.mem_of_getElem? (l := tables_1_3) (i := 139) (by decide +kernel))))) rfl
theorem wd_3_140 : (Jvm.Cond.instanceMethod ({ cls := "ChocolateMouldsModel", name := "thrown", desc := "()I" } : Jvm.MethodName)) ∈ WALL := wall_of (List.mem_append_right _ (List.mem_append_right _ (List.mem_append_left _ (List.mem_of_getElem? (l := tables_1_3) (i := 140) (by decide +kernel))))) rfl
theorem wd_3_141 : (Jvm.Cond.selects "ChocolateMouldsModel" ({ cls := "ChocolateMouldsModel", name := "thrown", desc := "()I" } : Jvm.MethodName) ({ cls := "ChocolateMouldsModel", name := "thrown", desc := "()I" } : Jvm.MethodName)) ∈ WALL := wall_of (List.mem_append_right _ (List.mem_append_right _ (List.mem_append_left _ (List.mem_of_getElem? (l := tables_1_3) (i := 141) (by decide +kernel))))) rfl
theorem wd_3_142 : (Jvm.Cond.code ({ cls := "ChocolateMouldsModel", name := "thrown", desc := "()I" } : Jvm.MethodName) prog_7_method_2_code (1 : Nat) (Option.some Jvm.ClassFile.FieldType.int)) ∈ WALL := wall_of (List.mem_append_right _ (List.mem_append_right _ (List.mem_append_left _ (List.mem_of_getElem? (l := tables_1_3) (i := 142) (by decide +kernel))))) rfl
theorem wd_3_143 : (Jvm.Cond.methodLink "ChocolateMouldsLaw" (79 : Nat) ({ cls := "ChocolateMouldsModel", name := "bowl", desc := "(I)I" } : Jvm.MethodName)) ∈ WALL := wall_of (List.mem_append_right _ (List.mem_append_right _ (List.mem_append_left _ (List.mem_of_getElem? (l := tables_1_3) (i := 143) (by decide +kernel))))) rfl
theorem wd_3_144 : (Jvm.Cond.instanceMethod ({ cls := "ChocolateMouldsModel", name := "bowl", desc := "(I)I" } : Jvm.MethodName)) ∈ WALL := wall_of (List.mem_append_right _ (List.mem_append_right _ (List.mem_append_left _ (List.mem_of_getElem? (l := tables_1_3) (i := 144) (by decide +kernel))))) rfl
theorem wd_3_145 : (Jvm.Cond.selects "ChocolateMouldsModel" ({ cls := "ChocolateMouldsModel", name := "bowl", desc := "(I)I" } : Jvm.MethodName) ({ cls := "ChocolateMouldsModel", name := "bowl", desc := "(I)I" } : Jvm.MethodName)) ∈ WALL := wall_of (List.mem_append_right _ (List.mem_append_right _ (List.mem_append_left _ (List.mem_of_getElem? (l := tables_1_3) (i := 145) (by decide +kernel))))) rfl
theorem wd_3_146 : (Jvm.Cond.code ({ cls := "ChocolateMouldsModel", name := "bowl", desc := "(I)I" } : Jvm.MethodName) prog_7_method_19_code (2 : Nat) (Option.some Jvm.ClassFile.FieldType.int)) ∈ WALL := wall_of (List.mem_append_right _ (List.mem_append_right _ (List.mem_append_left _ (List.mem_of_getElem? (l := tables_1_3) (i := 146) (by decide +kernel))))) rfl
theorem wd_3_147 : (Jvm.Cond.methodLink "ChocolateMouldsModel" (38 : Nat) ({ cls := "ChocolateMouldsModel", name := "isIn", desc := "(III)Z" } : Jvm.MethodName)) ∈ WALL := wall_of (List.mem_append_right _ (List.mem_append_right _ (List.mem_append_left _ (List.mem_of_getElem? (l := tables_1_3) (i := 147) (by decide +kernel))))) rfl
theorem wd_3_148 : (Jvm.Cond.static ({ cls := "ChocolateMouldsModel", name := "isIn", desc := "(III)Z" } : Jvm.MethodName)) ∈ WALL := wall_of (List.mem_append_right _ (List.mem_append_right _ (List.mem_append_left _ (List.mem_of_getElem? (l := tables_1_3) (i := 148) (by decide +kernel))))) rfl
theorem wd_3_149 : (Jvm.Cond.code ({ cls := "ChocolateMouldsModel", name := "isIn", desc := "(III)Z" } : Jvm.MethodName) prog_7_method_4_code (3 : Nat) (Option.some Jvm.ClassFile.FieldType.boolean)) ∈ WALL := wall_of (List.mem_append_right _ (List.mem_append_right _ (List.mem_append_left _ (List.mem_of_getElem? (l := tables_1_3) (i := 149) (by decide +kernel))))) rfl
theorem wd_3_150 : (Jvm.Cond.methodLink "ChocolateMouldsModel" (76 : Nat) ({ cls := "ChocolateMouldsModel", name := "fail", desc := "(I)I" } : Jvm.MethodName)) ∈ WALL := wall_of (List.mem_append_right _ (List.mem_append_right _ (List.mem_append_left _ (List.mem_of_getElem? (l := tables_1_3) (i := 150) (by decide +kernel))))) rfl
theorem wd_3_152 : (Jvm.Cond.instanceMethod ({ cls := "ChocolateMouldsModel", name := "fail", desc := "(I)I" } : Jvm.MethodName)) ∈ WALL := wall_of (List.mem_append_right _ (List.mem_append_right _ (List.mem_append_left _ (List.mem_of_getElem? (l := tables_1_3) (i := 152) (by decide +kernel))))) rfl
theorem wd_3_153 : (Jvm.Cond.code ({ cls := "ChocolateMouldsModel", name := "fail", desc := "(I)I" } : Jvm.MethodName) prog_7_method_3_code (2 : Nat) (Option.some Jvm.ClassFile.FieldType.int)) ∈ WALL := wall_of (List.mem_append_right _ (List.mem_append_right _ (List.mem_append_left _ (List.mem_of_getElem? (l := tables_1_3) (i := 153) (by decide +kernel))))) rfl
theorem wd_3_154 : (Jvm.Cond.methodLink "ChocolateMouldsModel" (79 : Nat) ({ cls := "ChocolateMouldsModel", name := "letBowl", desc := "(III)V" } : Jvm.MethodName)) ∈ WALL := wall_of (List.mem_append_right _ (List.mem_append_right _ (List.mem_append_left _ (List.mem_of_getElem? (l := tables_1_3) (i := 154) (by decide +kernel))))) rfl
theorem wd_3_156 : (Jvm.Cond.instanceMethod ({ cls := "ChocolateMouldsModel", name := "letBowl", desc := "(III)V" } : Jvm.MethodName)) ∈ WALL := wall_of (List.mem_append_right _ (List.mem_append_right _ (List.mem_append_left _ (List.mem_of_getElem? (l := tables_1_3) (i := 156) (by decide +kernel))))) rfl
theorem wd_3_157 : (Jvm.Cond.code ({ cls := "ChocolateMouldsModel", name := "letBowl", desc := "(III)V" } : Jvm.MethodName) prog_7_method_8_code (4 : Nat) (Option.none : Option Jvm.ClassFile.FieldType)) ∈ WALL := wall_of (List.mem_append_right _ (List.mem_append_right _ (List.mem_append_left _ (List.mem_of_getElem? (l := tables_1_3) (i := 157) (by decide +kernel))))) rfl
theorem wd_3_158 : (Jvm.Cond.methodLink "ChocolateMouldsLaw" (87 : Nat) ({ cls := "ChocolateMouldsModel", name := "warm", desc := "(III)I" } : Jvm.MethodName)) ∈ WALL := wall_of (List.mem_append_right _ (List.mem_append_right _ (List.mem_append_left _ (List.mem_of_getElem? (l := tables_1_3) (i := 158) (by decide +kernel))))) rfl
theorem wd_3_159 : (Jvm.Cond.instanceMethod ({ cls := "ChocolateMouldsModel", name := "warm", desc := "(III)I" } : Jvm.MethodName)) ∈ WALL := wall_of (List.mem_append_right _ (List.mem_append_right _ (List.mem_append_left _ (List.mem_of_getElem? (l := tables_1_3) (i := 159) (by decide +kernel))))) rfl
theorem wd_3_160 : (Jvm.Cond.selects "ChocolateMouldsModel" ({ cls := "ChocolateMouldsModel", name := "warm", desc := "(III)I" } : Jvm.MethodName) ({ cls := "ChocolateMouldsModel", name := "warm", desc := "(III)I" } : Jvm.MethodName)) ∈ WALL := wall_of (List.mem_append_right _ (List.mem_append_right _ (List.mem_append_left _ (List.mem_of_getElem? (l := tables_1_3) (i := 160) (by decide +kernel))))) rfl
theorem wd_3_161 : (Jvm.Cond.code ({ cls := "ChocolateMouldsModel", name := "warm", desc := "(III)I" } : Jvm.MethodName) prog_7_method_21_code (5 : Nat) (Option.some Jvm.ClassFile.FieldType.int)) ∈ WALL := wall_of (List.mem_append_right _ (List.mem_append_right _ (List.mem_append_left _ (List.mem_of_getElem? (l := tables_1_3) (i := 161) (by decide +kernel))))) rfl
theorem wd_3_162 : (Jvm.Cond.methodLink "ChocolateMouldsModel" (83 : Nat) ({ cls := "ChocolateMouldsModel", name := "isBowl", desc := "(I)Z" } : Jvm.MethodName)) ∈ WALL := wall_of (List.mem_append_right _ (List.mem_append_right _ (List.mem_append_left _ (List.mem_of_getElem? (l := tables_1_3) (i := 162) (by decide +kernel))))) rfl
theorem wd_3_164 : (Jvm.Cond.instanceMethod ({ cls := "ChocolateMouldsModel", name := "isBowl", desc := "(I)Z" } : Jvm.MethodName)) ∈ WALL := wall_of (List.mem_append_right _ (List.mem_append_right _ (List.mem_append_left _ (List.mem_of_getElem? (l := tables_1_3) (i := 164) (by decide +kernel))))) rfl
theorem wd_3_165 : (Jvm.Cond.code ({ cls := "ChocolateMouldsModel", name := "isBowl", desc := "(I)Z" } : Jvm.MethodName) prog_7_method_5_code (2 : Nat) (Option.some Jvm.ClassFile.FieldType.boolean)) ∈ WALL := wall_of (List.mem_append_right _ (List.mem_append_right _ (List.mem_append_left _ (List.mem_of_getElem? (l := tables_1_3) (i := 165) (by decide +kernel))))) rfl
theorem wd_3_166 : (Jvm.Cond.methodLink "ChocolateMouldsModel" (87 : Nat) ({ cls := "ChocolateMouldsModel", name := "isWarmth", desc := "(II)Z" } : Jvm.MethodName)) ∈ WALL := wall_of (List.mem_append_right _ (List.mem_append_right _ (List.mem_append_left _ (List.mem_of_getElem? (l := tables_1_3) (i := 166) (by decide +kernel))))) rfl
theorem wd_3_168 : (Jvm.Cond.instanceMethod ({ cls := "ChocolateMouldsModel", name := "isWarmth", desc := "(II)Z" } : Jvm.MethodName)) ∈ WALL := wall_of (List.mem_append_right _ (List.mem_append_right _ (List.mem_append_left _ (List.mem_of_getElem? (l := tables_1_3) (i := 168) (by decide +kernel))))) rfl
theorem wd_3_169 : (Jvm.Cond.code ({ cls := "ChocolateMouldsModel", name := "isWarmth", desc := "(II)Z" } : Jvm.MethodName) prog_7_method_20_code (3 : Nat) (Option.some Jvm.ClassFile.FieldType.boolean)) ∈ WALL := wall_of (List.mem_append_right _ (List.mem_append_right _ (List.mem_append_left _ (List.mem_of_getElem? (l := tables_1_3) (i := 169) (by decide +kernel))))) rfl
theorem wd_3_170 : (Jvm.Cond.methodLink "ChocolateMouldsModel" (69 : Nat) ({ cls := "ChocolateMouldsModel", name := "look", desc := "(I)V" } : Jvm.MethodName)) ∈ WALL := wall_of (List.mem_append_right _ (List.mem_append_right _ (List.mem_append_left _ (List.mem_of_getElem? (l := tables_1_3) (i := 170) (by decide +kernel))))) rfl
theorem wd_3_172 : (Jvm.Cond.instanceMethod ({ cls := "ChocolateMouldsModel", name := "look", desc := "(I)V" } : Jvm.MethodName)) ∈ WALL := wall_of (List.mem_append_right _ (List.mem_append_right _ (List.mem_append_left _ (List.mem_of_getElem? (l := tables_1_3) (i := 172) (by decide +kernel))))) rfl
theorem wd_3_173 : (Jvm.Cond.code ({ cls := "ChocolateMouldsModel", name := "look", desc := "(I)V" } : Jvm.MethodName) prog_7_method_17_code (3 : Nat) (Option.none : Option Jvm.ClassFile.FieldType)) ∈ WALL := wall_of (List.mem_append_right _ (List.mem_append_right _ (List.mem_append_left _ (List.mem_of_getElem? (l := tables_1_3) (i := 173) (by decide +kernel))))) rfl
theorem wd_3_174 : (Jvm.Cond.methodLink "ChocolateMouldsModel" (66 : Nat) ({ cls := "ChocolateMouldsModel", name := "bo", desc := "(II)I" } : Jvm.MethodName)) ∈ WALL := wall_of (List.mem_append_right _ (List.mem_append_right _ (List.mem_append_left _ (List.mem_of_getElem? (l := tables_1_3) (i := 174) (by decide +kernel))))) rfl
theorem wd_3_176 : (Jvm.Cond.instanceMethod ({ cls := "ChocolateMouldsModel", name := "bo", desc := "(II)I" } : Jvm.MethodName)) ∈ WALL := wall_of (List.mem_append_right _ (List.mem_append_right _ (List.mem_append_left _ (List.mem_of_getElem? (l := tables_1_3) (i := 176) (by decide +kernel))))) rfl
theorem wd_3_177 : (Jvm.Cond.code ({ cls := "ChocolateMouldsModel", name := "bo", desc := "(II)I" } : Jvm.MethodName) prog_7_method_7_code (3 : Nat) (Option.some Jvm.ClassFile.FieldType.int)) ∈ WALL := wall_of (List.mem_append_right _ (List.mem_append_right _ (List.mem_append_left _ (List.mem_of_getElem? (l := tables_1_3) (i := 177) (by decide +kernel))))) rfl
theorem wd_3_178 : (Jvm.Cond.methodLink "ChocolateMouldsModel" (91 : Nat) ({ cls := "ChocolateMouldsModel", name := "turns", desc := "([III)V" } : Jvm.MethodName)) ∈ WALL := wall_of (List.mem_append_right _ (List.mem_append_right _ (List.mem_append_left _ (List.mem_of_getElem? (l := tables_1_3) (i := 178) (by decide +kernel))))) rfl
theorem wd_3_179 : (Jvm.Cond.static ({ cls := "ChocolateMouldsModel", name := "turns", desc := "([III)V" } : Jvm.MethodName)) ∈ WALL := wall_of (List.mem_append_right _ (List.mem_append_right _ (List.mem_append_left _ (List.mem_of_getElem? (l := tables_1_3) (i := 179) (by decide +kernel))))) rfl
theorem wd_3_180 : (Jvm.Cond.code ({ cls := "ChocolateMouldsModel", name := "turns", desc := "([III)V" } : Jvm.MethodName) prog_7_method_15_code (4 : Nat) (Option.none : Option Jvm.ClassFile.FieldType)) ∈ WALL := wall_of (List.mem_append_right _ (List.mem_append_right _ (List.mem_append_left _ (List.mem_of_getElem? (l := tables_1_3) (i := 180) (by decide +kernel))))) rfl
theorem wd_3_181 : (Jvm.Cond.methodLink "ChocolateMouldsModel" (59 : Nat) ({ cls := "ChocolateMouldsModel", name := "turn", desc := "([II)V" } : Jvm.MethodName)) ∈ WALL := wall_of (List.mem_append_right _ (List.mem_append_right _ (List.mem_append_left _ (List.mem_of_getElem? (l := tables_1_3) (i := 181) (by decide +kernel))))) rfl
theorem wd_3_182 : (Jvm.Cond.static ({ cls := "ChocolateMouldsModel", name := "turn", desc := "([II)V" } : Jvm.MethodName)) ∈ WALL := wall_of (List.mem_append_right _ (List.mem_append_right _ (List.mem_append_left _ (List.mem_of_getElem? (l := tables_1_3) (i := 182) (by decide +kernel))))) rfl
theorem wd_3_183 : (Jvm.Cond.code ({ cls := "ChocolateMouldsModel", name := "turn", desc := "([II)V" } : Jvm.MethodName) prog_7_method_14_code (3 : Nat) (Option.none : Option Jvm.ClassFile.FieldType)) ∈ WALL := wall_of (List.mem_append_right _ (List.mem_append_right _ (List.mem_append_left _ (List.mem_of_getElem? (l := tables_1_3) (i := 183) (by decide +kernel))))) rfl
theorem wd_3_184 : (Jvm.Cond.methodLink "ChocolateMouldsModel" (45 : Nat) ({ cls := "ChocolateMouldsModel", name := "meltsAt", desc := "(I)I" } : Jvm.MethodName)) ∈ WALL := wall_of (List.mem_append_right _ (List.mem_append_right _ (List.mem_append_left _ (List.mem_of_getElem? (l := tables_1_3) (i := 184) (by decide +kernel))))) rfl
theorem wd_3_185 : (Jvm.Cond.static ({ cls := "ChocolateMouldsModel", name := "meltsAt", desc := "(I)I" } : Jvm.MethodName)) ∈ WALL := wall_of (List.mem_append_right _ (List.mem_append_right _ (List.mem_append_left _ (List.mem_of_getElem? (l := tables_1_3) (i := 185) (by decide +kernel))))) rfl
theorem wd_3_186 : (Jvm.Cond.code ({ cls := "ChocolateMouldsModel", name := "meltsAt", desc := "(I)I" } : Jvm.MethodName) prog_7_method_12_code (1 : Nat) (Option.some Jvm.ClassFile.FieldType.int)) ∈ WALL := wall_of (List.mem_append_right _ (List.mem_append_right _ (List.mem_append_left _ (List.mem_of_getElem? (l := tables_1_3) (i := 186) (by decide +kernel))))) rfl
theorem wd_3_187 : (Jvm.Cond.methodLink "ChocolateMouldsModel" (49 : Nat) ({ cls := "ChocolateMouldsModel", name := "sum", desc := "([I)I" } : Jvm.MethodName)) ∈ WALL := wall_of (List.mem_append_right _ (List.mem_append_right _ (List.mem_append_left _ (List.mem_of_getElem? (l := tables_1_3) (i := 187) (by decide +kernel))))) rfl
theorem wd_3_188 : (Jvm.Cond.static ({ cls := "ChocolateMouldsModel", name := "sum", desc := "([I)I" } : Jvm.MethodName)) ∈ WALL := wall_of (List.mem_append_right _ (List.mem_append_right _ (List.mem_append_left _ (List.mem_of_getElem? (l := tables_1_3) (i := 188) (by decide +kernel))))) rfl
theorem wd_3_189 : (Jvm.Cond.code ({ cls := "ChocolateMouldsModel", name := "sum", desc := "([I)I" } : Jvm.MethodName) prog_7_method_13_code (3 : Nat) (Option.some Jvm.ClassFile.FieldType.int)) ∈ WALL := wall_of (List.mem_append_right _ (List.mem_append_right _ (List.mem_append_left _ (List.mem_of_getElem? (l := tables_1_3) (i := 189) (by decide +kernel))))) rfl
theorem wd_3_190 : (Jvm.Cond.methodLink "ChocolateMouldsModel" (53 : Nat) ({ cls := "java/lang/Math", name := "min", desc := "(II)I" } : Jvm.MethodName)) ∈ WALL := wall_of (List.mem_append_right _ (List.mem_append_right _ (List.mem_append_left _ (List.mem_of_getElem? (l := tables_1_3) (i := 190) (by decide +kernel))))) rfl
theorem wd_3_191 : (Jvm.Cond.methodLink "ChocolateMouldsModel" (73 : Nat) ({ cls := "ChocolateMouldsModel", name := "temper", desc := "([I)I" } : Jvm.MethodName)) ∈ WALL := wall_of (List.mem_append_right _ (List.mem_append_right _ (List.mem_append_left _ (List.mem_of_getElem? (l := tables_1_3) (i := 191) (by decide +kernel))))) rfl
theorem wd_3_192 : (Jvm.Cond.static ({ cls := "ChocolateMouldsModel", name := "temper", desc := "([I)I" } : Jvm.MethodName)) ∈ WALL := wall_of (List.mem_append_right _ (List.mem_append_right _ (List.mem_append_left _ (List.mem_of_getElem? (l := tables_1_3) (i := 192) (by decide +kernel))))) rfl
theorem wd_3_193 : (Jvm.Cond.code ({ cls := "ChocolateMouldsModel", name := "temper", desc := "([I)I" } : Jvm.MethodName) prog_7_method_16_code (1 : Nat) (Option.some Jvm.ClassFile.FieldType.int)) ∈ WALL := wall_of (List.mem_append_right _ (List.mem_append_right _ (List.mem_append_left _ (List.mem_of_getElem? (l := tables_1_3) (i := 193) (by decide +kernel))))) rfl
theorem wd_3_194 : (Jvm.Cond.methodLink "ChocolateMouldsModel" (63 : Nat) ({ cls := "java/lang/Math", name := "max", desc := "(II)I" } : Jvm.MethodName)) ∈ WALL := wall_of (List.mem_append_right _ (List.mem_append_right _ (List.mem_append_left _ (List.mem_of_getElem? (l := tables_1_3) (i := 194) (by decide +kernel))))) rfl
theorem wd_3_195 : (Jvm.Cond.methodLink "ChocolateMouldsLaw" (91 : Nat) ({ cls := "ChocolateMouldsModel", name := "seed", desc := "(II)I" } : Jvm.MethodName)) ∈ WALL := wall_of (List.mem_append_right _ (List.mem_append_right _ (List.mem_append_left _ (List.mem_of_getElem? (l := tables_1_3) (i := 195) (by decide +kernel))))) rfl
theorem wd_3_196 : (Jvm.Cond.instanceMethod ({ cls := "ChocolateMouldsModel", name := "seed", desc := "(II)I" } : Jvm.MethodName)) ∈ WALL := wall_of (List.mem_append_right _ (List.mem_append_right _ (List.mem_append_left _ (List.mem_of_getElem? (l := tables_1_3) (i := 196) (by decide +kernel))))) rfl
theorem wd_3_197 : (Jvm.Cond.selects "ChocolateMouldsModel" ({ cls := "ChocolateMouldsModel", name := "seed", desc := "(II)I" } : Jvm.MethodName) ({ cls := "ChocolateMouldsModel", name := "seed", desc := "(II)I" } : Jvm.MethodName)) ∈ WALL := wall_of (List.mem_append_right _ (List.mem_append_right _ (List.mem_append_left _ (List.mem_of_getElem? (l := tables_1_3) (i := 197) (by decide +kernel))))) rfl
theorem wd_3_198 : (Jvm.Cond.code ({ cls := "ChocolateMouldsModel", name := "seed", desc := "(II)I" } : Jvm.MethodName) prog_7_method_22_code (3 : Nat) (Option.some Jvm.ClassFile.FieldType.int)) ∈ WALL := wall_of (List.mem_append_right _ (List.mem_append_right _ (List.mem_append_left _ (List.mem_of_getElem? (l := tables_1_3) (i := 198) (by decide +kernel))))) rfl
theorem wd_3_199 : (Jvm.Cond.methodLink "ChocolateMouldsLaw" (94 : Nat) ({ cls := "ChocolateMouldsModel", name := "pour", desc := "(II)I" } : Jvm.MethodName)) ∈ WALL := wall_of (List.mem_append_right _ (List.mem_append_right _ (List.mem_append_left _ (List.mem_of_getElem? (l := tables_1_3) (i := 199) (by decide +kernel))))) rfl
theorem wd_3_200 : (Jvm.Cond.instanceMethod ({ cls := "ChocolateMouldsModel", name := "pour", desc := "(II)I" } : Jvm.MethodName)) ∈ WALL := wall_of (List.mem_append_right _ (List.mem_append_right _ (List.mem_append_left _ (List.mem_of_getElem? (l := tables_1_3) (i := 200) (by decide +kernel))))) rfl
theorem wd_3_201 : (Jvm.Cond.selects "ChocolateMouldsModel" ({ cls := "ChocolateMouldsModel", name := "pour", desc := "(II)I" } : Jvm.MethodName) ({ cls := "ChocolateMouldsModel", name := "pour", desc := "(II)I" } : Jvm.MethodName)) ∈ WALL := wall_of (List.mem_append_right _ (List.mem_append_right _ (List.mem_append_left _ (List.mem_of_getElem? (l := tables_1_3) (i := 201) (by decide +kernel))))) rfl
theorem wd_3_202 : (Jvm.Cond.code ({ cls := "ChocolateMouldsModel", name := "pour", desc := "(II)I" } : Jvm.MethodName) prog_7_method_23_code (5 : Nat) (Option.some Jvm.ClassFile.FieldType.int)) ∈ WALL := wall_of (List.mem_append_right _ (List.mem_append_right _ (List.mem_append_left _ (List.mem_of_getElem? (l := tables_1_3) (i := 202) (by decide +kernel))))) rfl
theorem wd_3_203 : (Jvm.Cond.methodLink "ChocolateMouldsLaw" (97 : Nat) ({ cls := "ChocolateMouldsModel", name := "cast", desc := "(III)I" } : Jvm.MethodName)) ∈ WALL := wall_of (List.mem_append_right _ (List.mem_append_right _ (List.mem_append_left _ (List.mem_of_getElem? (l := tables_1_3) (i := 203) (by decide +kernel))))) rfl
theorem wd_3_204 : (Jvm.Cond.instanceMethod ({ cls := "ChocolateMouldsModel", name := "cast", desc := "(III)I" } : Jvm.MethodName)) ∈ WALL := wall_of (List.mem_append_right _ (List.mem_append_right _ (List.mem_append_left _ (List.mem_of_getElem? (l := tables_1_3) (i := 204) (by decide +kernel))))) rfl
theorem wd_3_205 : (Jvm.Cond.selects "ChocolateMouldsModel" ({ cls := "ChocolateMouldsModel", name := "cast", desc := "(III)I" } : Jvm.MethodName) ({ cls := "ChocolateMouldsModel", name := "cast", desc := "(III)I" } : Jvm.MethodName)) ∈ WALL := wall_of (List.mem_append_right _ (List.mem_append_right _ (List.mem_append_left _ (List.mem_of_getElem? (l := tables_1_3) (i := 205) (by decide +kernel))))) rfl
theorem wd_3_206 : (Jvm.Cond.code ({ cls := "ChocolateMouldsModel", name := "cast", desc := "(III)I" } : Jvm.MethodName) prog_7_method_27_code (4 : Nat) (Option.some Jvm.ClassFile.FieldType.int)) ∈ WALL := wall_of (List.mem_append_right _ (List.mem_append_right _ (List.mem_append_left _ (List.mem_of_getElem? (l := tables_1_3) (i := 206) (by decide +kernel))))) rfl
theorem wd_3_207 : (Jvm.Cond.methodLink "ChocolateMouldsModel" (107 : Nat) ({ cls := "ChocolateMouldsModel", name := "temperOf", desc := "(I)I" } : Jvm.MethodName)) ∈ WALL := wall_of (List.mem_append_right _ (List.mem_append_right _ (List.mem_append_left _ (List.mem_of_getElem? (l := tables_1_3) (i := 207) (by decide +kernel))))) rfl
theorem wd_3_209 : (Jvm.Cond.instanceMethod ({ cls := "ChocolateMouldsModel", name := "temperOf", desc := "(I)I" } : Jvm.MethodName)) ∈ WALL := wall_of (List.mem_append_right _ (List.mem_append_right _ (List.mem_append_left _ (List.mem_of_getElem? (l := tables_1_3) (i := 209) (by decide +kernel))))) rfl
theorem wd_3_210 : (Jvm.Cond.code ({ cls := "ChocolateMouldsModel", name := "temperOf", desc := "(I)I" } : Jvm.MethodName) prog_7_method_18_code (2 : Nat) (Option.some Jvm.ClassFile.FieldType.int)) ∈ WALL := wall_of (List.mem_append_right _ (List.mem_append_right _ (List.mem_append_left _ (List.mem_of_getElem? (l := tables_1_3) (i := 210) (by decide +kernel))))) rfl
theorem wd_3_211 : (Jvm.Cond.methodLink "ChocolateMouldsModel" (110 : Nat) ({ cls := "ChocolateMouldsModel", name := "put", desc := "(IIIIII)V" } : Jvm.MethodName)) ∈ WALL := wall_of (List.mem_append_right _ (List.mem_append_right _ (List.mem_append_left _ (List.mem_of_getElem? (l := tables_1_3) (i := 211) (by decide +kernel))))) rfl
theorem wd_3_213 : (Jvm.Cond.instanceMethod ({ cls := "ChocolateMouldsModel", name := "put", desc := "(IIIIII)V" } : Jvm.MethodName)) ∈ WALL := wall_of (List.mem_append_right _ (List.mem_append_right _ (List.mem_append_left _ (List.mem_of_getElem? (l := tables_1_3) (i := 213) (by decide +kernel))))) rfl
theorem wd_3_214 : (Jvm.Cond.code ({ cls := "ChocolateMouldsModel", name := "put", desc := "(IIIIII)V" } : Jvm.MethodName) prog_7_method_24_code (7 : Nat) (Option.none : Option Jvm.ClassFile.FieldType)) ∈ WALL := wall_of (List.mem_append_right _ (List.mem_append_right _ (List.mem_append_left _ (List.mem_of_getElem? (l := tables_1_3) (i := 214) (by decide +kernel))))) rfl
theorem wd_3_215 : (Jvm.Cond.methodLink "ChocolateMouldsModel" (95 : Nat) ({ cls := "ChocolateMouldsModel", name := "letSlab", desc := "(III)V" } : Jvm.MethodName)) ∈ WALL := wall_of (List.mem_append_right _ (List.mem_append_right _ (List.mem_append_left _ (List.mem_of_getElem? (l := tables_1_3) (i := 215) (by decide +kernel))))) rfl
theorem wd_3_217 : (Jvm.Cond.instanceMethod ({ cls := "ChocolateMouldsModel", name := "letSlab", desc := "(III)V" } : Jvm.MethodName)) ∈ WALL := wall_of (List.mem_append_right _ (List.mem_append_right _ (List.mem_append_left _ (List.mem_of_getElem? (l := tables_1_3) (i := 217) (by decide +kernel))))) rfl
theorem wd_3_218 : (Jvm.Cond.code ({ cls := "ChocolateMouldsModel", name := "letSlab", desc := "(III)V" } : Jvm.MethodName) prog_7_method_10_code (4 : Nat) (Option.none : Option Jvm.ClassFile.FieldType)) ∈ WALL := wall_of (List.mem_append_right _ (List.mem_append_right _ (List.mem_append_left _ (List.mem_of_getElem? (l := tables_1_3) (i := 218) (by decide +kernel))))) rfl
theorem wd_3_219 : (Jvm.Cond.methodLink "ChocolateMouldsLaw" (100 : Nat) ({ cls := "ChocolateMouldsModel", name := "polish", desc := "(I)I" } : Jvm.MethodName)) ∈ WALL := wall_of (List.mem_append_right _ (List.mem_append_right _ (List.mem_append_left _ (List.mem_of_getElem? (l := tables_1_3) (i := 219) (by decide +kernel))))) rfl
theorem wd_3_220 : (Jvm.Cond.instanceMethod ({ cls := "ChocolateMouldsModel", name := "polish", desc := "(I)I" } : Jvm.MethodName)) ∈ WALL := wall_of (List.mem_append_right _ (List.mem_append_right _ (List.mem_append_left _ (List.mem_of_getElem? (l := tables_1_3) (i := 220) (by decide +kernel))))) rfl
theorem wd_3_221 : (Jvm.Cond.selects "ChocolateMouldsModel" ({ cls := "ChocolateMouldsModel", name := "polish", desc := "(I)I" } : Jvm.MethodName) ({ cls := "ChocolateMouldsModel", name := "polish", desc := "(I)I" } : Jvm.MethodName)) ∈ WALL := wall_of (List.mem_append_right _ (List.mem_append_right _ (List.mem_append_left _ (List.mem_of_getElem? (l := tables_1_3) (i := 221) (by decide +kernel))))) rfl
theorem wd_3_222 : (Jvm.Cond.code ({ cls := "ChocolateMouldsModel", name := "polish", desc := "(I)I" } : Jvm.MethodName) prog_7_method_28_code (2 : Nat) (Option.some Jvm.ClassFile.FieldType.int)) ∈ WALL := wall_of (List.mem_append_right _ (List.mem_append_right _ (List.mem_append_left _ (List.mem_of_getElem? (l := tables_1_3) (i := 222) (by decide +kernel))))) rfl
theorem wd_3_223 : (Jvm.Cond.methodLink "ChocolateMouldsModel" (114 : Nat) ({ cls := "ChocolateMouldsModel", name := "isSlab", desc := "(I)Z" } : Jvm.MethodName)) ∈ WALL := wall_of (List.mem_append_right _ (List.mem_append_right _ (List.mem_append_left _ (List.mem_of_getElem? (l := tables_1_3) (i := 223) (by decide +kernel))))) rfl
theorem wd_3_225 : (Jvm.Cond.instanceMethod ({ cls := "ChocolateMouldsModel", name := "isSlab", desc := "(I)Z" } : Jvm.MethodName)) ∈ WALL := wall_of (List.mem_append_right _ (List.mem_append_right _ (List.mem_append_left _ (List.mem_of_getElem? (l := tables_1_3) (i := 225) (by decide +kernel))))) rfl
theorem wd_3_226 : (Jvm.Cond.code ({ cls := "ChocolateMouldsModel", name := "isSlab", desc := "(I)Z" } : Jvm.MethodName) prog_7_method_6_code (2 : Nat) (Option.some Jvm.ClassFile.FieldType.boolean)) ∈ WALL := wall_of (List.mem_append_right _ (List.mem_append_right _ (List.mem_append_left _ (List.mem_of_getElem? (l := tables_1_3) (i := 226) (by decide +kernel))))) rfl
theorem wd_3_227 : (Jvm.Cond.methodLink "ChocolateMouldsModel" (98 : Nat) ({ cls := "ChocolateMouldsModel", name := "sl", desc := "(II)I" } : Jvm.MethodName)) ∈ WALL := wall_of (List.mem_append_right _ (List.mem_append_right _ (List.mem_append_left _ (List.mem_of_getElem? (l := tables_1_3) (i := 227) (by decide +kernel))))) rfl
theorem wd_3_229 : (Jvm.Cond.instanceMethod ({ cls := "ChocolateMouldsModel", name := "sl", desc := "(II)I" } : Jvm.MethodName)) ∈ WALL := wall_of (List.mem_append_right _ (List.mem_append_right _ (List.mem_append_left _ (List.mem_of_getElem? (l := tables_1_3) (i := 229) (by decide +kernel))))) rfl
theorem wd_3_230 : (Jvm.Cond.code ({ cls := "ChocolateMouldsModel", name := "sl", desc := "(II)I" } : Jvm.MethodName) prog_7_method_9_code (3 : Nat) (Option.some Jvm.ClassFile.FieldType.int)) ∈ WALL := wall_of (List.mem_append_right _ (List.mem_append_right _ (List.mem_append_left _ (List.mem_of_getElem? (l := tables_1_3) (i := 230) (by decide +kernel))))) rfl
theorem wd_3_231 : (Jvm.Cond.methodLink "ChocolateMouldsLaw" (104 : Nat) ({ cls := "ChocolateMouldsModel", name := "split", desc := "(IIZ)I" } : Jvm.MethodName)) ∈ WALL := wall_of (List.mem_append_right _ (List.mem_append_right _ (List.mem_append_left _ (List.mem_of_getElem? (l := tables_1_3) (i := 231) (by decide +kernel))))) rfl
theorem wd_3_232 : (Jvm.Cond.instanceMethod ({ cls := "ChocolateMouldsModel", name := "split", desc := "(IIZ)I" } : Jvm.MethodName)) ∈ WALL := wall_of (List.mem_append_right _ (List.mem_append_right _ (List.mem_append_left _ (List.mem_of_getElem? (l := tables_1_3) (i := 232) (by decide +kernel))))) rfl
theorem wd_3_233 : (Jvm.Cond.selects "ChocolateMouldsModel" ({ cls := "ChocolateMouldsModel", name := "split", desc := "(IIZ)I" } : Jvm.MethodName) ({ cls := "ChocolateMouldsModel", name := "split", desc := "(IIZ)I" } : Jvm.MethodName)) ∈ WALL := wall_of (List.mem_append_right _ (List.mem_append_right _ (List.mem_append_left _ (List.mem_of_getElem? (l := tables_1_3) (i := 233) (by decide +kernel))))) rfl
theorem wd_3_234 : (Jvm.Cond.code ({ cls := "ChocolateMouldsModel", name := "split", desc := "(IIZ)I" } : Jvm.MethodName) prog_7_method_29_code (5 : Nat) (Option.some Jvm.ClassFile.FieldType.int)) ∈ WALL := wall_of (List.mem_append_right _ (List.mem_append_right _ (List.mem_append_left _ (List.mem_of_getElem? (l := tables_1_3) (i := 234) (by decide +kernel))))) rfl
theorem wd_3_235 : (Jvm.Cond.methodLink "ChocolateMouldsModel" (101 : Nat) ({ cls := "java/lang/System", name := "arraycopy", desc := "(Ljava/lang/Object;ILjava/lang/Object;II)V" } : Jvm.MethodName)) ∈ WALL := wall_of (List.mem_append_right _ (List.mem_append_right _ (List.mem_append_left _ (List.mem_of_getElem? (l := tables_1_3) (i := 235) (by decide +kernel))))) rfl
theorem wd_3_236 : (Jvm.Cond.static ({ cls := "java/lang/System", name := "arraycopy", desc := "(Ljava/lang/Object;ILjava/lang/Object;II)V" } : Jvm.MethodName)) ∈ WALL := wall_of (List.mem_append_right _ (List.mem_append_right _ (List.mem_append_left _ (List.mem_of_getElem? (l := tables_1_3) (i := 236) (by decide +kernel))))) rfl
theorem wd_3_237 : (Jvm.Cond.native ({ cls := "java/lang/System", name := "arraycopy", desc := "(Ljava/lang/Object;ILjava/lang/Object;II)V" } : Jvm.MethodName)) ∈ WALL := wall_of (List.mem_append_right _ (List.mem_append_right _ (List.mem_append_left _ (List.mem_of_getElem? (l := tables_1_3) (i := 237) (by decide +kernel))))) rfl
theorem wd_3_238 : (Jvm.Cond.methodLink "ChocolateMouldsLaw" (107 : Nat) ({ cls := "ChocolateMouldsModel", name := "melt", desc := "(II)I" } : Jvm.MethodName)) ∈ WALL := wall_of (List.mem_append_right _ (List.mem_append_right _ (List.mem_append_left _ (List.mem_of_getElem? (l := tables_1_3) (i := 238) (by decide +kernel))))) rfl
theorem wd_3_239 : (Jvm.Cond.instanceMethod ({ cls := "ChocolateMouldsModel", name := "melt", desc := "(II)I" } : Jvm.MethodName)) ∈ WALL := wall_of (List.mem_append_right _ (List.mem_append_right _ (List.mem_append_left _ (List.mem_of_getElem? (l := tables_1_3) (i := 239) (by decide +kernel))))) rfl
theorem wd_4_0 : (Jvm.Cond.selects "ChocolateMouldsModel" ({ cls := "ChocolateMouldsModel", name := "melt", desc := "(II)I" } : Jvm.MethodName) ({ cls := "ChocolateMouldsModel", name := "melt", desc := "(II)I" } : Jvm.MethodName)) ∈ WALL := wall_of (List.mem_append_right _ (List.mem_append_right _ (List.mem_append_right _ (List.mem_of_getElem? (l := tables_1_4) (i := 0) (by decide +kernel))))) rfl
theorem wd_4_1 : (Jvm.Cond.code ({ cls := "ChocolateMouldsModel", name := "melt", desc := "(II)I" } : Jvm.MethodName) prog_7_method_30_code (4 : Nat) (Option.some Jvm.ClassFile.FieldType.int)) ∈ WALL := wall_of (List.mem_append_right _ (List.mem_append_right _ (List.mem_append_right _ (List.mem_of_getElem? (l := tables_1_4) (i := 1) (by decide +kernel))))) rfl
theorem wd_4_2 : (Jvm.Cond.methodLink "ChocolateMouldsModel" (117 : Nat) ({ cls := "ChocolateMouldsModel", name := "squares", desc := "(I)I" } : Jvm.MethodName)) ∈ WALL := wall_of (List.mem_append_right _ (List.mem_append_right _ (List.mem_append_right _ (List.mem_of_getElem? (l := tables_1_4) (i := 2) (by decide +kernel))))) rfl
theorem wd_4_4 : (Jvm.Cond.instanceMethod ({ cls := "ChocolateMouldsModel", name := "squares", desc := "(I)I" } : Jvm.MethodName)) ∈ WALL := wall_of (List.mem_append_right _ (List.mem_append_right _ (List.mem_append_right _ (List.mem_of_getElem? (l := tables_1_4) (i := 4) (by decide +kernel))))) rfl
theorem wd_4_5 : (Jvm.Cond.code ({ cls := "ChocolateMouldsModel", name := "squares", desc := "(I)I" } : Jvm.MethodName) prog_7_method_25_code (2 : Nat) (Option.some Jvm.ClassFile.FieldType.int)) ∈ WALL := wall_of (List.mem_append_right _ (List.mem_append_right _ (List.mem_append_right _ (List.mem_of_getElem? (l := tables_1_4) (i := 5) (by decide +kernel))))) rfl
theorem wd_4_6 : (Jvm.Cond.methodLink "ChocolateMouldsModel" (120 : Nat) ({ cls := "ChocolateMouldsModel", name := "away", desc := "(I)V" } : Jvm.MethodName)) ∈ WALL := wall_of (List.mem_append_right _ (List.mem_append_right _ (List.mem_append_right _ (List.mem_of_getElem? (l := tables_1_4) (i := 6) (by decide +kernel))))) rfl
theorem wd_4_8 : (Jvm.Cond.instanceMethod ({ cls := "ChocolateMouldsModel", name := "away", desc := "(I)V" } : Jvm.MethodName)) ∈ WALL := wall_of (List.mem_append_right _ (List.mem_append_right _ (List.mem_append_right _ (List.mem_of_getElem? (l := tables_1_4) (i := 8) (by decide +kernel))))) rfl
theorem wd_4_9 : (Jvm.Cond.code ({ cls := "ChocolateMouldsModel", name := "away", desc := "(I)V" } : Jvm.MethodName) prog_7_method_26_code (2 : Nat) (Option.none : Option Jvm.ClassFile.FieldType)) ∈ WALL := wall_of (List.mem_append_right _ (List.mem_append_right _ (List.mem_append_right _ (List.mem_of_getElem? (l := tables_1_4) (i := 9) (by decide +kernel))))) rfl
theorem wd_4_10 : (Jvm.Cond.methodLink "ChocolateMouldsLaw" (110 : Nat) ({ cls := "ChocolateMouldsModel", name := "box", desc := "(II)I" } : Jvm.MethodName)) ∈ WALL := wall_of (List.mem_append_right _ (List.mem_append_right _ (List.mem_append_right _ (List.mem_of_getElem? (l := tables_1_4) (i := 10) (by decide +kernel))))) rfl
theorem wd_4_11 : (Jvm.Cond.instanceMethod ({ cls := "ChocolateMouldsModel", name := "box", desc := "(II)I" } : Jvm.MethodName)) ∈ WALL := wall_of (List.mem_append_right _ (List.mem_append_right _ (List.mem_append_right _ (List.mem_of_getElem? (l := tables_1_4) (i := 11) (by decide +kernel))))) rfl
theorem wd_4_12 : (Jvm.Cond.selects "ChocolateMouldsModel" ({ cls := "ChocolateMouldsModel", name := "box", desc := "(II)I" } : Jvm.MethodName) ({ cls := "ChocolateMouldsModel", name := "box", desc := "(II)I" } : Jvm.MethodName)) ∈ WALL := wall_of (List.mem_append_right _ (List.mem_append_right _ (List.mem_append_right _ (List.mem_of_getElem? (l := tables_1_4) (i := 12) (by decide +kernel))))) rfl
theorem wd_4_13 : (Jvm.Cond.code ({ cls := "ChocolateMouldsModel", name := "box", desc := "(II)I" } : Jvm.MethodName) prog_7_method_31_code (4 : Nat) (Option.some Jvm.ClassFile.FieldType.int)) ∈ WALL := wall_of (List.mem_append_right _ (List.mem_append_right _ (List.mem_append_right _ (List.mem_of_getElem? (l := tables_1_4) (i := 13) (by decide +kernel))))) rfl
theorem wd_4_14 : (Jvm.Cond.methodLink "ChocolateMouldsLaw" (114 : Nat) ({ cls := "ChocolateMouldsModel", name := "fill", desc := "()I" } : Jvm.MethodName)) ∈ WALL := wall_of (List.mem_append_right _ (List.mem_append_right _ (List.mem_append_right _ (List.mem_of_getElem? (l := tables_1_4) (i := 14) (by decide +kernel))))) rfl
theorem wd_4_15 : (Jvm.Cond.instanceMethod ({ cls := "ChocolateMouldsModel", name := "fill", desc := "()I" } : Jvm.MethodName)) ∈ WALL := wall_of (List.mem_append_right _ (List.mem_append_right _ (List.mem_append_right _ (List.mem_of_getElem? (l := tables_1_4) (i := 15) (by decide +kernel))))) rfl
theorem wd_4_16 : (Jvm.Cond.selects "ChocolateMouldsModel" ({ cls := "ChocolateMouldsModel", name := "fill", desc := "()I" } : Jvm.MethodName) ({ cls := "ChocolateMouldsModel", name := "fill", desc := "()I" } : Jvm.MethodName)) ∈ WALL := wall_of (List.mem_append_right _ (List.mem_append_right _ (List.mem_append_right _ (List.mem_of_getElem? (l := tables_1_4) (i := 16) (by decide +kernel))))) rfl
theorem wd_4_17 : (Jvm.Cond.code ({ cls := "ChocolateMouldsModel", name := "fill", desc := "()I" } : Jvm.MethodName) prog_7_method_35_code (1 : Nat) (Option.some Jvm.ClassFile.FieldType.int)) ∈ WALL := wall_of (List.mem_append_right _ (List.mem_append_right _ (List.mem_append_right _ (List.mem_of_getElem? (l := tables_1_4) (i := 17) (by decide +kernel))))) rfl
theorem wd_4_18 : (Jvm.Cond.methodLink "ChocolateMouldsModel" (135 : Nat) ({ cls := "ChocolateMouldsModel", name := "fillAll", desc := "()I" } : Jvm.MethodName)) ∈ WALL := wall_of (List.mem_append_right _ (List.mem_append_right _ (List.mem_append_right _ (List.mem_of_getElem? (l := tables_1_4) (i := 18) (by decide +kernel))))) rfl
theorem wd_4_20 : (Jvm.Cond.instanceMethod ({ cls := "ChocolateMouldsModel", name := "fillAll", desc := "()I" } : Jvm.MethodName)) ∈ WALL := wall_of (List.mem_append_right _ (List.mem_append_right _ (List.mem_append_right _ (List.mem_of_getElem? (l := tables_1_4) (i := 20) (by decide +kernel))))) rfl
theorem wd_4_21 : (Jvm.Cond.code ({ cls := "ChocolateMouldsModel", name := "fillAll", desc := "()I" } : Jvm.MethodName) prog_7_method_34_code (3 : Nat) (Option.some Jvm.ClassFile.FieldType.int)) ∈ WALL := wall_of (List.mem_append_right _ (List.mem_append_right _ (List.mem_append_right _ (List.mem_of_getElem? (l := tables_1_4) (i := 21) (by decide +kernel))))) rfl
theorem wd_4_22 : (Jvm.Cond.methodLink "ChocolateMouldsModel" (132 : Nat) ({ cls := "ChocolateMouldsModel", name := "fillOne", desc := "(I)Z" } : Jvm.MethodName)) ∈ WALL := wall_of (List.mem_append_right _ (List.mem_append_right _ (List.mem_append_right _ (List.mem_of_getElem? (l := tables_1_4) (i := 22) (by decide +kernel))))) rfl
theorem wd_4_24 : (Jvm.Cond.instanceMethod ({ cls := "ChocolateMouldsModel", name := "fillOne", desc := "(I)Z" } : Jvm.MethodName)) ∈ WALL := wall_of (List.mem_append_right _ (List.mem_append_right _ (List.mem_append_right _ (List.mem_of_getElem? (l := tables_1_4) (i := 24) (by decide +kernel))))) rfl
theorem wd_4_25 : (Jvm.Cond.code ({ cls := "ChocolateMouldsModel", name := "fillOne", desc := "(I)Z" } : Jvm.MethodName) prog_7_method_33_code (3 : Nat) (Option.some Jvm.ClassFile.FieldType.boolean)) ∈ WALL := wall_of (List.mem_append_right _ (List.mem_append_right _ (List.mem_append_right _ (List.mem_of_getElem? (l := tables_1_4) (i := 25) (by decide +kernel))))) rfl
theorem wd_4_26 : (Jvm.Cond.methodLink "ChocolateMouldsModel" (129 : Nat) ({ cls := "ChocolateMouldsModel", name := "fits", desc := "(II)Z" } : Jvm.MethodName)) ∈ WALL := wall_of (List.mem_append_right _ (List.mem_append_right _ (List.mem_append_right _ (List.mem_of_getElem? (l := tables_1_4) (i := 26) (by decide +kernel))))) rfl
theorem wd_4_28 : (Jvm.Cond.instanceMethod ({ cls := "ChocolateMouldsModel", name := "fits", desc := "(II)Z" } : Jvm.MethodName)) ∈ WALL := wall_of (List.mem_append_right _ (List.mem_append_right _ (List.mem_append_right _ (List.mem_of_getElem? (l := tables_1_4) (i := 28) (by decide +kernel))))) rfl
theorem wd_4_29 : (Jvm.Cond.code ({ cls := "ChocolateMouldsModel", name := "fits", desc := "(II)Z" } : Jvm.MethodName) prog_7_method_32_code (3 : Nat) (Option.some Jvm.ClassFile.FieldType.boolean)) ∈ WALL := wall_of (List.mem_append_right _ (List.mem_append_right _ (List.mem_append_right _ (List.mem_of_getElem? (l := tables_1_4) (i := 29) (by decide +kernel))))) rfl
theorem wd_4_30 : (Jvm.Cond.methodLink "ChocolateMouldsModel" (126 : Nat) ({ cls := "ChocolateMouldsModel", name := "bx", desc := "(II)I" } : Jvm.MethodName)) ∈ WALL := wall_of (List.mem_append_right _ (List.mem_append_right _ (List.mem_append_right _ (List.mem_of_getElem? (l := tables_1_4) (i := 30) (by decide +kernel))))) rfl
theorem wd_4_32 : (Jvm.Cond.instanceMethod ({ cls := "ChocolateMouldsModel", name := "bx", desc := "(II)I" } : Jvm.MethodName)) ∈ WALL := wall_of (List.mem_append_right _ (List.mem_append_right _ (List.mem_append_right _ (List.mem_of_getElem? (l := tables_1_4) (i := 32) (by decide +kernel))))) rfl
theorem wd_4_33 : (Jvm.Cond.code ({ cls := "ChocolateMouldsModel", name := "bx", desc := "(II)I" } : Jvm.MethodName) prog_7_method_11_code (3 : Nat) (Option.some Jvm.ClassFile.FieldType.int)) ∈ WALL := wall_of (List.mem_append_right _ (List.mem_append_right _ (List.mem_append_right _ (List.mem_of_getElem? (l := tables_1_4) (i := 33) (by decide +kernel))))) rfl
theorem wd_4_34 : (Jvm.Cond.methodLink "ChocolateMouldsLaw" (117 : Nat) ({ cls := "ChocolateMouldsModel", name := "pass", desc := "(II)I" } : Jvm.MethodName)) ∈ WALL := wall_of (List.mem_append_right _ (List.mem_append_right _ (List.mem_append_right _ (List.mem_of_getElem? (l := tables_1_4) (i := 34) (by decide +kernel))))) rfl
theorem wd_4_35 : (Jvm.Cond.instanceMethod ({ cls := "ChocolateMouldsModel", name := "pass", desc := "(II)I" } : Jvm.MethodName)) ∈ WALL := wall_of (List.mem_append_right _ (List.mem_append_right _ (List.mem_append_right _ (List.mem_of_getElem? (l := tables_1_4) (i := 35) (by decide +kernel))))) rfl
theorem wd_4_36 : (Jvm.Cond.selects "ChocolateMouldsModel" ({ cls := "ChocolateMouldsModel", name := "pass", desc := "(II)I" } : Jvm.MethodName) ({ cls := "ChocolateMouldsModel", name := "pass", desc := "(II)I" } : Jvm.MethodName)) ∈ WALL := wall_of (List.mem_append_right _ (List.mem_append_right _ (List.mem_append_right _ (List.mem_of_getElem? (l := tables_1_4) (i := 36) (by decide +kernel))))) rfl
theorem wd_4_37 : (Jvm.Cond.code ({ cls := "ChocolateMouldsModel", name := "pass", desc := "(II)I" } : Jvm.MethodName) prog_7_method_38_code (4 : Nat) (Option.some Jvm.ClassFile.FieldType.int)) ∈ WALL := wall_of (List.mem_append_right _ (List.mem_append_right _ (List.mem_append_right _ (List.mem_of_getElem? (l := tables_1_4) (i := 37) (by decide +kernel))))) rfl
theorem wd_4_38 : (Jvm.Cond.methodLink "ChocolateMouldsModel" (139 : Nat) ({ cls := "ChocolateMouldsModel", name := "more", desc := "(II)I" } : Jvm.MethodName)) ∈ WALL := wall_of (List.mem_append_right _ (List.mem_append_right _ (List.mem_append_right _ (List.mem_of_getElem? (l := tables_1_4) (i := 38) (by decide +kernel))))) rfl
theorem wd_4_40 : (Jvm.Cond.instanceMethod ({ cls := "ChocolateMouldsModel", name := "more", desc := "(II)I" } : Jvm.MethodName)) ∈ WALL := wall_of (List.mem_append_right _ (List.mem_append_right _ (List.mem_append_right _ (List.mem_of_getElem? (l := tables_1_4) (i := 40) (by decide +kernel))))) rfl
theorem wd_4_41 : (Jvm.Cond.code ({ cls := "ChocolateMouldsModel", name := "more", desc := "(II)I" } : Jvm.MethodName) prog_7_method_36_code (3 : Nat) (Option.some Jvm.ClassFile.FieldType.int)) ∈ WALL := wall_of (List.mem_append_right _ (List.mem_append_right _ (List.mem_append_right _ (List.mem_of_getElem? (l := tables_1_4) (i := 41) (by decide +kernel))))) rfl
theorem wd_4_42 : (Jvm.Cond.methodLink "ChocolateMouldsModel" (145 : Nat) ({ cls := "ChocolateMouldsModel", name := "bloomed", desc := "()I" } : Jvm.MethodName)) ∈ WALL := wall_of (List.mem_append_right _ (List.mem_append_right _ (List.mem_append_right _ (List.mem_of_getElem? (l := tables_1_4) (i := 42) (by decide +kernel))))) rfl
theorem wd_4_44 : (Jvm.Cond.instanceMethod ({ cls := "ChocolateMouldsModel", name := "bloomed", desc := "()I" } : Jvm.MethodName)) ∈ WALL := wall_of (List.mem_append_right _ (List.mem_append_right _ (List.mem_append_right _ (List.mem_of_getElem? (l := tables_1_4) (i := 44) (by decide +kernel))))) rfl
theorem wd_4_45 : (Jvm.Cond.code ({ cls := "ChocolateMouldsModel", name := "bloomed", desc := "()I" } : Jvm.MethodName) prog_7_method_37_code (3 : Nat) (Option.some Jvm.ClassFile.FieldType.int)) ∈ WALL := wall_of (List.mem_append_right _ (List.mem_append_right _ (List.mem_append_right _ (List.mem_of_getElem? (l := tables_1_4) (i := 45) (by decide +kernel))))) rfl
theorem wd_4_46 : (Jvm.Cond.methodLink "ChocolateMouldsLaw" (120 : Nat) ({ cls := "ChocolateMouldsModel", name := "told", desc := "(II)I" } : Jvm.MethodName)) ∈ WALL := wall_of (List.mem_append_right _ (List.mem_append_right _ (List.mem_append_right _ (List.mem_of_getElem? (l := tables_1_4) (i := 46) (by decide +kernel))))) rfl
theorem wd_4_47 : (Jvm.Cond.instanceMethod ({ cls := "ChocolateMouldsModel", name := "told", desc := "(II)I" } : Jvm.MethodName)) ∈ WALL := wall_of (List.mem_append_right _ (List.mem_append_right _ (List.mem_append_right _ (List.mem_of_getElem? (l := tables_1_4) (i := 47) (by decide +kernel))))) rfl
theorem wd_4_48 : (Jvm.Cond.selects "ChocolateMouldsModel" ({ cls := "ChocolateMouldsModel", name := "told", desc := "(II)I" } : Jvm.MethodName) ({ cls := "ChocolateMouldsModel", name := "told", desc := "(II)I" } : Jvm.MethodName)) ∈ WALL := wall_of (List.mem_append_right _ (List.mem_append_right _ (List.mem_append_right _ (List.mem_of_getElem? (l := tables_1_4) (i := 48) (by decide +kernel))))) rfl
theorem wd_4_49 : (Jvm.Cond.code ({ cls := "ChocolateMouldsModel", name := "told", desc := "(II)I" } : Jvm.MethodName) prog_7_method_40_code (3 : Nat) (Option.some Jvm.ClassFile.FieldType.int)) ∈ WALL := wall_of (List.mem_append_right _ (List.mem_append_right _ (List.mem_append_right _ (List.mem_of_getElem? (l := tables_1_4) (i := 49) (by decide +kernel))))) rfl
theorem wd_4_50 : (Jvm.Cond.methodLink "ChocolateMouldsModel" (148 : Nat) ({ cls := "ChocolateMouldsModel", name := "bowlTold", desc := "(II)I" } : Jvm.MethodName)) ∈ WALL := wall_of (List.mem_append_right _ (List.mem_append_right _ (List.mem_append_right _ (List.mem_of_getElem? (l := tables_1_4) (i := 50) (by decide +kernel))))) rfl
theorem wd_4_52 : (Jvm.Cond.instanceMethod ({ cls := "ChocolateMouldsModel", name := "bowlTold", desc := "(II)I" } : Jvm.MethodName)) ∈ WALL := wall_of (List.mem_append_right _ (List.mem_append_right _ (List.mem_append_right _ (List.mem_of_getElem? (l := tables_1_4) (i := 52) (by decide +kernel))))) rfl
theorem wd_4_53 : (Jvm.Cond.code ({ cls := "ChocolateMouldsModel", name := "bowlTold", desc := "(II)I" } : Jvm.MethodName) prog_7_method_39_code (3 : Nat) (Option.some Jvm.ClassFile.FieldType.int)) ∈ WALL := wall_of (List.mem_append_right _ (List.mem_append_right _ (List.mem_append_right _ (List.mem_of_getElem? (l := tables_1_4) (i := 53) (by decide +kernel))))) rfl
theorem wd_4_54 : (Jvm.Cond.methodLink "ChocolateMouldsLaw" (123 : Nat) ({ cls := "ChocolateMouldsModel", name := "about", desc := "(II)I" } : Jvm.MethodName)) ∈ WALL := wall_of (List.mem_append_right _ (List.mem_append_right _ (List.mem_append_right _ (List.mem_of_getElem? (l := tables_1_4) (i := 54) (by decide +kernel))))) rfl
theorem wd_4_55 : (Jvm.Cond.instanceMethod ({ cls := "ChocolateMouldsModel", name := "about", desc := "(II)I" } : Jvm.MethodName)) ∈ WALL := wall_of (List.mem_append_right _ (List.mem_append_right _ (List.mem_append_right _ (List.mem_of_getElem? (l := tables_1_4) (i := 55) (by decide +kernel))))) rfl
theorem wd_4_56 : (Jvm.Cond.selects "ChocolateMouldsModel" ({ cls := "ChocolateMouldsModel", name := "about", desc := "(II)I" } : Jvm.MethodName) ({ cls := "ChocolateMouldsModel", name := "about", desc := "(II)I" } : Jvm.MethodName)) ∈ WALL := wall_of (List.mem_append_right _ (List.mem_append_right _ (List.mem_append_right _ (List.mem_of_getElem? (l := tables_1_4) (i := 56) (by decide +kernel))))) rfl
theorem wd_4_57 : (Jvm.Cond.code ({ cls := "ChocolateMouldsModel", name := "about", desc := "(II)I" } : Jvm.MethodName) prog_7_method_42_code (3 : Nat) (Option.some Jvm.ClassFile.FieldType.int)) ∈ WALL := wall_of (List.mem_append_right _ (List.mem_append_right _ (List.mem_append_right _ (List.mem_of_getElem? (l := tables_1_4) (i := 57) (by decide +kernel))))) rfl
theorem wd_4_58 : (Jvm.Cond.methodLink "ChocolateMouldsModel" (151 : Nat) ({ cls := "ChocolateMouldsModel", name := "slabTold", desc := "(II)I" } : Jvm.MethodName)) ∈ WALL := wall_of (List.mem_append_right _ (List.mem_append_right _ (List.mem_append_right _ (List.mem_of_getElem? (l := tables_1_4) (i := 58) (by decide +kernel))))) rfl
theorem wd_4_60 : (Jvm.Cond.instanceMethod ({ cls := "ChocolateMouldsModel", name := "slabTold", desc := "(II)I" } : Jvm.MethodName)) ∈ WALL := wall_of (List.mem_append_right _ (List.mem_append_right _ (List.mem_append_right _ (List.mem_of_getElem? (l := tables_1_4) (i := 60) (by decide +kernel))))) rfl
theorem wd_4_61 : (Jvm.Cond.code ({ cls := "ChocolateMouldsModel", name := "slabTold", desc := "(II)I" } : Jvm.MethodName) prog_7_method_41_code (4 : Nat) (Option.some Jvm.ClassFile.FieldType.int)) ∈ WALL := wall_of (List.mem_append_right _ (List.mem_append_right _ (List.mem_append_right _ (List.mem_of_getElem? (l := tables_1_4) (i := 61) (by decide +kernel))))) rfl
theorem wd_4_62 : (Jvm.Cond.methodLink "ChocolateMouldsLaw" (126 : Nat) ({ cls := "ChocolateMouldsModel", name := "order", desc := "(II)I" } : Jvm.MethodName)) ∈ WALL := wall_of (List.mem_append_right _ (List.mem_append_right _ (List.mem_append_right _ (List.mem_of_getElem? (l := tables_1_4) (i := 62) (by decide +kernel))))) rfl
theorem wd_4_63 : (Jvm.Cond.instanceMethod ({ cls := "ChocolateMouldsModel", name := "order", desc := "(II)I" } : Jvm.MethodName)) ∈ WALL := wall_of (List.mem_append_right _ (List.mem_append_right _ (List.mem_append_right _ (List.mem_of_getElem? (l := tables_1_4) (i := 63) (by decide +kernel))))) rfl
theorem wd_4_64 : (Jvm.Cond.selects "ChocolateMouldsModel" ({ cls := "ChocolateMouldsModel", name := "order", desc := "(II)I" } : Jvm.MethodName) ({ cls := "ChocolateMouldsModel", name := "order", desc := "(II)I" } : Jvm.MethodName)) ∈ WALL := wall_of (List.mem_append_right _ (List.mem_append_right _ (List.mem_append_right _ (List.mem_of_getElem? (l := tables_1_4) (i := 64) (by decide +kernel))))) rfl
theorem wd_4_65 : (Jvm.Cond.code ({ cls := "ChocolateMouldsModel", name := "order", desc := "(II)I" } : Jvm.MethodName) prog_7_method_43_code (3 : Nat) (Option.some Jvm.ClassFile.FieldType.int)) ∈ WALL := wall_of (List.mem_append_right _ (List.mem_append_right _ (List.mem_append_right _ (List.mem_of_getElem? (l := tables_1_4) (i := 65) (by decide +kernel))))) rfl
theorem wd_4_66 : (Jvm.Cond.methodLink "ChocolateMouldsLaw" (129 : Nat) ({ cls := "ChocolateMouldsModel", name := "count", desc := "(I)I" } : Jvm.MethodName)) ∈ WALL := wall_of (List.mem_append_right _ (List.mem_append_right _ (List.mem_append_right _ (List.mem_of_getElem? (l := tables_1_4) (i := 66) (by decide +kernel))))) rfl
theorem wd_4_67 : (Jvm.Cond.instanceMethod ({ cls := "ChocolateMouldsModel", name := "count", desc := "(I)I" } : Jvm.MethodName)) ∈ WALL := wall_of (List.mem_append_right _ (List.mem_append_right _ (List.mem_append_right _ (List.mem_of_getElem? (l := tables_1_4) (i := 67) (by decide +kernel))))) rfl
theorem wd_4_68 : (Jvm.Cond.selects "ChocolateMouldsModel" ({ cls := "ChocolateMouldsModel", name := "count", desc := "(I)I" } : Jvm.MethodName) ({ cls := "ChocolateMouldsModel", name := "count", desc := "(I)I" } : Jvm.MethodName)) ∈ WALL := wall_of (List.mem_append_right _ (List.mem_append_right _ (List.mem_append_right _ (List.mem_of_getElem? (l := tables_1_4) (i := 68) (by decide +kernel))))) rfl
theorem wd_4_69 : (Jvm.Cond.code ({ cls := "ChocolateMouldsModel", name := "count", desc := "(I)I" } : Jvm.MethodName) prog_7_method_45_code (2 : Nat) (Option.some Jvm.ClassFile.FieldType.int)) ∈ WALL := wall_of (List.mem_append_right _ (List.mem_append_right _ (List.mem_append_right _ (List.mem_of_getElem? (l := tables_1_4) (i := 69) (by decide +kernel))))) rfl
theorem wd_4_70 : (Jvm.Cond.methodLink "ChocolateMouldsModel" (154 : Nat) ({ cls := "ChocolateMouldsModel", name := "counted", desc := "(I)I" } : Jvm.MethodName)) ∈ WALL := wall_of (List.mem_append_right _ (List.mem_append_right _ (List.mem_append_right _ (List.mem_of_getElem? (l := tables_1_4) (i := 70) (by decide +kernel))))) rfl
theorem wd_4_72 : (Jvm.Cond.instanceMethod ({ cls := "ChocolateMouldsModel", name := "counted", desc := "(I)I" } : Jvm.MethodName)) ∈ WALL := wall_of (List.mem_append_right _ (List.mem_append_right _ (List.mem_append_right _ (List.mem_of_getElem? (l := tables_1_4) (i := 72) (by decide +kernel))))) rfl
theorem wd_4_73 : (Jvm.Cond.code ({ cls := "ChocolateMouldsModel", name := "counted", desc := "(I)I" } : Jvm.MethodName) prog_7_method_44_code (4 : Nat) (Option.some Jvm.ClassFile.FieldType.int)) ∈ WALL := wall_of (List.mem_append_right _ (List.mem_append_right _ (List.mem_append_right _ (List.mem_of_getElem? (l := tables_1_4) (i := 73) (by decide +kernel))))) rfl
theorem wd_4_74 : (Jvm.Cond.methodLink "ChocolateMouldsLaw" (132 : Nat) ({ cls := "ChocolateMouldsModel", name := "would", desc := "(III)I" } : Jvm.MethodName)) ∈ WALL := wall_of (List.mem_append_right _ (List.mem_append_right _ (List.mem_append_right _ (List.mem_of_getElem? (l := tables_1_4) (i := 74) (by decide +kernel))))) rfl
theorem wd_4_75 : (Jvm.Cond.instanceMethod ({ cls := "ChocolateMouldsModel", name := "would", desc := "(III)I" } : Jvm.MethodName)) ∈ WALL := wall_of (List.mem_append_right _ (List.mem_append_right _ (List.mem_append_right _ (List.mem_of_getElem? (l := tables_1_4) (i := 75) (by decide +kernel))))) rfl
theorem wd_4_76 : (Jvm.Cond.selects "ChocolateMouldsModel" ({ cls := "ChocolateMouldsModel", name := "would", desc := "(III)I" } : Jvm.MethodName) ({ cls := "ChocolateMouldsModel", name := "would", desc := "(III)I" } : Jvm.MethodName)) ∈ WALL := wall_of (List.mem_append_right _ (List.mem_append_right _ (List.mem_append_right _ (List.mem_of_getElem? (l := tables_1_4) (i := 76) (by decide +kernel))))) rfl
theorem wd_4_77 : (Jvm.Cond.code ({ cls := "ChocolateMouldsModel", name := "would", desc := "(III)I" } : Jvm.MethodName) prog_7_method_46_code (4 : Nat) (Option.some Jvm.ClassFile.FieldType.int)) ∈ WALL := wall_of (List.mem_append_right _ (List.mem_append_right _ (List.mem_append_right _ (List.mem_of_getElem? (l := tables_1_4) (i := 77) (by decide +kernel))))) rfl
theorem wd_4_78 : (Jvm.Cond.methodLink "ChocolateMouldsLaw" (135 : Nat) ({ cls := "ChocolateMouldsModel", name := "best", desc := "(III)I" } : Jvm.MethodName)) ∈ WALL := wall_of (List.mem_append_right _ (List.mem_append_right _ (List.mem_append_right _ (List.mem_of_getElem? (l := tables_1_4) (i := 78) (by decide +kernel))))) rfl
theorem wd_4_79 : (Jvm.Cond.instanceMethod ({ cls := "ChocolateMouldsModel", name := "best", desc := "(III)I" } : Jvm.MethodName)) ∈ WALL := wall_of (List.mem_append_right _ (List.mem_append_right _ (List.mem_append_right _ (List.mem_of_getElem? (l := tables_1_4) (i := 79) (by decide +kernel))))) rfl
theorem wd_4_80 : (Jvm.Cond.selects "ChocolateMouldsModel" ({ cls := "ChocolateMouldsModel", name := "best", desc := "(III)I" } : Jvm.MethodName) ({ cls := "ChocolateMouldsModel", name := "best", desc := "(III)I" } : Jvm.MethodName)) ∈ WALL := wall_of (List.mem_append_right _ (List.mem_append_right _ (List.mem_append_right _ (List.mem_of_getElem? (l := tables_1_4) (i := 80) (by decide +kernel))))) rfl
theorem wd_4_81 : (Jvm.Cond.code ({ cls := "ChocolateMouldsModel", name := "best", desc := "(III)I" } : Jvm.MethodName) prog_7_method_47_code (9 : Nat) (Option.some Jvm.ClassFile.FieldType.int)) ∈ WALL := wall_of (List.mem_append_right _ (List.mem_append_right _ (List.mem_append_right _ (List.mem_of_getElem? (l := tables_1_4) (i := 81) (by decide +kernel))))) rfl
theorem wd_4_82 : (Jvm.Cond.methodLink "ChocolateMouldsLaw" (138 : Nat) ({ cls := "ChocolateMouldsModel", name := "until", desc := "(II)I" } : Jvm.MethodName)) ∈ WALL := wall_of (List.mem_append_right _ (List.mem_append_right _ (List.mem_append_right _ (List.mem_of_getElem? (l := tables_1_4) (i := 82) (by decide +kernel))))) rfl
theorem wd_4_83 : (Jvm.Cond.instanceMethod ({ cls := "ChocolateMouldsModel", name := "until", desc := "(II)I" } : Jvm.MethodName)) ∈ WALL := wall_of (List.mem_append_right _ (List.mem_append_right _ (List.mem_append_right _ (List.mem_of_getElem? (l := tables_1_4) (i := 83) (by decide +kernel))))) rfl
theorem wd_4_84 : (Jvm.Cond.selects "ChocolateMouldsModel" ({ cls := "ChocolateMouldsModel", name := "until", desc := "(II)I" } : Jvm.MethodName) ({ cls := "ChocolateMouldsModel", name := "until", desc := "(II)I" } : Jvm.MethodName)) ∈ WALL := wall_of (List.mem_append_right _ (List.mem_append_right _ (List.mem_append_right _ (List.mem_of_getElem? (l := tables_1_4) (i := 84) (by decide +kernel))))) rfl
theorem wd_4_85 : (Jvm.Cond.code ({ cls := "ChocolateMouldsModel", name := "until", desc := "(II)I" } : Jvm.MethodName) prog_7_method_48_code (5 : Nat) (Option.some Jvm.ClassFile.FieldType.int)) ∈ WALL := wall_of (List.mem_append_right _ (List.mem_append_right _ (List.mem_append_right _ (List.mem_of_getElem? (l := tables_1_4) (i := 85) (by decide +kernel))))) rfl
theorem wd_4_86 : (Jvm.Cond.methodLink "ChocolateMouldsLaw" (142 : Nat) ({ cls := "ChocolateMouldsModel", name := "advise", desc := "()I" } : Jvm.MethodName)) ∈ WALL := wall_of (List.mem_append_right _ (List.mem_append_right _ (List.mem_append_right _ (List.mem_of_getElem? (l := tables_1_4) (i := 86) (by decide +kernel))))) rfl
theorem wd_4_87 : (Jvm.Cond.instanceMethod ({ cls := "ChocolateMouldsModel", name := "advise", desc := "()I" } : Jvm.MethodName)) ∈ WALL := wall_of (List.mem_append_right _ (List.mem_append_right _ (List.mem_append_right _ (List.mem_of_getElem? (l := tables_1_4) (i := 87) (by decide +kernel))))) rfl
theorem wd_4_88 : (Jvm.Cond.selects "ChocolateMouldsModel" ({ cls := "ChocolateMouldsModel", name := "advise", desc := "()I" } : Jvm.MethodName) ({ cls := "ChocolateMouldsModel", name := "advise", desc := "()I" } : Jvm.MethodName)) ∈ WALL := wall_of (List.mem_append_right _ (List.mem_append_right _ (List.mem_append_right _ (List.mem_of_getElem? (l := tables_1_4) (i := 88) (by decide +kernel))))) rfl
theorem wd_4_89 : (Jvm.Cond.code ({ cls := "ChocolateMouldsModel", name := "advise", desc := "()I" } : Jvm.MethodName) prog_7_method_50_code (5 : Nat) (Option.some Jvm.ClassFile.FieldType.int)) ∈ WALL := wall_of (List.mem_append_right _ (List.mem_append_right _ (List.mem_append_right _ (List.mem_of_getElem? (l := tables_1_4) (i := 89) (by decide +kernel))))) rfl
theorem wd_4_90 : (Jvm.Cond.methodLink "ChocolateMouldsModel" (157 : Nat) ({ cls := "ChocolateMouldsModel", name := "filledBy", desc := "(I)I" } : Jvm.MethodName)) ∈ WALL := wall_of (List.mem_append_right _ (List.mem_append_right _ (List.mem_append_right _ (List.mem_of_getElem? (l := tables_1_4) (i := 90) (by decide +kernel))))) rfl
theorem wd_4_92 : (Jvm.Cond.instanceMethod ({ cls := "ChocolateMouldsModel", name := "filledBy", desc := "(I)I" } : Jvm.MethodName)) ∈ WALL := wall_of (List.mem_append_right _ (List.mem_append_right _ (List.mem_append_right _ (List.mem_of_getElem? (l := tables_1_4) (i := 92) (by decide +kernel))))) rfl
theorem wd_4_93 : (Jvm.Cond.code ({ cls := "ChocolateMouldsModel", name := "filledBy", desc := "(I)I" } : Jvm.MethodName) prog_7_method_49_code (4 : Nat) (Option.some Jvm.ClassFile.FieldType.int)) ∈ WALL := wall_of (List.mem_append_right _ (List.mem_append_right _ (List.mem_append_right _ (List.mem_of_getElem? (l := tables_1_4) (i := 93) (by decide +kernel))))) rfl
theorem wd_4_94 : (Jvm.Cond.methodLink "ChocolateMouldsLaw" (147 : Nat) ({ cls := "ChocolateMouldsModel", name := "mean", desc := "()D" } : Jvm.MethodName)) ∈ WALL := wall_of (List.mem_append_right _ (List.mem_append_right _ (List.mem_append_right _ (List.mem_of_getElem? (l := tables_1_4) (i := 94) (by decide +kernel))))) rfl
theorem wd_4_95 : (Jvm.Cond.instanceMethod ({ cls := "ChocolateMouldsModel", name := "mean", desc := "()D" } : Jvm.MethodName)) ∈ WALL := wall_of (List.mem_append_right _ (List.mem_append_right _ (List.mem_append_right _ (List.mem_of_getElem? (l := tables_1_4) (i := 95) (by decide +kernel))))) rfl
theorem wd_4_96 : (Jvm.Cond.selects "ChocolateMouldsModel" ({ cls := "ChocolateMouldsModel", name := "mean", desc := "()D" } : Jvm.MethodName) ({ cls := "ChocolateMouldsModel", name := "mean", desc := "()D" } : Jvm.MethodName)) ∈ WALL := wall_of (List.mem_append_right _ (List.mem_append_right _ (List.mem_append_right _ (List.mem_of_getElem? (l := tables_1_4) (i := 96) (by decide +kernel))))) rfl
theorem wd_4_97 : (Jvm.Cond.code ({ cls := "ChocolateMouldsModel", name := "mean", desc := "()D" } : Jvm.MethodName) prog_7_method_51_code (3 : Nat) (Option.some Jvm.ClassFile.FieldType.double)) ∈ WALL := wall_of (List.mem_append_right _ (List.mem_append_right _ (List.mem_append_right _ (List.mem_of_getElem? (l := tables_1_4) (i := 97) (by decide +kernel))))) rfl
theorem wd_4_98 : (Jvm.Cond.methodLink "ChocolateMouldsLaw" (152 : Nat) ({ cls := "ChocolateMouldsModel", name := "digest", desc := "()J" } : Jvm.MethodName)) ∈ WALL := wall_of (List.mem_append_right _ (List.mem_append_right _ (List.mem_append_right _ (List.mem_of_getElem? (l := tables_1_4) (i := 98) (by decide +kernel))))) rfl
theorem wd_4_99 : (Jvm.Cond.instanceMethod ({ cls := "ChocolateMouldsModel", name := "digest", desc := "()J" } : Jvm.MethodName)) ∈ WALL := wall_of (List.mem_append_right _ (List.mem_append_right _ (List.mem_append_right _ (List.mem_of_getElem? (l := tables_1_4) (i := 99) (by decide +kernel))))) rfl
theorem wd_4_100 : (Jvm.Cond.selects "ChocolateMouldsModel" ({ cls := "ChocolateMouldsModel", name := "digest", desc := "()J" } : Jvm.MethodName) ({ cls := "ChocolateMouldsModel", name := "digest", desc := "()J" } : Jvm.MethodName)) ∈ WALL := wall_of (List.mem_append_right _ (List.mem_append_right _ (List.mem_append_right _ (List.mem_of_getElem? (l := tables_1_4) (i := 100) (by decide +kernel))))) rfl
theorem wd_4_101 : (Jvm.Cond.code ({ cls := "ChocolateMouldsModel", name := "digest", desc := "()J" } : Jvm.MethodName) prog_7_method_52_code (5 : Nat) (Option.some Jvm.ClassFile.FieldType.long)) ∈ WALL := wall_of (List.mem_append_right _ (List.mem_append_right _ (List.mem_append_right _ (List.mem_of_getElem? (l := tables_1_4) (i := 101) (by decide +kernel))))) rfl
theorem wd_4_102 : (Jvm.Cond.constantLong "ChocolateMouldsModel" (160 : Nat) (1789 : Int64)) ∈ WALL := wall_of (List.mem_append_right _ (List.mem_append_right _ (List.mem_append_right _ (List.mem_of_getElem? (l := tables_1_4) (i := 102) (by decide +kernel))))) rfl
theorem wd_4_103 : (Jvm.Cond.constantLong "ChocolateMouldsModel" (162 : Nat) (31 : Int64)) ∈ WALL := wall_of (List.mem_append_right _ (List.mem_append_right _ (List.mem_append_right _ (List.mem_of_getElem? (l := tables_1_4) (i := 103) (by decide +kernel))))) rfl
theorem wd_4_104 : (Jvm.Cond.arrayClass Jvm.ClassFile.FieldType.long) ∈ WALL := wall_of (List.mem_append_right _ (List.mem_append_right _ (List.mem_append_right _ (List.mem_of_getElem? (l := tables_1_4) (i := 104) (by decide +kernel))))) rfl
theorem wd_s_0 : Cond.selects "ChocolateMoulds" ⟨"ChocolateMoulds", "planFilling", "(I)I"⟩ ⟨"ChocolateMoulds", "planFilling", "(I)I"⟩ ∈ WALL := wall_sel (List.mem_of_getElem? (l := k2_sels lw_privs) (i := 0) (by decide +kernel)) rfl
theorem wd_s_1 : Cond.selects "ChocolateMoulds" ⟨"ChocolateMoulds", "planSlab", "(LChocolateMoulds$Box;I)I"⟩ ⟨"ChocolateMoulds", "planSlab", "(LChocolateMoulds$Box;I)I"⟩ ∈ WALL := wall_sel (List.mem_of_getElem? (l := k2_sels lw_privs) (i := 1) (by decide +kernel)) rfl
theorem wd_s_2 : Cond.selects "ChocolateMoulds" ⟨"ChocolateMoulds", "moveIntoBox", "(ILChocolateMoulds$Box;)V"⟩ ⟨"ChocolateMoulds", "moveIntoBox", "(ILChocolateMoulds$Box;)V"⟩ ∈ WALL := wall_sel (List.mem_of_getElem? (l := k2_sels lw_privs) (i := 2) (by decide +kernel)) rfl
theorem wd_s_3 : Cond.selects "ChocolateMoulds" ⟨"ChocolateMoulds", "findSlab", "(I)LChocolateMoulds$Slab;"⟩ ⟨"ChocolateMoulds", "findSlab", "(I)LChocolateMoulds$Slab;"⟩ ∈ WALL := wall_sel (List.mem_of_getElem? (l := k2_sels lw_privs) (i := 3) (by decide +kernel)) rfl
theorem wd_s_4 : Cond.selects "ChocolateMoulds" ⟨"ChocolateMoulds", "closeGaps", "()V"⟩ ⟨"ChocolateMoulds", "closeGaps", "()V"⟩ ∈ WALL := wall_sel (List.mem_of_getElem? (l := k2_sels lw_privs) (i := 4) (by decide +kernel)) rfl
theorem wd_s_5 : Cond.selects "java/lang/Throwable" ⟨"java/lang/Throwable", "fillInStackTrace", "(I)Ljava/lang/Throwable;"⟩ ⟨"java/lang/Throwable", "fillInStackTrace", "(I)Ljava/lang/Throwable;"⟩ ∈ WALL := wall_sel (List.mem_of_getElem? (l := k2_sels lw_privs) (i := 5) (by decide +kernel)) rfl
theorem wd_s_6 : Cond.selects "ChocolateMoulds" ⟨"ChocolateMoulds", "filledBoxes", "()I"⟩ ⟨"ChocolateMoulds", "filledBoxes", "()I"⟩ ∈ WALL := wall_sel (List.mem_of_getElem? (l := k2_sels lw_privs) (i := 6) (by decide +kernel)) rfl
theorem wd_s_7 : Cond.selects "ChocolateMoulds" ⟨"ChocolateMoulds", "gramsOfBowls", "()I"⟩ ⟨"ChocolateMoulds", "gramsOfBowls", "()I"⟩ ∈ WALL := wall_sel (List.mem_of_getElem? (l := k2_sels lw_privs) (i := 7) (by decide +kernel)) rfl
theorem wd_s_8 : Cond.selects "ChocolateMoulds" ⟨"ChocolateMoulds", "squaresOfSlabs", "()I"⟩ ⟨"ChocolateMoulds", "squaresOfSlabs", "()I"⟩ ∈ WALL := wall_sel (List.mem_of_getElem? (l := k2_sels lw_privs) (i := 8) (by decide +kernel)) rfl
theorem wd_s_9 : Cond.selects "ChocolateMoulds" ⟨"ChocolateMoulds", "bloomedSlabs", "()I"⟩ ⟨"ChocolateMoulds", "bloomedSlabs", "()I"⟩ ∈ WALL := wall_sel (List.mem_of_getElem? (l := k2_sels lw_privs) (i := 9) (by decide +kernel)) rfl
theorem wd_s_10 : Cond.selects "ChocolateMoulds" ⟨"ChocolateMoulds", "bowlAt", "(I)LChocolateMoulds$Bowl;"⟩ ⟨"ChocolateMoulds", "bowlAt", "(I)LChocolateMoulds$Bowl;"⟩ ∈ WALL := wall_sel (List.mem_of_getElem? (l := k2_sels lw_privs) (i := 10) (by decide +kernel)) rfl
theorem wd_s_11 : Cond.selects "ChocolateMoulds" ⟨"ChocolateMoulds", "slabAt", "(I)LChocolateMoulds$Slab;"⟩ ⟨"ChocolateMoulds", "slabAt", "(I)LChocolateMoulds$Slab;"⟩ ∈ WALL := wall_sel (List.mem_of_getElem? (l := k2_sels lw_privs) (i := 11) (by decide +kernel)) rfl
theorem wd_s_12 : Cond.selects "ChocolateMoulds" ⟨"ChocolateMoulds", "firstEmptyBoxFor", "(LChocolateMoulds$Slab;)I"⟩ ⟨"ChocolateMoulds", "firstEmptyBoxFor", "(LChocolateMoulds$Slab;)I"⟩ ∈ WALL := wall_sel (List.mem_of_getElem? (l := k2_sels lw_privs) (i := 12) (by decide +kernel)) rfl
theorem wd_s_13 : Cond.selects "ChocolateMoulds" ⟨"ChocolateMoulds", "boxAt", "(I)LChocolateMoulds$Box;"⟩ ⟨"ChocolateMoulds", "boxAt", "(I)LChocolateMoulds$Box;"⟩ ∈ WALL := wall_sel (List.mem_of_getElem? (l := k2_sels lw_privs) (i := 13) (by decide +kernel)) rfl
theorem wd_s_14 : Cond.selects "ChocolateMoulds" ⟨"ChocolateMoulds", "addSlab", "(LChocolateMoulds$Slab;)I"⟩ ⟨"ChocolateMoulds", "addSlab", "(LChocolateMoulds$Slab;)I"⟩ ∈ WALL := wall_sel (List.mem_of_getElem? (l := k2_sels lw_privs) (i := 14) (by decide +kernel)) rfl
theorem wd_s_15 : Cond.selects "ChocolateMouldsModel" ⟨"ChocolateMouldsModel", "fail", "(I)I"⟩ ⟨"ChocolateMouldsModel", "fail", "(I)I"⟩ ∈ WALL := wall_sel (List.mem_of_getElem? (l := k2_sels lw_privs) (i := 15) (by decide +kernel)) rfl
theorem wd_s_16 : Cond.selects "ChocolateMouldsModel" ⟨"ChocolateMouldsModel", "letBowl", "(III)V"⟩ ⟨"ChocolateMouldsModel", "letBowl", "(III)V"⟩ ∈ WALL := wall_sel (List.mem_of_getElem? (l := k2_sels lw_privs) (i := 16) (by decide +kernel)) rfl
theorem wd_s_17 : Cond.selects "ChocolateMouldsModel" ⟨"ChocolateMouldsModel", "isBowl", "(I)Z"⟩ ⟨"ChocolateMouldsModel", "isBowl", "(I)Z"⟩ ∈ WALL := wall_sel (List.mem_of_getElem? (l := k2_sels lw_privs) (i := 17) (by decide +kernel)) rfl
theorem wd_s_18 : Cond.selects "ChocolateMouldsModel" ⟨"ChocolateMouldsModel", "isWarmth", "(II)Z"⟩ ⟨"ChocolateMouldsModel", "isWarmth", "(II)Z"⟩ ∈ WALL := wall_sel (List.mem_of_getElem? (l := k2_sels lw_privs) (i := 18) (by decide +kernel)) rfl
theorem wd_s_19 : Cond.selects "ChocolateMouldsModel" ⟨"ChocolateMouldsModel", "look", "(I)V"⟩ ⟨"ChocolateMouldsModel", "look", "(I)V"⟩ ∈ WALL := wall_sel (List.mem_of_getElem? (l := k2_sels lw_privs) (i := 19) (by decide +kernel)) rfl
theorem wd_s_20 : Cond.selects "ChocolateMouldsModel" ⟨"ChocolateMouldsModel", "bo", "(II)I"⟩ ⟨"ChocolateMouldsModel", "bo", "(II)I"⟩ ∈ WALL := wall_sel (List.mem_of_getElem? (l := k2_sels lw_privs) (i := 20) (by decide +kernel)) rfl
theorem wd_s_21 : Cond.selects "ChocolateMouldsModel" ⟨"ChocolateMouldsModel", "temperOf", "(I)I"⟩ ⟨"ChocolateMouldsModel", "temperOf", "(I)I"⟩ ∈ WALL := wall_sel (List.mem_of_getElem? (l := k2_sels lw_privs) (i := 21) (by decide +kernel)) rfl
theorem wd_s_22 : Cond.selects "ChocolateMouldsModel" ⟨"ChocolateMouldsModel", "put", "(IIIIII)V"⟩ ⟨"ChocolateMouldsModel", "put", "(IIIIII)V"⟩ ∈ WALL := wall_sel (List.mem_of_getElem? (l := k2_sels lw_privs) (i := 22) (by decide +kernel)) rfl
theorem wd_s_23 : Cond.selects "ChocolateMouldsModel" ⟨"ChocolateMouldsModel", "letSlab", "(III)V"⟩ ⟨"ChocolateMouldsModel", "letSlab", "(III)V"⟩ ∈ WALL := wall_sel (List.mem_of_getElem? (l := k2_sels lw_privs) (i := 23) (by decide +kernel)) rfl
theorem wd_s_24 : Cond.selects "ChocolateMouldsModel" ⟨"ChocolateMouldsModel", "isSlab", "(I)Z"⟩ ⟨"ChocolateMouldsModel", "isSlab", "(I)Z"⟩ ∈ WALL := wall_sel (List.mem_of_getElem? (l := k2_sels lw_privs) (i := 24) (by decide +kernel)) rfl
theorem wd_s_25 : Cond.selects "ChocolateMouldsModel" ⟨"ChocolateMouldsModel", "sl", "(II)I"⟩ ⟨"ChocolateMouldsModel", "sl", "(II)I"⟩ ∈ WALL := wall_sel (List.mem_of_getElem? (l := k2_sels lw_privs) (i := 25) (by decide +kernel)) rfl
theorem wd_s_26 : Cond.selects "ChocolateMouldsModel" ⟨"ChocolateMouldsModel", "squares", "(I)I"⟩ ⟨"ChocolateMouldsModel", "squares", "(I)I"⟩ ∈ WALL := wall_sel (List.mem_of_getElem? (l := k2_sels lw_privs) (i := 26) (by decide +kernel)) rfl
theorem wd_s_27 : Cond.selects "ChocolateMouldsModel" ⟨"ChocolateMouldsModel", "away", "(I)V"⟩ ⟨"ChocolateMouldsModel", "away", "(I)V"⟩ ∈ WALL := wall_sel (List.mem_of_getElem? (l := k2_sels lw_privs) (i := 27) (by decide +kernel)) rfl
theorem wd_s_28 : Cond.selects "ChocolateMouldsModel" ⟨"ChocolateMouldsModel", "fillAll", "()I"⟩ ⟨"ChocolateMouldsModel", "fillAll", "()I"⟩ ∈ WALL := wall_sel (List.mem_of_getElem? (l := k2_sels lw_privs) (i := 28) (by decide +kernel)) rfl
theorem wd_s_29 : Cond.selects "ChocolateMouldsModel" ⟨"ChocolateMouldsModel", "fillOne", "(I)Z"⟩ ⟨"ChocolateMouldsModel", "fillOne", "(I)Z"⟩ ∈ WALL := wall_sel (List.mem_of_getElem? (l := k2_sels lw_privs) (i := 29) (by decide +kernel)) rfl
theorem wd_s_30 : Cond.selects "ChocolateMouldsModel" ⟨"ChocolateMouldsModel", "fits", "(II)Z"⟩ ⟨"ChocolateMouldsModel", "fits", "(II)Z"⟩ ∈ WALL := wall_sel (List.mem_of_getElem? (l := k2_sels lw_privs) (i := 30) (by decide +kernel)) rfl
theorem wd_s_31 : Cond.selects "ChocolateMouldsModel" ⟨"ChocolateMouldsModel", "bx", "(II)I"⟩ ⟨"ChocolateMouldsModel", "bx", "(II)I"⟩ ∈ WALL := wall_sel (List.mem_of_getElem? (l := k2_sels lw_privs) (i := 31) (by decide +kernel)) rfl
theorem wd_s_32 : Cond.selects "ChocolateMouldsModel" ⟨"ChocolateMouldsModel", "more", "(II)I"⟩ ⟨"ChocolateMouldsModel", "more", "(II)I"⟩ ∈ WALL := wall_sel (List.mem_of_getElem? (l := k2_sels lw_privs) (i := 32) (by decide +kernel)) rfl
theorem wd_s_33 : Cond.selects "ChocolateMouldsModel" ⟨"ChocolateMouldsModel", "bloomed", "()I"⟩ ⟨"ChocolateMouldsModel", "bloomed", "()I"⟩ ∈ WALL := wall_sel (List.mem_of_getElem? (l := k2_sels lw_privs) (i := 33) (by decide +kernel)) rfl
theorem wd_s_34 : Cond.selects "ChocolateMouldsModel" ⟨"ChocolateMouldsModel", "bowlTold", "(II)I"⟩ ⟨"ChocolateMouldsModel", "bowlTold", "(II)I"⟩ ∈ WALL := wall_sel (List.mem_of_getElem? (l := k2_sels lw_privs) (i := 34) (by decide +kernel)) rfl
theorem wd_s_35 : Cond.selects "ChocolateMouldsModel" ⟨"ChocolateMouldsModel", "slabTold", "(II)I"⟩ ⟨"ChocolateMouldsModel", "slabTold", "(II)I"⟩ ∈ WALL := wall_sel (List.mem_of_getElem? (l := k2_sels lw_privs) (i := 35) (by decide +kernel)) rfl
theorem wd_s_36 : Cond.selects "ChocolateMouldsModel" ⟨"ChocolateMouldsModel", "counted", "(I)I"⟩ ⟨"ChocolateMouldsModel", "counted", "(I)I"⟩ ∈ WALL := wall_sel (List.mem_of_getElem? (l := k2_sels lw_privs) (i := 36) (by decide +kernel)) rfl
theorem wd_s_37 : Cond.selects "ChocolateMouldsModel" ⟨"ChocolateMouldsModel", "filledBy", "(I)I"⟩ ⟨"ChocolateMouldsModel", "filledBy", "(I)I"⟩ ∈ WALL := wall_sel (List.mem_of_getElem? (l := k2_sels lw_privs) (i := 37) (by decide +kernel)) rfl
def dm_strs : List (String × Nat × String) := [("ChocolateMoulds", 257, "nothing is told by this number"), ("ChocolateMoulds", 259, "no such bowl"), ("ChocolateMoulds", 264, "no such slab"), ("ChocolateMoulds", 266, "no such box"), ("ChocolateMoulds", 47, "grams are 0 to 2000"), ("ChocolateMoulds", 58, "there are 5 bowls"), ("ChocolateMoulds", 253, "a warmth is 15 to 50, turns are 1 to 40"), ("ChocolateMoulds", 85, "seed is 1 to 30 crystals"), ("ChocolateMoulds", 96, "two bowls of 1 to 2000 grams together are wanted"), ("ChocolateMoulds", 102, "columns and rows are 1 to 6"), ("ChocolateMoulds", 109, "the bowl has not so many grams"), ("ChocolateMoulds", 268, "there are 8 slabs"), ("ChocolateMoulds", 133, "no such groove"), ("ChocolateMoulds", 144, "the bowl would have more than 2000 grams"), ("ChocolateMoulds", 149, "squares are 1 to 36, a temper is 0 to 100"), ("ChocolateMoulds", 154, "there are 6 boxes"), ("ChocolateMoulds", 255, "a room is 10 to 40 degrees warm"), ("ChocolateMoulds", 169, "days are 1 to 60"), ("ChocolateMoulds", 227, "turns are 1 to 10")]
def dm_cas : List (String × String) := [("java/lang/IndexOutOfBoundsException", "java/lang/IndexOutOfBoundsException"), ("java/lang/IllegalArgumentException", "java/lang/IllegalArgumentException"), ("java/lang/IllegalStateException", "java/lang/IllegalStateException")]
def dm_ncs : List (String × String) := [("java/lang/IndexOutOfBoundsException", "java/lang/IllegalArgumentException"), ("java/lang/IndexOutOfBoundsException", "java/lang/IllegalStateException"), ("java/lang/IllegalArgumentException", "java/lang/IndexOutOfBoundsException"), ("java/lang/IllegalArgumentException", "java/lang/IllegalStateException"), ("java/lang/IllegalStateException", "java/lang/IndexOutOfBoundsException"), ("java/lang/IllegalStateException", "java/lang/IllegalArgumentException")]
def dm_dcl : List MethodName := [⟨"java/lang/RuntimeException", "<init>", "(Ljava/lang/String;)V"⟩, ⟨"java/lang/Exception", "<init>", "(Ljava/lang/String;)V"⟩, ⟨"java/lang/Throwable", "<init>", "(Ljava/lang/String;)V"⟩]
def dm_arr : List String := ["ChocolateMoulds$Bowl", "ChocolateMoulds$Slab", "ChocolateMoulds$Box"]
end
section
/-! THE ABSTRACT HEAP: typed values, cells, a heap as a function from addresses; one word dm_W for 'from here the method goes on well' -/
abbrev DV : Type := Int32 ⊕ (Option Nat ⊕ (Int64 ⊕ UInt64))
abbrev DI (x : Int32) : DV := .inl x
abbrev DR (r : Option Nat) : DV := .inr (.inl r)
abbrev DL (x : Int64) : DV := .inr (.inr (.inl x))
abbrev DD (x : UInt64) : DV := .inr (.inr (.inr x))
def dm_v (v : DV) : Value := match v with
  | .inl x => .int x
  | .inr (.inl r) => va_rf r
  | .inr (.inr (.inl x)) => .long x
  | .inr (.inr (.inr x)) => .double x
def dm_cat (v : DV) : Nat := match v with
  | .inl _ => 1
  | .inr (.inl _) => 1
  | .inr (.inr _) => 2
theorem dm_cat_ok (v : DV) : (dm_v v).category = dm_cat v := by
  rcases v with x | (_ | a) | x | x <;> rfl
theorem dm_cat_sum (l : List DV) : ((l.map dm_v).map fun v => v.category).sum = (l.map dm_cat).sum := by
  induction l with
  | nil => rfl
  | cons a l ih => simp only [List.map_cons, List.sum_cons, ih, dm_cat_ok]
abbrev DCel : Type := (Nat × vp_A) ⊕ (Nat × List DV)
abbrev DHp : Type := Nat → Option DCel
abbrev DSt : Type := Nat × DHp
def dm_cel (dA : Nat → ClassId) (c : DCel) : va_E := match c with
  | .inl x => .inl (dA x.1, x.2)
  | .inr o => .inr (o.1, o.2.map dm_v)
def dm_tys (dA : Nat → ClassId) : List (ClassId × FieldType) := [(dA 0, .int), (dA 1, .boolean), (dA 2, .object "ChocolateMoulds$Bowl"), (dA 3, .object "ChocolateMoulds$Slab"), (dA 4, .object "ChocolateMoulds$Box"), (dA 5, .long)]
def dm_R (D : va_G) (dA : Nat → ClassId) (h : DHp) (H : Heap) : Prop := ∀ a e, h a = some e → va_at D vwCl (a, dm_cel dA e) H
def dm_A (st : DSt) : Nat → Prop := fun q => (∃ e, st.2 q = some e) ∨ st.1 ≤ q
def dm_S (D : va_G) (dA : Nat → ClassId) (A0 : Nat → Prop) (H0 : Heap) (st : DSt) (H : Heap) (locs : List Loc) : Prop :=
  dm_R D dA st.2 H ∧ H.size = st.1 ∧ (∀ q e, st.2 q = some e → A0 q) ∧ va_S A0 H0 H locs
/-- what a throw needs of the start beyond the words: Throwable's two statics, the texts, what can be cast, arrays of objects -/
def dm_Ev (A0 : Nat → Prop) (U : State) (H : Heap) : Prop :=
  vx_Zq Bundle.tN "UNASSIGNED_STACK" Bundle.steD A0 U H ∧ vx_Zq Bundle.tN "SUPPRESSED_SENTINEL" Bundle.listD A0 U H ∧ (∀ q ∈ dm_strs, ∃ sa, vk_R q.1 q.2.1 q.2.2 sa U) ∧ (∀ q ∈ dm_cas, va_Nw (.castable q.1 q.2) U) ∧ (∀ y ∈ dm_dcl, va_Nw (.declares y) U) ∧ (∀ q ∈ dm_ncs, va_Nc q.1 q.2 U) ∧ (∀ q ∈ dm_arr, va_AO q U)
theorem dm_Nw.warmD {y : MethodName} {s U : State} (hW : s.WarmedH U.vm) (hZ : va_Nw (.declares y) s) : va_Nw (.declares y) U := va_tabs rfl (rfl : (s.setVm U.vm).vm = U.vm) (by rw [Cond.declares_setVm hW.alike]; exact hZ)
theorem dm_Ev.warm {A0 A1 : Nat → Prop} {s U : State} {H0 H : Heap} {locs : List Loc} (h : dm_Ev A0 s H0) (hW : s.WarmedH U.vm) (hS : va_S A0 H0 H locs) (hA : ∀ q, A1 q → A0 q) : dm_Ev A1 U H := by
  obtain ⟨h1, h2, h3, h4, hd, h5, h6⟩ := h
  refine ⟨((h1.kept hS.2.1).narrow hA).moved hW.alike, ((h2.kept hS.2.1).narrow hA).moved hW.alike, fun q hq => ?_, fun w hw => (h4 w hw).warmC hW, fun w hw => dm_Nw.warmD hW (hd w hw), fun q hq => (h5 q hq).moved hW.alike, fun q hq => (h6 q hq).moved hW.alike⟩
  obtain ⟨sa, h⟩ := h3 q hq
  exact ⟨sa, h.warm hW⟩
theorem dm_Ev.same {A0 : Nat → Prop} {U V : State} {H : Heap} (h : dm_Ev A0 U H) (hv : V.vm = U.vm) : dm_Ev A0 V H := by
  have hA : U.vm.Alike V.vm := by rw [hv]; exact Vm.Alike.refl _
  have hW : U.WarmedH V.vm := by rw [hv]; exact State.WarmedH.refl U
  obtain ⟨h1, h2, h3, h4, hd, h5, h6⟩ := h
  refine ⟨h1.moved hA, h2.moved hA, fun q hq => ?_, fun w hw => (h4 w hw).warmC hW, fun w hw => dm_Nw.warmD hW (hd w hw), fun q hq => (h5 q hq).moved hA, fun q hq => (h6 q hq).moved hA⟩
  obtain ⟨sa, h⟩ := h3 q hq
  exact ⟨sa, h.same hv⟩
/-- all that stays during a walk -/
abbrev DY : Type := (Program × Launch × Env × Room × State) × (MethodId × Array Value × List Frame × Method × Code) × (va_G × (Nat → ClassId) × (Nat → Prop) × Nat × (State → Prop))
def dm_lv (lv : List (Nat × DV)) : List (Nat × Value) := lv.map fun q => (q.1, dm_v q.2)
def dm_W (Y : DY) (cs ss : Nat) (st : DSt) (pc : Nat) (lv : List (Nat × DV)) (stk : List DV) : Prop :=
  match Y with
  | ((p, l, e, R, s), (m, args, below, meth, c), (D, dA, A0, nL, Q)) =>
    ∀ (H : Heap) (locs : List Loc) (ls : Array Slot), dm_S D dA A0 s.heap st H locs → lv_has ls nL (dm_lv lv) → W p l e R s m args below meth c H locs cs ss Q (F0 m pc ls (stk.map dm_v))
def dm_C (Y : DY) (cc : ByteArray) (own : String) (rm : Room) : Prop :=
  match Y with
  | ((p, l, _, R, s), (m, args, _, _, c), (D, dA, A0, nL, _)) =>
    p.tables.exec = Jvm.exec ∧ c.code = cc ∧ c.maxLocals = nL ∧ s.vm.findClass own = some m.cls ∧ (∀ w ∈ WALL, w.before args s = true) ∧ va_K D vwCl (dm_tys dA) s ∧ (∀ q, s.heap.size ≤ q → A0 q) ∧ R = rm ∧ l.stackTraces = false ∧ dm_Ev A0 s s.heap
/-! contracts -/
def dm_Pc (D : va_G) (dA : Nat → ClassId) (avs : List DV) (st : DSt) : Array Value → State → Prop := va_Pc (avs.map dm_v) (fun U => dm_R D dA st.2 U.heap ∧ U.heap.size = st.1 ∧ va_K D vwCl (dm_tys dA) U ∧ dm_Ev (dm_A st) U U.heap)
def dm_B (D : va_G) (dA : Nat → ClassId) (A : Nat → Prop) (u : DSt) (t : State) : Prop := dm_R D dA u.2 t.heap ∧ t.heap.size = u.1 ∧ ∀ q e, u.2 q = some e → A q
def dm_Qc (Fin : Option DV → DSt → Prop) (D : va_G) (dA : Nat → ClassId) (A : Nat → Prop) : Array Value → State → Outcome → State → Prop := fun _ st oc t =>
  (∃ (rv : Option DV) (u : DSt), oc = .returned (rv.map dm_v) ∧ Fin rv u ∧ dm_B D dA A u t) ∧ va_F A st t
def dm_XC (FinX : String → DHp → Prop) (D : va_G) (dA : Nat → ClassId) (A : Nat → Prop) : String → State → State → Prop := fun E st t =>
  (∃ h : DHp, FinX E h ∧ dm_R D dA h t.heap ∧ ∀ q e, h q = some e → A q) ∧ va_F A st t
/-- a contract: from st, with these arguments, the method returns rv and leaves st1 -/
def dm_K1 (y : MethodName) (cy : ByteArray) (maxL : Nat) (ret : Option FieldType) (rmy : Room) (mc ms : Nat) (avs : List DV) (st : DSt) (rv : Option DV) (st1 : DSt) : Prop :=
  ∀ (l : Launch) (D : va_G) (dA : Nat → ClassId), l.stackTraces = false → Met l y (Cond.code y cy maxL ret :: WALL) rmy (dm_Pc D dA avs st) (dm_Qc (fun rv' u => rv' = rv ∧ u = st1) D dA (dm_A st)) mc ms (dm_A st)
abbrev DRes : Type := (String × DHp) ⊕ (Option DV × DSt)
/-- a contract of a method that returns or throws -/
def dm_K2 (y : MethodName) (cy : ByteArray) (maxL : Nat) (ret : Option FieldType) (rmy : Room) (mc ms : Nat) (avs : List DV) (st : DSt) (r : DRes) : Prop :=
  ∀ (l : Launch) (D : va_G) (dA : Nat → ClassId), l.stackTraces = false → vx_Met l y (Cond.code y cy maxL ret :: WALL) rmy (dm_Pc D dA avs st) (dm_Qc (fun rv u => r = .inr (rv, u)) D dA (dm_A st)) (dm_XC (fun E h => r = .inl (E, h)) D dA (dm_A st)) mc ms (dm_A st)
/-- the end of a method -/
def dm_E1 (Y : DY) (rt : Option FieldType) (mc ms : Nat) (Fin : Option DV → DSt → Prop) : Prop :=
  match Y with
  | ((_, _, _, _, s), (_, args, below, meth, _), (D, dA, A0, _, Q)) =>
    meth.sig.returnType = rt ∧ meth.locks = false ∧ ∀ t, MQ below (dm_Qc Fin D dA A0) args s mc ms A0 t → Q t
def dm_E2 (Y : DY) (mc ms : Nat) (FinX : String → DHp → Prop) : Prop :=
  match Y with
  | ((_, _, _, _, s), (_, args, below, meth, c), (D, dA, A0, _, Q)) =>
    meth.locks = false ∧ (∀ x ∈ c.exceptionTable.toList, False) ∧ ∃ Qc, ∀ t, vx_MQ below Qc (dm_XC FinX D dA A0) args s mc ms A0 t → Q t
theorem dm_mono {p : Program} {l : Launch} {e : Env} {R : Room} {s : State} {m : MethodId} {args : Array Value} {below : List Frame} {meth : Method} {c : Code} {H : Heap} {locs : List Loc} {cells slots : Nat} {Q Q' : State → Prop} {g : JFrame} (h : ∀ t, Q t → Q' t) (k : W p l e R s m args below meth c H locs cells slots Q g) : W p l e R s m args below meth c H locs cells slots Q' g := fun T hT X => by
  obtain ⟨t, a, b⟩ := k T hT X
  exact ⟨t, a, h t b⟩
theorem dm_R.mono {D : va_G} {dA : Nat → ClassId} {h : DHp} {H H1 : Heap} (hR : dm_R D dA h H) (hq : ∀ q : Nat, q < H.size → H1[q]? = H[q]?) : dm_R D dA h H1 := fun a e he => (hR a e he).kept (hq a (hR a e he).lt)
theorem dm_R.put {D : va_G} {dA : Nat → ClassId} {h : DHp} {H H1 : Heap} {a : Nat} {e : DCel} (hR : dm_R D dA h H) (hq : ∀ q : Nat, q ≠ a → H1[q]? = H[q]?) (hn : va_at D vwCl (a, dm_cel dA e) H1) : dm_R D dA (va_up h a (some e)) H1 := fun b e' he => by
  by_cases hb : b = a
  · subst hb
    simp only [va_up, if_true] at he
    cases he
    exact hn
  · simp only [va_up, if_neg hb] at he
    exact (hR b e' he).kept (hq b hb)
theorem dm_R.new {D : va_G} {dA : Nat → ClassId} {h : DHp} {H H1 : Heap} {e : DCel} (hR : dm_R D dA h H) (hq : ∀ q : Nat, q < H.size → H1[q]? = H[q]?) (hn : va_at D vwCl (H.size, dm_cel dA e) H1) : dm_R D dA (va_up h H.size (some e)) H1 := fun b e' he => by
  by_cases hb : b = H.size
  · subst hb
    simp only [va_up, if_true] at he
    cases he
    exact hn
  · simp only [va_up, if_neg hb] at he
    exact (hR b e' he).kept (hq b (hR b e' he).lt)
theorem dm_up_dom {h : DHp} {a : Nat} {e : DCel} {A0 : Nat → Prop} (hd : ∀ q e, h q = some e → A0 q) (ha : A0 a) : ∀ q e', va_up h a (some e) q = some e' → A0 q := fun q e' he => by
  by_cases hb : q = a
  · rw [hb]; exact ha
  · simp only [va_up, if_neg hb] at he
    exact hd q e' he
/-! pure steps over the abstract heap -/
def oB {α β : Type} (o : Option α) (k : α → Option β) : Option β := match o with
  | none => none
  | some a => k a
theorem ob {α β : Type} {o : Option α} {k : α → Option β} {r : β} (h : oB o k = some r) : ∃ a, o = some a ∧ k a = some r := by
  cases o with
  | none => cases h
  | some a => exact ⟨a, rfl, h⟩
/-- a call that may throw: the throw goes on -/
def xB {α β : Type} (o : Option ((String × DHp) ⊕ α)) (k : α → Option ((String × DHp) ⊕ β)) : Option ((String × DHp) ⊕ β) := match o with
  | none => none
  | some (.inl e) => some (.inl e)
  | some (.inr a) => k a
theorem xb {α β : Type} {o : Option ((String × DHp) ⊕ α)} {k : α → Option ((String × DHp) ⊕ β)} {r : (String × DHp) ⊕ β} (h : xB o k = some r) : (∃ e, o = some (.inl e) ∧ r = .inl e) ∨ ∃ a, o = some (.inr a) ∧ k a = some r := by
  rcases o with _ | e | a
  · cases h
  · exact Or.inl ⟨e, rfl, (Option.some.inj h).symm⟩
  · exact Or.inr ⟨a, rfl, h⟩
/-- a call that must not throw here -/
def nX {α : Type} (o : Option ((String × DHp) ⊕ α)) : Option α := match o with
  | some (.inr a) => some a
  | _ => none
theorem nx {α : Type} {o : Option ((String × DHp) ⊕ α)} {a : α} (h : nX o = some a) : o = some (.inr a) := by
  rcases o with _ | e | b
  · cases h
  · cases h
  · cases h; rfl
theorem oi_t {α : Type} {c : Prop} [Decidable c] {a b : α} {r : α} (hc : c) (h : (if c then a else b) = r) : a = r := by rw [if_pos hc] at h; exact h
theorem oi_f {α : Type} {c : Prop} [Decidable c] {a b : α} {r : α} (hc : ¬ c) (h : (if c then a else b) = r) : b = r := by rw [if_neg hc] at h; exact h
def gO (st : DSt) (r : Option Nat) (ci : Nat) : Option (Nat × List DV) := match r with
  | none => none
  | some a => match st.2 a with
    | some (.inr (c, fs)) => if c = ci then some (a, fs) else none
    | _ => none
theorem gO_spec {st : DSt} {r : Option Nat} {ci : Nat} {x : Nat × List DV} (h : gO st r ci = some x) : r = some x.1 ∧ st.2 x.1 = some (.inr (ci, x.2)) := by
  unfold gO at h
  split at h
  · cases h
  · split at h
    · rename_i hst
      split at h
      · rename_i hc
        cases h
        subst hc
        exact ⟨rfl, hst⟩
      · cases h
    · cases h
def asI (v : DV) : Option Int32 := match v with
  | .inl x => some x
  | _ => none
def asR (v : DV) : Option (Option Nat) := match v with
  | .inr (.inl r) => some r
  | _ => none
theorem asI_spec {v : DV} {x : Int32} (h : asI v = some x) : v = DI x := by
  rcases v with y | y | y | y <;> first | (cases h; rfl) | cases h
theorem asR_spec {v : DV} {x : Option Nat} (h : asR v = some x) : v = DR x := by
  rcases v with y | y | y | y <;> first | (cases h; rfl) | cases h
def gV (st : DSt) (r : Option Nat) (ci k : Nat) : Option DV := oB (gO st r ci) fun q => q.2[k]?
def gI (st : DSt) (r : Option Nat) (ci k : Nat) : Option Int32 := oB (gV st r ci k) asI
def gR (st : DSt) (r : Option Nat) (ci k : Nat) : Option (Option Nat) := oB (gV st r ci k) asR
def pV (st : DSt) (r : Option Nat) (ci k : Nat) (v : DV) : Option DSt := oB (gO st r ci) fun q => if k < q.2.length then some (st.1, va_up st.2 q.1 (some (.inr (ci, q.2.set k v)))) else none
/-- the receiver of a call: an object of that class -/
def oR (st : DSt) (r : Option Nat) (ci : Nat) : Option Nat := oB (gO st r ci) fun q => some q.1
/-- an array's cell: address, length, contents -/
def gA (st : DSt) (r : Option Nat) (kd : Nat) : Option (Nat × vp_A) := match r with
  | none => none
  | some a => match st.2 a with
    | some (.inl (c, x)) => if c = kd then some (a, x) else none
    | _ => none
theorem gA_spec {st : DSt} {r : Option Nat} {kd : Nat} {x : Nat × vp_A} (h : gA st r kd = some x) : r = some x.1 ∧ st.2 x.1 = some (.inl (kd, x.2)) := by
  unfold gA at h
  split at h
  · cases h
  · split at h
    · rename_i hst
      split at h
      · rename_i hc
        cases h
        subst hc
        exact ⟨rfl, hst⟩
      · cases h
    · cases h
def gAI (st : DSt) (r : Option Nat) (kd : Nat) : Option (Nat × Nat × (Nat → Int32)) := oB (gA st r kd) fun q => match q.2.2 with
  | .inl f => some (q.1, q.2.1, f)
  | _ => none
def gAR (st : DSt) (r : Option Nat) (kd : Nat) : Option (Nat × Nat × (Nat → Option Nat)) := oB (gA st r kd) fun q => match q.2.2 with
  | .inr (.inr (.inr (.inr f))) => some (q.1, q.2.1, f)
  | _ => none
def gAL (st : DSt) (r : Option Nat) (kd : Nat) : Option (Nat × Nat × (Nat → Int64)) := oB (gA st r kd) fun q => match q.2.2 with
  | .inr (.inl f) => some (q.1, q.2.1, f)
  | _ => none
theorem gAI_spec {st : DSt} {r : Option Nat} {kd : Nat} {x : Nat × Nat × (Nat → Int32)} (h : gAI st r kd = some x) : r = some x.1 ∧ st.2 x.1 = some (.inl (kd, (x.2.1, .inl x.2.2))) := by
  obtain ⟨⟨a, n, z⟩, h1, h2⟩ := ob h
  obtain ⟨h3, h4⟩ := gA_spec h1
  rcases z with f | f | f | f | f <;> first | (cases h2; exact ⟨h3, h4⟩) | cases h2
theorem gAR_spec {st : DSt} {r : Option Nat} {kd : Nat} {x : Nat × Nat × (Nat → Option Nat)} (h : gAR st r kd = some x) : r = some x.1 ∧ st.2 x.1 = some (.inl (kd, (x.2.1, .inr (.inr (.inr (.inr x.2.2)))))) := by
  obtain ⟨⟨a, n, z⟩, h1, h2⟩ := ob h
  obtain ⟨h3, h4⟩ := gA_spec h1
  rcases z with f | f | f | f | f <;> first | (cases h2; exact ⟨h3, h4⟩) | cases h2
theorem gAL_spec {st : DSt} {r : Option Nat} {kd : Nat} {x : Nat × Nat × (Nat → Int64)} (h : gAL st r kd = some x) : r = some x.1 ∧ st.2 x.1 = some (.inl (kd, (x.2.1, .inr (.inl x.2.2)))) := by
  obtain ⟨⟨a, n, z⟩, h1, h2⟩ := ob h
  obtain ⟨h3, h4⟩ := gA_spec h1
  rcases z with f | f | f | f | f <;> first | (cases h2; exact ⟨h3, h4⟩) | cases h2
def inA (i : Int32) (n : Nat) : Bool := !(decide (i < 0)) && decide (i.toNatClampNeg < n)
theorem inA_in {i : Int32} {n : Nat} (h : inA i n = true) : vp_in i n := by
  unfold inA at h
  simp only [Bool.and_eq_true, Bool.not_eq_true', decide_eq_false_iff_not, decide_eq_true_eq] at h
  rintro (q | q)
  · exact h.1 q
  · omega
def aI (st : DSt) (r : Option Nat) (kd : Nat) (i : Int32) : Option Int32 := oB (gAI st r kd) fun q => if inA i q.2.1 = true then some (q.2.2 i.toNatClampNeg) else none
def aR (st : DSt) (r : Option Nat) (kd : Nat) (i : Int32) : Option (Option Nat) := oB (gAR st r kd) fun q => if inA i q.2.1 = true then some (q.2.2 i.toNatClampNeg) else none
def aL (st : DSt) (r : Option Nat) (kd : Nat) (i : Int32) : Option Int64 := oB (gAL st r kd) fun q => if inA i q.2.1 = true then some (q.2.2 i.toNatClampNeg) else none
def sI (st : DSt) (r : Option Nat) (kd : Nat) (i x : Int32) : Option DSt := oB (gAI st r kd) fun q => if inA i q.2.1 = true then some (st.1, va_up st.2 q.1 (some (.inl (kd, (q.2.1, .inl (upd q.2.2 i.toNatClampNeg x)))))) else none
def sL (st : DSt) (r : Option Nat) (kd : Nat) (i : Int32) (x : Int64) : Option DSt := oB (gAL st r kd) fun q => if inA i q.2.1 = true then some (st.1, va_up st.2 q.1 (some (.inl (kd, (q.2.1, .inr (.inl (vp_updL q.2.2 i.toNatClampNeg x))))))) else none
/-- what may stand in an array of references: null, or an object of the class -/
def okR (st : DSt) (v : Option Nat) (ci : Nat) : Bool := match v with
  | none => true
  | some b => (gO st (some b) ci).isSome
def sR (st : DSt) (r : Option Nat) (kd ci : Nat) (i : Int32) (v : Option Nat) : Option DSt := oB (gAR st r kd) fun q => if inA i q.2.1 = true ∧ okR st v ci = true then some (st.1, va_up st.2 q.1 (some (.inl (kd, (q.2.1, .inr (.inr (.inr (.inr (va_up q.2.2 i.toNatClampNeg v))))))))) else none
def aN (st : DSt) (r : Option Nat) (kd : Nat) : Option Int32 := oB (gA st r kd) fun q => some (Int32.ofNat q.2.1)
def nC (st : DSt) (c : DCel) : DSt := (st.1 + 1, va_up st.2 st.1 (some c))
def nI0 (n : Nat) : vp_A := (n, .inl (fun _ => 0))
def nL0 (n : Nat) : vp_A := (n, .inr (.inl (fun _ => 0)))
def nR0 (n : Nat) : vp_A := (n, .inr (.inr (.inr (.inr (fun _ => none)))))
def cpI (st : DSt) (r0 : Option Nat) (sp : Int32) (r1 : Option Nat) (dp n : Int32) (kd : Nat) : Option DSt := oB (gAI st r0 kd) fun q0 => oB (gAI st r1 kd) fun q1 =>
  if ¬ sp < 0 ∧ ¬ dp < 0 ∧ ¬ n < 0 ∧ sp.toNatClampNeg + n.toNatClampNeg ≤ q0.2.1 ∧ dp.toNatClampNeg + n.toNatClampNeg ≤ q1.2.1 then some (st.1, va_up st.2 q1.1 (some (.inl (kd, (q1.2.1, .inl (va_cpy q0.2.2 q1.2.2 sp.toNatClampNeg dp.toNatClampNeg n.toNatClampNeg)))))) else none
def jmax (x y : Int32) : Int32 := if x < y then y else x
def jmin (x y : Int32) : Int32 := if y < x then y else x
/-- division: the divisor isn't 0 -/
def oD (x y : Int32) : Option Int32 := if y = 0 then none else some (x / y)
theorem oD_spec {x y z : Int32} (h : oD x y = some z) : ¬ y = 0 ∧ z = x / y := by
  unfold oD at h
  split at h
  · cases h
  · rename_i h0
    cases h
    exact ⟨h0, rfl⟩
/-- a boolean that is returned -/
def oZ (x : Int32) : Option Int32 := if x = 0 ∨ x = 1 then some x else none
theorem oZ_spec {x z : Int32} (h : oZ x = some z) : z = x ∧ narrow .boolean (.int x) = .int x := by
  unfold oZ at h
  split at h
  · rename_i h0
    cases h
    refine ⟨rfl, ?_⟩
    rcases h0 with h0 | h0 <;> subst h0 <;> rfl
  · cases h
/-! loops: a step goes on with a new state, or ends -/
def dl_it {σ β : Type} (f : σ → Option (σ ⊕ β)) : Nat → σ → Option β
  | 0, _ => none
  | n + 1, s => match f s with
    | none => none
    | some (.inl s') => dl_it f n s'
    | some (.inr b) => some b
theorem dl_more {σ β : Type} (f : σ → Option (σ ⊕ β)) : ∀ (n : Nat) (s : σ) (b : β), dl_it f n s = some b → dl_it f (n + 1) s = some b := by
  intro n
  induction n with
  | zero => intro s b h; cases h
  | succ n ih =>
    intro s b h
    unfold dl_it at h ⊢
    rcases hf : f s with _ | s' | b'
    · rw [hf] at h; cases h
    · rw [hf] at h
      exact ih s' b h
    · rw [hf] at h
      exact h
theorem dl_more' {σ β : Type} (f : σ → Option (σ ⊕ β)) {n : Nat} {s : σ} {b : β} (h : dl_it f n s = some b) : ∀ k, dl_it f (n + k) s = some b := by
  intro k
  induction k with
  | zero => exact h
  | succ k ih => exact dl_more f _ _ _ ih
theorem dl_one {σ β : Type} (f : σ → Option (σ ⊕ β)) {n m : Nat} {s : σ} {b b' : β} (h : dl_it f n s = some b) (h' : dl_it f m s = some b') : b = b' := by
  have h1 := dl_more' f h m
  have h2 := dl_more' f h' n
  rw [Nat.add_comm m n] at h2
  rw [h1] at h2
  exact Option.some.inj h2
noncomputable def dlp {σ β : Type} (f : σ → Option (σ ⊕ β)) (s : σ) : Option β :=
  @dite _ (∃ n b, dl_it f n s = some b) (Classical.propDecidable _) (fun h => some (Classical.choose (Classical.choose_spec h))) (fun _ => none)
theorem dlp_of {σ β : Type} {f : σ → Option (σ ⊕ β)} {n : Nat} {s : σ} {b : β} (h : dl_it f n s = some b) : dlp f s = some b := by
  have hx : ∃ n b, dl_it f n s = some b := ⟨n, b, h⟩
  unfold dlp
  rw [dif_pos hx]
  exact congrArg some (dl_one f (Classical.choose_spec (Classical.choose_spec hx)) h)
theorem dlp_it {σ β : Type} {f : σ → Option (σ ⊕ β)} {s : σ} {b : β} (h : dlp f s = some b) : ∃ n, dl_it f n s = some b := by
  unfold dlp at h
  by_cases hx : ∃ n b, dl_it f n s = some b
  · obtain ⟨n, b', h'⟩ := hx
    rw [dif_pos ⟨n, b', h'⟩] at h
    cases h
    exact ⟨_, Classical.choose_spec (Classical.choose_spec (⟨n, b', h'⟩ : ∃ n b, dl_it f n s = some b))⟩
  · rw [dif_neg hx] at h
    cases h
theorem dlp_step {σ β : Type} (f : σ → Option (σ ⊕ β)) (s : σ) : dlp f s = match f s with
    | none => none
    | some (.inl s') => dlp f s'
    | some (.inr b) => some b := by
  rcases hf : f s with _ | s' | b
  · cases h : dlp f s with
    | none => rfl
    | some b =>
      obtain ⟨n, hn⟩ := dlp_it h
      cases n with
      | zero => cases hn
      | succ n => unfold dl_it at hn; rw [hf] at hn; cases hn
  · show dlp f s = dlp f s'
    cases h : dlp f s' with
    | none =>
      cases h2 : dlp f s with
      | none => rfl
      | some b =>
        obtain ⟨n, hn⟩ := dlp_it h2
        cases n with
        | zero => cases hn
        | succ n =>
          unfold dl_it at hn; rw [hf] at hn
          rw [dlp_of hn] at h; cases h
    | some b =>
      obtain ⟨n, hn⟩ := dlp_it h
      exact dlp_of (n := n + 1) (by unfold dl_it; rw [hf]; exact hn)
  · exact dlp_of (n := 1) (by unfold dl_it; rw [hf])
/-- the walk of a loop: what holds at its end holds at its head, if each step carries it back -/
theorem dlp_W {σ β : Type} (f : σ → Option (σ ⊕ β)) (Wh : σ → Prop) (We : β → Prop) (h : ∀ s r, f s = some r → (match r with | .inl s' => Wh s' | .inr b => We b) → Wh s) {s : σ} {b : β} (hf : dlp f s = some b) (he : We b) : Wh s := by
  obtain ⟨n, hn⟩ := dlp_it hf
  clear hf
  induction n generalizing s with
  | zero => cases hn
  | succ n ih =>
    unfold dl_it at hn
    rcases hs : f s with _ | s' | b'
    · rw [hs] at hn; cases hn
    · rw [hs] at hn
      exact h s _ hs (ih hn)
    · rw [hs] at hn
      cases hn
      exact h s _ hs he
end
section
section DRULES
variable {Y : DY} {cc : ByteArray} {own : String} {rm : Room} {cs ss pc : Nat} {st : DSt} {lv lv' : List (Nat × DV)} {stk : List DV}
theorem dm_at {ls : Array Slot} {nL : Nat} {lv : List (Nat × DV)} (h : lv_has ls nL (dm_lv lv)) (k : Nat) {i : Nat} {v : DV} (hk : lv[k]? = some (i, v)) : ls[i]? = some (.val (dm_v v)) := lv_at h k (by unfold dm_lv; rw [List.getElem?_map, hk]; rfl)
def dm_set1 (lv : List (Nat × DV)) (i : Nat) (v : DV) : List (Nat × DV) := (i, v) :: lv.filter (fun q => !(q.1 == i) && !(q.1 + 1 == i && dm_cat q.2 == 2))
def dm_set2 (lv : List (Nat × DV)) (i : Nat) (v : DV) : List (Nat × DV) := (i, v) :: lv.filter (fun q => !(q.1 == i) && (!(q.1 == i + 1) && !(q.1 + 1 == i && dm_cat q.2 == 2)))
theorem dm_set1_lv {lv : List (Nat × DV)} {i : Nat} {v : DV} {lv' : List (Nat × DV)} (h : dm_set1 lv i v = lv') : (i, dm_v v) :: (dm_lv lv).filter (fun q => !(q.1 == i) && !(q.1 + 1 == i && q.2.category == 2)) = dm_lv lv' := by
  subst h
  unfold dm_set1 dm_lv
  rw [List.map_cons, List.filter_map]
  congr 3
  funext q
  simp only [Function.comp, dm_cat_ok]
theorem dm_set2_lv {lv : List (Nat × DV)} {i : Nat} {v : DV} {lv' : List (Nat × DV)} (h : dm_set2 lv i v = lv') : (i, dm_v v) :: (dm_lv lv).filter (fun q => !(q.1 == i) && (!(q.1 == i + 1) && !(q.1 + 1 == i && q.2.category == 2))) = dm_lv lv' := by
  subst h
  unfold dm_set2 dm_lv
  rw [List.map_cons, List.filter_map]
  congr 3
  funext q
  simp only [Function.comp, dm_cat_ok]
theorem dm_sub (ks : List Nat) (h : ks.filterMap (fun k => lv[k]?) = lv') (k : dm_W Y cs ss st pc lv' stk) : dm_W Y cs ss st pc lv stk := by
  obtain ⟨⟨p, l, e, R, s⟩, ⟨m, args, below, meth, c⟩, ⟨D, dA, A0, nL, Q⟩⟩ := Y
  exact fun H locs ls hS hl => k H locs ls hS (lv_sub hl ks (by
    subst h
    unfold lv_pick dm_lv
    rw [List.map_filterMap]
    congr 1
    funext k
    rw [List.getElem?_map]))
theorem dm_to {stk' : List DV} {pc' : Nat} (hp : pc = pc') (h : stk = stk') (k : dm_W Y cs ss st pc' lv stk') : dm_W Y cs ss st pc lv stk := by subst hp; subst h; exact k
theorem dm_widen {cs' ss' : Nat} (h1 : cs ≤ cs') (h2 : ss ≤ ss') (k : dm_W Y cs' ss' st pc lv stk) : dm_W Y cs ss st pc lv stk := by
  obtain ⟨⟨p, l, e, R, s⟩, ⟨m, args, below, meth, c⟩, ⟨D, dA, A0, nL, Q⟩⟩ := Y
  exact fun H locs ls hS hl => W.widen h1 h2 (k H locs ls hS hl)
theorem r_iconst {n : Int} {v : Int32} (C : dm_C Y cc own rm) (hd : decode cc pc = .ok (.iconst n, 1)) (hv : Int32.ofInt n = v) (k : dm_W Y cs ss st (pc + 1) lv (DI v :: stk)) : dm_W Y cs ss st pc lv (stk) := by
  obtain ⟨⟨p, l, e, R, s⟩, ⟨m, args, below, meth, c⟩, ⟨D, dA, A0, nL, Q⟩⟩ := Y
  exact fun H locs ls hS hl => lv_iconst C.1 C.2.1 hd hv (k H locs ls hS hl)
theorem r_bipush {n : Int} {v : Int32} (C : dm_C Y cc own rm) (hd : decode cc pc = .ok (.bipush n, 2)) (hv : (Int8.ofInt n).toInt32 = v) (k : dm_W Y cs ss st (pc + 2) lv (DI v :: stk)) : dm_W Y cs ss st pc lv (stk) := by
  obtain ⟨⟨p, l, e, R, s⟩, ⟨m, args, below, meth, c⟩, ⟨D, dA, A0, nL, Q⟩⟩ := Y
  exact fun H locs ls hS hl => lv_bipush C.1 C.2.1 hd hv (k H locs ls hS hl)
theorem r_sipush {n : Int} {v : Int32} (C : dm_C Y cc own rm) (hd : decode cc pc = .ok (.sipush n, 3)) (hv : (Int16.ofInt n).toInt32 = v) (k : dm_W Y cs ss st (pc + 3) lv (DI v :: stk)) : dm_W Y cs ss st pc lv (stk) := by
  obtain ⟨⟨p, l, e, R, s⟩, ⟨m, args, below, meth, c⟩, ⟨D, dA, A0, nL, Q⟩⟩ := Y
  exact fun H locs ls hS hl => lv_sipush C.1 C.2.1 hd hv (k H locs ls hS hl)
theorem r_dconst0  (C : dm_C Y cc own rm) (hd : decode cc pc = .ok (.dconst 0, 1))  (k : dm_W Y cs ss st (pc + 1) lv (DD FP.dconst0 :: stk)) : dm_W Y cs ss st pc lv (stk) := by
  obtain ⟨⟨p, l, e, R, s⟩, ⟨m, args, below, meth, c⟩, ⟨D, dA, A0, nL, Q⟩⟩ := Y
  exact fun H locs ls hS hl => lv_dconst0 C.1 C.2.1 hd  (k H locs ls hS hl)
theorem r_null  (C : dm_C Y cc own rm) (hd : decode cc pc = .ok (.aconst_null, 1))  (k : dm_W Y cs ss st (pc + 1) lv (DR none :: stk)) : dm_W Y cs ss st pc lv (stk) := by
  obtain ⟨⟨p, l, e, R, s⟩, ⟨m, args, below, meth, c⟩, ⟨D, dA, A0, nL, Q⟩⟩ := Y
  exact fun H locs ls hS hl => lv_null C.1 C.2.1 hd  (k H locs ls hS hl)
theorem r_iadd {x y : Int32} (C : dm_C Y cc own rm) (hd : decode cc pc = .ok (.iadd, 1))  (k : dm_W Y cs ss st (pc + 1) lv (DI (x + y) :: stk)) : dm_W Y cs ss st pc lv (DI y :: DI x :: stk) := by
  obtain ⟨⟨p, l, e, R, s⟩, ⟨m, args, below, meth, c⟩, ⟨D, dA, A0, nL, Q⟩⟩ := Y
  exact fun H locs ls hS hl => lv_iadd C.1 C.2.1 hd  (k H locs ls hS hl)
theorem r_isub {x y : Int32} (C : dm_C Y cc own rm) (hd : decode cc pc = .ok (.isub, 1))  (k : dm_W Y cs ss st (pc + 1) lv (DI (x - y) :: stk)) : dm_W Y cs ss st pc lv (DI y :: DI x :: stk) := by
  obtain ⟨⟨p, l, e, R, s⟩, ⟨m, args, below, meth, c⟩, ⟨D, dA, A0, nL, Q⟩⟩ := Y
  exact fun H locs ls hS hl => lv_isub C.1 C.2.1 hd  (k H locs ls hS hl)
theorem r_imul {x y : Int32} (C : dm_C Y cc own rm) (hd : decode cc pc = .ok (.imul, 1))  (k : dm_W Y cs ss st (pc + 1) lv (DI (x * y) :: stk)) : dm_W Y cs ss st pc lv (DI y :: DI x :: stk) := by
  obtain ⟨⟨p, l, e, R, s⟩, ⟨m, args, below, meth, c⟩, ⟨D, dA, A0, nL, Q⟩⟩ := Y
  exact fun H locs ls hS hl => lv_imul C.1 C.2.1 hd  (k H locs ls hS hl)
theorem r_iand {x y : Int32} (C : dm_C Y cc own rm) (hd : decode cc pc = .ok (.iand, 1))  (k : dm_W Y cs ss st (pc + 1) lv (DI (x &&& y) :: stk)) : dm_W Y cs ss st pc lv (DI y :: DI x :: stk) := by
  obtain ⟨⟨p, l, e, R, s⟩, ⟨m, args, below, meth, c⟩, ⟨D, dA, A0, nL, Q⟩⟩ := Y
  exact fun H locs ls hS hl => lv_iand C.1 C.2.1 hd  (k H locs ls hS hl)
theorem r_ladd {x y : Int64} (C : dm_C Y cc own rm) (hd : decode cc pc = .ok (.ladd, 1))  (k : dm_W Y cs ss st (pc + 1) lv (DL (x + y) :: stk)) : dm_W Y cs ss st pc lv (DL y :: DL x :: stk) := by
  obtain ⟨⟨p, l, e, R, s⟩, ⟨m, args, below, meth, c⟩, ⟨D, dA, A0, nL, Q⟩⟩ := Y
  exact fun H locs ls hS hl => lv_ladd C.1 C.2.1 hd  (k H locs ls hS hl)
theorem r_lmul {x y : Int64} (C : dm_C Y cc own rm) (hd : decode cc pc = .ok (.lmul, 1))  (k : dm_W Y cs ss st (pc + 1) lv (DL (x * y) :: stk)) : dm_W Y cs ss st pc lv (DL y :: DL x :: stk) := by
  obtain ⟨⟨p, l, e, R, s⟩, ⟨m, args, below, meth, c⟩, ⟨D, dA, A0, nL, Q⟩⟩ := Y
  exact fun H locs ls hS hl => lv_lmul C.1 C.2.1 hd  (k H locs ls hS hl)
theorem r_i2l {x : Int32} (C : dm_C Y cc own rm) (hd : decode cc pc = .ok (.i2l, 1))  (k : dm_W Y cs ss st (pc + 1) lv (DL x.toInt64 :: stk)) : dm_W Y cs ss st pc lv (DI x :: stk) := by
  obtain ⟨⟨p, l, e, R, s⟩, ⟨m, args, below, meth, c⟩, ⟨D, dA, A0, nL, Q⟩⟩ := Y
  exact fun H locs ls hS hl => lv_i2l C.1 C.2.1 hd rfl (k H locs ls hS hl)
theorem r_i2d {x : Int32} (C : dm_C Y cc own rm) (hd : decode cc pc = .ok (.i2d, 1))  (k : dm_W Y cs ss st (pc + 1) lv (DD (FP.i2d x) :: stk)) : dm_W Y cs ss st pc lv (DI x :: stk) := by
  obtain ⟨⟨p, l, e, R, s⟩, ⟨m, args, below, meth, c⟩, ⟨D, dA, A0, nL, Q⟩⟩ := Y
  exact fun H locs ls hS hl => lv_i2d C.1 C.2.1 hd  (k H locs ls hS hl)
theorem r_lcmp {x y : Int64} (C : dm_C Y cc own rm) (hd : decode cc pc = .ok (.lcmp, 1))  (k : dm_W Y cs ss st (pc + 1) lv (DI (lg_cmp x y) :: stk)) : dm_W Y cs ss st pc lv (DL y :: DL x :: stk) := by
  obtain ⟨⟨p, l, e, R, s⟩, ⟨m, args, below, meth, c⟩, ⟨D, dA, A0, nL, Q⟩⟩ := Y
  exact fun H locs ls hS hl => W.lcmp C.1 C.2.1 hd  (k H locs ls hS hl)
theorem r_dcmp {x y : UInt64} {op : CmpOp} (C : dm_C Y cc own rm) (hd : decode cc pc = .ok (.dcmp op, 1))  (k : dm_W Y cs ss st (pc + 1) lv (DI (Op.cmpValue (FP.dcmp x y) op) :: stk)) : dm_W Y cs ss st pc lv (DD y :: DD x :: stk) := by
  obtain ⟨⟨p, l, e, R, s⟩, ⟨m, args, below, meth, c⟩, ⟨D, dA, A0, nL, Q⟩⟩ := Y
  exact fun H locs ls hS hl => lv_dcmp C.1 C.2.1 hd  (k H locs ls hS hl)
theorem r_ddiv {x y : UInt64} (C : dm_C Y cc own rm) (hd : decode cc pc = .ok (.ddiv, 1)) (hn : vf_n64 (FP.ddiv x y)) (k : dm_W Y cs ss st (pc + 1) lv (DD (FP.ddiv x y) :: stk)) : dm_W Y cs ss st pc lv (DD y :: DD x :: stk) := by
  obtain ⟨⟨p, l, e, R, s⟩, ⟨m, args, below, meth, c⟩, ⟨D, dA, A0, nL, Q⟩⟩ := Y
  exact fun H locs ls hS hl => lv_ddiv C.1 C.2.1 hd hn (k H locs ls hS hl)
theorem r_idiv {x y z : Int32} (C : dm_C Y cc own rm) (hd : decode cc pc = .ok (.idiv, 1)) (hz : oD x y = some z) (k : dm_W Y cs ss st (pc + 1) lv (DI z :: stk)) : dm_W Y cs ss st pc lv (DI y :: DI x :: stk) := by
  obtain ⟨⟨p, l, e, R, s⟩, ⟨m, args, below, meth, c⟩, ⟨D, dA, A0, nL, Q⟩⟩ := Y
  exact fun H locs ls hS hl => by
    obtain ⟨h0, rfl⟩ := oD_spec hz
    exact lv_idiv C.1 C.2.1 hd h0 (k H locs ls hS hl)
theorem r_dup {v : DV} (C : dm_C Y cc own rm) (hd : decode cc pc = .ok (.dup, 1)) (hv : dm_cat v = 1) (k : dm_W Y cs ss st (pc + 1) lv (v :: v :: stk)) : dm_W Y cs ss st pc lv (v :: stk) := by
  obtain ⟨⟨p, l, e, R, s⟩, ⟨m, args, below, meth, c⟩, ⟨D, dA, A0, nL, Q⟩⟩ := Y
  exact fun H locs ls hS hl => lv_dup C.1 C.2.1 hd ((dm_cat_ok v).trans hv) (k H locs ls hS hl)
theorem r_pop {v : DV} (C : dm_C Y cc own rm) (hd : decode cc pc = .ok (.pop, 1)) (hv : dm_cat v = 1) (k : dm_W Y cs ss st (pc + 1) lv (stk)) : dm_W Y cs ss st pc lv (v :: stk) := by
  obtain ⟨⟨p, l, e, R, s⟩, ⟨m, args, below, meth, c⟩, ⟨D, dA, A0, nL, Q⟩⟩ := Y
  exact fun H locs ls hS hl => lv_pop C.1 C.2.1 hd ((dm_cat_ok v).trans hv) (k H locs ls hS hl)
theorem r_dup2 {v w : DV} (C : dm_C Y cc own rm) (hd : decode cc pc = .ok (.dup2, 1)) (hv : dm_cat v = 1) (hw : dm_cat w = 1) (k : dm_W Y cs ss st (pc + 1) lv (v :: w :: v :: w :: stk)) : dm_W Y cs ss st pc lv (v :: w :: stk) := by
  obtain ⟨⟨p, l, e, R, s⟩, ⟨m, args, below, meth, c⟩, ⟨D, dA, A0, nL, Q⟩⟩ := Y
  exact fun H locs ls hS hl => lv_dup2_11 C.1 C.2.1 hd ((dm_cat_ok v).trans hv) ((dm_cat_ok w).trans hw) (k H locs ls hS hl)
theorem r_iload_n {q : Fin 4} {i : Nat} {x : Int32} (C : dm_C Y cc own rm) (hd : decode cc pc = .ok (.iload_n q, 1)) (hi : (q : Nat) = i) (pos : Nat) (hl : lv[pos]? = some (i, DI x)) (k : dm_W Y cs ss st (pc + 1) lv (DI x :: stk)) : dm_W Y cs ss st pc lv (stk) := by
  obtain ⟨⟨p, l, e, R, s⟩, ⟨m, args, below, meth, c⟩, ⟨D, dA, A0, nL, Q⟩⟩ := Y
  exact fun H locs ls hS hl => lv_iload_n C.1 C.2.1 hd hi (dm_at ‹_› pos ‹_›) (k H locs ls hS ‹_›)
theorem r_iload {i : Nat} {x : Int32} (C : dm_C Y cc own rm) (hd : decode cc pc = .ok (.iload i, 2)) (pos : Nat) (hl : lv[pos]? = some (i, DI x)) (k : dm_W Y cs ss st (pc + 2) lv (DI x :: stk)) : dm_W Y cs ss st pc lv (stk) := by
  obtain ⟨⟨p, l, e, R, s⟩, ⟨m, args, below, meth, c⟩, ⟨D, dA, A0, nL, Q⟩⟩ := Y
  exact fun H locs ls hS hl => lv_iload C.1 C.2.1 hd (dm_at ‹_› pos ‹_›) (k H locs ls hS ‹_›)
theorem r_lload_n {q : Fin 4} {i : Nat} {x : Int64} (C : dm_C Y cc own rm) (hd : decode cc pc = .ok (.lload_n q, 1)) (hi : (q : Nat) = i) (pos : Nat) (hl : lv[pos]? = some (i, DL x)) (k : dm_W Y cs ss st (pc + 1) lv (DL x :: stk)) : dm_W Y cs ss st pc lv (stk) := by
  obtain ⟨⟨p, l, e, R, s⟩, ⟨m, args, below, meth, c⟩, ⟨D, dA, A0, nL, Q⟩⟩ := Y
  exact fun H locs ls hS hl => lv_lload_n C.1 C.2.1 hd hi (dm_at ‹_› pos ‹_›) (k H locs ls hS ‹_›)
theorem r_lload {i : Nat} {x : Int64} (C : dm_C Y cc own rm) (hd : decode cc pc = .ok (.lload i, 2)) (pos : Nat) (hl : lv[pos]? = some (i, DL x)) (k : dm_W Y cs ss st (pc + 2) lv (DL x :: stk)) : dm_W Y cs ss st pc lv (stk) := by
  obtain ⟨⟨p, l, e, R, s⟩, ⟨m, args, below, meth, c⟩, ⟨D, dA, A0, nL, Q⟩⟩ := Y
  exact fun H locs ls hS hl => lv_lload C.1 C.2.1 hd (dm_at ‹_› pos ‹_›) (k H locs ls hS ‹_›)
theorem r_dload_n {q : Fin 4} {i : Nat} {x : UInt64} (C : dm_C Y cc own rm) (hd : decode cc pc = .ok (.dload_n q, 1)) (hi : (q : Nat) = i) (pos : Nat) (hl : lv[pos]? = some (i, DD x)) (k : dm_W Y cs ss st (pc + 1) lv (DD x :: stk)) : dm_W Y cs ss st pc lv (stk) := by
  obtain ⟨⟨p, l, e, R, s⟩, ⟨m, args, below, meth, c⟩, ⟨D, dA, A0, nL, Q⟩⟩ := Y
  exact fun H locs ls hS hl => lv_dload_n C.1 C.2.1 hd hi (dm_at ‹_› pos ‹_›) (k H locs ls hS ‹_›)
theorem r_dload {i : Nat} {x : UInt64} (C : dm_C Y cc own rm) (hd : decode cc pc = .ok (.dload i, 2)) (pos : Nat) (hl : lv[pos]? = some (i, DD x)) (k : dm_W Y cs ss st (pc + 2) lv (DD x :: stk)) : dm_W Y cs ss st pc lv (stk) := by
  obtain ⟨⟨p, l, e, R, s⟩, ⟨m, args, below, meth, c⟩, ⟨D, dA, A0, nL, Q⟩⟩ := Y
  exact fun H locs ls hS hl => lv_dload C.1 C.2.1 hd (dm_at ‹_› pos ‹_›) (k H locs ls hS ‹_›)
theorem r_aload_n {q : Fin 4} {i : Nat} {x : Option Nat} (C : dm_C Y cc own rm) (hd : decode cc pc = .ok (.aload_n q, 1)) (hi : (q : Nat) = i) (pos : Nat) (hv : lv[pos]? = some (i, DR x)) (k : dm_W Y cs ss st (pc + 1) lv (DR x :: stk)) : dm_W Y cs ss st pc lv (stk) := by
  obtain ⟨⟨p, l, e, R, s⟩, ⟨m, args, below, meth, c⟩, ⟨D, dA, A0, nL, Q⟩⟩ := Y
  exact fun H locs ls hS hl => by
    cases x with
    | none => exact lv_aload_nN C.1 C.2.1 hd hi (dm_at hl pos hv) (k H locs ls hS hl)
    | some a => exact lv_aload_n C.1 C.2.1 hd hi (dm_at hl pos hv) (k H locs ls hS hl)
theorem r_aload {i : Nat} {x : Option Nat} (C : dm_C Y cc own rm) (hd : decode cc pc = .ok (.aload i, 2)) (pos : Nat) (hv : lv[pos]? = some (i, DR x)) (k : dm_W Y cs ss st (pc + 2) lv (DR x :: stk)) : dm_W Y cs ss st pc lv (stk) := by
  obtain ⟨⟨p, l, e, R, s⟩, ⟨m, args, below, meth, c⟩, ⟨D, dA, A0, nL, Q⟩⟩ := Y
  exact fun H locs ls hS hl => by
    cases x with
    | none => exact lv_aloadN C.1 C.2.1 hd (dm_at hl pos hv) (k H locs ls hS hl)
    | some a => exact lv_aload C.1 C.2.1 hd (dm_at hl pos hv) (k H locs ls hS hl)
def dm_N (Y : DY) (n : Nat) : Prop := Y.2.2.2.2.2.1 = n
theorem r_istore_n {q : Fin 4} {i : Nat} {x : Int32} {nL : Nat} (C : dm_C Y cc own rm) (hm : dm_N Y nL) (hd : decode cc pc = .ok (.istore_n q, 1)) (hi : (q : Nat) = i) (hn : i < nL) (hs : dm_set1 lv i (DI x) = lv') (k : dm_W Y cs ss st (pc + 1) lv' stk) : dm_W Y cs ss st pc lv (DI x :: stk) := by
  obtain ⟨⟨p, l, e, R, s⟩, ⟨m, args, below, meth, c⟩, ⟨D, dA, A0, nL, Q⟩⟩ := Y
  have hm : nL = _ := hm
  subst hm
  exact fun H locs ls hS hl => lv_istore_n C.1 C.2.1 hd hi hl hn (dm_set1_lv hs) (fun ls hl => k H locs ls hS hl)
theorem r_istore {i : Nat} {x : Int32} {nL : Nat} (C : dm_C Y cc own rm) (hm : dm_N Y nL) (hd : decode cc pc = .ok (.istore i, 2)) (hn : i < nL) (hs : dm_set1 lv i (DI x) = lv') (k : dm_W Y cs ss st (pc + 2) lv' stk) : dm_W Y cs ss st pc lv (DI x :: stk) := by
  obtain ⟨⟨p, l, e, R, s⟩, ⟨m, args, below, meth, c⟩, ⟨D, dA, A0, nL, Q⟩⟩ := Y
  have hm : nL = _ := hm
  subst hm
  exact fun H locs ls hS hl => lv_istore C.1 C.2.1 hd hl hn (dm_set1_lv hs) (fun ls hl => k H locs ls hS hl)
theorem r_lstore_n {q : Fin 4} {i : Nat} {x : Int64} {nL : Nat} (C : dm_C Y cc own rm) (hm : dm_N Y nL) (hd : decode cc pc = .ok (.lstore_n q, 1)) (hi : (q : Nat) = i) (hn : i + 1 < nL) (hs : dm_set2 lv i (DL x) = lv') (k : dm_W Y cs ss st (pc + 1) lv' stk) : dm_W Y cs ss st pc lv (DL x :: stk) := by
  obtain ⟨⟨p, l, e, R, s⟩, ⟨m, args, below, meth, c⟩, ⟨D, dA, A0, nL, Q⟩⟩ := Y
  have hm : nL = _ := hm
  subst hm
  exact fun H locs ls hS hl => lv_lstore_n C.1 C.2.1 hd hi hl hn (dm_set2_lv hs) (fun ls hl => k H locs ls hS hl)
theorem r_lstore {i : Nat} {x : Int64} {nL : Nat} (C : dm_C Y cc own rm) (hm : dm_N Y nL) (hd : decode cc pc = .ok (.lstore i, 2)) (hn : i + 1 < nL) (hs : dm_set2 lv i (DL x) = lv') (k : dm_W Y cs ss st (pc + 2) lv' stk) : dm_W Y cs ss st pc lv (DL x :: stk) := by
  obtain ⟨⟨p, l, e, R, s⟩, ⟨m, args, below, meth, c⟩, ⟨D, dA, A0, nL, Q⟩⟩ := Y
  have hm : nL = _ := hm
  subst hm
  exact fun H locs ls hS hl => lv_lstore C.1 C.2.1 hd hl hn (dm_set2_lv hs) (fun ls hl => k H locs ls hS hl)
theorem r_dstore_n {q : Fin 4} {i : Nat} {x : UInt64} {nL : Nat} (C : dm_C Y cc own rm) (hm : dm_N Y nL) (hd : decode cc pc = .ok (.dstore_n q, 1)) (hi : (q : Nat) = i) (hn : i + 1 < nL) (hs : dm_set2 lv i (DD x) = lv') (k : dm_W Y cs ss st (pc + 1) lv' stk) : dm_W Y cs ss st pc lv (DD x :: stk) := by
  obtain ⟨⟨p, l, e, R, s⟩, ⟨m, args, below, meth, c⟩, ⟨D, dA, A0, nL, Q⟩⟩ := Y
  have hm : nL = _ := hm
  subst hm
  exact fun H locs ls hS hl => lv_dstore_n C.1 C.2.1 hd hi hl hn (dm_set2_lv hs) (fun ls hl => k H locs ls hS hl)
theorem r_dstore {i : Nat} {x : UInt64} {nL : Nat} (C : dm_C Y cc own rm) (hm : dm_N Y nL) (hd : decode cc pc = .ok (.dstore i, 2)) (hn : i + 1 < nL) (hs : dm_set2 lv i (DD x) = lv') (k : dm_W Y cs ss st (pc + 2) lv' stk) : dm_W Y cs ss st pc lv (DD x :: stk) := by
  obtain ⟨⟨p, l, e, R, s⟩, ⟨m, args, below, meth, c⟩, ⟨D, dA, A0, nL, Q⟩⟩ := Y
  have hm : nL = _ := hm
  subst hm
  exact fun H locs ls hS hl => lv_dstore C.1 C.2.1 hd hl hn (dm_set2_lv hs) (fun ls hl => k H locs ls hS hl)
theorem r_astore_n {q : Fin 4} {i : Nat} {x : Option Nat} {nL : Nat} (C : dm_C Y cc own rm) (hm : dm_N Y nL) (hd : decode cc pc = .ok (.astore_n q, 1)) (hi : (q : Nat) = i) (hn : i < nL) (hs : dm_set1 lv i (DR x) = lv') (k : dm_W Y cs ss st (pc + 1) lv' stk) : dm_W Y cs ss st pc lv (DR x :: stk) := by
  obtain ⟨⟨p, l, e, R, s⟩, ⟨m, args, below, meth, c⟩, ⟨D, dA, A0, nL, Q⟩⟩ := Y
  have hm : nL = _ := hm
  subst hm
  exact fun H locs ls hS hl => by
    cases x with
    | none => exact lv_astore_nN C.1 C.2.1 hd hi hl hn (dm_set1_lv hs) (fun ls hl => k H locs ls hS hl)
    | some a => exact lv_astore_n C.1 C.2.1 hd hi hl hn (dm_set1_lv hs) (fun ls hl => k H locs ls hS hl)
theorem r_astore {i : Nat} {x : Option Nat} {nL : Nat} (C : dm_C Y cc own rm) (hm : dm_N Y nL) (hd : decode cc pc = .ok (.astore i, 2)) (hn : i < nL) (hs : dm_set1 lv i (DR x) = lv') (k : dm_W Y cs ss st (pc + 2) lv' stk) : dm_W Y cs ss st pc lv (DR x :: stk) := by
  obtain ⟨⟨p, l, e, R, s⟩, ⟨m, args, below, meth, c⟩, ⟨D, dA, A0, nL, Q⟩⟩ := Y
  have hm : nL = _ := hm
  subst hm
  exact fun H locs ls hS hl => by
    cases x with
    | none => exact lv_astoreN C.1 C.2.1 hd hl hn (dm_set1_lv hs) (fun ls hl => k H locs ls hS hl)
    | some a => exact lv_astore C.1 C.2.1 hd hl hn (dm_set1_lv hs) (fun ls hl => k H locs ls hS hl)
theorem r_iinc {i nL pos : Nat} {n : Int} {x v : Int32} (C : dm_C Y cc own rm) (hm : dm_N Y nL) (hd : decode cc pc = .ok (.iinc i n, 3)) (hv : lv[pos]? = some (i, DI x)) (he : x + Int32.ofInt n = v) (hn : i < nL) (hs : dm_set1 lv i (DI v) = lv') (k : dm_W Y cs ss st (pc + 3) lv' stk) : dm_W Y cs ss st pc lv stk := by
  obtain ⟨⟨p, l, e, R, s⟩, ⟨m, args, below, meth, c⟩, ⟨D, dA, A0, nL, Q⟩⟩ := Y
  have hm : nL = _ := hm
  subst hm
  exact fun H locs ls hS hl => lv_iinc C.1 C.2.1 hd hl (k := pos) (by unfold dm_lv; rw [List.getElem?_map, hv]; rfl) he hn (dm_set1_lv hs) (fun ls hl => k H locs ls hS hl)
theorem r_icmp_eq {x y : Int32} {off : Int} {tgt : Nat} (C : dm_C Y cc own rm) (hd : decode cc pc = .ok (.if_icmp .eq off, 3)) (ht : (pc : Int) + off = (tgt : Int)) (kt : x = y → dm_W Y cs ss st tgt lv stk) (kf : ¬ x = y → dm_W Y cs ss st (pc + 3) lv stk) : dm_W Y cs ss st pc lv (DI y :: DI x :: stk) := by
  obtain ⟨⟨p, l, e, R, s⟩, ⟨m, args, below, meth, c⟩, ⟨D, dA, A0, nL, Q⟩⟩ := Y
  exact fun H locs ls hS hl => lv_icmp_eq C.1 C.2.1 hd ht (fun h => kt h H locs ls hS hl) (fun h => kf h H locs ls hS hl)
theorem r_if_eq {x : Int32} {off : Int} {tgt : Nat} (C : dm_C Y cc own rm) (hd : decode cc pc = .ok (.ifCond .eq off, 3)) (ht : (pc : Int) + off = (tgt : Int)) (kt : x = 0 → dm_W Y cs ss st tgt lv stk) (kf : ¬ x = 0 → dm_W Y cs ss st (pc + 3) lv stk) : dm_W Y cs ss st pc lv (DI x :: stk) := by
  obtain ⟨⟨p, l, e, R, s⟩, ⟨m, args, below, meth, c⟩, ⟨D, dA, A0, nL, Q⟩⟩ := Y
  exact fun H locs ls hS hl => lv_if_eq C.1 C.2.1 hd ht (fun h => kt h H locs ls hS hl) (fun h => kf h H locs ls hS hl)
theorem r_icmp_ne {x y : Int32} {off : Int} {tgt : Nat} (C : dm_C Y cc own rm) (hd : decode cc pc = .ok (.if_icmp .ne off, 3)) (ht : (pc : Int) + off = (tgt : Int)) (kt : ¬ x = y → dm_W Y cs ss st tgt lv stk) (kf : x = y → dm_W Y cs ss st (pc + 3) lv stk) : dm_W Y cs ss st pc lv (DI y :: DI x :: stk) := by
  obtain ⟨⟨p, l, e, R, s⟩, ⟨m, args, below, meth, c⟩, ⟨D, dA, A0, nL, Q⟩⟩ := Y
  exact fun H locs ls hS hl => lv_icmp_ne C.1 C.2.1 hd ht (fun h => kt h H locs ls hS hl) (fun h => kf h H locs ls hS hl)
theorem r_if_ne {x : Int32} {off : Int} {tgt : Nat} (C : dm_C Y cc own rm) (hd : decode cc pc = .ok (.ifCond .ne off, 3)) (ht : (pc : Int) + off = (tgt : Int)) (kt : ¬ x = 0 → dm_W Y cs ss st tgt lv stk) (kf : x = 0 → dm_W Y cs ss st (pc + 3) lv stk) : dm_W Y cs ss st pc lv (DI x :: stk) := by
  obtain ⟨⟨p, l, e, R, s⟩, ⟨m, args, below, meth, c⟩, ⟨D, dA, A0, nL, Q⟩⟩ := Y
  exact fun H locs ls hS hl => lv_if_ne C.1 C.2.1 hd ht (fun h => kt h H locs ls hS hl) (fun h => kf h H locs ls hS hl)
theorem r_icmp_lt {x y : Int32} {off : Int} {tgt : Nat} (C : dm_C Y cc own rm) (hd : decode cc pc = .ok (.if_icmp .lt off, 3)) (ht : (pc : Int) + off = (tgt : Int)) (kt : x < y → dm_W Y cs ss st tgt lv stk) (kf : ¬ x < y → dm_W Y cs ss st (pc + 3) lv stk) : dm_W Y cs ss st pc lv (DI y :: DI x :: stk) := by
  obtain ⟨⟨p, l, e, R, s⟩, ⟨m, args, below, meth, c⟩, ⟨D, dA, A0, nL, Q⟩⟩ := Y
  exact fun H locs ls hS hl => lv_icmp_lt C.1 C.2.1 hd ht (fun h => kt h H locs ls hS hl) (fun h => kf h H locs ls hS hl)
theorem r_if_lt {x : Int32} {off : Int} {tgt : Nat} (C : dm_C Y cc own rm) (hd : decode cc pc = .ok (.ifCond .lt off, 3)) (ht : (pc : Int) + off = (tgt : Int)) (kt : x < 0 → dm_W Y cs ss st tgt lv stk) (kf : ¬ x < 0 → dm_W Y cs ss st (pc + 3) lv stk) : dm_W Y cs ss st pc lv (DI x :: stk) := by
  obtain ⟨⟨p, l, e, R, s⟩, ⟨m, args, below, meth, c⟩, ⟨D, dA, A0, nL, Q⟩⟩ := Y
  exact fun H locs ls hS hl => lv_if_lt C.1 C.2.1 hd ht (fun h => kt h H locs ls hS hl) (fun h => kf h H locs ls hS hl)
theorem r_icmp_ge {x y : Int32} {off : Int} {tgt : Nat} (C : dm_C Y cc own rm) (hd : decode cc pc = .ok (.if_icmp .ge off, 3)) (ht : (pc : Int) + off = (tgt : Int)) (kt : y ≤ x → dm_W Y cs ss st tgt lv stk) (kf : ¬ y ≤ x → dm_W Y cs ss st (pc + 3) lv stk) : dm_W Y cs ss st pc lv (DI y :: DI x :: stk) := by
  obtain ⟨⟨p, l, e, R, s⟩, ⟨m, args, below, meth, c⟩, ⟨D, dA, A0, nL, Q⟩⟩ := Y
  exact fun H locs ls hS hl => lv_icmp_ge C.1 C.2.1 hd ht (fun h => kt h H locs ls hS hl) (fun h => kf h H locs ls hS hl)
theorem r_if_ge {x : Int32} {off : Int} {tgt : Nat} (C : dm_C Y cc own rm) (hd : decode cc pc = .ok (.ifCond .ge off, 3)) (ht : (pc : Int) + off = (tgt : Int)) (kt : 0 ≤ x → dm_W Y cs ss st tgt lv stk) (kf : ¬ 0 ≤ x → dm_W Y cs ss st (pc + 3) lv stk) : dm_W Y cs ss st pc lv (DI x :: stk) := by
  obtain ⟨⟨p, l, e, R, s⟩, ⟨m, args, below, meth, c⟩, ⟨D, dA, A0, nL, Q⟩⟩ := Y
  exact fun H locs ls hS hl => lv_if_ge C.1 C.2.1 hd ht (fun h => kt h H locs ls hS hl) (fun h => kf h H locs ls hS hl)
theorem r_icmp_gt {x y : Int32} {off : Int} {tgt : Nat} (C : dm_C Y cc own rm) (hd : decode cc pc = .ok (.if_icmp .gt off, 3)) (ht : (pc : Int) + off = (tgt : Int)) (kt : y < x → dm_W Y cs ss st tgt lv stk) (kf : ¬ y < x → dm_W Y cs ss st (pc + 3) lv stk) : dm_W Y cs ss st pc lv (DI y :: DI x :: stk) := by
  obtain ⟨⟨p, l, e, R, s⟩, ⟨m, args, below, meth, c⟩, ⟨D, dA, A0, nL, Q⟩⟩ := Y
  exact fun H locs ls hS hl => lv_icmp_gt C.1 C.2.1 hd ht (fun h => kt h H locs ls hS hl) (fun h => kf h H locs ls hS hl)
theorem r_if_gt {x : Int32} {off : Int} {tgt : Nat} (C : dm_C Y cc own rm) (hd : decode cc pc = .ok (.ifCond .gt off, 3)) (ht : (pc : Int) + off = (tgt : Int)) (kt : 0 < x → dm_W Y cs ss st tgt lv stk) (kf : ¬ 0 < x → dm_W Y cs ss st (pc + 3) lv stk) : dm_W Y cs ss st pc lv (DI x :: stk) := by
  obtain ⟨⟨p, l, e, R, s⟩, ⟨m, args, below, meth, c⟩, ⟨D, dA, A0, nL, Q⟩⟩ := Y
  exact fun H locs ls hS hl => lv_if_gt C.1 C.2.1 hd ht (fun h => kt h H locs ls hS hl) (fun h => kf h H locs ls hS hl)
theorem r_icmp_le {x y : Int32} {off : Int} {tgt : Nat} (C : dm_C Y cc own rm) (hd : decode cc pc = .ok (.if_icmp .le off, 3)) (ht : (pc : Int) + off = (tgt : Int)) (kt : x ≤ y → dm_W Y cs ss st tgt lv stk) (kf : ¬ x ≤ y → dm_W Y cs ss st (pc + 3) lv stk) : dm_W Y cs ss st pc lv (DI y :: DI x :: stk) := by
  obtain ⟨⟨p, l, e, R, s⟩, ⟨m, args, below, meth, c⟩, ⟨D, dA, A0, nL, Q⟩⟩ := Y
  exact fun H locs ls hS hl => lv_icmp_le C.1 C.2.1 hd ht (fun h => kt h H locs ls hS hl) (fun h => kf h H locs ls hS hl)
theorem r_if_le {x : Int32} {off : Int} {tgt : Nat} (C : dm_C Y cc own rm) (hd : decode cc pc = .ok (.ifCond .le off, 3)) (ht : (pc : Int) + off = (tgt : Int)) (kt : x ≤ 0 → dm_W Y cs ss st tgt lv stk) (kf : ¬ x ≤ 0 → dm_W Y cs ss st (pc + 3) lv stk) : dm_W Y cs ss st pc lv (DI x :: stk) := by
  obtain ⟨⟨p, l, e, R, s⟩, ⟨m, args, below, meth, c⟩, ⟨D, dA, A0, nL, Q⟩⟩ := Y
  exact fun H locs ls hS hl => lv_if_le C.1 C.2.1 hd ht (fun h => kt h H locs ls hS hl) (fun h => kf h H locs ls hS hl)
theorem r_ifnull {r : Option Nat} {off : Int} {tgt : Nat} (C : dm_C Y cc own rm) (hd : decode cc pc = .ok (.ifnull off, 3)) (ht : (pc : Int) + off = (tgt : Int)) (kt : r = none → dm_W Y cs ss st tgt lv stk) (kf : ∀ a, r = some a → dm_W Y cs ss st (pc + 3) lv stk) : dm_W Y cs ss st pc lv (DR r :: stk) := by
  obtain ⟨⟨p, l, e, R, s⟩, ⟨m, args, below, meth, c⟩, ⟨D, dA, A0, nL, Q⟩⟩ := Y
  cases r with
  | none => exact fun H locs ls hS hl => lv_ifnullN C.1 C.2.1 hd ht (kt rfl H locs ls hS hl)
  | some a => exact fun H locs ls hS hl => lv_ifnull C.1 C.2.1 hd (kf a rfl H locs ls hS hl)
theorem r_ifnonnull {r : Option Nat} {off : Int} {tgt : Nat} (C : dm_C Y cc own rm) (hd : decode cc pc = .ok (.ifnonnull off, 3)) (ht : (pc : Int) + off = (tgt : Int)) (kt : ∀ a, r = some a → dm_W Y cs ss st tgt lv stk) (kf : r = none → dm_W Y cs ss st (pc + 3) lv stk) : dm_W Y cs ss st pc lv (DR r :: stk) := by
  obtain ⟨⟨p, l, e, R, s⟩, ⟨m, args, below, meth, c⟩, ⟨D, dA, A0, nL, Q⟩⟩ := Y
  cases r with
  | none => exact fun H locs ls hS hl => lv_ifnonnullN C.1 C.2.1 hd (kf rfl H locs ls hS hl)
  | some a => exact fun H locs ls hS hl => lv_ifnonnull C.1 C.2.1 hd ht (kt a rfl H locs ls hS hl)
theorem r_goto {off : Int} {tgt : Nat} (C : dm_C Y cc own rm) (hd : decode cc pc = .ok (.goto off, 3)) (ht : (pc : Int) + off = (tgt : Int)) (k : dm_W Y cs ss st tgt lv stk) : dm_W Y cs ss st pc lv stk := by
  obtain ⟨⟨p, l, e, R, s⟩, ⟨m, args, below, meth, c⟩, ⟨D, dA, A0, nL, Q⟩⟩ := Y
  exact fun H locs ls hS hl => lv_goto C.1 C.2.1 hd ht (k H locs ls hS hl)
theorem r_tswIn {dflt lo hi : Int} {offs : Array Int} {len : Nat} {x : Int32} {off : Int} {tgt : Nat} (C : dm_C Y cc own rm) (hd : decode cc pc = .ok (.tableswitch dflt lo hi offs, len)) (h1 : ¬ x.toInt < lo) (h2 : ¬ hi < x.toInt) (ho : offs[(x.toInt - lo).toNat]? = some off) (ht : (pc : Int) + off = (tgt : Int)) (k : dm_W Y cs ss st tgt lv stk) : dm_W Y cs ss st pc lv (DI x :: stk) := by
  obtain ⟨⟨p, l, e, R, s⟩, ⟨m, args, below, meth, c⟩, ⟨D, dA, A0, nL, Q⟩⟩ := Y
  exact fun H locs ls hS hl => lv_tableIn C.1 C.2.1 hd h1 h2 ho ht (k H locs ls hS hl)
theorem r_tswOut {dflt lo hi : Int} {offs : Array Int} {len : Nat} {x : Int32} {tgt : Nat} (C : dm_C Y cc own rm) (hd : decode cc pc = .ok (.tableswitch dflt lo hi offs, len)) (h : x.toInt < lo ∨ hi < x.toInt) (ht : (pc : Int) + dflt = (tgt : Int)) (k : dm_W Y cs ss st tgt lv stk) : dm_W Y cs ss st pc lv (DI x :: stk) := by
  obtain ⟨⟨p, l, e, R, s⟩, ⟨m, args, below, meth, c⟩, ⟨D, dA, A0, nL, Q⟩⟩ := Y
  exact fun H locs ls hS hl => lv_tableOut C.1 C.2.1 hd h ht (k H locs ls hS hl)
theorem dm_out {x : Int32} {n : Nat} (hn : n < 1000) (h : ∀ k, k < n → ¬ x = nI k) : x.toInt < 0 ∨ ((n : Int) - 1) < x.toInt := by
  rcases Int.lt_or_le x.toInt 0 with q | q
  · exact Or.inl q
  · refine Or.inr ?_
    rcases Int.lt_or_le ((n : Int) - 1) x.toInt with r | r
    · exact r
    · refine absurd ?_ (h x.toInt.toNat (by omega))
      rw [← Int32.toInt_inj, nI_toInt (by omega)]
      omega
theorem r_ldc2 {index : Nat} {v : Int64} (C : dm_C Y cc own rm) (hw : Cond.constantLong own index v ∈ WALL) (hd : decode cc pc = .ok (.ldc2_w index, 3)) (k : dm_W Y cs ss st (pc + 3) lv (DL v :: stk)) : dm_W Y cs ss st pc lv stk := by
  obtain ⟨⟨p, l, e, R, s⟩, ⟨m, args, below, meth, c⟩, ⟨D, dA, A0, nL, Q⟩⟩ := Y
  obtain ⟨hx, hb, hml, hown, hts, -⟩ := C
  exact fun H locs ls hS hl => lv_ldc2 hx hb hown (hts _ hw) hd (k H locs ls hS hl)
end DRULES
end
section
section DHEAP
variable {Y : DY} {cc : ByteArray} {own : String} {rm : Room} {cs ss pc : Nat} {st st1 : DSt} {lv : List (Nat × DV)} {stk : List DV}
def dm_CF (C : String) (T : u_T) (N ci : Nat) (ty : Nat → FieldType) : Prop := (∀ w ∈ u_ws C T N, w ∈ WALL) ∧ (∀ k, k < N → parseFieldDescriptor (T k).2.2.1 = some (ty k)) ∧ (∀ a, a < N → ∀ b, b < N → a ≠ b → (T a).2.1 ≠ (T b).2.1) ∧ vwCl[ci]? = some (C, T, N)
theorem dm_P1 {D : va_G} {a : Nat} {e : va_E} {H : Heap} (h : va_at D vwCl (a, e) H) : va_P D vwCl [(a, e)] H := fun k q hk => by
  cases k with
  | zero => cases hk; exact h
  | succ k => cases hk
theorem r_getV {C : String} {T : u_T} {N ci : Nat} {ty : Nat → FieldType} (CF : dm_CF C T N ci ty) {r : Option Nat} {k idx : Nat} {v : DV} (Cx : dm_C Y cc own rm) (hk : k < N) (hw : Cond.fieldLink own idx (T k).1 (T k).2.1 (T k).2.2.1 ∈ WALL) (hd : decode cc pc = .ok (.getfield idx, 3)) (hv : gV st r ci k = some v) (kk : dm_W Y cs ss st (pc + 3) lv (v :: stk)) : dm_W Y cs ss st pc lv (DR r :: stk) := by
  obtain ⟨⟨p, l, e, R, s⟩, ⟨m, args, below, meth, c⟩, ⟨D, dA, A0, nL, Q⟩⟩ := Y
  obtain ⟨hx, hb, hml, hown, hts, hK, -⟩ := Cx
  obtain ⟨⟨a, fs⟩, hq, hu⟩ := ob hv
  clear hv
  have hv := hu
  clear hu
  obtain ⟨rfl, hst⟩ := gO_spec hq
  have hv : fs[k]? = some v := hv
  have hts' : ∀ w ∈ u_ws C T N, w.before args s = true := fun w hw => hts w (CF.1 w hw)
  intro H locs ls hS hl
  exact va_get (D := D) (ci := ci) (v := dm_v v) (C := C) (T := T) (N := N) (Ts := WALL) (fs := fs.map dm_v) hx hb hts CF.1 hown hK (dm_P1 (hS.1 _ _ hst)) 0 rfl CF.2.2.2 k hk (hts _ hw) (fun _ h => h) (by rw [List.getElem?_map, hv]; rfl) hd (kk H locs ls hS hl)
theorem r_getI {C : String} {T : u_T} {N ci : Nat} {ty : Nat → FieldType} (CF : dm_CF C T N ci ty) {r : Option Nat} {k idx : Nat} {v : Int32} (Cx : dm_C Y cc own rm) (hk : k < N) (hw : Cond.fieldLink own idx (T k).1 (T k).2.1 (T k).2.2.1 ∈ WALL) (hd : decode cc pc = .ok (.getfield idx, 3)) (hv : gI st r ci k = some v) (kk : dm_W Y cs ss st (pc + 3) lv (DI v :: stk)) : dm_W Y cs ss st pc lv (DR r :: stk) := by
  obtain ⟨z, h1, h2⟩ := ob hv
  have h2 := asI_spec h2
  subst h2
  exact r_getV CF Cx hk hw hd h1 kk
theorem r_getR {C : String} {T : u_T} {N ci : Nat} {ty : Nat → FieldType} (CF : dm_CF C T N ci ty) {r : Option Nat} {k idx : Nat} {v : Option Nat} (Cx : dm_C Y cc own rm) (hk : k < N) (hw : Cond.fieldLink own idx (T k).1 (T k).2.1 (T k).2.2.1 ∈ WALL) (hd : decode cc pc = .ok (.getfield idx, 3)) (hv : gR st r ci k = some v) (kk : dm_W Y cs ss st (pc + 3) lv (DR v :: stk)) : dm_W Y cs ss st pc lv (DR r :: stk) := by
  obtain ⟨z, h1, h2⟩ := ob hv
  have h2 := asR_spec h2
  subst h2
  exact r_getV CF Cx hk hw hd h1 kk
theorem dm_fr {t : FieldType} (h : (∃ n, t = .object n) ∨ ∃ u, t = .array u) (r : Option Nat) : narrow t (dm_v (DR r)) = dm_v (DR r) ∧ fits t (dm_v (DR r)) = true := by
  rcases h with ⟨n, rfl⟩ | ⟨u, rfl⟩ <;> cases r <;> exact ⟨rfl, rfl⟩
theorem r_put {C : String} {T : u_T} {N ci : Nat} {ty : Nat → FieldType} (CF : dm_CF C T N ci ty) {r : Option Nat} {k idx : Nat} {v : DV} (Cx : dm_C Y cc own rm) (hk : k < N) (hw : Cond.fieldLink own idx (T k).1 (T k).2.1 (T k).2.2.1 ∈ WALL) (hf : (T k).2.2.2 = false) (hn : narrow (ty k) (dm_v v) = dm_v v ∧ fits (ty k) (dm_v v) = true) (hd : decode cc pc = .ok (.putfield idx, 3)) (hv : pV st r ci k v = some st1) (kk : dm_W Y cs ss st1 (pc + 3) lv stk) : dm_W Y cs ss st pc lv (v :: DR r :: stk) := by
  obtain ⟨⟨p, l, e, R, s⟩, ⟨m, args, below, meth, c⟩, ⟨D, dA, A0, nL, Q⟩⟩ := Y
  obtain ⟨hx, hb, hml, hown, hts, hK, -⟩ := Cx
  obtain ⟨⟨a, fs⟩, hq, hu⟩ := ob hv
  clear hv
  have hv := hu
  clear hu
  obtain ⟨rfl, hst⟩ := gO_spec hq
  dsimp only at hv hst
  split at hv
  · rename_i hlen
    cases hv
    intro H locs ls ⟨hR, hsz, hdom, hva⟩ hl
    have hap := va_apart (own := own) hts CF.1 ty CF.2.1 CF.2.2.1 hK CF.2.2.2
    obtain ⟨r', h1, cell, q1, q2, q3, q4⟩ := hR _ _ hst
    have hr : r' = (C, T, N) := Option.some.inj (h1.symm.trans CF.2.2.2)
    subst hr
    obtain ⟨hS9, hfc, kC, hkC, hkind⟩ := hK.1 ci _ CF.2.2.2
    obtain ⟨cf, kf, fi, f, hi, hsl⟩ := hS9 k hk
    have hlay := hts _ (CF.1 _ (u_in_lay hk))
    unfold u_lay at hlay
    rw [if_neg (by rw [hf]; decide)] at hlay
    have hst9 := (u_facts hfc hkC (u_lays hts CF.1 hk) hi).1
    have h6 := u_store hfc hkC hkind hlay hi (CF.2.1 k hk) hn.1 hn.2
    refine W.putK hx hb (f := f) (v := dm_v v) ⟨hown, hts _ hw, ⟨_, _, _, hi⟩, hst9⟩ (by rw [q2]; exact h6) q1 q3 (by rw [hsl]; exact k2_hasslot (q4 k hk)) rfl rfl hd fun H' e1 e2 e3 => ?_
    rw [hsl] at e1
    refine kk H' _ ls ⟨hR.put e3 ⟨_, CF.2.2.2, t_OB.to (V := updV (vp_V (fs.map dm_v)) k (dm_v v)) ⟨_, e1, q2, q3, t_set q4 hap hk (dm_v v)⟩ (fun j _ => ?_)⟩, e2.trans hsz, dm_up_dom hdom (hdom _ _ hst), hva.put e2 e3 (hdom _ _ hst)⟩ hl
    show updV (vp_V (fs.map dm_v)) k (dm_v v) j = vp_V ((fs.set k v).map dm_v) j
    rw [List.map_set]
    exact vp_updV_set (by rw [List.length_map]; exact hlen) (dm_v v) j
  · cases hv
def dm_I (Y : DY) (own : String) : Prop := Y.2.1.2.2.2.1.name = "<init>"
theorem r_putF {C : String} {T : u_T} {N ci : Nat} {ty : Nat → FieldType} (CF : dm_CF C T N ci ty) {r : Option Nat} {k idx : Nat} {v : DV} (Cx : dm_C Y cc own rm) (hI : dm_I Y own) (hdecl : (T k).1 = own) (hk : k < N) (hw : Cond.fieldLink own idx (T k).1 (T k).2.1 (T k).2.2.1 ∈ WALL) (hf : (T k).2.2.2 = true) (hn : narrow (ty k) (dm_v v) = dm_v v ∧ fits (ty k) (dm_v v) = true) (hd : decode cc pc = .ok (.putfield idx, 3)) (hv : pV st r ci k v = some st1) (kk : dm_W Y cs ss st1 (pc + 3) lv stk) : dm_W Y cs ss st pc lv (v :: DR r :: stk) := by
  obtain ⟨⟨p, l, e, R, s⟩, ⟨m, args, below, meth, c⟩, ⟨D, dA, A0, nL, Q⟩⟩ := Y
  obtain ⟨hx, hb, hml, hown, hts, hK, -⟩ := Cx
  have hI : meth.name = "<init>" := hI
  obtain ⟨⟨a, fs⟩, hq, hu⟩ := ob hv
  clear hv
  have hv := hu
  clear hu
  obtain ⟨rfl, hst⟩ := gO_spec hq
  dsimp only at hv hst
  split at hv
  · rename_i hlen
    cases hv
    intro H locs ls ⟨hR, hsz, hdom, hva⟩ hl
    have hap := va_apart (own := own) hts CF.1 ty CF.2.1 CF.2.2.1 hK CF.2.2.2
    obtain ⟨r', h1, cell, q1, q2, q3, q4⟩ := hR _ _ hst
    have hr : r' = (C, T, N) := Option.some.inj (h1.symm.trans CF.2.2.2)
    subst hr
    obtain ⟨hS9, hfc, kC, hkC, hkind⟩ := hK.1 ci _ CF.2.2.2
    obtain ⟨cf, kf, fi, f, hi, hsl⟩ := hS9 k hk
    have hlay := hts _ (CF.1 _ (u_in_lay hk))
    unfold u_lay at hlay
    rw [if_pos hf] at hlay
    have hst9 := (u_facts hfc hkC (u_lays hts CF.1 hk) hi).1
    have hcf : m.cls = cf := by
      obtain ⟨_, _, c', _, _, _, -, -, hf', -, -, -, hown2, -⟩ := Cond.laysFinal_spec hlay
      have e1 : c' = cf := by have := hi.symm.trans hf'; simp at this; exact this.1.symm
      rw [hdecl] at hown2
      rw [← e1]; exact Option.some.inj (hown.symm.trans hown2)
    have h6 := u_fits hfc hkC hkind (Or.inr hlay) hi (CF.2.1 k hk) hn.1 hn.2
    refine W.putFinK hx hb hown (hts _ hw) hi hst9 hcf hI (v := dm_v v) (by rw [q2]; exact h6) q1 q3 (by rw [hsl]; exact k2_hasslot (q4 k hk)) rfl rfl hd fun H' e1 e2 e3 => ?_
    rw [hsl] at e1
    refine kk H' _ ls ⟨hR.put e3 ⟨_, CF.2.2.2, t_OB.to (V := updV (vp_V (fs.map dm_v)) k (dm_v v)) ⟨_, e1, q2, q3, t_set q4 hap hk (dm_v v)⟩ (fun j _ => ?_)⟩, e2.trans hsz, dm_up_dom hdom (hdom _ _ hst), hva.put e2 e3 (hdom _ _ hst)⟩ hl
    show updV (vp_V (fs.map dm_v)) k (dm_v v) j = vp_V ((fs.set k v).map dm_v) j
    rw [List.map_set]
    exact vp_updV_set (by rw [List.length_map]; exact hlen) (dm_v v) j
  · cases hv
/-! arrays -/
theorem r_iaload {r : Option Nat} {i x : Int32} (Cx : dm_C Y cc own rm) (hd : decode cc pc = .ok (.iaload, 1)) (hv : aI st r 0 i = some x) (kk : dm_W Y cs ss st (pc + 1) lv (DI x :: stk)) : dm_W Y cs ss st pc lv (DI i :: DR r :: stk) := by
  obtain ⟨⟨p, l, e, R, s⟩, ⟨m, args, below, meth, c⟩, ⟨D, dA, A0, nL, Q⟩⟩ := Y
  obtain ⟨hx, hb, hml, hown, hts, hK, -⟩ := Cx
  obtain ⟨⟨a, n, f⟩, hq, hu⟩ := ob hv
  clear hv
  have hv := hu
  clear hu
  obtain ⟨rfl, hst⟩ := gAI_spec hq
  dsimp only at hv hst
  split at hv
  · rename_i hin
    cases hv
    intro H locs ls hS hl
    exact va_iald hx hb hK (dm_P1 (hS.1 _ _ hst)) 0 0 (cA := dA 0) rfl rfl (inA_in hin) hd (kk H locs ls hS hl)
  · cases hv
theorem r_zaload {r : Option Nat} {i x : Int32} (Cx : dm_C Y cc own rm) (hd : decode cc pc = .ok (.baload, 1)) (hv : aI st r 1 i = some x) (kk : dm_W Y cs ss st (pc + 1) lv (DI x :: stk)) : dm_W Y cs ss st pc lv (DI i :: DR r :: stk) := by
  obtain ⟨⟨p, l, e, R, s⟩, ⟨m, args, below, meth, c⟩, ⟨D, dA, A0, nL, Q⟩⟩ := Y
  obtain ⟨hx, hb, hml, hown, hts, hK, -⟩ := Cx
  obtain ⟨⟨a, n, f⟩, hq, hu⟩ := ob hv
  clear hv
  have hv := hu
  clear hu
  obtain ⟨rfl, hst⟩ := gAI_spec hq
  dsimp only at hv hst
  split at hv
  · rename_i hin
    cases hv
    intro H locs ls hS hl
    exact va_zald hx hb hK (dm_P1 (hS.1 _ _ hst)) 0 1 (cA := dA 1) rfl rfl (inA_in hin) hd (kk H locs ls hS hl)
  · cases hv
theorem r_laload {r : Option Nat} {i : Int32} {x : Int64} (Cx : dm_C Y cc own rm) (hd : decode cc pc = .ok (.laload, 1)) (hv : aL st r 5 i = some x) (kk : dm_W Y cs ss st (pc + 1) lv (DL x :: stk)) : dm_W Y cs ss st pc lv (DI i :: DR r :: stk) := by
  obtain ⟨⟨p, l, e, R, s⟩, ⟨m, args, below, meth, c⟩, ⟨D, dA, A0, nL, Q⟩⟩ := Y
  obtain ⟨hx, hb, hml, hown, hts, hK, -⟩ := Cx
  obtain ⟨⟨a, n, f⟩, hq, hu⟩ := ob hv
  clear hv
  have hv := hu
  clear hu
  obtain ⟨rfl, hst⟩ := gAL_spec hq
  dsimp only at hv hst
  split at hv
  · rename_i hin
    cases hv
    intro H locs ls hS hl
    exact va_lald hx hb hK (dm_P1 (hS.1 _ _ hst)) 0 5 (cA := dA 5) rfl rfl (inA_in hin) hd (kk H locs ls hS hl)
  · cases hv
theorem r_aaload {r x : Option Nat} {i : Int32} {kd : Nat} {E : String} (ht : ∀ dA : Nat → ClassId, (dm_tys dA)[kd]? = some (dA kd, .object E)) (Cx : dm_C Y cc own rm) (hd : decode cc pc = .ok (.aaload, 1)) (hv : aR st r kd i = some x) (kk : dm_W Y cs ss st (pc + 1) lv (DR x :: stk)) : dm_W Y cs ss st pc lv (DI i :: DR r :: stk) := by
  obtain ⟨⟨p, l, e, R, s⟩, ⟨m, args, below, meth, c⟩, ⟨D, dA, A0, nL, Q⟩⟩ := Y
  obtain ⟨hx, hb, hml, hown, hts, hK, -⟩ := Cx
  obtain ⟨⟨a, n, f⟩, hq, hu⟩ := ob hv
  clear hv
  have hv := hu
  clear hu
  obtain ⟨rfl, hst⟩ := gAR_spec hq
  dsimp only at hv hst
  split at hv
  · rename_i hin
    cases hv
    intro H locs ls hS hl
    exact va_aldq hx hb hK (dm_P1 (hS.1 _ _ hst)) 0 kd (cA := dA kd) rfl (ht dA) (inA_in hin) hd (kk H locs ls hS hl)
  · cases hv
theorem dm_sin {cA : ClassId} {n : Nat} {x : vp_A} {f : Nat → Value} {i : Int32} (hx : vp_cell cA x = arrV cA n f) (h : vp_in i n) : ¬ (i < 0 ∨ (vp_cell cA x).slots.size ≤ i.toNatClampNeg) := by rw [hx, arrV_size]; exact h
theorem r_iastore {r : Option Nat} {i x : Int32} (Cx : dm_C Y cc own rm) (hd : decode cc pc = .ok (.iastore, 1)) (hv : sI st r 0 i x = some st1) (kk : dm_W Y cs ss st1 (pc + 1) lv stk) : dm_W Y cs ss st pc lv (DI x :: DI i :: DR r :: stk) := by
  obtain ⟨⟨p, l, e, R, s⟩, ⟨m, args, below, meth, c⟩, ⟨D, dA, A0, nL, Q⟩⟩ := Y
  obtain ⟨hx, hb, hml, hown, hts, hK, -⟩ := Cx
  obtain ⟨⟨a, n, f⟩, hq, hu⟩ := ob hv
  clear hv
  have hv := hu
  clear hu
  obtain ⟨rfl, hst⟩ := gAI_spec hq
  dsimp only at hv hst
  split at hv
  · rename_i hin
    cases hv
    intro H locs ls ⟨hR, hsz, hdom, hva⟩ hl
    have hc : H[a]? = some (vp_cell (dA 0) (n, .inl f)) := hR _ _ hst
    refine W.iast hx hb hc ((hK.2 0 (dA 0, .int) rfl).1 n (fun j => .int (f j))) (fun q => by cases q) (dm_sin (vp_cell_i _ _ _) (inA_in hin)) rfl rfl hd fun H1 e1 z oq => ?_
    refine kk H1 _ ls ⟨hR.put oq ?_, z.trans hsz, dm_up_dom hdom (hdom _ _ hst), hva.put z oq (hdom _ _ hst)⟩ hl
    show H1[a]? = some (vp_cell _ _)
    rw [e1, vp_cell_i, vp_cell_i, arrV_store]
    congr 2
    funext q
    by_cases hq : q = i.toNatClampNeg
    · subst hq
      simp [updV, upd]
    · simp [updV, upd, hq]
  · cases hv
theorem r_zastore {r : Option Nat} {i x : Int32} (Cx : dm_C Y cc own rm) (hd : decode cc pc = .ok (.bastore, 1)) (hv : sI st r 1 i (vp_nar .boolean x) = some st1) (kk : dm_W Y cs ss st1 (pc + 1) lv stk) : dm_W Y cs ss st pc lv (DI x :: DI i :: DR r :: stk) := by
  obtain ⟨⟨p, l, e, R, s⟩, ⟨m, args, below, meth, c⟩, ⟨D, dA, A0, nL, Q⟩⟩ := Y
  obtain ⟨hx, hb, hml, hown, hts, hK, -⟩ := Cx
  obtain ⟨⟨a, n, f⟩, hq, hu⟩ := ob hv
  clear hv
  have hv := hu
  clear hu
  obtain ⟨rfl, hst⟩ := gAI_spec hq
  dsimp only at hv hst
  split at hv
  · rename_i hin
    cases hv
    intro H locs ls ⟨hR, hsz, hdom, hva⟩ hl
    have hc : H[a]? = some (vp_cell (dA 1) (n, .inl f)) := hR _ _ hst
    refine W.zast hx hb hc ((hK.2 1 (dA 1, .boolean) rfl).1 n (fun j => .int (f j))) (fun q => by cases q) (dm_sin (vp_cell_i _ _ _) (inA_in hin)) rfl rfl hd fun H1 e1 z oq => ?_
    refine kk H1 _ ls ⟨hR.put oq ?_, z.trans hsz, dm_up_dom hdom (hdom _ _ hst), hva.put z oq (hdom _ _ hst)⟩ hl
    show H1[a]? = some (vp_cell _ _)
    rw [e1, vp_cell_i, vp_cell_i, arrV_store]
    congr 2
    funext q
    by_cases hq : q = i.toNatClampNeg
    · subst hq
      simp [updV, upd, vp_nar]
      try rfl
    · simp [updV, upd, hq]
  · cases hv
theorem r_lastore {r : Option Nat} {i : Int32} {x : Int64} (Cx : dm_C Y cc own rm) (hd : decode cc pc = .ok (.lastore, 1)) (hv : sL st r 5 i x = some st1) (kk : dm_W Y cs ss st1 (pc + 1) lv stk) : dm_W Y cs ss st pc lv (DL x :: DI i :: DR r :: stk) := by
  obtain ⟨⟨p, l, e, R, s⟩, ⟨m, args, below, meth, c⟩, ⟨D, dA, A0, nL, Q⟩⟩ := Y
  obtain ⟨hx, hb, hml, hown, hts, hK, -⟩ := Cx
  obtain ⟨⟨a, n, f⟩, hq, hu⟩ := ob hv
  clear hv
  have hv := hu
  clear hu
  obtain ⟨rfl, hst⟩ := gAL_spec hq
  dsimp only at hv hst
  split at hv
  · rename_i hin
    cases hv
    intro H locs ls ⟨hR, hsz, hdom, hva⟩ hl
    have hc : H[a]? = some (vp_cell (dA 5) (n, .inr (.inl f))) := hR _ _ hst
    refine W.last hx hb hc ((hK.2 5 (dA 5, .long) rfl).1 n (fun j => .long (f j))) (fun q => by cases q) (dm_sin (vp_cell_l _ _ _) (inA_in hin)) rfl rfl hd fun H1 e1 z oq => ?_
    refine kk H1 _ ls ⟨hR.put oq ?_, z.trans hsz, dm_up_dom hdom (hdom _ _ hst), hva.put z oq (hdom _ _ hst)⟩ hl
    show H1[a]? = some (vp_cell _ _)
    rw [e1, vp_cell_l, vp_cell_l, arrV_store]
    congr 2
    funext q
    by_cases hq : q = i.toNatClampNeg
    · subst hq
      simp [updV, vp_updL]
    · simp [updV, vp_updL, hq]
  · cases hv
theorem dm_cellq {H1 : Heap} {a n : Nat} {cA : ClassId} {f : Nat → Option Nat} {i : Int32} {v : Option Nat} (e1 : H1[a]? = some ((vp_cell cA (n, .inr (.inr (.inr (.inr f))))).setSlot i.toNatClampNeg (va_rf v))) : H1[a]? = some (vp_cell cA (n, .inr (.inr (.inr (.inr (va_up f i.toNatClampNeg v)))))) := by
  rw [e1, vp_cell_q, vp_cell_q, arrV_store]
  congr 2
  funext q
  by_cases hq : q = i.toNatClampNeg
  · subst hq
    simp [updV, va_up]
  · simp [updV, va_up, hq]
theorem r_aastore {r v : Option Nat} {i : Int32} {kd ci : Nat} {E : String} {T : u_T} {N : Nat} (ht : ∀ dA : Nat → ClassId, (dm_tys dA)[kd]? = some (dA kd, .object E)) (hc : vwCl[ci]? = some (E, T, N)) (Cx : dm_C Y cc own rm) (hd : decode cc pc = .ok (.aastore, 1)) (hv : sR st r kd ci i v = some st1) (kk : dm_W Y cs ss st1 (pc + 1) lv stk) : dm_W Y cs ss st pc lv (DR v :: DI i :: DR r :: stk) := by
  obtain ⟨⟨p, l, e, R, s⟩, ⟨m, args, below, meth, c⟩, ⟨D, dA, A0, nL, Q⟩⟩ := Y
  obtain ⟨hx, hb, hml, hown, hts, hK, -⟩ := Cx
  obtain ⟨⟨a, n, f⟩, hq, hu⟩ := ob hv
  clear hv
  have hv := hu
  clear hu
  obtain ⟨rfl, hst⟩ := gAR_spec hq
  dsimp only at hv hst
  split at hv
  · rename_i hin
    cases hv
    intro H locs ls ⟨hR, hsz, hdom, hva⟩ hl
    have hca : H[a]? = some (vp_cell (dA kd) (n, .inr (.inr (.inr (.inr f))))) := hR _ _ hst
    have hvi := inA_in hin.1
    have hlt : i.toNatClampNeg < n := Nat.not_le.mp fun q => hvi (Or.inr q)
    have h0 : ¬ i < 0 := fun q => hvi (Or.inl q)
    cases v with
    | none =>
      refine va_WaastN (C := E) hx hb hca ((hK.2 kd _ (ht dA)).1 n (fun j => va_rf (f j))) (fun q => by cases q) (dm_sin (vp_cell_q _ _ _) hvi) rfl rfl hd fun H1 e1 z oq => ?_
      exact kk H1 _ ls ⟨hR.put oq (dm_cellq (v := none) e1), z.trans hsz, dm_up_dom hdom (hdom _ _ hst), hva.put z oq (hdom _ _ hst)⟩ hl
    | some b =>
      obtain ⟨⟨b', vs⟩, hb'⟩ := Option.isSome_iff_exists.mp (show (gO st (some b) ci).isSome = true from hin.2)
      obtain ⟨hbb, hst2⟩ := gO_spec hb'
      cases hbb
      obtain ⟨r', hr', cellV, g1, g2, g3, -⟩ := hR _ _ hst2
      have hcls := (hK.1 ci _ hc).2
      obtain ⟨kA, comp, k1, k2, k3, -⟩ := (hK.2 kd _ (ht dA)).2
      have hcomp : comp = D.1 ci := Option.some.inj (k3.symm.trans hcls.1)
      subst hcomp
      obtain ⟨kC, hkC, -⟩ := id hcls.2
      have k1' : s.vm.classes[(vp_cell (dA kd) (n, .inr (.inr (.inr (.inr f))))).cls]? = some kA := k1
      refine W.aast hx hb hca (fun q h => by cases h) (fun h => by cases h) k1' k2 rfl hkC ⟨h0, by rw [vp_cell_q, arrV_size]; exact hlt⟩ g1 (fun q h => by rw [g3] at h; cases h) (by rw [g2]; exact hkC) (by rw [g2]; exact va_assign hcls) rfl rfl hd fun H1 e1 z oq => ?_
      exact kk H1 _ ls ⟨hR.put oq (dm_cellq (v := some b') e1), z.trans hsz, dm_up_dom hdom (hdom _ _ hst), hva.put z oq (hdom _ _ hst)⟩ hl
  · cases hv
theorem r_alen {r : Option Nat} {kd : Nat} {x : Int32} {t : FieldType} (ht : ∀ dA : Nat → ClassId, (dm_tys dA)[kd]? = some (dA kd, t)) (Cx : dm_C Y cc own rm) (hd : decode cc pc = .ok (.arraylength, 1)) (hv : aN st r kd = some x) (kk : dm_W Y cs ss st (pc + 1) lv (DI x :: stk)) : dm_W Y cs ss st pc lv (DR r :: stk) := by
  obtain ⟨⟨p, l, e, R, s⟩, ⟨m, args, below, meth, c⟩, ⟨D, dA, A0, nL, Q⟩⟩ := Y
  obtain ⟨hx, hb, hml, hown, hts, hK, -⟩ := Cx
  obtain ⟨⟨a, z⟩, hq, hu⟩ := ob hv
  clear hv
  have hv := hu
  clear hu
  obtain ⟨rfl, hst⟩ := gA_spec hq
  cases hv
  intro H locs ls hS hl
  exact va_alen hx hb hK (dm_P1 (hS.1 _ _ hst)) 0 kd (cA := dA kd) (x := z) rfl (ht dA) rfl hd (kk H locs ls hS hl)
/-! what is new -/
theorem r_new {C : String} {T : u_T} {N ci : Nat} {ty : Nat → FieldType} (CF : dm_CF C T N ci ty) {idx : Nat} {fs : List DV} (Cx : dm_C Y cc own rm) (w1 : Cond.classLink own idx C ∈ WALL) (w2 : Cond.instantiable C N ∈ WALL) (w3 : Cond.initialized C ∈ WALL) (hfs : ∀ j, j < N → defaultValue (ty j) = vp_V (fs.map dm_v) j) (hc : cs + 1 ≤ rm.cells ∧ ss + N ≤ rm.slots) (hd : decode cc pc = .ok (.new idx, 3)) (kk : dm_W Y (cs + 1) (ss + N) (nC st (.inr (ci, fs))) (pc + 3) lv (DR (some st.1) :: stk)) : dm_W Y cs ss st pc lv stk := by
  obtain ⟨⟨p, l, e, R, s⟩, ⟨m, args, below, meth, c⟩, ⟨D, dA, A0, nL, Q⟩⟩ := Y
  obtain ⟨hx, hb, hml, hown, hts, hK, hA, hRm, -⟩ := Cx
  subst hRm
  intro H locs ls ⟨hR, hsz, hdom, hva⟩ hl
  have hKn := hK.1 ci _ CF.2.2.2
  refine W.newcK hx hb hown (hts _ w1) (hts _ w2) (hts _ w3) rfl hd hc.1 hc.2 hKn.2.1 rfl fun H1 kC hkC e1 z1 o1 => ?_
  have hnew : va_at D vwCl (H.size, dm_cel dA (.inr (ci, fs))) H1 := ⟨_, CF.2.2.2, (u_born ty hts CF.1 hKn hkC e1 CF.2.1).to hfs⟩
  have hS1 : va_S A0 s.heap H1 locs := ⟨Nat.le_trans hva.1 (by omega), fun x h1 h2 => (o1 x (Nat.lt_of_lt_of_le h1 hva.1)).trans (hva.2.1 x h1 h2), hva.2.2⟩
  rw [hsz] at hnew ⊢
  refine kk H1 _ ls ⟨?_, by rw [z1, hsz]; rfl, dm_up_dom hdom (hA _ (by rw [← hsz]; exact hva.1)), hS1⟩ hl
  have := hR.new o1 (e := .inr (ci, fs)) (by rw [hsz]; exact hnew)
  rw [hsz] at this
  exact this
theorem r_newa {atype : ArrayType} {t : FieldType} {kd N : Nat} {n : Int32} {x : vp_A} (hty : newarray.typeOf atype = t) (ht : ∀ dA : Nat → ClassId, (dm_tys dA)[kd]? = some (dA kd, t)) (hnr : ∀ E, t ≠ .object E) (hxc : ∀ cA : ClassId, vp_cell cA x = arrV cA N (fun _ => defaultValue t)) (Cx : dm_C Y cc own rm) (w1 : Cond.arrayClass t ∈ WALL) (hn : ¬ n < 0) (hN : n.toNatClampNeg = N) (hb0 : N * componentBytes t ≤ 536870912) (hc : cs + 1 ≤ rm.cells ∧ ss + N ≤ rm.slots) (hd : decode cc pc = .ok (.newarray atype, 2)) (kk : dm_W Y (cs + 1) (ss + N) (nC st (.inl (kd, x))) (pc + 2) lv (DR (some st.1) :: stk)) : dm_W Y cs ss st pc lv (DI n :: stk) := by
  obtain ⟨⟨p, l, e, R, s⟩, ⟨m, args, below, meth, c⟩, ⟨D, dA, A0, nL, Q⟩⟩ := Y
  obtain ⟨hx, hb, hml, hown, hts, hK, hA, hRm, -⟩ := Cx
  subst hRm
  subst hty
  intro H locs ls ⟨hR, hsz, hdom, hva⟩ hl
  refine va_newaK hx hb (hts _ w1) (m := m) rfl hd rfl hn hN hb0 hc.1 hc.2 rfl fun H1 cA e1 z1 o1 hAr hNm => ?_
  have hcA : cA = dA kd := by
    have h9 := (hK.2 kd _ (ht dA)).2
    have h8 : s.vm.findClass ("[" ++ (newarray.typeOf atype).toString) = some (dA kd) := by
      cases atype <;> exact h9
    exact Option.some.inj (hNm.symm.trans h8)
  subst hcA
  have hnew : va_at D vwCl (H.size, dm_cel dA (.inl (kd, x))) H1 := by
    show H1[H.size]? = some (vp_cell (dA kd) x)
    rw [hxc]
    exact e1
  have hS1 : va_S A0 s.heap H1 locs := ⟨Nat.le_trans hva.1 (by omega), fun x h1 h2 => (o1 x (Nat.lt_of_lt_of_le h1 hva.1)).trans (hva.2.1 x h1 h2), hva.2.2⟩
  have h3 := hR.new o1 (e := .inl (kd, x)) hnew
  rw [hsz] at h3 ⊢
  exact kk H1 _ ls ⟨h3, by rw [z1, hsz]; rfl, dm_up_dom hdom (hA _ (by rw [← hsz]; exact hva.1)), hS1⟩ hl
theorem r_newq {E : String} {kd N idx : Nat} {n : Int32} (ht : ∀ dA : Nat → ClassId, (dm_tys dA)[kd]? = some (dA kd, .object E)) (Cx : dm_C Y cc own rm) (hE : E ∈ dm_arr) (w1 : Cond.classLink own idx E ∈ WALL) (hn : ¬ n < 0) (hN : n.toNatClampNeg = N) (hb0 : N * 4 ≤ 536870912) (hc : cs + 1 ≤ rm.cells ∧ ss + N ≤ rm.slots) (hd : decode cc pc = .ok (.anewarray idx, 3)) (kk : dm_W Y (cs + 1) (ss + N) (nC st (.inl (kd, nR0 N))) (pc + 3) lv (DR (some st.1) :: stk)) : dm_W Y cs ss st pc lv (DI n :: stk) := by
  obtain ⟨⟨p, l, e, R, s⟩, ⟨m, args, below, meth, c⟩, ⟨D, dA, A0, nL, Q⟩⟩ := Y
  obtain ⟨hx, hb, hml, hown, hts, hK, hA, hRm, hl0, hEv⟩ := Cx
  subst hRm
  subst hN
  intro H locs ls ⟨hR, hsz, hdom, hva⟩ hl
  refine W.anew hx hb hown (hts _ w1) (va_AO.use (hEv.2.2.2.2.2.2 _ hE)) rfl hd rfl hn hb0 hc.1 hc.2 fun cA kA comp f1 f2 f3 f4 => ?_
  generalize hH1 : H.push ({ cls := cA, slots := Array.replicate n.toNatClampNeg .null, vm := .none } : Cell) = H1
  have z1 : H1.size = H.size + 1 := by rw [← hH1, Array.size_push]
  have e1 : H1[H.size]? = some (arrV cA n.toNatClampNeg (fun _ => .null)) := by rw [← hH1, Array.getElem?_push_size, ← arrV_new]
  have o1 : ∀ q : Nat, q < H.size → H1[q]? = H[q]? := fun q hq => by rw [← hH1, Array.getElem?_push, if_neg (Nat.ne_of_lt hq)]
  have hcA : cA = dA kd := by
    obtain ⟨kA', comp', -, -, -, h9⟩ := (hK.2 kd _ (ht dA)).2
    exact Option.some.inj (f1.symm.trans h9)
  subst hcA
  have hnew : va_at D vwCl (H.size, dm_cel dA (.inl (kd, nR0 n.toNatClampNeg))) H1 := by
    show H1[H.size]? = some (vp_cell (dA kd) (nR0 n.toNatClampNeg))
    unfold nR0
    rw [vp_cell_q]
    exact e1
  have hS1 : va_S A0 s.heap H1 locs := ⟨Nat.le_trans hva.1 (by omega), fun x h1 h2 => (o1 x (Nat.lt_of_lt_of_le h1 hva.1)).trans (hva.2.1 x h1 h2), hva.2.2⟩
  have h3 := hR.new o1 (e := .inl (kd, nR0 n.toNatClampNeg)) hnew
  rw [hsz] at h3 ⊢
  exact kk H1 _ ls ⟨h3, by rw [z1, hsz]; rfl, dm_up_dom hdom (hA _ (by rw [← hsz]; exact hva.1)), hS1⟩ hl
theorem r_objInit {a : Option Nat} {idx nL : Nat} (Cx : dm_C Y cc own rm) (w1 : Cond.methodLink own idx Lib.objectInit ∈ WALL) (w2 : Cond.instanceMethod Lib.objectInit ∈ WALL) (w3 : Cond.code Lib.objectInit ⟨#[0xb1]⟩ 1 none ∈ WALL) (ha : ∃ b, a = some b) (hd : decode cc pc = .ok (.invokespecial idx, 3)) (hr : 1 ≤ rm.frames ∧ (stk.map dm_cat).sum + 12 ≤ rm.locals) (kk : dm_W Y cs ss st (pc + 3) lv stk) : dm_W Y cs ss st pc lv (DR a :: stk) := by
  obtain ⟨⟨p, l, e, R, s⟩, ⟨m, args, below, meth, c⟩, ⟨D, dA, A0, nL, Q⟩⟩ := Y
  obtain ⟨hx, hb, hml, hown, hts, hK, hA, hRm, -⟩ := Cx
  subst hRm
  obtain ⟨b, rfl⟩ := ha
  intro H locs ls hS hl
  exact W.objInit hx hb hown (hts _ w1) (hts _ w2) (hts _ w3) rfl (by rw [hml]; exact hl.1) rfl hd hr.1 (by rw [dm_cat_sum]; show 2 * 0 + _ + 12 ≤ _; omega) (kk H locs ls hS hl)
/-! Math and System -/
theorem r_max {x y : Int32} {idx : Nat} (Cx : dm_C Y cc own rm) (w1 : Cond.methodLink own idx Lib.Math.max.name ∈ WALL) (w2 : Cond.static Lib.Math.max.name ∈ WALL) (w3 : Cond.initialized "java/lang/Math" ∈ WALL) (w4 : Cond.code Lib.Math.max.name Lib.Math.max.code 2 (some .int) ∈ WALL) (hd : decode cc pc = .ok (.invokestatic idx, 3)) (hr : 1 ≤ rm.frames ∧ (stk.map dm_cat).sum + 13 ≤ rm.locals ∧ cs ≤ rm.cells ∧ ss ≤ rm.slots) (kk : dm_W Y cs ss st (pc + 3) lv (DI (jmax x y) :: stk)) : dm_W Y cs ss st pc lv (DI y :: DI x :: stk) := by
  obtain ⟨⟨p, l, e, R, s⟩, ⟨m, args, below, meth, c⟩, ⟨D, dA, A0, nL, Q⟩⟩ := Y
  obtain ⟨hx, hb, hml, hown, hts, hK, hA, hRm, -⟩ := Cx
  subst hRm
  intro H locs ls hS hl
  exact va_mmax hx hb (by rw [hml]; exact hl.1.symm) hown (hts _ w1) (hts _ w2) (hts _ w3) (hts _ w4) hr.1 (by rw [dm_cat_sum]; exact hr.2.1) hr.2.2.1 hr.2.2.2 hd (kk H locs ls hS hl)
theorem r_min {x y : Int32} {idx : Nat} (Cx : dm_C Y cc own rm) (w1 : Cond.methodLink own idx Lib.Math.min.name ∈ WALL) (w2 : Cond.static Lib.Math.min.name ∈ WALL) (w3 : Cond.initialized "java/lang/Math" ∈ WALL) (w4 : Cond.code Lib.Math.min.name Lib.Math.min.code 2 (some .int) ∈ WALL) (hd : decode cc pc = .ok (.invokestatic idx, 3)) (hr : 1 ≤ rm.frames ∧ (stk.map dm_cat).sum + 13 ≤ rm.locals ∧ cs ≤ rm.cells ∧ ss ≤ rm.slots) (kk : dm_W Y cs ss st (pc + 3) lv (DI (jmin x y) :: stk)) : dm_W Y cs ss st pc lv (DI y :: DI x :: stk) := by
  obtain ⟨⟨p, l, e, R, s⟩, ⟨m, args, below, meth, c⟩, ⟨D, dA, A0, nL, Q⟩⟩ := Y
  obtain ⟨hx, hb, hml, hown, hts, hK, hA, hRm, -⟩ := Cx
  subst hRm
  intro H locs ls hS hl
  exact va_mmin hx hb (by rw [hml]; exact hl.1.symm) hown (hts _ w1) (hts _ w2) (hts _ w3) (hts _ w4) hr.1 (by rw [dm_cat_sum]; exact hr.2.1) hr.2.2.1 hr.2.2.2 hd (kk H locs ls hS hl)
set_option maxHeartbeats 1000000 in
theorem r_copy {r0 r1 : Option Nat} {sp dp n : Int32} {idx : Nat} (Cx : dm_C Y cc own rm) (w1 : Cond.methodLink own idx arraycopyName ∈ WALL) (w2 : Cond.native arraycopyName ∈ WALL) (w3 : Cond.static arraycopyName ∈ WALL) (w4 : Cond.initialized "java/lang/System" ∈ WALL) (hd : decode cc pc = .ok (.invokestatic idx, 3)) (hr : 1 ≤ rm.frames ∧ (stk.map dm_cat).sum + (nativeFrameWords "java/lang/System" "arraycopy" 5 + 11) ≤ rm.locals) (hv : cpI st r0 sp r1 dp n 0 = some st1) (kk : dm_W Y cs ss st1 (pc + 3) lv stk) : dm_W Y cs ss st pc lv (DI n :: DI dp :: DR r1 :: DI sp :: DR r0 :: stk) := by
  obtain ⟨⟨p, l, e, R, s⟩, ⟨m, args, below, meth, c⟩, ⟨D, dA, A0, nL, Q⟩⟩ := Y
  obtain ⟨hx, hb, hml, hown, hts, hK, hA, hRm, -⟩ := Cx
  subst hRm
  obtain ⟨⟨a0, n0, f⟩, hq0, hu⟩ := ob hv
  clear hv
  have hv := hu
  clear hu
  obtain ⟨⟨a, n1, g⟩, hq1, hu⟩ := ob hv
  clear hv
  have hv := hu
  clear hu
  obtain ⟨rfl, hst0⟩ := gAI_spec hq0
  obtain ⟨rfl, hst1⟩ := gAI_spec hq1
  dsimp only at hv hst0 hst1
  split at hv
  · rename_i hin
    obtain ⟨h1, h2, h3, h4, h5⟩ := hin
    cases hv
    have nn : ∀ z : Int32, ¬ z < 0 → z.toInt = (z.toNatClampNeg : Int) := by
      intro z hz
      have hz0 : (0 : Int) ≤ z.toInt := by
        have := Int32.not_lt.mp hz
        simpa using Int32.le_iff_toInt_le.mp this
      show z.toInt = ((z.toInt.toNat : Nat) : Int)
      omega
    intro H locs ls ⟨hR, hsz, hdom, hva⟩ hl T hT X
    have hc0 : H[a0]? = some (vp_cell (dA 0) (n0, .inl f)) := hR _ _ hst0
    have hc1 : H[a]? = some (vp_cell (dA 0) (n1, .inl g)) := hR _ _ hst1
    obtain ⟨-, k0, hk0, cm0, hkk0⟩ := (hK.2 0 (dA 0, .int) rfl).1 n0 (fun j => .int (f j))
    obtain ⟨-, k1, hk1, cm1, hkk1⟩ := (hK.2 0 (dA 0, .int) rfl).1 n1 (fun j => .int (g j))
    obtain ⟨vm', X', step⟩ := X.arraycopy hx hown (hts _ w1) (hts _ w2) (hts _ w3) (hts _ w4) (src := a0) (dst := a) (cs := vp_cell (dA 0) (n0, .inl f)) (cd := vp_cell (dA 0) (n1, .inl g)) (srcPos := sp) (destPos := dp) (n := n) (by rw [hT]; exact hc0) (by rw [hT]; exact hc1)
      (fun _ h => by cases h) (fun _ h => by cases h) (fun h => by cases h) (fun h => by cases h) hk0 hk1 hkk0 hkk1 (by simp [refKind]) h1 h2 h3
      (by rw [nn sp h1, nn n h3, vp_cell_i, arrV_size]; omega)
      (by rw [nn dp h2, nn n h3, vp_cell_i, arrV_size]; omega)
      (fun vm₁ _ i hi => by
        have e : (vp_cell (dA 0) (n0, .inl f)).slots.getD (sp.toNatClampNeg + i) .null = .int (f (sp.toNatClampNeg + i)) := by
          show (arrV (dA 0) n0 (fun j => .int (f j))).slots.getD _ _ = _
          rw [Array.getD_eq_getD_getElem?, arrV_read _ _ (by omega)]
          rfl
        refine ⟨?_, ?_⟩
        · rw [e]
          rfl
        · rw [e]
          exact trivial)
      (g := F0 m pc ls (.int n :: .int dp :: .ref a :: .int sp :: .ref a0 :: stk.map dm_v)) rfl (by rw [hml]; exact hl.1) (rest := stk.map dm_v) rfl (by rw [hb]; exact hd) hr.1 (by rw [dm_cat_sum]; show 2 * 0 + _ + _ ≤ _; omega)
    have e1 : copied (vp_cell (dA 0) (n0, .inl f)) (vp_cell (dA 0) (n1, .inl g)) sp dp n = vp_cell (dA 0) (n1, .inl (va_cpy f g sp.toNatClampNeg dp.toNatClampNeg n.toNatClampNeg)) := va_copied (fun z => .int z) (dA 0) (dA 0) f g h4
    rw [e1] at X' step
    have hla : a < H.size := (Array.getElem?_eq_some_iff.mp hc1).1
    have hheap : ((T.setVm vm').setCell a (vp_cell (dA 0) (n1, .inl (va_cpy f g sp.toNatClampNeg dp.toNatClampNeg n.toNatClampNeg)))).heap = H.setIfInBounds a (vp_cell (dA 0) (n1, .inl (va_cpy f g sp.toNatClampNeg dp.toNatClampNeg n.toNatClampNeg))) := by rw [← hT]; rfl
    have oq : ∀ q : Nat, q ≠ a → (H.setIfInBounds a (vp_cell (dA 0) (n1, .inl (va_cpy f g sp.toNatClampNeg dp.toNatClampNeg n.toNatClampNeg))))[q]? = H[q]? := fun q hq => by simp [Array.getElem?_setIfInBounds, Ne.symm hq]
    have hz : (H.setIfInBounds a (vp_cell (dA 0) (n1, .inl (va_cpy f g sp.toNatClampNeg dp.toNatClampNeg n.toNatClampNeg)))).size = H.size := by simp
    obtain ⟨t, b1, b2⟩ := kk _ _ ls ⟨hR.put (e := .inl (0, (n1, .inl (va_cpy f g sp.toNatClampNeg dp.toNatClampNeg n.toNatClampNeg)))) oq (show (H.setIfInBounds a _)[a]? = some _ by simp [Array.getElem?_setIfInBounds, hla]), hz.trans hsz, dm_up_dom hdom (hdom _ _ hst1), ⟨by rw [hz]; exact hva.1, fun q g1 g2 => by
        rw [oq q (fun e => g2 (by rw [e]; exact hdom _ _ hst1))]
        exact hva.2.1 q g1 g2, fun q hq => by
        rcases List.mem_append.mp hq with h | h
        · exact hva.2.2 q h
        · obtain ⟨z, -, hz⟩ := List.mem_map.mp h
          rw [← hz]
          exact hdom _ _ hst1⟩⟩ hl _ hheap X'
    exact ⟨t, step t b1, b2⟩
  · cases hv
end DHEAP
end
section
/-! ends, starts and calls, said over dm_W -/
def dm_args : Nat → List DV → List (Nat × DV)
  | _, [] => []
  | k, a :: l => (k, a) :: dm_args (if dm_cat a = 2 then k + 2 else k + 1) l
theorem dm_args_lv (avs : List DV) : ∀ k, lv_args k (avs.map dm_v) = dm_lv (dm_args k avs) := by
  induction avs with
  | nil => intro k; rfl
  | cons a l ih =>
    intro k
    show (k, dm_v a) :: lv_args (if (dm_v a).category = 2 then k + 2 else k + 1) (l.map dm_v) = (k, dm_v a) :: dm_lv (dm_args (if dm_cat a = 2 then k + 2 else k + 1) l)
    rw [dm_cat_ok, ih]
theorem dm_args_len (avs : List DV) : (lg_sl (avs.map dm_v)).length = (avs.map dm_cat).sum := by
  induction avs with
  | nil => rfl
  | cons a l ih =>
    have h : lg_sl ((a :: l).map dm_v) = (if (dm_v a).category = 2 then [.val (dm_v a), .second] else [.val (dm_v a)]) ++ lg_sl (l.map dm_v) := rfl
    rw [h, List.length_append, ih, List.map_cons, List.sum_cons, dm_cat_ok]
    rcases a with x | x | x | x <;> rfl
theorem dm_blind {D : va_G} {dA : Nat → ClassId} {avs : List DV} {st : DSt} : FrameBlind (dm_Pc D dA avs st) := fun a U g mk h => by
  obtain ⟨h1, h2, h3, h4, h5⟩ := h
  exact ⟨h1, h2, h3, va_K.moved (u := U) (U := U.calling g mk a) (Vm.Alike.refl U.vm) h4, dm_Ev.same (U := U) (V := U.calling g mk a) h5 rfl⟩
theorem dm_Asub {D : va_G} {dA : Nat → ClassId} {A0 : Nat → Prop} {H0 H : Heap} {st : DSt} {locs : List Loc} (hA : ∀ q, H0.size ≤ q → A0 q) (hS : dm_S D dA A0 H0 st H locs) : ∀ q, dm_A st q → A0 q := fun q h => by
  obtain ⟨hR, hsz, hdom, hva⟩ := hS
  rcases h with ⟨e, he⟩ | h
  · exact hdom q e he
  · exact hA q (Nat.le_trans hva.1 (by rw [hsz]; exact h))
theorem dm_pre {D : va_G} {dA : Nat → ClassId} {A0 : Nat → Prop} {s : State} {H : Heap} {st : DSt} {locs : List Loc} {avs : List DV} (hA : ∀ q, s.heap.size ≤ q → A0 q) (hK : va_K D vwCl (dm_tys dA) s) (hEv : dm_Ev A0 s s.heap) (hS : dm_S D dA A0 s.heap st H locs) : ∀ U : State, U.heap = H → s.WarmedH U.vm → dm_Pc D dA avs st (avs.map dm_v).toArray U := fun U hU hW => by
  subst hU
  exact ⟨rfl, hS.1, hS.2.1, hK.moved hW.alike, hEv.warm hW hS.2.2.2 (dm_Asub hA hS)⟩
section DCALL
variable {p : Program} {l : Launch} {e : Env} {R : Room} {s : State} {m : MethodId} {args : Array Value} {below : List Frame} {meth : Method} {c : Code} {H : Heap} {locs : List Loc} {cells slots : Nat} {Q : State → Prop}
variable {pc : Nat} {ls : Array Slot} {rest st0 : List Value} {a : Array Value} {A0 A1 : Nat → Prop} {mc ms : Nat} {free : Addr → Prop} {D : va_G} {dA : Nat → ClassId} {st : DSt}
theorem dm_cont {Fin : Option DV → DSt → Prop} (hr : va_Run p l e R s m args below meth c H locs cells slots mc ms (F0 m pc ls st0) rest (dm_Qc Fin D dA A1 a) free) (hS : dm_S D dA A0 s.heap st H locs) (hA : ∀ q, A1 q → A0 q) (hf : ∀ q, free q → A0 q)
    (kk : ∀ (rv : Option DV) (u : DSt) (H1 : Heap) (locs1 : List Loc), Fin rv u → dm_S D dA A0 s.heap u H1 locs1 → W p l e R s m args below meth c H1 locs1 (cells + mc) (slots + ms) Q (F0 m (pc + 3) ls ((rv.map dm_v).toList ++ rest))) : W p l e R s m args below meth c H locs cells slots Q (F0 m pc ls st0) := by
  intro T hT X
  obtain ⟨v, st₀, t, T', L, h0, X', hL, e1, e2, ⟨⟨rv, u, hv, hp, hb1, hb2, hb3⟩, hz, hk⟩, st9⟩ := hr T hT X
  cases hv
  rw [h0] at hz hk
  have hva := hS.2.2.2
  rw [← e1] at hb1 hb2 hz hk
  obtain ⟨t2, a1, b1⟩ := kk rv u T'.heap (locs ++ L) hp ⟨hb1, hb2, fun q e he => hA q (hb3 q e he), Nat.le_trans hva.1 hz, fun q h1 h2 => by rw [hk q (Nat.lt_of_lt_of_le h1 hva.1) (fun z => h2 (hA q z))]; exact hva.2.1 q h1 h2, fun q hq => by
      rcases List.mem_append.mp hq with h | h
      · exact hva.2.2 q h
      · exact hf _ (hL q h)⟩ T' rfl X'
  exact ⟨t2, st9 t2 a1, b1⟩
theorem dm_contX {Fin : Option DV → DSt → Prop} {FinX : String → DHp → Prop} (hr : vx_Run p l e R s m args below meth c H locs cells slots mc ms (F0 m pc ls st0) rest (dm_Qc Fin D dA A1 a) (dm_XC FinX D dA A1) free) (hS : dm_S D dA A0 s.heap st H locs) (hA : ∀ q, A1 q → A0 q) (hf : ∀ q, free q → A0 q)
    (kx : ∀ (E : String) (h : DHp) (ce : Cell) (q9 : Addr) (H1 : Heap) (locs1 : List Loc), FinX E h → dm_S D dA A0 s.heap (H1.size, h) H1 locs1 → H1[q9]? = some ce → ce.vm = .none → s.vm.findClass E = some ce.cls → vx_W p l e R s m args below meth c H1 locs1 (cells + mc) (slots + ms) Q (F0 m pc ls rest) q9)
    (kk : ∀ (rv : Option DV) (u : DSt) (H1 : Heap) (locs1 : List Loc), Fin rv u → dm_S D dA A0 s.heap u H1 locs1 → W p l e R s m args below meth c H1 locs1 (cells + mc) (slots + ms) Q (F0 m (pc + 3) ls ((rv.map dm_v).toList ++ rest))) : W p l e R s m args below meth c H locs cells slots Q (F0 m pc ls st0) := by
  intro T hT X
  have hva := hS.2.2.2
  rcases hr T hT X with ⟨v, st₀, t, T', L, h0, X', hL, e1, e2, ⟨⟨rv, u, hv, hp, hb1, hb2, hb3⟩, hz, hk⟩, st9⟩ | ⟨q, st₀, t, T', L, E, ce, h0, X', hL, e1, e2, ⟨⟨hh, hp, hb1, hb3⟩, hz, hk⟩, hce, hcv, hcl, st9⟩
  · cases hv
    rw [h0] at hz hk
    rw [← e1] at hb1 hb2 hz hk
    obtain ⟨t2, a1, b1⟩ := kk rv u T'.heap (locs ++ L) hp ⟨hb1, hb2, fun q e he => hA q (hb3 q e he), Nat.le_trans hva.1 hz, fun q h1 h2 => by rw [hk q (Nat.lt_of_lt_of_le h1 hva.1) (fun z => h2 (hA q z))]; exact hva.2.1 q h1 h2, fun q hq => by
        rcases List.mem_append.mp hq with h | h
        · exact hva.2.2 q h
        · exact hf _ (hL q h)⟩ T' rfl X'
    exact ⟨t2, st9 t2 a1, b1⟩
  · rw [h0] at hz hk
    rw [← e1] at hb1 hz hk hce
    obtain ⟨t2, a1, b1⟩ := kx E hh ce q T'.heap (locs ++ L) hp ⟨hb1, rfl, fun q e he => hA q (hb3 q e he), Nat.le_trans hva.1 hz, fun q h1 h2 => by rw [hk q (Nat.lt_of_lt_of_le h1 hva.1) (fun z => h2 (hA q z))]; exact hva.2.1 q h1 h2, fun q hq => by
        rcases List.mem_append.mp hq with h | h
        · exact hva.2.2 q h
        · exact hf _ (hL q h)⟩ hce hcv hcl T' rfl X'
    exact ⟨t2, st9.trans a1, b1⟩
end DCALL
/-- what is known of a method by its name: decided once -/
def dm_md (y : MethodName) (n : Nat) : Prop := y.cls ≠ "java/lang/invoke/MethodHandle" ∧ y.cls ≠ "java/lang/invoke/VarHandle" ∧ (parseMethodDescriptor y.desc).map (fun d => d.parameters.length) = some n
section DRUN
variable {Y : DY} {cc : ByteArray} {own : String} {rm : Room} {cs ss pc : Nat} {st st1 : DSt} {lv : List (Nat × DV)} {stk stk' rest : List DV}
variable {y : MethodName} {cy : ByteArray} {maxL mc ms n idx : Nat} {ret : Option FieldType} {rmy : Room} {rv : Option DV} {r : DRes} {As : List DV} {b : Nat} {ci : Nat} {C : String} {T : u_T} {N : Nat} {ro : Option Nat}
theorem dm_pret {rv' : Option DV} {ls : List DV} (h : rv.toList ++ rest = stk') (e : rv' = rv) : (rv'.map dm_v).toList ++ rest.map dm_v = stk'.map dm_v := by
  subst e; subst h
  cases rv' <;> rfl
theorem r_callV (hM : dm_K1 y cy maxL ret rmy mc ms (DR (some b) :: As) st rv st1) (hb : oR st ro ci = some b) (hc : vwCl[ci]? = some (y.cls, T, N)) (Cx : dm_C Y cc own rm) (w1 : Cond.methodLink own idx y ∈ WALL) (w2 : Cond.instanceMethod y ∈ WALL) (w3 : Cond.selects y.cls y y ∈ WALL) (w4 : Cond.code y cy maxL ret ∈ WALL) (w5 : Cond.initialized y.cls ∈ WALL) (hd0 : dm_md y n) (hn : As.length = n) (hrm : rmy.cells = mc ∧ rmy.slots = ms ∧ rmy.frames + 1 ≤ rm.frames ∧ 8 + (maxL + 11) + rmy.locals ≤ rm.locals ∧ cs + mc ≤ rm.cells ∧ ss + ms ≤ rm.slots) (hd : decode cc pc = .ok (.invokevirtual idx, 3)) (hs : stk = As.reverse ++ DR ro :: rest) (h8 : (rest.map dm_cat).sum ≤ 8) (hs' : rv.toList ++ rest = stk') (kk : dm_W Y (cs + mc) (ss + ms) st1 (pc + 3) lv stk') : dm_W Y cs ss st pc lv stk := by
  obtain ⟨⟨p, l, e, R, s⟩, ⟨m, args, below, meth, c⟩, ⟨D, dA, A0, nL, Q⟩⟩ := Y
  obtain ⟨hx, hbb, hml, hown, hts, hK, hA, hRm, hl0, hEv⟩ := Cx
  subst hRm
  obtain ⟨h1, h2, h3, h4, h5, h6⟩ := hrm
  obtain ⟨⟨b', fs⟩, hg, hb'⟩ := ob hb
  cases hb'
  obtain ⟨rfl, hst⟩ := gO_spec hg
  dsimp only at hM hst
  intro H locs ls hS hl
  have hAs := dm_Asub hA hS
  refine dm_cont (va_runV (As := As.map dm_v) (rest := rest.map dm_v) (n := n) (C := y.cls) (index := idx) ⟨hx, hbb, hml, hown, hts⟩ (hM l D dA hl0) ⟨callB_of n hts (wall_cons w4) rfl h1 h2 (hts _ w5) (hts _ w1) hd0 ⟨h3, h4⟩, hts _ w2, hts _ w3⟩ ⟨dm_blind, va_recv hK (dm_P1 (hS.1 _ _ hst)) (q0 := 0) hc rfl, dm_pre hA hK hEv hS⟩ rfl (by rw [List.length_map]; exact hn) hl.1 ?_ (lv_room (by rw [dm_cat_sum]; exact h8)) hd ⟨h5, h6⟩) hS hAs hAs fun rv' u H1 locs1 hF hS1 => ?_
  · show stk.map dm_v = _
    rw [hs, List.map_append, List.map_reverse]
    rfl
  · obtain ⟨e1, rfl⟩ := hF
    rw [dm_pret (ls := []) hs' e1]
    exact kk H1 locs1 ls hS1 hl
theorem r_callS (hM : dm_K1 y cy maxL ret rmy mc ms As st rv st1) (Cx : dm_C Y cc own rm) (w1 : Cond.methodLink own idx y ∈ WALL) (w2 : Cond.static y ∈ WALL) (w4 : Cond.code y cy maxL ret ∈ WALL) (w5 : Cond.initialized y.cls ∈ WALL) (hd0 : dm_md y n) (hn : As.length = n) (hrm : rmy.cells = mc ∧ rmy.slots = ms ∧ rmy.frames + 1 ≤ rm.frames ∧ 8 + (maxL + 11) + rmy.locals ≤ rm.locals ∧ cs + mc ≤ rm.cells ∧ ss + ms ≤ rm.slots) (hd : decode cc pc = .ok (.invokestatic idx, 3)) (hs : stk = As.reverse ++ rest) (h8 : (rest.map dm_cat).sum ≤ 8) (hs' : rv.toList ++ rest = stk') (kk : dm_W Y (cs + mc) (ss + ms) st1 (pc + 3) lv stk') : dm_W Y cs ss st pc lv stk := by
  obtain ⟨⟨p, l, e, R, s⟩, ⟨m, args, below, meth, c⟩, ⟨D, dA, A0, nL, Q⟩⟩ := Y
  obtain ⟨hx, hbb, hml, hown, hts, hK, hA, hRm, hl0, hEv⟩ := Cx
  subst hRm
  obtain ⟨h1, h2, h3, h4, h5, h6⟩ := hrm
  intro H locs ls hS hl
  have hAs := dm_Asub hA hS
  refine dm_cont (va_runS (As := As.map dm_v) (rest := rest.map dm_v) (n := n) (index := idx) ⟨hx, hbb, hml, hown, hts⟩ (hM l D dA hl0) ⟨callB_of n hts (wall_cons w4) rfl h1 h2 (hts _ w5) (hts _ w1) hd0 ⟨h3, h4⟩, hts _ w2⟩ ⟨dm_blind, dm_pre hA hK hEv hS⟩ rfl (by rw [List.length_map]; exact hn) hl.1 ?_ (lv_room (by rw [dm_cat_sum]; exact h8)) hd ⟨h5, h6⟩) hS hAs hAs fun rv' u H1 locs1 hF hS1 => ?_
  · show stk.map dm_v = _
    rw [hs, List.map_append, List.map_reverse]
  · obtain ⟨e1, rfl⟩ := hF
    rw [dm_pret (ls := []) hs' e1]
    exact kk H1 locs1 ls hS1 hl
theorem r_callI (hM : dm_K1 y cy maxL none rmy mc ms (DR (some b) :: As) st rv st1) (Cx : dm_C Y cc own rm) (w1 : Cond.methodLink own idx y ∈ WALL) (w2 : Cond.instanceMethod y ∈ WALL) (hy1 : y.name = "<init>") (w4 : Cond.code y cy maxL none ∈ WALL) (w5 : Cond.initialized y.cls ∈ WALL) (hd0 : dm_md y n) (hn : As.length = n) (hrm : rmy.cells = mc ∧ rmy.slots = ms ∧ rmy.frames + 1 ≤ rm.frames ∧ 8 + (maxL + 11) + rmy.locals ≤ rm.locals ∧ cs + mc ≤ rm.cells ∧ ss + ms ≤ rm.slots) (hd : decode cc pc = .ok (.invokespecial idx, 3)) (hs : stk = As.reverse ++ DR (some b) :: rest) (h8 : (rest.map dm_cat).sum ≤ 8) (hs' : rv.toList ++ rest = stk') (kk : dm_W Y (cs + mc) (ss + ms) st1 (pc + 3) lv stk') : dm_W Y cs ss st pc lv stk := by
  obtain ⟨⟨p, l, e, R, s⟩, ⟨m, args, below, meth, c⟩, ⟨D, dA, A0, nL, Q⟩⟩ := Y
  obtain ⟨hx, hbb, hml, hown, hts, hK, hA, hRm, hl0, hEv⟩ := Cx
  subst hRm
  obtain ⟨h1, h2, h3, h4, h5, h6⟩ := hrm
  intro H locs ls hS hl
  have hAs := dm_Asub hA hS
  refine dm_cont (va_runI (b := b) (As := As.map dm_v) (rest := rest.map dm_v) (n := n) (index := idx) ⟨hx, hbb, hml, hown, hts⟩ (hM l D dA hl0) ⟨callB_of n hts (wall_cons w4) rfl h1 h2 (hts _ w5) (hts _ w1) hd0 ⟨h3, h4⟩, hy1, hts _ w2⟩ ⟨dm_blind, dm_pre hA hK hEv hS⟩ rfl (by rw [List.length_map]; exact hn) hl.1 ?_ (lv_room (by rw [dm_cat_sum]; exact h8)) hd ⟨h5, h6⟩) hS hAs hAs fun rv' u H1 locs1 hF hS1 => ?_
  · show stk.map dm_v = _
    rw [hs, List.map_append, List.map_reverse]
    rfl
  · obtain ⟨e1, rfl⟩ := hF
    rw [dm_pret (ls := []) hs' e1]
    exact kk H1 locs1 ls hS1 hl
/-- a call of a method that may throw: its throw is handled by kx -/
theorem r_callVX (hM : dm_K2 y cy maxL ret rmy mc ms (DR (some b) :: As) st r) (hb : oR st ro ci = some b) (hc : vwCl[ci]? = some (y.cls, T, N)) (Cx : dm_C Y cc own rm) (w1 : Cond.methodLink own idx y ∈ WALL) (w2 : Cond.instanceMethod y ∈ WALL) (w3 : Cond.selects y.cls y y ∈ WALL) (w4 : Cond.code y cy maxL ret ∈ WALL) (w5 : Cond.initialized y.cls ∈ WALL) (hd0 : dm_md y n) (hn : As.length = n) (hrm : rmy.cells = mc ∧ rmy.slots = ms ∧ rmy.frames + 1 ≤ rm.frames ∧ 8 + (maxL + 11) + rmy.locals ≤ rm.locals ∧ cs + mc ≤ rm.cells ∧ ss + ms ≤ rm.slots) (hd : decode cc pc = .ok (.invokevirtual idx, 3)) (hs : stk = As.reverse ++ DR ro :: rest) (h8 : (rest.map dm_cat).sum ≤ 8)
    (kx : match Y with
      | ((p, l, e, R, s), (m, args, below, meth, c), (D, dA, A0, nL, Q)) => ∀ (E : String) (h : DHp) (ce : Cell) (q9 : Addr) (H1 : Heap) (locs1 : List Loc) (ls : Array Slot), r = .inl (E, h) → dm_S D dA A0 s.heap (H1.size, h) H1 locs1 → lv_has ls nL (dm_lv lv) → H1[q9]? = some ce → ce.vm = .none → s.vm.findClass E = some ce.cls → vx_W p l e R s m args below meth c H1 locs1 (cs + mc) (ss + ms) Q (F0 m pc ls (rest.map dm_v)) q9)
    (kk : ∀ rv st1, r = .inr (rv, st1) → dm_W Y (cs + mc) (ss + ms) st1 (pc + 3) lv (rv.toList ++ rest)) : dm_W Y cs ss st pc lv stk := by
  obtain ⟨⟨p, l, e, R, s⟩, ⟨m, args, below, meth, c⟩, ⟨D, dA, A0, nL, Q⟩⟩ := Y
  obtain ⟨hx, hbb, hml, hown, hts, hK, hA, hRm, hl0, hEv⟩ := Cx
  subst hRm
  obtain ⟨h1, h2, h3, h4, h5, h6⟩ := hrm
  obtain ⟨⟨b', fs⟩, hg, hb'⟩ := ob hb
  cases hb'
  obtain ⟨rfl, hst⟩ := gO_spec hg
  dsimp only at hM hst kx
  intro H locs ls hS hl
  have hAs := dm_Asub hA hS
  refine dm_contX (vx_runV (As := As.map dm_v) (rest := rest.map dm_v) (n := n) (C := y.cls) (index := idx) ⟨hx, hbb, hml, hown, hts⟩ (hM l D dA hl0) ⟨callB_of n hts (wall_cons w4) rfl h1 h2 (hts _ w5) (hts _ w1) hd0 ⟨h3, h4⟩, hts _ w2, hts _ w3⟩ ⟨dm_blind, va_recv hK (dm_P1 (hS.1 _ _ hst)) (q0 := 0) hc rfl, dm_pre hA hK hEv hS⟩ rfl (by rw [List.length_map]; exact hn) hl.1 ?_ (lv_room (by rw [dm_cat_sum]; exact h8)) hd ⟨h5, h6⟩) hS hAs hAs (fun E h ce q9 H1 locs1 hF hS1 g1 g2 g3 => kx E h ce q9 H1 locs1 ls hF hS1 hl g1 g2 g3) fun rv' u H1 locs1 hF hS1 => ?_
  · show stk.map dm_v = _
    rw [hs, List.map_append, List.map_reverse]
    rfl
  · rw [dm_pret (ls := []) rfl rfl]
    exact kk rv' u hF H1 locs1 ls hS1 hl
theorem r_callSX (hM : dm_K2 y cy maxL ret rmy mc ms As st r) (Cx : dm_C Y cc own rm) (w1 : Cond.methodLink own idx y ∈ WALL) (w2 : Cond.static y ∈ WALL) (w4 : Cond.code y cy maxL ret ∈ WALL) (w5 : Cond.initialized y.cls ∈ WALL) (hd0 : dm_md y n) (hn : As.length = n) (hrm : rmy.cells = mc ∧ rmy.slots = ms ∧ rmy.frames + 1 ≤ rm.frames ∧ 8 + (maxL + 11) + rmy.locals ≤ rm.locals ∧ cs + mc ≤ rm.cells ∧ ss + ms ≤ rm.slots) (hd : decode cc pc = .ok (.invokestatic idx, 3)) (hs : stk = As.reverse ++ rest) (h8 : (rest.map dm_cat).sum ≤ 8)
    (kx : match Y with
      | ((p, l, e, R, s), (m, args, below, meth, c), (D, dA, A0, nL, Q)) => ∀ (E : String) (h : DHp) (ce : Cell) (q9 : Addr) (H1 : Heap) (locs1 : List Loc) (ls : Array Slot), r = .inl (E, h) → dm_S D dA A0 s.heap (H1.size, h) H1 locs1 → lv_has ls nL (dm_lv lv) → H1[q9]? = some ce → ce.vm = .none → s.vm.findClass E = some ce.cls → vx_W p l e R s m args below meth c H1 locs1 (cs + mc) (ss + ms) Q (F0 m pc ls (rest.map dm_v)) q9)
    (kk : ∀ rv st1, r = .inr (rv, st1) → dm_W Y (cs + mc) (ss + ms) st1 (pc + 3) lv (rv.toList ++ rest)) : dm_W Y cs ss st pc lv stk := by
  obtain ⟨⟨p, l, e, R, s⟩, ⟨m, args, below, meth, c⟩, ⟨D, dA, A0, nL, Q⟩⟩ := Y
  obtain ⟨hx, hbb, hml, hown, hts, hK, hA, hRm, hl0, hEv⟩ := Cx
  subst hRm
  obtain ⟨h1, h2, h3, h4, h5, h6⟩ := hrm
  dsimp only at kx
  intro H locs ls hS hl
  have hAs := dm_Asub hA hS
  refine dm_contX (vx_runS (As := As.map dm_v) (rest := rest.map dm_v) (n := n) (index := idx) ⟨hx, hbb, hml, hown, hts⟩ (hM l D dA hl0) ⟨callB_of n hts (wall_cons w4) rfl h1 h2 (hts _ w5) (hts _ w1) hd0 ⟨h3, h4⟩, hts _ w2⟩ ⟨dm_blind, dm_pre hA hK hEv hS⟩ rfl (by rw [List.length_map]; exact hn) hl.1 ?_ (lv_room (by rw [dm_cat_sum]; exact h8)) hd ⟨h5, h6⟩) hS hAs hAs (fun E h ce q9 H1 locs1 hF hS1 g1 g2 g3 => kx E h ce q9 H1 locs1 ls hF hS1 hl g1 g2 g3) fun rv' u H1 locs1 hF hS1 => ?_
  · show stk.map dm_v = _
    rw [hs, List.map_append, List.map_reverse]
  · rw [dm_pret (ls := []) rfl rfl]
    exact kk rv' u hF H1 locs1 ls hS1 hl
/-- a throw that this method doesn't catch -/
theorem dm_out2 {FinX : String → DHp → Prop} (E2 : dm_E2 Y mc ms FinX) (hF : ∀ E h, r = .inl (E, h) → FinX E h) (hc : cs ≤ mc ∧ ss ≤ ms) : match Y with
      | ((p, l, e, R, s), (m, args, below, meth, c), (D, dA, A0, nL, Q)) => ∀ (E : String) (h : DHp) (ce : Cell) (q9 : Addr) (H1 : Heap) (locs1 : List Loc) (ls : Array Slot), r = .inl (E, h) → dm_S D dA A0 s.heap (H1.size, h) H1 locs1 → lv_has ls nL (dm_lv lv) → H1[q9]? = some ce → ce.vm = .none → s.vm.findClass E = some ce.cls → vx_W p l e R s m args below meth c H1 locs1 cs ss Q (F0 m pc ls (rest.map dm_v)) q9 := by
  obtain ⟨⟨p, l, e, R, s⟩, ⟨m, args, below, meth, c⟩, ⟨D, dA, A0, nL, Q⟩⟩ := Y
  obtain ⟨hlk, hex, Qc, hQ⟩ := E2
  intro E h ce q9 H1 locs1 ls hr hS hl g1 g2 g3 T hT X
  obtain ⟨t, a1, b1⟩ := vx_out (Qc := Qc) (XC := dm_XC FinX D dA A0) (mc := mc) (ms := ms) (free := A0) (fun x hx => (hex x hx).elim) hlk g1 g2 g3 (fun t ht hv => ⟨⟨h, hF E h hr, by rw [ht]; exact hS.1, hS.2.2.1⟩, va_S.F hS.2.2.2 ht⟩) hS.2.2.2.2.2 hc.1 hc.2 T hT X
  exact ⟨t, a1, hQ t b1⟩
/-- a throw of this method's own: new, the text, athrow -/
theorem r_throw {FinX : String → DHp → Prop} {cls text : String} {ik is ic : Nat} (E2 : dm_E2 Y mc ms FinX) (Cx : dm_C Y cc own rm) (hF : FinX cls st.2) (hfit : Bundle.fit cls = true) (w1 : Cond.classLink own ik cls ∈ WALL) (w2 : Cond.initialized cls ∈ WALL) (hstr : (own, is, text) ∈ dm_strs) (hat : ∀ w ∈ vx_atS own ic cls ["java/lang/RuntimeException", "java/lang/Exception"], w ∈ WALL ∨ (∃ q ∈ dm_cas, w = .castable q.1 q.2) ∨ ∃ y ∈ dm_dcl, w = .declares y) (hgood : ∀ w ∈ Cond.classLink own ik cls :: Cond.initialized cls :: vx_atS own ic cls ["java/lang/RuntimeException", "java/lang/Exception"], vx_ot w = true)
    (d0 : decode cc pc = .ok (.new ik, 3)) (d3 : decode cc (pc + 3) = .ok (.dup, 1)) (d4 : decode cc (pc + 4) = .ok (.ldc is, 2)) (d6 : decode cc (pc + 6) = .ok (.invokespecial ic, 3)) (d9 : decode cc (pc + 9) = .ok (.athrow, 1))
    (hr : 6 ≤ rm.frames ∧ (stk.map dm_cat).sum + 82 ≤ rm.locals ∧ cs + 1 ≤ rm.cells ∧ ss + 6 ≤ rm.slots ∧ cs + 1 ≤ mc ∧ ss + 6 ≤ ms) : dm_W Y cs ss st pc lv stk := by
  obtain ⟨⟨p, l, e, R, s⟩, ⟨m, args, below, meth, c⟩, ⟨D, dA, A0, nL, Q⟩⟩ := Y
  obtain ⟨hx, hbb, hml, hown, hts, hK, hA, hRm, hl0, hEv⟩ := Cx
  subst hRm
  obtain ⟨hlk, hex, Qc, hQ⟩ := E2
  obtain ⟨hU, hN, hst9, hca, hdc, -⟩ := hEv
  obtain ⟨sa, hsa⟩ := hst9 _ hstr
  obtain ⟨h1, h2, h3, h4, h5, h6⟩ := hr
  intro H locs ls hS hl
  refine dm_mono hQ ?_
  refine vx_throwS hx hbb hl0 hown hfit (by decide +kernel) (hts _ w1) (hts _ w2) hsa (fun w hw => ?_) hgood hU hN hS.2.2.2 (hl.1.trans hml.symm) d0 d3 d4 d6 d9 (fun x hx => (hex x hx).elim) (by show 2 + 3 < R.frames; omega) (by rw [dm_cat_sum]; show _ + (13 * (2 + 1) + 43) ≤ R.locals; omega) h3 h4 hlk (fun t _ hz hq => ⟨⟨st.2, hF, hS.1.mono hq, hS.2.2.1⟩, Nat.le_trans hS.2.2.2.1 hz, fun q g1 g2 => by rw [hq q (Nat.lt_of_lt_of_le g1 hS.2.2.2.1)]; exact hS.2.2.2.2.1 q g1 g2⟩) hS.2.2.2.2.2 h5 h6
  rcases hat w hw with h | ⟨q, hq, rfl⟩ | ⟨q, hq, rfl⟩
  · exact hts w h
  · exact va_Nw.use rfl (hca q hq)
  · exact va_Nw.use rfl (hdc q hq)
/-- .. where the text lies beyond place 255 -/
theorem r_throwW {FinX : String → DHp → Prop} {cls text : String} {ik is ic : Nat} (E2 : dm_E2 Y mc ms FinX) (Cx : dm_C Y cc own rm) (hF : FinX cls st.2) (hfit : Bundle.fit cls = true) (w1 : Cond.classLink own ik cls ∈ WALL) (w2 : Cond.initialized cls ∈ WALL) (hstr : (own, is, text) ∈ dm_strs) (hat : ∀ w ∈ vx_atS own ic cls ["java/lang/RuntimeException", "java/lang/Exception"], w ∈ WALL ∨ (∃ q ∈ dm_cas, w = .castable q.1 q.2) ∨ ∃ y ∈ dm_dcl, w = .declares y) (hgood : ∀ w ∈ Cond.classLink own ik cls :: Cond.initialized cls :: vx_atS own ic cls ["java/lang/RuntimeException", "java/lang/Exception"], vx_ot w = true)
    (d0 : decode cc pc = .ok (.new ik, 3)) (d3 : decode cc (pc + 3) = .ok (.dup, 1)) (d4 : decode cc (pc + 4) = .ok (.ldc_w is, 3)) (d6 : decode cc (pc + 7) = .ok (.invokespecial ic, 3)) (d9 : decode cc (pc + 10) = .ok (.athrow, 1))
    (hr : 6 ≤ rm.frames ∧ (stk.map dm_cat).sum + 82 ≤ rm.locals ∧ cs + 1 ≤ rm.cells ∧ ss + 6 ≤ rm.slots ∧ cs + 1 ≤ mc ∧ ss + 6 ≤ ms) : dm_W Y cs ss st pc lv stk := by
  obtain ⟨⟨p, l, e, R, s⟩, ⟨m, args, below, meth, c⟩, ⟨D, dA, A0, nL, Q⟩⟩ := Y
  obtain ⟨hx, hbb, hml, hown, hts, hK, hA, hRm, hl0, hEv⟩ := Cx
  subst hRm
  obtain ⟨hlk, hex, Qc, hQ⟩ := E2
  obtain ⟨hU, hN, hst9, hca, hdc, -⟩ := hEv
  obtain ⟨sa, hsa⟩ := hst9 _ hstr
  obtain ⟨h1, h2, h3, h4, h5, h6⟩ := hr
  intro H locs ls hS hl
  refine dm_mono hQ ?_
  refine vx_throwSW hx hbb hl0 hown hfit (by decide +kernel) (hts _ w1) (hts _ w2) hsa (fun w hw => ?_) hgood hU hN hS.2.2.2 (hl.1.trans hml.symm) d0 d3 d4 d6 d9 (fun x hx => (hex x hx).elim) (by show 2 + 3 < R.frames; omega) (by rw [dm_cat_sum]; show _ + (13 * (2 + 1) + 43) ≤ R.locals; omega) h3 h4 hlk (fun t _ hz hq => ⟨⟨st.2, hF, hS.1.mono hq, hS.2.2.1⟩, Nat.le_trans hS.2.2.2.1 hz, fun q g1 g2 => by rw [hq q (Nat.lt_of_lt_of_le g1 hS.2.2.2.1)]; exact hS.2.2.2.2.1 q g1 g2⟩) hS.2.2.2.2.2 h5 h6
  rcases hat w hw with h | ⟨q, hq, rfl⟩ | ⟨q, hq, rfl⟩
  · exact hts w h
  · exact va_Nw.use rfl (hca q hq)
  · exact va_Nw.use rfl (hdc q hq)
/-! returns -/
theorem dm_ret {D : va_G} {dA : Nat → ClassId} {A0 : Nat → Prop} {s t : State} {H : Heap} {st : DSt} {locs : List Loc} {args : Array Value} {Fin : Option DV → DSt → Prop} (hF : Fin rv st) (hS : dm_S D dA A0 s.heap st H locs) (ht : t.heap = H) : dm_Qc Fin D dA A0 args s (.returned (rv.map dm_v)) t := ⟨⟨rv, st, rfl, hF, by rw [ht]; exact hS.1, by rw [ht]; exact hS.2.1, hS.2.2.1⟩, va_S.F hS.2.2.2 ht⟩
theorem r_iret {Fin : Option DV → DSt → Prop} {x : Int32} (E1 : dm_E1 Y (some .int) mc ms Fin) (Cx : dm_C Y cc own rm) (hF : Fin (some (DI x)) st) (hc : cs ≤ mc ∧ ss ≤ ms) (hd : decode cc pc = .ok (.ireturn, 1)) : dm_W Y cs ss st pc lv [DI x] := by
  obtain ⟨⟨p, l, e, R, s⟩, ⟨m, args, below, meth, c⟩, ⟨D, dA, A0, nL, Q⟩⟩ := Y
  obtain ⟨hrt, hlk, hQ⟩ := E1
  intro H locs ls hS hl
  exact dm_mono hQ (W.widen hc.1 hc.2 (W.iret (v := x) Cx.1 Cx.2.1 hrt (fun t ht hW => dm_ret hF hS ht) hS.2.2.2.2.2 hd hlk))
theorem r_zret {Fin : Option DV → DSt → Prop} {x z : Int32} (E1 : dm_E1 Y (some .boolean) mc ms Fin) (Cx : dm_C Y cc own rm) (hz : oZ x = some z) (hF : Fin (some (DI z)) st) (hc : cs ≤ mc ∧ ss ≤ ms) (hd : decode cc pc = .ok (.ireturn, 1)) : dm_W Y cs ss st pc lv [DI x] := by
  obtain ⟨⟨p, l, e, R, s⟩, ⟨m, args, below, meth, c⟩, ⟨D, dA, A0, nL, Q⟩⟩ := Y
  obtain ⟨hrt, hlk, hQ⟩ := E1
  obtain ⟨rfl, hn⟩ := oZ_spec hz
  intro H locs ls hS hl
  exact dm_mono hQ (W.widen hc.1 hc.2 (W.zret (v := z) Cx.1 Cx.2.1 hrt hn (fun t ht hW => dm_ret hF hS ht) hS.2.2.2.2.2 hd hlk))
theorem r_lret {Fin : Option DV → DSt → Prop} {x : Int64} (E1 : dm_E1 Y (some .long) mc ms Fin) (Cx : dm_C Y cc own rm) (hF : Fin (some (DL x)) st) (hc : cs ≤ mc ∧ ss ≤ ms) (hd : decode cc pc = .ok (.lreturn, 1)) : dm_W Y cs ss st pc lv [DL x] := by
  obtain ⟨⟨p, l, e, R, s⟩, ⟨m, args, below, meth, c⟩, ⟨D, dA, A0, nL, Q⟩⟩ := Y
  obtain ⟨hrt, hlk, hQ⟩ := E1
  intro H locs ls hS hl
  exact dm_mono hQ (W.widen hc.1 hc.2 (W.lret (v := x) Cx.1 Cx.2.1 hrt (fun t ht hW => dm_ret hF hS ht) hS.2.2.2.2.2 hd hlk))
theorem r_dret {Fin : Option DV → DSt → Prop} {x : UInt64} (E1 : dm_E1 Y (some .double) mc ms Fin) (Cx : dm_C Y cc own rm) (hF : Fin (some (DD x)) st) (hc : cs ≤ mc ∧ ss ≤ ms) (hd : decode cc pc = .ok (.dreturn, 1)) : dm_W Y cs ss st pc lv [DD x] := by
  obtain ⟨⟨p, l, e, R, s⟩, ⟨m, args, below, meth, c⟩, ⟨D, dA, A0, nL, Q⟩⟩ := Y
  obtain ⟨hrt, hlk, hQ⟩ := E1
  intro H locs ls hS hl
  exact dm_mono hQ (W.widen hc.1 hc.2 (W.dret (v := x) Cx.1 Cx.2.1 hrt (fun t ht hW => dm_ret hF hS ht) hS.2.2.2.2.2 hd hlk))
theorem r_vret {Fin : Option DV → DSt → Prop} (E1 : dm_E1 Y none mc ms Fin) (Cx : dm_C Y cc own rm) (hF : Fin none st) (hc : cs ≤ mc ∧ ss ≤ ms) (hd : decode cc pc = .ok (.return_, 1)) : dm_W Y cs ss st pc lv [] := by
  obtain ⟨⟨p, l, e, R, s⟩, ⟨m, args, below, meth, c⟩, ⟨D, dA, A0, nL, Q⟩⟩ := Y
  obtain ⟨hrt, hlk, hQ⟩ := E1
  intro H locs ls hS hl
  exact dm_mono hQ (W.widen hc.1 hc.2 (W.vret Cx.1 Cx.2.1 hrt (fun t ht hW => dm_ret (rv := none) hF hS ht) hS.2.2.2.2.2 hd hlk))
theorem r_aret {Fin : Option DV → DSt → Prop} {x : Option Nat} {rt : FieldType} (hrf : (∃ n, rt = .object n) ∨ ∃ t, rt = .array t) (E1 : dm_E1 Y (some rt) mc ms Fin) (Cx : dm_C Y cc own rm) (hF : Fin (some (DR x)) st) (hc : cs ≤ mc ∧ ss ≤ ms) (hd : decode cc pc = .ok (.areturn, 1)) : dm_W Y cs ss st pc lv [DR x] := by
  obtain ⟨⟨p, l, e, R, s⟩, ⟨m, args, below, meth, c⟩, ⟨D, dA, A0, nL, Q⟩⟩ := Y
  obtain ⟨hrt, hlk, hQ⟩ := E1
  intro H locs ls hS hl
  have hv : va_rf x = .null ∨ ∃ a, va_rf x = .ref a := by
    cases x with
    | none => exact Or.inl rfl
    | some a => exact Or.inr ⟨a, rfl⟩
  exact dm_mono hQ (W.widen hc.1 hc.2 (W.aret (v := va_rf x) Cx.1 Cx.2.1 hrt hrf hv (fun t ht hW => dm_ret (rv := some (DR x)) hF hS ht) hS.2.2.2.2.2 hd hlk))
end DRUN
/-! starts -/
theorem dm_k1 {y : MethodName} {cy : ByteArray} {maxL mc ms : Nat} {ret : Option FieldType} {rmy : Room} {avs : List DV} {st st1 : DSt} {rv : Option DV} {own : String} (hy : plainName y.cls = true) (ho : y.cls = own) (hlen : (avs.map dm_cat).sum ≤ maxL)
    (body : ∀ Y : DY, dm_C Y cy own rmy → dm_N Y maxL → (y.name = "<init>" → dm_I Y own) → dm_E1 Y ret mc ms (fun rv' u => rv' = rv ∧ u = st1) → dm_W Y 0 0 st 0 (dm_args 0 avs) []) : dm_K1 y cy maxL ret rmy mc ms avs st rv st1 := by
  intro l D dA hl0
  refine Met.ofW (cc := cy) (maxL := maxL) (ret := ret) hy rfl ?_
  intro p e s m args below meth c s₁ B hml hv
  obtain ⟨rfl, hR, hsz, hK, hEv⟩ := hv
  have hts : ∀ w ∈ WALL, w.before (avs.map dm_v).toArray s = true := fun w hw => atoms_spec (ws := Cond.code y cy maxL ret :: WALL) B.pre w (List.mem_cons_of_mem _ hw)
  have hown : s.vm.findClass own = some m.cls := by rw [← ho]; exact findClass_of_methodNamed B.named
  have hA : ∀ q, s.heap.size ≤ q → dm_A st q := fun q h => Or.inr (by rw [← hsz]; exact h)
  have h := body ((p, l, e, _, s), (m, _, below, meth, c), (D, dA, dm_A st, maxL, _)) ⟨B.exec, B.bytes, hml, hown, hts, hK, hA, rfl, hl0, hEv⟩ rfl (fun hi => ((name_of_methodNamed B.named B.method).1.trans hi : meth.name = "<init>")) ⟨B.returns, B.notSynchronized, fun t ht => ht⟩
  rw [lg_entry_eq]
  refine h s.heap [] _ ⟨hR, hsz, fun q e he => Or.inl ⟨e, he⟩, va_S.rf⟩ ?_
  rw [← dm_args_lv]
  exact lv_entry (avs.map dm_v) (by rw [dm_args_len]; exact hlen)
theorem dm_k2 {y : MethodName} {cy : ByteArray} {maxL mc ms : Nat} {ret : Option FieldType} {rmy : Room} {avs : List DV} {st : DSt} {r : DRes} {own : String} (hy : plainName y.cls = true) (ho : y.cls = own) (hlen : (avs.map dm_cat).sum ≤ maxL)
    (body : ∀ Y : DY, dm_C Y cy own rmy → dm_N Y maxL → dm_E1 Y ret mc ms (fun rv u => r = .inr (rv, u)) → dm_E2 Y mc ms (fun E h => r = .inl (E, h)) → dm_W Y 0 0 st 0 (dm_args 0 avs) []) : dm_K2 y cy maxL ret rmy mc ms avs st r := by
  intro l D dA hl0
  refine vx_ofW (cc := cy) (maxL := maxL) (ret := ret) hy rfl ?_
  intro p e s m args below meth c s₁ B hml hex hv
  obtain ⟨rfl, hR, hsz, hK, hEv⟩ := hv
  have hts : ∀ w ∈ WALL, w.before (avs.map dm_v).toArray s = true := fun w hw => atoms_spec (ws := Cond.code y cy maxL ret :: WALL) B.pre w (List.mem_cons_of_mem _ hw)
  have hown : s.vm.findClass own = some m.cls := by rw [← ho]; exact findClass_of_methodNamed B.named
  have hA : ∀ q, s.heap.size ≤ q → dm_A st q := fun q h => Or.inr (by rw [← hsz]; exact h)
  have h := body ((p, l, e, _, s), (m, _, below, meth, c), (D, dA, dm_A st, maxL, _)) ⟨B.exec, B.bytes, hml, hown, hts, hK, hA, rfl, hl0, hEv⟩ rfl ⟨B.returns, B.notSynchronized, fun t ht => by
    obtain ⟨o, b1, b2, b3, b4⟩ := ht
    exact ⟨o, b1, b2, Or.inl ⟨b3, b4⟩⟩⟩ ⟨B.notSynchronized, hex, _, fun t ht => ht⟩
  rw [lg_entry_eq]
  refine h s.heap [] _ ⟨hR, hsz, fun q e he => Or.inl ⟨e, he⟩, va_S.rf⟩ ?_
  rw [← dm_args_lv]
  exact lv_entry (avs.map dm_v) (by rw [dm_args_len]; exact hlen)
/-! what generated walks use -/
section DGEN
variable {Y : DY} {cc : ByteArray} {own : String} {rm : Room} {cs ss pc : Nat} {st st1 : DSt} {lv : List (Nat × DV)} {stk stk' rest : List DV}
variable {y : MethodName} {cy : ByteArray} {maxL mc ms mcy msy n idx : Nat} {ret : Option FieldType} {rmy : Room} {rv : Option DV} {As : List DV} {b : Nat} {ci : Nat} {T : u_T} {N : Nat} {ro : Option Nat}
theorem dm_noX (h : DRes) (hne : ∀ E h', ¬ h = .inl (E, h')) : match Y with
      | ((p, l, e, R, s), (m, args, below, meth, c), (D, dA, A0, nL, Q)) => ∀ (E : String) (h' : DHp) (ce : Cell) (q9 : Addr) (H1 : Heap) (locs1 : List Loc) (ls : Array Slot), h = .inl (E, h') → dm_S D dA A0 s.heap (H1.size, h') H1 locs1 → lv_has ls nL (dm_lv lv) → H1[q9]? = some ce → ce.vm = .none → s.vm.findClass E = some ce.cls → vx_W p l e R s m args below meth c H1 locs1 cs ss Q (F0 m pc ls (rest.map dm_v)) q9 := by
  obtain ⟨⟨p, l, e, R, s⟩, ⟨m, args, below, meth, c⟩, ⟨D, dA, A0, nL, Q⟩⟩ := Y
  intro E h' ce q9 H1 locs1 ls hr
  exact absurd hr (hne E h')
theorem r_callVX_ret (hM : dm_K2 y cy maxL ret rmy mc ms (DR (some b) :: As) st (.inr (rv, st1))) (hb : oR st ro ci = some b) (hc : vwCl[ci]? = some (y.cls, T, N)) (Cx : dm_C Y cc own rm) (w1 : Cond.methodLink own idx y ∈ WALL) (w2 : Cond.instanceMethod y ∈ WALL) (w3 : Cond.selects y.cls y y ∈ WALL) (w4 : Cond.code y cy maxL ret ∈ WALL) (w5 : Cond.initialized y.cls ∈ WALL) (hd0 : dm_md y n) (hn : As.length = n) (hrm : rmy.cells = mc ∧ rmy.slots = ms ∧ rmy.frames + 1 ≤ rm.frames ∧ 8 + (maxL + 11) + rmy.locals ≤ rm.locals ∧ cs + mc ≤ rm.cells ∧ ss + ms ≤ rm.slots) (hd : decode cc pc = .ok (.invokevirtual idx, 3)) (hs : stk = As.reverse ++ DR ro :: rest) (h8 : (rest.map dm_cat).sum ≤ 8) (hs' : rv.toList ++ rest = stk') (kk : dm_W Y (cs + mc) (ss + ms) st1 (pc + 3) lv stk') : dm_W Y cs ss st pc lv stk := by
  refine r_callVX hM hb hc Cx w1 w2 w3 w4 w5 hd0 hn hrm hd hs h8 (dm_noX _ fun E h' h => nomatch h) fun rv' st' h => ?_
  cases h
  rw [hs']
  exact kk
theorem r_callVX_thr {FinX : String → DHp → Prop} {E : String} {h : DHp} (hM : dm_K2 y cy maxL ret rmy mcy msy (DR (some b) :: As) st (.inl (E, h))) (E2 : dm_E2 Y mc ms FinX) (hF : FinX E h) (hb : oR st ro ci = some b) (hc : vwCl[ci]? = some (y.cls, T, N)) (Cx : dm_C Y cc own rm) (w1 : Cond.methodLink own idx y ∈ WALL) (w2 : Cond.instanceMethod y ∈ WALL) (w3 : Cond.selects y.cls y y ∈ WALL) (w4 : Cond.code y cy maxL ret ∈ WALL) (w5 : Cond.initialized y.cls ∈ WALL) (hd0 : dm_md y n) (hn : As.length = n) (hrm : rmy.cells = mcy ∧ rmy.slots = msy ∧ rmy.frames + 1 ≤ rm.frames ∧ 8 + (maxL + 11) + rmy.locals ≤ rm.locals ∧ cs + mcy ≤ rm.cells ∧ ss + msy ≤ rm.slots) (hm : cs + mcy ≤ mc ∧ ss + msy ≤ ms) (hd : decode cc pc = .ok (.invokevirtual idx, 3)) (hs : stk = As.reverse ++ DR ro :: rest) (h8 : (rest.map dm_cat).sum ≤ 8) : dm_W Y cs ss st pc lv stk :=
  r_callVX hM hb hc Cx w1 w2 w3 w4 w5 hd0 hn hrm hd hs h8 (dm_out2 E2 (fun E' h' e => by cases e; exact hF) hm) fun rv' st' h => nomatch h
theorem r_callSX_ret (hM : dm_K2 y cy maxL ret rmy mc ms As st (.inr (rv, st1))) (Cx : dm_C Y cc own rm) (w1 : Cond.methodLink own idx y ∈ WALL) (w2 : Cond.static y ∈ WALL) (w4 : Cond.code y cy maxL ret ∈ WALL) (w5 : Cond.initialized y.cls ∈ WALL) (hd0 : dm_md y n) (hn : As.length = n) (hrm : rmy.cells = mc ∧ rmy.slots = ms ∧ rmy.frames + 1 ≤ rm.frames ∧ 8 + (maxL + 11) + rmy.locals ≤ rm.locals ∧ cs + mc ≤ rm.cells ∧ ss + ms ≤ rm.slots) (hd : decode cc pc = .ok (.invokestatic idx, 3)) (hs : stk = As.reverse ++ rest) (h8 : (rest.map dm_cat).sum ≤ 8) (hs' : rv.toList ++ rest = stk') (kk : dm_W Y (cs + mc) (ss + ms) st1 (pc + 3) lv stk') : dm_W Y cs ss st pc lv stk := by
  refine r_callSX hM Cx w1 w2 w4 w5 hd0 hn hrm hd hs h8 (dm_noX _ fun E h' h => nomatch h) fun rv' st' h => ?_
  cases h
  rw [hs']
  exact kk
theorem r_callSX_thr {FinX : String → DHp → Prop} {E : String} {h : DHp} (hM : dm_K2 y cy maxL ret rmy mcy msy As st (.inl (E, h))) (E2 : dm_E2 Y mc ms FinX) (hF : FinX E h) (Cx : dm_C Y cc own rm) (w1 : Cond.methodLink own idx y ∈ WALL) (w2 : Cond.static y ∈ WALL) (w4 : Cond.code y cy maxL ret ∈ WALL) (w5 : Cond.initialized y.cls ∈ WALL) (hd0 : dm_md y n) (hn : As.length = n) (hrm : rmy.cells = mcy ∧ rmy.slots = msy ∧ rmy.frames + 1 ≤ rm.frames ∧ 8 + (maxL + 11) + rmy.locals ≤ rm.locals ∧ cs + mcy ≤ rm.cells ∧ ss + msy ≤ rm.slots) (hm : cs + mcy ≤ mc ∧ ss + msy ≤ ms) (hd : decode cc pc = .ok (.invokestatic idx, 3)) (hs : stk = As.reverse ++ rest) (h8 : (rest.map dm_cat).sum ≤ 8) : dm_W Y cs ss st pc lv stk :=
  r_callSX hM Cx w1 w2 w4 w5 hd0 hn hrm hd hs h8 (dm_out2 E2 (fun E' h' e => by cases e; exact hF) hm) fun rv' st' h => nomatch h
end DGEN
def oN {β : Type} (r : Option Nat) (A : β) (B : Nat → β) : β := match r with
  | none => A
  | some a => B a
/-- results as the contracts have them: x: impure with a value; v: impure, void; p: pure with a value; u: pure, void -/
def rxI (r : (String × DHp) ⊕ (Int32 × DSt)) : DRes := match r with
  | .inl e => .inl e
  | .inr q => .inr (some (DI q.1), q.2)
def rxV (r : (String × DHp) ⊕ DSt) : DRes := match r with
  | .inl e => .inl e
  | .inr q => .inr (none, q)
def rpI (st : DSt) (r : (String × DHp) ⊕ Int32) : DRes := match r with
  | .inl e => .inl e
  | .inr q => .inr (some (DI q), st)
def rpR (st : DSt) (r : (String × DHp) ⊕ Option Nat) : DRes := match r with
  | .inl e => .inl e
  | .inr q => .inr (some (DR q), st)
def rpV (st : DSt) (r : (String × DHp) ⊕ Unit) : DRes := match r with
  | .inl e => .inl e
  | .inr _ => .inr (none, st)
theorem f1xI {x v : Int32} {s t : DSt} (h : some (x, s) = some (v, t)) : some (DI x) = some (DI v) ∧ s = t := by cases h; exact ⟨rfl, rfl⟩
theorem f1xR {x v : Option Nat} {s t : DSt} (h : some (x, s) = some (v, t)) : some (DR x) = some (DR v) ∧ s = t := by cases h; exact ⟨rfl, rfl⟩
theorem f1xV {s t : DSt} (h : some s = some t) : (none : Option DV) = none ∧ s = t := by cases h; exact ⟨rfl, rfl⟩
theorem f1pI {x v : Int32} {s : DSt} (h : some x = some v) : some (DI x) = some (DI v) ∧ s = s := by cases h; exact ⟨rfl, rfl⟩
theorem f1pR {x v : Option Nat} {s : DSt} (h : some x = some v) : some (DR x) = some (DR v) ∧ s = s := by cases h; exact ⟨rfl, rfl⟩
theorem f1pL {x v : Int64} {s : DSt} (h : some x = some v) : some (DL x) = some (DL v) ∧ s = s := by cases h; exact ⟨rfl, rfl⟩
theorem f1pD {x v : UInt64} {s : DSt} (h : some x = some v) : some (DD x) = some (DD v) ∧ s = s := by cases h; exact ⟨rfl, rfl⟩
theorem f1pV {s : DSt} : (none : Option DV) = none ∧ s = s := ⟨rfl, rfl⟩
theorem f1xL {x v : Int64} {s t : DSt} (h : some (x, s) = some (v, t)) : some (DL x) = some (DL v) ∧ s = t := by cases h; exact ⟨rfl, rfl⟩
theorem f1xD {x v : UInt64} {s t : DSt} (h : some (x, s) = some (v, t)) : some (DD x) = some (DD v) ∧ s = t := by cases h; exact ⟨rfl, rfl⟩
theorem f2xI {x : Int32} {s : DSt} {r} (h : some (Sum.inr (x, s)) = some r) : rxI r = .inr (some (DI x), s) := by cases h; rfl
theorem f2xV {s : DSt} {r} (h : some (Sum.inr s) = some r) : rxV r = .inr (none, s) := by cases h; rfl
theorem f2pI {x : Int32} {s : DSt} {r} (h : some (Sum.inr x) = some r) : rpI s r = .inr (some (DI x), s) := by cases h; rfl
theorem f2pR {x : Option Nat} {s : DSt} {r} (h : some (Sum.inr x) = some r) : rpR s r = .inr (some (DR x), s) := by cases h; rfl
theorem f2pV {s : DSt} {r} (h : some (Sum.inr ()) = some r) : rpV s r = .inr (none, s) := by cases h; rfl
theorem t2xI {e r} (h : some (Sum.inl e) = some r) : rxI r = .inl e := by cases h; rfl
theorem t2xV {e r} (h : some (Sum.inl e) = some r) : rxV r = .inl e := by cases h; rfl
theorem t2pI {s : DSt} {e r} (h : some (Sum.inl e) = some r) : rpI s r = .inl e := by cases h; rfl
theorem t2pR {s : DSt} {e r} (h : some (Sum.inl e) = some r) : rpR s r = .inl e := by cases h; rfl
theorem t2pV {s : DSt} {e r} (h : some (Sum.inl e) = some r) : rpV s r = .inl e := by cases h; rfl
end
section
/-! THE METHODS AS FUNCTIONS OVER THE ABSTRACT HEAP, written by program out of the bytecode -/
/-- division of doubles that is no NaN -/
noncomputable def oDD (x y : UInt64) : Option UInt64 := @ite _ (vf_n64 (FP.ddiv x y)) (Classical.propDecidable _) (some (FP.ddiv x y)) none
theorem oDD_spec {x y z : UInt64} (h : oDD x y = some z) : vf_n64 (FP.ddiv x y) ∧ z = FP.ddiv x y := by
  unfold oDD at h
  split at h
  · rename_i h0
    cases h
    exact ⟨h0, rfl⟩
  · cases h
theorem r_ddivO {Y : DY} {cc : ByteArray} {own : String} {rm : Room} {cs ss pc : Nat} {st : DSt} {lv : List (Nat × DV)} {stk : List DV} {x y z : UInt64} (C : dm_C Y cc own rm) (hd : decode cc pc = .ok (.ddiv, 1)) (hz : oDD x y = some z) (k : dm_W Y cs ss st (pc + 1) lv (DD z :: stk)) : dm_W Y cs ss st pc lv (DD y :: DD x :: stk) := by
  obtain ⟨h0, rfl⟩ := oDD_spec hz
  exact r_ddiv C hd h0 k
theorem f0xI {x v : Int32} {s t : DSt} (h : some (Sum.inr (x, s) : (String × DHp) ⊕ (Int32 × DSt)) = some (.inr (v, t))) : some (DI x) = some (DI v) ∧ s = t := by cases h; exact ⟨rfl, rfl⟩
theorem f0pI {x v : Int32} {s : DSt} (h : some (Sum.inr x : (String × DHp) ⊕ Int32) = some (.inr v)) : some (DI x) = some (DI v) ∧ s = s := by cases h; exact ⟨rfl, rfl⟩
theorem f0pR {x v : Option Nat} {s : DSt} (h : some (Sum.inr x : (String × DHp) ⊕ Option Nat) = some (.inr v)) : some (DR x) = some (DR v) ∧ s = s := by cases h; exact ⟨rfl, rfl⟩
noncomputable def fX2_init (st : DSt) (x : Nat) : Option (DSt) :=
  oB (some (nC st (.inl (0, nI0 6)))) fun s1 =>
  oB (pV s1 (some x) 2 0 (DR (some st.1))) fun s2 =>
  some s2
noncomputable def fX0_init (st : DSt) (x : Nat) (a0 : Int32) : Option (DSt) :=
  oB (some (nC st (.inr (2, [DR none])))) fun s1 =>
  oB (fX2_init s1 st.1) fun q2 =>
  oB (pV q2 (some x) 0 0 (DR (some st.1))) fun s3 =>
  oB (pV s3 (some x) 0 1 (DI a0)) fun s4 =>
  oB (pV s4 (some x) 0 2 (DI 20)) fun s5 =>
  some s5
noncomputable def fX0_mixed (st : DSt) (x : Nat) (a0 : Int32) (a1 : Int32) (a2 : Int32) : Option (Int32) :=
  oB (gI st (some x) 0 1) fun v1 =>
  if 0 < (v1 + a2) then
    oB (gI st (some x) 0 1) fun v2 =>
    oB (oD ((a0 * v2) + (a1 * a2)) (v1 + a2)) fun v3 =>
    some v3
  else
    some a0
noncomputable def fX2_vanish_L2 (x : Nat) (z1 : DSt × Int32) : Option ((DSt × Int32) ⊕ (DSt × Int32)) :=
  if 5 < z1.2 then
    some (.inr (z1.1, z1.2))
  else
    oB (gR z1.1 (some x) 2 0) fun v2 =>
    oB (sI z1.1 v2 0 z1.2 0) fun s3 =>
    some (.inl (s3, (z1.2 + 1)))
noncomputable def fX2_vanish (st : DSt) (x : Nat) : Option (DSt) :=
  oB (dlp (fX2_vanish_L2 x) (st, 1)) fun b1 =>
  some b1.1
noncomputable def fX0_takeIn_L2 (x : Nat) (a0 : Option Nat) (z1 : DSt × Int32) : Option ((DSt × Int32) ⊕ (DSt × Int32)) :=
  if 5 < z1.2 then
    some (.inr (z1.1, z1.2))
  else
    oB (gR z1.1 (some x) 0 0) fun v2 =>
    oB (gR z1.1 v2 2 0) fun v3 =>
    oB (gR z1.1 (some x) 0 0) fun v4 =>
    oB (gR z1.1 v4 2 0) fun v5 =>
    oB (aI z1.1 v5 0 z1.2) fun v6 =>
    oB (gR z1.1 a0 0 0) fun v7 =>
    oB (gR z1.1 v7 2 0) fun v8 =>
    oB (aI z1.1 v8 0 z1.2) fun v9 =>
    oB (gI z1.1 a0 0 1) fun v10 =>
    oB (oR z1.1 (some x) 0) fun b11 =>
    oB (fX0_mixed z1.1 b11 v6 v9 v10) fun q12 =>
    oB (sI z1.1 v3 0 z1.2 q12) fun s13 =>
    some (.inl (s13, (z1.2 + 1)))
noncomputable def fX0_takeIn (st : DSt) (x : Nat) (a0 : Option Nat) : Option (DSt) :=
  oB (dlp (fX0_takeIn_L2 x a0) (st, 1)) fun b1 =>
  oB (gI b1.1 (some x) 0 2) fun v15 =>
  oB (gI b1.1 a0 0 2) fun v16 =>
  oB (gI b1.1 a0 0 1) fun v17 =>
  oB (oR b1.1 (some x) 0) fun b18 =>
  oB (fX0_mixed b1.1 b18 v15 v16 v17) fun q19 =>
  oB (pV b1.1 (some x) 0 2 (DI q19)) fun s20 =>
  oB (gI s20 (some x) 0 1) fun v21 =>
  oB (gI s20 a0 0 1) fun v22 =>
  oB (pV s20 (some x) 0 1 (DI (v21 + v22))) fun s23 =>
  oB (pV s23 a0 0 1 (DI 0)) fun s24 =>
  oB (gR s24 a0 0 0) fun v25 =>
  oB (oR s24 v25 2) fun b26 =>
  oB (fX2_vanish s24 b26) fun q27 =>
  some q27
noncomputable def fX1_init (st : DSt) (x : Nat) (a0 : Int32) (a1 : Int32) : Option (DSt) :=
  oB (pV st (some x) 1 0 (DI a0)) fun s1 =>
  oB (pV s1 (some x) 1 1 (DI a1)) fun s2 =>
  oB (pV s2 (some x) 1 3 (DI (-1))) fun s3 =>
  oB (pV s3 (some x) 1 4 (DI (-1))) fun s4 =>
  some s4
noncomputable def fX3_squares (st : DSt) (x : Nat) : Option (Int32) :=
  oB (gI st (some x) 3 1) fun v1 =>
  oB (gI st (some x) 3 2) fun v2 =>
  some (v1 * v2)
noncomputable def fX1_suits (st : DSt) (x : Nat) (a0 : Option Nat) (a1 : Int32) : Option (Int32) :=
  oB (oR st a0 3) fun b1 =>
  oB (fX3_squares st b1) fun q2 =>
  oB (gI st (some x) 1 0) fun v3 =>
  if q2 = v3 then
    oB (gI st a0 3 0) fun v5 =>
    oB (gI st (some x) 1 1) fun v6 =>
    if v5 < v6 then
      oB (oZ 0) fun v7 =>
      some v7
    else
      if 20 < a1 then
        oB (oZ 0) fun v8 =>
        some v8
      else
        oB (oZ 1) fun v9 =>
        some v9
  else
    oB (oZ 0) fun v4 =>
    some v4
noncomputable def fX1_take (st : DSt) (x : Nat) (a0 : Option Nat) : Option (DSt) :=
  oB (pV st (some x) 1 2 (DI 1)) fun s1 =>
  oB (gI s1 a0 3 0) fun v2 =>
  oB (pV s1 (some x) 1 3 (DI v2)) fun s3 =>
  oB (gI s3 a0 3 3) fun v4 =>
  oB (pV s3 (some x) 1 4 (DI v4)) fun s5 =>
  some s5
noncomputable def fX2_becomeLike_L2 (x : Nat) (a0 : Option Nat) (z1 : DSt × Int32) : Option ((DSt × Int32) ⊕ (DSt × Int32)) :=
  if 5 < z1.2 then
    some (.inr (z1.1, z1.2))
  else
    oB (gR z1.1 (some x) 2 0) fun v2 =>
    oB (gR z1.1 a0 2 0) fun v3 =>
    oB (aI z1.1 v3 0 z1.2) fun v4 =>
    oB (sI z1.1 v2 0 z1.2 v4) fun s5 =>
    some (.inl (s5, (z1.2 + 1)))
noncomputable def fX2_becomeLike (st : DSt) (x : Nat) (a0 : Option Nat) : Option (DSt) :=
  oB (dlp (fX2_becomeLike_L2 x a0) (st, 1)) fun b1 =>
  some b1.1
noncomputable def fX2_meltingPoint (st : DSt) (a0 : Int32) : Option (Int32) :=
  some (15 + (4 * a0))
noncomputable def fX2_halveWhatMelts_L2 (x : Nat) (a0 : Int32) (z1 : DSt × Int32) : Option ((DSt × Int32) ⊕ (DSt × Int32)) :=
  if 5 < z1.2 then
    some (.inr (z1.1, z1.2))
  else
    oB (fX2_meltingPoint z1.1 z1.2) fun q2 =>
    if a0 < q2 then
      some (.inl (z1.1, (z1.2 + 1)))
    else
      oB (gR z1.1 (some x) 2 0) fun v3 =>
      oB (aI z1.1 v3 0 z1.2) fun v4 =>
      oB (oD v4 2) fun v5 =>
      oB (sI z1.1 v3 0 z1.2 v5) fun s6 =>
      some (.inl (s6, (z1.2 + 1)))
noncomputable def fX2_halveWhatMelts (st : DSt) (x : Nat) (a0 : Int32) : Option (DSt) :=
  oB (dlp (fX2_halveWhatMelts_L2 x a0) (st, 1)) fun b1 =>
  some b1.1
noncomputable def fX2_growingSort_L2 (st : DSt) (a0 : Int32) (z1 : Int32) : Option ((Int32) ⊕ ((Int32) ⊕ (Int32))) :=
  if 5 < z1 then
    some (.inr (.inl z1))
  else
    oB (fX2_meltingPoint st z1) fun q2 =>
    if q2 ≤ (a0 + 3) then
      some (.inl (z1 + 1))
    else
      some (.inr (.inr z1))
noncomputable def fX2_growingSort (st : DSt) (a0 : Int32) : Option (Int32) :=
  oB (dlp (fX2_growingSort_L2 st a0) 1) fun b1 =>
  match b1 with
  | .inr r9 => some r9
  | .inl yb1 =>
    some 5
noncomputable def fX2_total_L4 (st : DSt) (x : Nat) (z1 : Int32 × Int32) : Option ((Int32 × Int32) ⊕ (Int32 × Int32)) :=
  if 5 < z1.2 then
    some (.inr (z1.1, z1.2))
  else
    oB (gR st (some x) 2 0) fun v2 =>
    oB (aI st v2 0 z1.2) fun v3 =>
    some (.inl ((z1.1 + v3), (z1.2 + 1)))
noncomputable def fX2_total (st : DSt) (x : Nat) : Option (Int32) :=
  oB (dlp (fX2_total_L4 st x) (0, 1)) fun b1 =>
  some b1.1
noncomputable def fX2_increase (st : DSt) (x : Nat) (a0 : Int32) (a1 : Int32) : Option (DSt) :=
  oB (gR st (some x) 2 0) fun v1 =>
  oB (aI st v1 0 a0) fun v2 =>
  oB (oR st (some x) 2) fun b3 =>
  oB (fX2_total st b3) fun q4 =>
  oB (sI st v1 0 a0 (v2 + (jmax 0 (jmin a1 (100 - q4))))) fun s5 =>
  some s5
noncomputable def fX2_letGrow (st : DSt) (x : Nat) (a0 : Int32) : Option (DSt) :=
  if 34 ≤ a0 then
    some st
  else
    oB (fX2_growingSort st a0) fun q1 =>
    oB (gR st (some x) 2 0) fun v2 =>
    oB (aI st v2 0 q1) fun v3 =>
    oB (oD v3 4) fun v4 =>
    oB (oR st (some x) 2) fun b5 =>
    oB (fX2_increase st b5 q1 (8 + v4)) fun q6 =>
    some q6
noncomputable def fX2_keepAt_L2 (x : Nat) (a0 : Int32) (a1 : Int32) (z1 : DSt × Int32) : Option ((DSt × Int32) ⊕ (DSt × Int32)) :=
  if a1 ≤ z1.2 then
    some (.inr (z1.1, z1.2))
  else
    oB (oR z1.1 (some x) 2) fun b2 =>
    oB (fX2_halveWhatMelts z1.1 b2 a0) fun q3 =>
    oB (oR q3 (some x) 2) fun b4 =>
    oB (fX2_letGrow q3 b4 a0) fun q5 =>
    some (.inl (q5, (z1.2 + 1)))
noncomputable def fX2_keepAt (st : DSt) (x : Nat) (a0 : Int32) (a1 : Int32) : Option (DSt) :=
  oB (dlp (fX2_keepAt_L2 x a0 a1) (st, 0)) fun b1 =>
  some b1.1
noncomputable def fX2_temper (st : DSt) (x : Nat) : Option (Int32) :=
  oB (gR st (some x) 2 0) fun v1 =>
  oB (aI st v1 0 5) fun v2 =>
  oB (gR st (some x) 2 0) fun v3 =>
  oB (aI st v3 0 4) fun v4 =>
  oB (gR st (some x) 2 0) fun v5 =>
  oB (aI st v5 0 1) fun v6 =>
  oB (gR st (some x) 2 0) fun v7 =>
  oB (aI st v7 0 2) fun v8 =>
  oB (gR st (some x) 2 0) fun v9 =>
  oB (aI st v9 0 3) fun v10 =>
  some (jmax 0 (jmin (((((2 * v2) + v4) - v6) - v8) - v10) 100))
noncomputable def fX3_init (st : DSt) (x : Nat) (a0 : Int32) (a1 : Int32) (a2 : Int32) : Option (DSt) :=
  oB (pV st (some x) 3 1 (DI a0)) fun s1 =>
  oB (pV s1 (some x) 3 2 (DI a1)) fun s2 =>
  oB (pV s2 (some x) 3 0 (DI a2)) fun s3 =>
  some s3
noncomputable def fX3_grams (st : DSt) (x : Nat) : Option (Int32) :=
  oB (oR st (some x) 3) fun b1 =>
  oB (fX3_squares st b1) fun q2 =>
  some (q2 * 10)
noncomputable def fX3_isBloomed (st : DSt) (x : Nat) : Option (Int32) :=
  oB (gI st (some x) 3 3) fun v1 =>
  if v1 ≤ 20 then
    oB (oZ 0) fun v2 =>
    some v2
  else
    oB (oZ 1) fun v3 =>
    some v3
noncomputable def fX3_bloomBehindPolish (st : DSt) (x : Nat) : Option (Int32) :=
  oB (gI st (some x) 3 3) fun v1 =>
  some (jmax 0 (v1 - 15))
noncomputable def fX3_bloomOfADay (st : DSt) (x : Nat) (a0 : Int32) : Option (Int32) :=
  oB (gI st (some x) 3 0) fun v1 =>
  oB (oD (100 - v1) 10) fun v2 =>
  some (v2 + (2 * (jmax 0 (a0 - 24))))
noncomputable def fX3_standFor (st : DSt) (x : Nat) (a0 : Int32) (a1 : Int32) : Option (DSt) :=
  oB (gI st (some x) 3 3) fun v1 =>
  oB (oR st (some x) 3) fun b2 =>
  oB (fX3_bloomOfADay st b2 a1) fun q3 =>
  oB (pV st (some x) 3 3 (DI (jmin 100 (v1 + (a0 * q3))))) fun s4 =>
  oB (gI s4 (some x) 3 4) fun v5 =>
  oB (pV s4 (some x) 3 4 (DI (v5 + a0))) fun s6 =>
  some s6
noncomputable def fX3_partBehind (st : DSt) (x : Nat) (a0 : Int32) (a1 : Int32) : Option (Option Nat × DSt) :=
  if a1 = 0 then
    oB (some (nC st (.inr (3, [DI 0, DI 0, DI 0, DI 0, DI 0])))) fun s1 =>
    oB (gI s1 (some x) 3 1) fun v2 =>
    oB (gI s1 (some x) 3 2) fun v3 =>
    oB (gI s1 (some x) 3 0) fun v4 =>
    oB (fX3_init s1 st.1 (v2 - a0) v3 v4) fun q5 =>
    oB (gI q5 (some x) 3 3) fun v6 =>
    oB (pV q5 (some st.1) 3 3 (DI v6)) fun s7 =>
    oB (gI s7 (some x) 3 4) fun v8 =>
    oB (pV s7 (some st.1) 3 4 (DI v8)) fun s9 =>
    some ((some st.1), s9)
  else
    oB (some (nC st (.inr (3, [DI 0, DI 0, DI 0, DI 0, DI 0])))) fun s10 =>
    oB (gI s10 (some x) 3 1) fun v11 =>
    oB (gI s10 (some x) 3 2) fun v12 =>
    oB (gI s10 (some x) 3 0) fun v13 =>
    oB (fX3_init s10 st.1 v11 (v12 - a0) v13) fun q14 =>
    oB (gI q14 (some x) 3 3) fun v15 =>
    oB (pV q14 (some st.1) 3 3 (DI v15)) fun s16 =>
    oB (gI s16 (some x) 3 4) fun v17 =>
    oB (pV s16 (some st.1) 3 4 (DI v17)) fun s18 =>
    some ((some st.1), s18)
noncomputable def fX3_cutDownTo (st : DSt) (x : Nat) (a0 : Int32) (a1 : Int32) : Option (DSt) :=
  if a1 = 0 then
    oB (pV st (some x) 3 1 (DI a0)) fun s1 =>
    some s1
  else
    oB (pV st (some x) 3 2 (DI a0)) fun s2 =>
    some s2
noncomputable def fX4_init (st : DSt) (x : Nat) : Option (DSt) :=
  oB (some (nC st (.inl (2, nR0 5)))) fun s1 =>
  oB (pV s1 (some x) 4 0 (DR (some st.1))) fun s2 =>
  oB (some (nC s2 (.inl (3, nR0 8)))) fun s3 =>
  oB (pV s3 (some x) 4 1 (DR (some s2.1))) fun s4 =>
  oB (some (nC s4 (.inl (4, nR0 6)))) fun s5 =>
  oB (pV s5 (some x) 4 2 (DR (some s4.1))) fun s6 =>
  oB (some (nC s6 (.inr (2, [DR none])))) fun s7 =>
  oB (fX2_init s7 s6.1) fun q8 =>
  oB (pV q8 (some x) 4 7 (DR (some s6.1))) fun s9 =>
  oB (some (nC s9 (.inr (2, [DR none])))) fun s10 =>
  oB (fX2_init s10 s9.1) fun q11 =>
  oB (pV q11 (some x) 4 8 (DR (some s9.1))) fun s12 =>
  oB (some (nC s12 (.inl (0, nI0 6)))) fun s13 =>
  oB (pV s13 (some x) 4 9 (DR (some s12.1))) fun s14 =>
  oB (some (nC s14 (.inl (1, nI0 8)))) fun s15 =>
  oB (pV s15 (some x) 4 10 (DR (some s14.1))) fun s16 =>
  some s16
noncomputable def fX4_bowl (st : DSt) (x : Nat) (a0 : Int32) : Option ((String × DHp) ⊕ (Int32 × DSt)) :=
  if a0 < 0 then
    some (.inl ("java/lang/IllegalArgumentException", st.2))
  else
    if a0 ≤ 2000 then
      oB (gI st (some x) 4 3) fun v1 =>
      if v1 < 5 then
        oB (gR st (some x) 4 0) fun v2 =>
        oB (some (nC st (.inr (0, [DR none, DI 0, DI 0])))) fun s3 =>
        oB (fX0_init s3 st.1 a0) fun q4 =>
        oB (sR q4 v2 2 0 v1 (some st.1)) fun s5 =>
        oB (pV s5 (some x) 4 3 (DI (v1 + 1))) fun s6 =>
        some (.inr (v1, s6))
      else
        some (.inl ("java/lang/IllegalStateException", st.2))
    else
      some (.inl ("java/lang/IllegalArgumentException", st.2))
noncomputable def fX4_bowlAt (st : DSt) (x : Nat) (a0 : Int32) : Option ((String × DHp) ⊕ (Option Nat)) :=
  if a0 < 0 then
    some (.inl ("java/lang/IndexOutOfBoundsException", st.2))
  else
    if a0 < 5 then
      oB (gR st (some x) 4 0) fun v2 =>
      oB (aR st v2 2 a0) fun v3 =>
      oN v3 (
        some (.inl ("java/lang/IndexOutOfBoundsException", st.2))
      ) fun n5 =>
      some (.inr (some n5))
    else
      some (.inl ("java/lang/IndexOutOfBoundsException", st.2))
noncomputable def fX4_checkWarming (st : DSt) (a0 : Int32) (a1 : Int32) : Option ((String × DHp) ⊕ (Unit)) :=
  if a0 < 15 then
    some (.inl ("java/lang/IllegalArgumentException", st.2))
  else
    if 50 < a0 then
      some (.inl ("java/lang/IllegalArgumentException", st.2))
    else
      if a1 < 1 then
        some (.inl ("java/lang/IllegalArgumentException", st.2))
      else
        if a1 ≤ 40 then
          some (.inr ())
        else
          some (.inl ("java/lang/IllegalArgumentException", st.2))
noncomputable def fX4_warm (st : DSt) (x : Nat) (a0 : Int32) (a1 : Int32) (a2 : Int32) : Option ((String × DHp) ⊕ (Int32 × DSt)) :=
  oB (oR st (some x) 4) fun b1 =>
  xB (fX4_bowlAt st b1 a0) fun q2 =>
  xB (fX4_checkWarming st a1 a2) fun q3 =>
  oB (pV st q2 0 2 (DI a1)) fun s4 =>
  oB (gR s4 q2 0 0) fun v5 =>
  oB (oR s4 v5 2) fun b6 =>
  oB (fX2_keepAt s4 b6 a1 a2) fun q7 =>
  oB (gR q7 q2 0 0) fun v8 =>
  oB (oR q7 v8 2) fun b9 =>
  oB (fX2_temper q7 b9) fun q10 =>
  some (.inr (q10, q7))
noncomputable def fX4_seed (st : DSt) (x : Nat) (a0 : Int32) (a1 : Int32) : Option ((String × DHp) ⊕ (Int32 × DSt)) :=
  oB (oR st (some x) 4) fun b1 =>
  xB (fX4_bowlAt st b1 a0) fun q2 =>
  if a1 < 1 then
    some (.inl ("java/lang/IllegalArgumentException", st.2))
  else
    if a1 ≤ 30 then
      oB (gR st q2 0 0) fun v3 =>
      oB (oR st v3 2) fun b4 =>
      oB (fX2_increase st b4 5 a1) fun q5 =>
      oB (gR q5 q2 0 0) fun v6 =>
      oB (gR q5 v6 2 0) fun v7 =>
      oB (aI q5 v7 0 5) fun v8 =>
      some (.inr (v8, q5))
    else
      some (.inl ("java/lang/IllegalArgumentException", st.2))
noncomputable def fX4_pour (st : DSt) (x : Nat) (a0 : Int32) (a1 : Int32) : Option ((String × DHp) ⊕ (Int32 × DSt)) :=
  oB (oR st (some x) 4) fun b1 =>
  xB (fX4_bowlAt st b1 a0) fun q2 =>
  oB (oR st (some x) 4) fun b3 =>
  xB (fX4_bowlAt st b3 a1) fun q4 =>
  oB (gI st q2 0 1) fun v5 =>
  oB (gI st q4 0 1) fun v6 =>
  if a0 = a1 then
    some (.inl ("java/lang/IllegalArgumentException", st.2))
  else
    if (v5 + v6) = 0 then
      some (.inl ("java/lang/IllegalArgumentException", st.2))
    else
      if (v5 + v6) ≤ 2000 then
        oB (oR st q4 0) fun b7 =>
        oB (fX0_takeIn st b7 q2) fun q8 =>
        oB (gI q8 q4 0 1) fun v9 =>
        some (.inr (v9, q8))
      else
        some (.inl ("java/lang/IllegalArgumentException", st.2))
noncomputable def fX4_addSlab (st : DSt) (x : Nat) (a0 : Option Nat) : Option ((String × DHp) ⊕ (Int32 × DSt)) :=
  oB (gI st (some x) 4 4) fun v1 =>
  if v1 < 8 then
    oB (gR st (some x) 4 1) fun v2 =>
    oB (sR st v2 3 3 v1 a0) fun s3 =>
    oB (pV s3 (some x) 4 4 (DI (v1 + 1))) fun s4 =>
    some (.inr (v1, s4))
  else
    some (.inl ("java/lang/IllegalStateException", st.2))
noncomputable def fX4_cast (st : DSt) (x : Nat) (a0 : Int32) (a1 : Int32) (a2 : Int32) : Option ((String × DHp) ⊕ (Int32 × DSt)) :=
  oB (oR st (some x) 4) fun b1 =>
  xB (fX4_bowlAt st b1 a0) fun q2 =>
  if a1 < 1 then
    some (.inl ("java/lang/IllegalArgumentException", st.2))
  else
    if 6 < a1 then
      some (.inl ("java/lang/IllegalArgumentException", st.2))
    else
      if a2 < 1 then
        some (.inl ("java/lang/IllegalArgumentException", st.2))
      else
        if a2 ≤ 6 then
          oB (some (nC st (.inr (3, [DI 0, DI 0, DI 0, DI 0, DI 0])))) fun s3 =>
          oB (gR s3 q2 0 0) fun v4 =>
          oB (oR s3 v4 2) fun b5 =>
          oB (fX2_temper s3 b5) fun q6 =>
          oB (fX3_init s3 st.1 a1 a2 q6) fun q7 =>
          oB (gI q7 q2 0 1) fun v8 =>
          oB (oR q7 (some st.1) 3) fun b9 =>
          oB (fX3_grams q7 b9) fun q10 =>
          if q10 ≤ v8 then
            oB (oR q7 (some x) 4) fun b11 =>
            xB (fX4_addSlab q7 b11 (some st.1)) fun q12 =>
            oB (gI q12.2 q2 0 1) fun v13 =>
            oB (oR q12.2 (some st.1) 3) fun b14 =>
            oB (fX3_grams q12.2 b14) fun q15 =>
            oB (pV q12.2 q2 0 1 (DI (v13 - q15))) fun s16 =>
            some (.inr (q12.1, s16))
          else
            some (.inl ("java/lang/IllegalStateException", q7.2))
        else
          some (.inl ("java/lang/IllegalArgumentException", st.2))
noncomputable def fX4_findSlab (st : DSt) (x : Nat) (a0 : Int32) : Option (Option Nat) :=
  if a0 < 0 then
    some none
  else
    if a0 < 8 then
      oB (gR st (some x) 4 1) fun v1 =>
      oB (aR st v1 3 a0) fun v2 =>
      some v2
    else
      some none
noncomputable def fX4_slabAt (st : DSt) (x : Nat) (a0 : Int32) : Option ((String × DHp) ⊕ (Option Nat)) :=
  oB (oR st (some x) 4) fun b1 =>
  oB (fX4_findSlab st b1 a0) fun q2 =>
  oN q2 (
    some (.inl ("java/lang/IndexOutOfBoundsException", st.2))
  ) fun n4 =>
  some (.inr (some n4))
noncomputable def fX4_polish (st : DSt) (x : Nat) (a0 : Int32) : Option ((String × DHp) ⊕ (Int32 × DSt)) :=
  oB (oR st (some x) 4) fun b1 =>
  xB (fX4_slabAt st b1 a0) fun q2 =>
  oB (oR st q2 3) fun b3 =>
  oB (fX3_bloomBehindPolish st b3) fun q4 =>
  oB (pV st q2 3 3 (DI q4)) fun s5 =>
  oB (gI s5 q2 3 3) fun v6 =>
  some (.inr (v6, s5))
noncomputable def fX4_split (st : DSt) (x : Nat) (a0 : Int32) (a1 : Int32) (a2 : Int32) : Option ((String × DHp) ⊕ (Int32 × DSt)) :=
  oB (oR st (some x) 4) fun b1 =>
  xB (fX4_slabAt st b1 a0) fun q2 =>
  if a2 = 0 then
    oB (gI st q2 3 1) fun v3 =>
    if a1 < 1 then
      some (.inl ("java/lang/IndexOutOfBoundsException", st.2))
    else
      if a1 < v3 then
        oB (oR st q2 3) fun b4 =>
        oB (fX3_partBehind st b4 a1 a2) fun q5 =>
        oB (oR q5.2 (some x) 4) fun b6 =>
        xB (fX4_addSlab q5.2 b6 q5.1) fun q7 =>
        oB (oR q7.2 q2 3) fun b8 =>
        oB (fX3_cutDownTo q7.2 b8 a1 a2) fun q9 =>
        some (.inr (q7.1, q9))
      else
        some (.inl ("java/lang/IndexOutOfBoundsException", st.2))
  else
    oB (gI st q2 3 2) fun v12 =>
    if a1 < 1 then
      some (.inl ("java/lang/IndexOutOfBoundsException", st.2))
    else
      if a1 < v12 then
        oB (oR st q2 3) fun b13 =>
        oB (fX3_partBehind st b13 a1 a2) fun q14 =>
        oB (oR q14.2 (some x) 4) fun b15 =>
        xB (fX4_addSlab q14.2 b15 q14.1) fun q16 =>
        oB (oR q16.2 q2 3) fun b17 =>
        oB (fX3_cutDownTo q16.2 b17 a1 a2) fun q18 =>
        some (.inr (q16.1, q18))
      else
        some (.inl ("java/lang/IndexOutOfBoundsException", st.2))
noncomputable def fX4_closeGaps_L4 (x : Nat) (z1 : DSt × Int32 × Int32) : Option ((DSt × Int32 × Int32) ⊕ (DSt × Int32 × Int32)) :=
  if 8 ≤ z1.2.2 then
    some (.inr (z1.1, z1.2.1, z1.2.2))
  else
    oB (gR z1.1 (some x) 4 1) fun v2 =>
    oB (aR z1.1 v2 3 z1.2.2) fun v3 =>
    oB (gR z1.1 (some x) 4 1) fun v4 =>
    oB (sR z1.1 v4 3 3 z1.2.2 none) fun s5 =>
    oN v3 (
      some (.inl (s5, z1.2.1, (z1.2.2 + 1)))
    ) fun n7 =>
    oB (gR s5 (some x) 4 1) fun v8 =>
    oB (sR s5 v8 3 3 z1.2.1 (some n7)) fun s9 =>
    some (.inl (s9, (z1.2.1 + 1), (z1.2.2 + 1)))
noncomputable def fX4_closeGaps (st : DSt) (x : Nat) : Option (DSt) :=
  oB (dlp (fX4_closeGaps_L4 x) (st, 0, 0)) fun b1 =>
  oB (pV b1.1 (some x) 4 4 (DI b1.2.1)) fun s11 =>
  some s11
noncomputable def fX4_melt (st : DSt) (x : Nat) (a0 : Int32) (a1 : Int32) : Option ((String × DHp) ⊕ (Int32 × DSt)) :=
  oB (oR st (some x) 4) fun b1 =>
  xB (fX4_slabAt st b1 a0) fun q2 =>
  oB (oR st q2 3) fun b3 =>
  oB (fX3_grams st b3) fun q4 =>
  oB (oR st (some x) 4) fun b5 =>
  xB (fX4_bowlAt st b5 a1) fun q6 =>
  oB (gI st q6 0 1) fun v7 =>
  if (v7 + q4) ≤ 2000 then
    oB (gI st q6 0 1) fun v8 =>
    oB (pV st q6 0 1 (DI (v8 + q4))) fun s9 =>
    oB (gR s9 (some x) 4 1) fun v10 =>
    oB (sR s9 v10 3 3 a0 none) fun s11 =>
    oB (oR s11 (some x) 4) fun b12 =>
    oB (fX4_closeGaps s11 b12) fun q13 =>
    oB (gI q13 q6 0 1) fun v14 =>
    some (.inr (v14, q13))
  else
    some (.inl ("java/lang/IllegalArgumentException", st.2))
noncomputable def fX4_box (st : DSt) (x : Nat) (a0 : Int32) (a1 : Int32) : Option ((String × DHp) ⊕ (Int32 × DSt)) :=
  if a0 < 1 then
    some (.inl ("java/lang/IllegalArgumentException", st.2))
  else
    if 36 < a0 then
      some (.inl ("java/lang/IllegalArgumentException", st.2))
    else
      if a1 < 0 then
        some (.inl ("java/lang/IllegalArgumentException", st.2))
      else
        if a1 ≤ 100 then
          oB (gI st (some x) 4 5) fun v1 =>
          if v1 < 6 then
            oB (gR st (some x) 4 2) fun v2 =>
            oB (some (nC st (.inr (1, [DI 0, DI 0, DI 0, DI 0, DI 0])))) fun s3 =>
            oB (fX1_init s3 st.1 a0 a1) fun q4 =>
            oB (sR q4 v2 4 1 v1 (some st.1)) fun s5 =>
            oB (pV s5 (some x) 4 5 (DI (v1 + 1))) fun s6 =>
            some (.inr (v1, s6))
          else
            some (.inl ("java/lang/IllegalStateException", st.2))
        else
          some (.inl ("java/lang/IllegalArgumentException", st.2))
noncomputable def fX4_planSlab_L2 (x : Nat) (a0 : Option Nat) (a1 : Int32) (z1 : DSt × Int32) : Option ((DSt × Int32) ⊕ ((DSt × Int32) ⊕ (Int32 × DSt))) :=
  if 8 ≤ z1.2 then
    some (.inr (.inl (z1.1, z1.2)))
  else
    oB (gR z1.1 (some x) 4 1) fun v2 =>
    oB (aR z1.1 v2 3 z1.2) fun v3 =>
    oN v3 (
      some (.inl (z1.1, (z1.2 + 1)))
    ) fun n5 =>
    oB (gR z1.1 (some x) 4 10) fun v6 =>
    oB (aI z1.1 v6 1 z1.2) fun v7 =>
    if v7 = 0 then
      if z1.2 = a1 then
        oB (oR z1.1 (some n5) 3) fun b14 =>
        oB (fX3_bloomBehindPolish z1.1 b14) fun q15 =>
        oB (oR z1.1 a0 1) fun b16 =>
        oB (fX1_suits z1.1 b16 (some n5) q15) fun q17 =>
        if q17 = 0 then
          some (.inl (z1.1, (z1.2 + 1)))
        else
          oB (gR z1.1 (some x) 4 10) fun v18 =>
          oB (sI z1.1 v18 1 z1.2 (vp_nar .boolean 1)) fun s19 =>
          some (.inr (.inr (z1.2, s19)))
      else
        oB (gI z1.1 (some n5) 3 3) fun v8 =>
        oB (oR z1.1 a0 1) fun b9 =>
        oB (fX1_suits z1.1 b9 (some n5) v8) fun q10 =>
        if q10 = 0 then
          some (.inl (z1.1, (z1.2 + 1)))
        else
          oB (gR z1.1 (some x) 4 10) fun v11 =>
          oB (sI z1.1 v11 1 z1.2 (vp_nar .boolean 1)) fun s12 =>
          some (.inr (.inr (z1.2, s12)))
    else
      some (.inl (z1.1, (z1.2 + 1)))
noncomputable def fX4_planSlab (st : DSt) (x : Nat) (a0 : Option Nat) (a1 : Int32) : Option (Int32 × DSt) :=
  oB (dlp (fX4_planSlab_L2 x a0 a1) (st, 0)) fun b1 =>
  match b1 with
  | .inr r9 => some r9
  | .inl yb1 =>
    some ((-1), yb1.1)
noncomputable def fX4_planFilling_L2 (x : Nat) (z1 : DSt × Int32) : Option ((DSt × Int32) ⊕ (DSt × Int32)) :=
  if 8 ≤ z1.2 then
    some (.inr (z1.1, z1.2))
  else
    oB (gR z1.1 (some x) 4 10) fun v2 =>
    oB (sI z1.1 v2 1 z1.2 (vp_nar .boolean 0)) fun s3 =>
    some (.inl (s3, (z1.2 + 1)))
noncomputable def fX4_planFilling_L25 (x : Nat) (a0 : Int32) (z5 : DSt × Int32 × Int32) : Option ((DSt × Int32 × Int32) ⊕ (DSt × Int32 × Int32)) :=
  if 6 ≤ z5.2.2 then
    some (.inr (z5.1, z5.2.1, z5.2.2))
  else
    oB (gR z5.1 (some x) 4 2) fun v6 =>
    oB (aR z5.1 v6 4 z5.2.2) fun v7 =>
    oB (gR z5.1 (some x) 4 9) fun v8 =>
    oN v7 (
      oB (sI z5.1 v8 0 z5.2.2 (-1)) fun s11 =>
      oB (gR s11 (some x) 4 9) fun v12 =>
      oB (aI s11 v12 0 z5.2.2) fun v13 =>
      if v13 = (-1) then
        some (.inl (s11, z5.2.1, (z5.2.2 + 1)))
      else
        some (.inl (s11, (z5.2.1 + 1), (z5.2.2 + 1)))
    ) fun n10 =>
    oB (gI z5.1 (some n10) 1 2) fun v15 =>
    if v15 = 0 then
      oB (oR z5.1 (some x) 4) fun b16 =>
      oB (fX4_planSlab z5.1 b16 (some n10) a0) fun q17 =>
      oB (sI q17.2 v8 0 z5.2.2 q17.1) fun s18 =>
      oB (gR s18 (some x) 4 9) fun v19 =>
      oB (aI s18 v19 0 z5.2.2) fun v20 =>
      if v20 = (-1) then
        some (.inl (s18, z5.2.1, (z5.2.2 + 1)))
      else
        some (.inl (s18, (z5.2.1 + 1), (z5.2.2 + 1)))
    else
      oB (sI z5.1 v8 0 z5.2.2 (-1)) fun s22 =>
      oB (gR s22 (some x) 4 9) fun v23 =>
      oB (aI s22 v23 0 z5.2.2) fun v24 =>
      if v24 = (-1) then
        some (.inl (s22, z5.2.1, (z5.2.2 + 1)))
      else
        some (.inl (s22, (z5.2.1 + 1), (z5.2.2 + 1)))
noncomputable def fX4_planFilling (st : DSt) (x : Nat) (a0 : Int32) : Option (Int32 × DSt) :=
  oB (dlp (fX4_planFilling_L2 x) (st, 0)) fun b1 =>
  oB (dlp (fX4_planFilling_L25 x a0) (b1.1, 0, 0)) fun b5 =>
  some (b5.2.1, b5.1)
noncomputable def fX4_moveIntoBox (st : DSt) (x : Nat) (a0 : Int32) (a1 : Option Nat) : Option (DSt) :=
  oB (oR st (some x) 4) fun b1 =>
  oB (fX4_findSlab st b1 a0) fun q2 =>
  oN q2 (
    some st
  ) fun n4 =>
  oN a1 (
    some st
  ) fun n6 =>
  oB (oR st (some n6) 1) fun b7 =>
  oB (fX1_take st b7 (some n4)) fun q8 =>
  oB (gR q8 (some x) 4 1) fun v9 =>
  oB (sR q8 v9 3 3 a0 none) fun s10 =>
  some s10
noncomputable def fX4_fill_L8 (x : Nat) (z3 : DSt × Int32) : Option ((DSt × Int32) ⊕ (DSt × Int32)) :=
  if 6 ≤ z3.2 then
    some (.inr (z3.1, z3.2))
  else
    oB (gR z3.1 (some x) 4 9) fun v4 =>
    oB (aI z3.1 v4 0 z3.2) fun v5 =>
    oB (gR z3.1 (some x) 4 2) fun v6 =>
    oB (aR z3.1 v6 4 z3.2) fun v7 =>
    oB (oR z3.1 (some x) 4) fun b8 =>
    oB (fX4_moveIntoBox z3.1 b8 v5 v7) fun q9 =>
    some (.inl (q9, (z3.2 + 1)))
noncomputable def fX4_fill (st : DSt) (x : Nat) : Option (Int32 × DSt) :=
  oB (oR st (some x) 4) fun b1 =>
  oB (fX4_planFilling st b1 (-1)) fun q2 =>
  oB (dlp (fX4_fill_L8 x) (q2.2, 0)) fun b3 =>
  oB (oR b3.1 (some x) 4) fun b11 =>
  oB (fX4_closeGaps b3.1 b11) fun q12 =>
  some (q2.1, q12)
noncomputable def fX4_checkRoom (st : DSt) (a0 : Int32) : Option ((String × DHp) ⊕ (Unit)) :=
  if a0 < 10 then
    some (.inl ("java/lang/IllegalArgumentException", st.2))
  else
    if a0 ≤ 40 then
      some (.inr ())
    else
      some (.inl ("java/lang/IllegalArgumentException", st.2))
noncomputable def fX4_bloomedSlabs_L13 (st : DSt) (v1 : Option Nat) (v2 : Int32) (z3 : Int32 × Int32) : Option ((Int32 × Int32) ⊕ (Int32 × Int32)) :=
  if v2 ≤ z3.2 then
    some (.inr (z3.1, z3.2))
  else
    oB (aR st v1 3 z3.2) fun v4 =>
    oN v4 (
      some (.inl (z3.1, (z3.2 + 1)))
    ) fun n6 =>
    oB (oR st (some n6) 3) fun b7 =>
    oB (fX3_isBloomed st b7) fun q8 =>
    if q8 = 0 then
      some (.inl (z3.1, (z3.2 + 1)))
    else
      some (.inl ((z3.1 + 1), (z3.2 + 1)))
noncomputable def fX4_bloomedSlabs (st : DSt) (x : Nat) : Option (Int32) :=
  oB (gR st (some x) 4 1) fun v1 =>
  oB (aN st v1 3) fun v2 =>
  oB (dlp (fX4_bloomedSlabs_L13 st v1 v2) (0, 0)) fun b3 =>
  some b3.1
noncomputable def fX4_pass_L37 (a0 : Int32) (a1 : Int32) (v2 : Option Nat) (v3 : Int32) (z4 : DSt × Int32) : Option ((DSt × Int32) ⊕ (DSt × Int32)) :=
  if v3 ≤ z4.2 then
    some (.inr (z4.1, z4.2))
  else
    oB (aR z4.1 v2 3 z4.2) fun v5 =>
    oN v5 (
      some (.inl (z4.1, (z4.2 + 1)))
    ) fun n7 =>
    oB (oR z4.1 (some n7) 3) fun b8 =>
    oB (fX3_standFor z4.1 b8 a1 a0) fun q9 =>
    some (.inl (q9, (z4.2 + 1)))
noncomputable def fX4_pass (st : DSt) (x : Nat) (a0 : Int32) (a1 : Int32) : Option ((String × DHp) ⊕ (Int32 × DSt)) :=
  xB (fX4_checkRoom st a0) fun q1 =>
  if a1 < 1 then
    some (.inl ("java/lang/IllegalArgumentException", st.2))
  else
    if a1 ≤ 60 then
      oB (gR st (some x) 4 1) fun v2 =>
      oB (aN st v2 3) fun v3 =>
      oB (dlp (fX4_pass_L37 a0 a1 v2 v3) (st, 0)) fun b4 =>
      oB (gI b4.1 (some x) 4 6) fun v11 =>
      oB (pV b4.1 (some x) 4 6 (DI (v11 + a1))) fun s12 =>
      oB (oR s12 (some x) 4) fun b13 =>
      oB (fX4_bloomedSlabs s12 b13) fun q14 =>
      some (.inr (q14, s12))
    else
      some (.inl ("java/lang/IllegalArgumentException", st.2))
noncomputable def fX4_checkWhat (st : DSt) (a0 : Int32) (a1 : Int32) : Option ((String × DHp) ⊕ (Unit)) :=
  if a0 < 0 then
    some (.inl ("java/lang/IndexOutOfBoundsException", st.2))
  else
    if a0 ≤ a1 then
      some (.inr ())
    else
      some (.inl ("java/lang/IndexOutOfBoundsException", st.2))
noncomputable def fX4_told (st : DSt) (x : Nat) (a0 : Int32) (a1 : Int32) : Option ((String × DHp) ⊕ (Int32)) :=
  oB (oR st (some x) 4) fun b1 =>
  xB (fX4_bowlAt st b1 a0) fun q2 =>
  xB (fX4_checkWhat st a1 7) fun q3 =>
  if a1 = 0 then
    oB (gI st q2 0 1) fun v13 =>
    some (.inr v13)
  else
    if 5 < a1 then
      if a1 = 6 then
        oB (gI st q2 0 2) fun v7 =>
        some (.inr v7)
      else
        oB (gR st q2 0 0) fun v4 =>
        oB (oR st v4 2) fun b5 =>
        oB (fX2_temper st b5) fun q6 =>
        some (.inr q6)
    else
      oB (gR st q2 0 0) fun v9 =>
      oB (gR st v9 2 0) fun v10 =>
      oB (aI st v10 0 a1) fun v11 =>
      some (.inr v11)
noncomputable def fX4_firstEmptyBoxFor_L2 (st : DSt) (x : Nat) (a0 : Option Nat) (z1 : Int32) : Option ((Int32) ⊕ ((Int32) ⊕ (Int32))) :=
  if 6 ≤ z1 then
    some (.inr (.inl z1))
  else
    oB (gR st (some x) 4 2) fun v2 =>
    oB (aR st v2 4 z1) fun v3 =>
    oN v3 (
      some (.inl (z1 + 1))
    ) fun n5 =>
    oB (gI st (some n5) 1 2) fun v6 =>
    if v6 = 0 then
      oB (gI st a0 3 3) fun v7 =>
      oB (oR st (some n5) 1) fun b8 =>
      oB (fX1_suits st b8 a0 v7) fun q9 =>
      if q9 = 0 then
        some (.inl (z1 + 1))
      else
        some (.inr (.inr z1))
    else
      some (.inl (z1 + 1))
noncomputable def fX4_firstEmptyBoxFor (st : DSt) (x : Nat) (a0 : Option Nat) : Option (Int32) :=
  oB (dlp (fX4_firstEmptyBoxFor_L2 st x a0) 0) fun b1 =>
  match b1 with
  | .inr r9 => some r9
  | .inl yb1 =>
    some (-1)
noncomputable def fX4_about (st : DSt) (x : Nat) (a0 : Int32) (a1 : Int32) : Option ((String × DHp) ⊕ (Int32)) :=
  oB (oR st (some x) 4) fun b1 =>
  xB (fX4_slabAt st b1 a0) fun q2 =>
  xB (fX4_checkWhat st a1 6) fun q3 =>
  if a1 = 0 then
    oB (gI st q2 3 1) fun v11 =>
    some (.inr v11)
  else
  if a1 = 1 then
    oB (gI st q2 3 2) fun v12 =>
    some (.inr v12)
  else
  if a1 = 2 then
    oB (gI st q2 3 0) fun v13 =>
    some (.inr v13)
  else
  if a1 = 3 then
    oB (gI st q2 3 3) fun v14 =>
    some (.inr v14)
  else
  if a1 = 4 then
    oB (gI st q2 3 4) fun v15 =>
    some (.inr v15)
  else
  if a1 = 5 then
    oB (oR st q2 3) fun b16 =>
    oB (fX3_squares st b16) fun q17 =>
    some (.inr q17)
  else
  oB (oR st (some x) 4) fun b18 =>
  oB (fX4_firstEmptyBoxFor st b18 q2) fun q19 =>
  some (.inr q19)
noncomputable def fX4_boxAt (st : DSt) (x : Nat) (a0 : Int32) : Option ((String × DHp) ⊕ (Option Nat)) :=
  if a0 < 0 then
    some (.inl ("java/lang/IndexOutOfBoundsException", st.2))
  else
    if a0 < 6 then
      oB (gR st (some x) 4 2) fun v2 =>
      oB (aR st v2 4 a0) fun v3 =>
      oN v3 (
        some (.inl ("java/lang/IndexOutOfBoundsException", st.2))
      ) fun n5 =>
      some (.inr (some n5))
    else
      some (.inl ("java/lang/IndexOutOfBoundsException", st.2))
noncomputable def fX4_order (st : DSt) (x : Nat) (a0 : Int32) (a1 : Int32) : Option ((String × DHp) ⊕ (Int32)) :=
  oB (oR st (some x) 4) fun b1 =>
  xB (fX4_boxAt st b1 a0) fun q2 =>
  xB (fX4_checkWhat st a1 4) fun q3 =>
  if a1 = 0 then
    oB (gI st q2 1 0) fun v9 =>
    some (.inr v9)
  else
  if a1 = 1 then
    oB (gI st q2 1 1) fun v10 =>
    some (.inr v10)
  else
  if a1 = 2 then
    oB (gI st q2 1 2) fun v11 =>
    if v11 = 0 then
      some (.inr 0)
    else
      some (.inr 1)
  else
  if a1 = 3 then
    oB (gI st q2 1 3) fun v13 =>
    some (.inr v13)
  else
  oB (gI st q2 1 4) fun v14 =>
  some (.inr v14)
noncomputable def fX4_filledBoxes_L13 (st : DSt) (v1 : Option Nat) (v2 : Int32) (z3 : Int32 × Int32) : Option ((Int32 × Int32) ⊕ (Int32 × Int32)) :=
  if v2 ≤ z3.2 then
    some (.inr (z3.1, z3.2))
  else
    oB (aR st v1 4 z3.2) fun v4 =>
    oN v4 (
      some (.inl (z3.1, (z3.2 + 1)))
    ) fun n6 =>
    oB (gI st (some n6) 1 2) fun v7 =>
    if v7 = 0 then
      some (.inl (z3.1, (z3.2 + 1)))
    else
      some (.inl ((z3.1 + 1), (z3.2 + 1)))
noncomputable def fX4_filledBoxes (st : DSt) (x : Nat) : Option (Int32) :=
  oB (gR st (some x) 4 2) fun v1 =>
  oB (aN st v1 4) fun v2 =>
  oB (dlp (fX4_filledBoxes_L13 st v1 v2) (0, 0)) fun b3 =>
  some b3.1
noncomputable def fX4_gramsOfBowls_L13 (st : DSt) (v1 : Option Nat) (v2 : Int32) (z3 : Int32 × Int32) : Option ((Int32 × Int32) ⊕ (Int32 × Int32)) :=
  if v2 ≤ z3.2 then
    some (.inr (z3.1, z3.2))
  else
    oB (aR st v1 2 z3.2) fun v4 =>
    oN v4 (
      some (.inl (z3.1, (z3.2 + 1)))
    ) fun n6 =>
    oB (gI st (some n6) 0 1) fun v7 =>
    some (.inl ((z3.1 + v7), (z3.2 + 1)))
noncomputable def fX4_gramsOfBowls (st : DSt) (x : Nat) : Option (Int32) :=
  oB (gR st (some x) 4 0) fun v1 =>
  oB (aN st v1 2) fun v2 =>
  oB (dlp (fX4_gramsOfBowls_L13 st v1 v2) (0, 0)) fun b3 =>
  some b3.1
noncomputable def fX4_squaresOfSlabs_L13 (st : DSt) (v1 : Option Nat) (v2 : Int32) (z3 : Int32 × Int32) : Option ((Int32 × Int32) ⊕ (Int32 × Int32)) :=
  if v2 ≤ z3.2 then
    some (.inr (z3.1, z3.2))
  else
    oB (aR st v1 3 z3.2) fun v4 =>
    oN v4 (
      some (.inl (z3.1, (z3.2 + 1)))
    ) fun n6 =>
    oB (oR st (some n6) 3) fun b7 =>
    oB (fX3_squares st b7) fun q8 =>
    some (.inl ((z3.1 + q8), (z3.2 + 1)))
noncomputable def fX4_squaresOfSlabs (st : DSt) (x : Nat) : Option (Int32) :=
  oB (gR st (some x) 4 1) fun v1 =>
  oB (aN st v1 3) fun v2 =>
  oB (dlp (fX4_squaresOfSlabs_L13 st v1 v2) (0, 0)) fun b3 =>
  some b3.1
noncomputable def fX4_count (st : DSt) (x : Nat) (a0 : Int32) : Option ((String × DHp) ⊕ (Int32)) :=
  xB (fX4_checkWhat st a0 7) fun q1 =>
  if a0 = 0 then
    oB (gI st (some x) 4 6) fun v10 =>
    some (.inr v10)
  else
  if a0 = 1 then
    oB (gI st (some x) 4 3) fun v11 =>
    some (.inr v11)
  else
  if a0 = 2 then
    oB (gI st (some x) 4 4) fun v12 =>
    some (.inr v12)
  else
  if a0 = 3 then
    oB (gI st (some x) 4 5) fun v13 =>
    some (.inr v13)
  else
  if a0 = 4 then
    oB (oR st (some x) 4) fun b14 =>
    oB (fX4_filledBoxes st b14) fun q15 =>
    some (.inr q15)
  else
  if a0 = 5 then
    oB (oR st (some x) 4) fun b16 =>
    oB (fX4_gramsOfBowls st b16) fun q17 =>
    some (.inr q17)
  else
  if a0 = 6 then
    oB (oR st (some x) 4) fun b18 =>
    oB (fX4_squaresOfSlabs st b18) fun q19 =>
    some (.inr q19)
  else
  oB (oR st (some x) 4) fun b20 =>
  oB (fX4_bloomedSlabs st b20) fun q21 =>
  some (.inr q21)
noncomputable def fX4_would (st : DSt) (x : Nat) (a0 : Int32) (a1 : Int32) (a2 : Int32) : Option ((String × DHp) ⊕ (Int32 × DSt)) :=
  oB (oR st (some x) 4) fun b1 =>
  xB (fX4_bowlAt st b1 a0) fun q2 =>
  xB (fX4_checkWarming st a1 a2) fun q3 =>
  oB (gR st (some x) 4 7) fun v4 =>
  oB (gR st q2 0 0) fun v5 =>
  oB (oR st v4 2) fun b6 =>
  oB (fX2_becomeLike st b6 v5) fun q7 =>
  oB (gR q7 (some x) 4 7) fun v8 =>
  oB (oR q7 v8 2) fun b9 =>
  oB (fX2_keepAt q7 b9 a1 a2) fun q10 =>
  oB (gR q10 (some x) 4 7) fun v11 =>
  oB (oR q10 v11 2) fun b12 =>
  oB (fX2_temper q10 b12) fun q13 =>
  some (.inr (q13, q10))
noncomputable def fX4_best_L86 (x : Nat) (a1 : Int32) (z4 : DSt × Int32 × Int32 × Int32 × Int32) (z12 : DSt × Int32 × Int32 × Int32 × Int32) : Option ((DSt × Int32 × Int32 × Int32 × Int32) ⊕ (DSt × Int32 × Int32 × Int32 × Int32)) :=
  if 50 < z12.2.2.2.2 then
    some (.inr (z12.1, z12.2.1, z12.2.2.1, z12.2.2.2.1, z12.2.2.2.2))
  else
    if 100 ≤ z12.2.2.2.1 then
      some (.inr (z12.1, z12.2.1, z12.2.2.1, z12.2.2.2.1, z12.2.2.2.2))
    else
      oB (gR z12.1 (some x) 4 8) fun v13 =>
      oB (gR z12.1 (some x) 4 7) fun v14 =>
      oB (oR z12.1 v13 2) fun b15 =>
      oB (fX2_becomeLike z12.1 b15 v14) fun q16 =>
      oB (gR q16 (some x) 4 8) fun v17 =>
      oB (oR q16 v17 2) fun b18 =>
      oB (fX2_keepAt q16 b18 z12.2.2.2.2 a1) fun q19 =>
      oB (gR q19 (some x) 4 8) fun v20 =>
      oB (oR q19 v20 2) fun b21 =>
      oB (fX2_temper q19 b21) fun q22 =>
      if q22 ≤ z12.2.2.2.1 then
        some (.inl (q19, z12.2.1, z12.2.2.1, z12.2.2.2.1, (z12.2.2.2.2 + 1)))
      else
        some (.inl (q19, z4.2.2.2.2, z12.2.2.2.2, q22, (z12.2.2.2.2 + 1)))
noncomputable def fX4_best_L46 (x : Nat) (a1 : Int32) (q2 : Option Nat) (z4 : DSt × Int32 × Int32 × Int32 × Int32) : Option ((DSt × Int32 × Int32 × Int32 × Int32) ⊕ (DSt × Int32 × Int32 × Int32 × Int32)) :=
  if 50 < z4.2.2.2.2 then
    some (.inr (z4.1, z4.2.1, z4.2.2.1, z4.2.2.2.1, z4.2.2.2.2))
  else
    if 100 ≤ z4.2.2.2.1 then
      some (.inr (z4.1, z4.2.1, z4.2.2.1, z4.2.2.2.1, z4.2.2.2.2))
    else
      oB (gR z4.1 (some x) 4 7) fun v5 =>
      oB (gR z4.1 q2 0 0) fun v6 =>
      oB (oR z4.1 v5 2) fun b7 =>
      oB (fX2_becomeLike z4.1 b7 v6) fun q8 =>
      oB (gR q8 (some x) 4 7) fun v9 =>
      oB (oR q8 v9 2) fun b10 =>
      oB (fX2_keepAt q8 b10 z4.2.2.2.2 a1) fun q11 =>
      oB (dlp (fX4_best_L86 x a1 z4) (q11, z4.2.1, z4.2.2.1, z4.2.2.2.1, 15)) fun b12 =>
      some (.inl (b12.1, b12.2.1, b12.2.2.1, b12.2.2.2.1, (z4.2.2.2.2 + 1)))
noncomputable def fX4_best (st : DSt) (x : Nat) (a0 : Int32) (a1 : Int32) (a2 : Int32) : Option ((String × DHp) ⊕ (Int32 × DSt)) :=
  oB (oR st (some x) 4) fun b1 =>
  xB (fX4_bowlAt st b1 a0) fun q2 =>
  xB (fX4_checkWhat st a2 2) fun q3 =>
  if a1 < 1 then
    some (.inl ("java/lang/IllegalArgumentException", st.2))
  else
    if a1 ≤ 10 then
      oB (dlp (fX4_best_L46 x a1 q2) (st, (-1), (-1), (-1), 15)) fun b4 =>
      if a2 = 0 then
        some (.inr (b4.2.1, b4.1))
      else
        if a2 = 1 then
          some (.inr (b4.2.2.1, b4.1))
        else
          some (.inr (b4.2.2.2.1, b4.1))
    else
      some (.inl ("java/lang/IllegalArgumentException", st.2))
noncomputable def fX4_until (st : DSt) (x : Nat) (a0 : Int32) (a1 : Int32) : Option ((String × DHp) ⊕ (Int32)) :=
  oB (oR st (some x) 4) fun b1 =>
  xB (fX4_slabAt st b1 a0) fun q2 =>
  xB (fX4_checkRoom st a1) fun q3 =>
  oB (oR st q2 3) fun b4 =>
  oB (fX3_isBloomed st b4) fun q5 =>
  if q5 = 0 then
    oB (oR st q2 3) fun b6 =>
    oB (fX3_bloomOfADay st b6 a1) fun q7 =>
    if 0 < q7 then
      oB (gI st q2 3 3) fun v8 =>
      oB (oD (20 - v8) q7) fun v9 =>
      some (.inr (v9 + 1))
    else
      some (.inr (-1))
  else
    some (.inr 0)
noncomputable def fX4_advise_L10 (x : Nat) (z3 : DSt × Int32 × Int32 × Int32) : Option ((DSt × Int32 × Int32 × Int32) ⊕ (DSt × Int32 × Int32 × Int32)) :=
  oB (gI z3.1 (some x) 4 4) fun v4 =>
  if v4 ≤ z3.2.2.2 then
    some (.inr (z3.1, z3.2.1, z3.2.2.1, z3.2.2.2))
  else
    oB (oR z3.1 (some x) 4) fun b5 =>
    oB (fX4_planFilling z3.1 b5 z3.2.2.2) fun q6 =>
    if q6.1 ≤ z3.2.2.1 then
      some (.inl (q6.2, z3.2.1, z3.2.2.1, (z3.2.2.2 + 1)))
    else
      some (.inl (q6.2, z3.2.2.2, q6.1, (z3.2.2.2 + 1)))
noncomputable def fX4_advise (st : DSt) (x : Nat) : Option (Int32 × DSt) :=
  oB (oR st (some x) 4) fun b1 =>
  oB (fX4_planFilling st b1 (-1)) fun q2 =>
  oB (dlp (fX4_advise_L10 x) (q2.2, (-1), q2.1, 0)) fun b3 =>
  some (b3.2.1, b3.1)
noncomputable def fX4_mean_L13 (st : DSt) (v1 : Option Nat) (v2 : Int32) (z3 : Int32 × Int32) : Option ((Int32 × Int32) ⊕ (Int32 × Int32)) :=
  if v2 ≤ z3.2 then
    some (.inr (z3.1, z3.2))
  else
    oB (aR st v1 3 z3.2) fun v4 =>
    oN v4 (
      some (.inl (z3.1, (z3.2 + 1)))
    ) fun n6 =>
    oB (gI st (some n6) 3 3) fun v7 =>
    some (.inl ((z3.1 + v7), (z3.2 + 1)))
noncomputable def fX4_mean (st : DSt) (x : Nat) : Option (UInt64) :=
  oB (gR st (some x) 4 1) fun v1 =>
  oB (aN st v1 3) fun v2 =>
  oB (dlp (fX4_mean_L13 st v1 v2) (0, 0)) fun b3 =>
  oB (gI st (some x) 4 4) fun v9 =>
  if 0 < v9 then
    oB (gI st (some x) 4 4) fun v10 =>
    oB (oDD (FP.i2d b3.1) (FP.i2d v10)) fun v11 =>
    some v11
  else
    some FP.dconst0
noncomputable def fX4_digest_L6 (st : DSt) (x : Nat) (z1 : Int64 × Int32) : Option ((Int64 × Int32) ⊕ (Int64 × Int32)) :=
  if 7 < z1.2 then
    some (.inr (z1.1, z1.2))
  else
    oB (oR st (some x) 4) fun b2 =>
    oB (nX (fX4_count st b2 z1.2)) fun q3 =>
    some (.inl (((z1.1 * 31) + (q3).toInt64), (z1.2 + 1)))
noncomputable def fX4_digest_L44 (st : DSt) (x : Nat) (z5 : Int64 × Int32) (z7 : Int64 × Int32) : Option ((Int64 × Int32) ⊕ (Int64 × Int32)) :=
  if 7 < z7.2 then
    some (.inr (z7.1, z7.2))
  else
    oB (oR st (some x) 4) fun b8 =>
    oB (nX (fX4_told st b8 z5.2 z7.2)) fun q9 =>
    some (.inl (((z7.1 * 31) + (q9).toInt64), (z7.2 + 1)))
noncomputable def fX4_digest_L33 (st : DSt) (x : Nat) (z5 : Int64 × Int32) : Option ((Int64 × Int32) ⊕ (Int64 × Int32)) :=
  oB (gI st (some x) 4 3) fun v6 =>
  if v6 ≤ z5.2 then
    some (.inr (z5.1, z5.2))
  else
    oB (dlp (fX4_digest_L44 st x z5) (z5.1, 0)) fun b7 =>
    some (.inl (b7.1, (z5.2 + 1)))
noncomputable def fX4_digest_L91 (st : DSt) (x : Nat) (z12 : Int64 × Int32) (z14 : Int64 × Int32) : Option ((Int64 × Int32) ⊕ (Int64 × Int32)) :=
  if 6 < z14.2 then
    some (.inr (z14.1, z14.2))
  else
    oB (oR st (some x) 4) fun b15 =>
    oB (nX (fX4_about st b15 z12.2 z14.2)) fun q16 =>
    some (.inl (((z14.1 * 31) + (q16).toInt64), (z14.2 + 1)))
noncomputable def fX4_digest_L80 (st : DSt) (x : Nat) (z12 : Int64 × Int32) : Option ((Int64 × Int32) ⊕ (Int64 × Int32)) :=
  oB (gI st (some x) 4 4) fun v13 =>
  if v13 ≤ z12.2 then
    some (.inr (z12.1, z12.2))
  else
    oB (dlp (fX4_digest_L91 st x z12) (z12.1, 0)) fun b14 =>
    some (.inl (b14.1, (z12.2 + 1)))
noncomputable def fX4_digest_L138 (st : DSt) (x : Nat) (z19 : Int64 × Int32) (z21 : Int64 × Int32) : Option ((Int64 × Int32) ⊕ (Int64 × Int32)) :=
  if 4 < z21.2 then
    some (.inr (z21.1, z21.2))
  else
    oB (oR st (some x) 4) fun b22 =>
    oB (nX (fX4_order st b22 z19.2 z21.2)) fun q23 =>
    some (.inl (((z21.1 * 31) + (q23).toInt64), (z21.2 + 1)))
noncomputable def fX4_digest_L127 (st : DSt) (x : Nat) (z19 : Int64 × Int32) : Option ((Int64 × Int32) ⊕ (Int64 × Int32)) :=
  oB (gI st (some x) 4 5) fun v20 =>
  if v20 ≤ z19.2 then
    some (.inr (z19.1, z19.2))
  else
    oB (dlp (fX4_digest_L138 st x z19) (z19.1, 0)) fun b21 =>
    some (.inl (b21.1, (z19.2 + 1)))
noncomputable def fX4_digest (st : DSt) (x : Nat) : Option (Int64) :=
  oB (dlp (fX4_digest_L6 st x) (1789, 0)) fun b1 =>
  oB (dlp (fX4_digest_L33 st x) (b1.1, 0)) fun b5 =>
  oB (dlp (fX4_digest_L80 st x) (b5.1, 0)) fun b12 =>
  oB (dlp (fX4_digest_L127 st x) (b12.1, 0)) fun b19 =>
  some b19.1
noncomputable def fX5_init (st : DSt) (x : Nat) : Option (DSt) :=
  oB (some (nC st (.inl (0, nI0 35)))) fun s1 =>
  oB (pV s1 (some x) 5 5 (DR (some st.1))) fun s2 =>
  oB (some (nC s2 (.inl (0, nI0 40)))) fun s3 =>
  oB (pV s3 (some x) 5 6 (DR (some s2.1))) fun s4 =>
  oB (some (nC s4 (.inl (0, nI0 30)))) fun s5 =>
  oB (pV s5 (some x) 5 7 (DR (some s4.1))) fun s6 =>
  oB (some (nC s6 (.inl (0, nI0 40)))) fun s7 =>
  oB (pV s7 (some x) 5 8 (DR (some s6.1))) fun s8 =>
  oB (some (nC s8 (.inl (0, nI0 30)))) fun s9 =>
  oB (pV s9 (some x) 5 9 (DR (some s8.1))) fun s10 =>
  oB (some (nC s10 (.inl (0, nI0 6)))) fun s11 =>
  oB (pV s11 (some x) 5 10 (DR (some s10.1))) fun s12 =>
  oB (some (nC s12 (.inl (0, nI0 6)))) fun s13 =>
  oB (pV s13 (some x) 5 11 (DR (some s12.1))) fun s14 =>
  some s14
noncomputable def fX5_thrown (st : DSt) (x : Nat) : Option (Int32) :=
  oB (gI st (some x) 5 0) fun v1 =>
  some v1
noncomputable def fX5_fail (st : DSt) (x : Nat) (a0 : Int32) : Option (Int32 × DSt) :=
  oB (pV st (some x) 5 0 (DI a0)) fun s1 =>
  some (0, s1)
noncomputable def fX5_isIn (st : DSt) (a0 : Int32) (a1 : Int32) (a2 : Int32) : Option (Int32) :=
  if a0 < a1 then
    oB (oZ 0) fun v1 =>
    some v1
  else
    if a2 < a0 then
      oB (oZ 0) fun v2 =>
      some v2
    else
      oB (oZ 1) fun v3 =>
      some v3
noncomputable def fX5_isBowl (st : DSt) (x : Nat) (a0 : Int32) : Option (Int32) :=
  oB (gI st (some x) 5 2) fun v1 =>
  oB (fX5_isIn st a0 0 (v1 - 1)) fun q2 =>
  oB (oZ q2) fun v3 =>
  some v3
noncomputable def fX5_isSlab (st : DSt) (x : Nat) (a0 : Int32) : Option (Int32) :=
  oB (gI st (some x) 5 3) fun v1 =>
  oB (fX5_isIn st a0 0 (v1 - 1)) fun q2 =>
  oB (oZ q2) fun v3 =>
  some v3
noncomputable def fX5_bo (st : DSt) (x : Nat) (a0 : Int32) (a1 : Int32) : Option (Int32) :=
  oB (gR st (some x) 5 5) fun v1 =>
  oB (aI st v1 0 ((7 * a0) + a1)) fun v2 =>
  some v2
noncomputable def fX5_letBowl (st : DSt) (x : Nat) (a0 : Int32) (a1 : Int32) (a2 : Int32) : Option (DSt) :=
  oB (gR st (some x) 5 5) fun v1 =>
  oB (sI st v1 0 ((7 * a0) + a1) a2) fun s2 =>
  some s2
noncomputable def fX5_sl (st : DSt) (x : Nat) (a0 : Int32) (a1 : Int32) : Option (Int32) :=
  oB (gR st (some x) 5 6) fun v1 =>
  oB (aI st v1 0 ((5 * a0) + a1)) fun v2 =>
  some v2
noncomputable def fX5_letSlab (st : DSt) (x : Nat) (a0 : Int32) (a1 : Int32) (a2 : Int32) : Option (DSt) :=
  oB (gR st (some x) 5 6) fun v1 =>
  oB (sI st v1 0 ((5 * a0) + a1) a2) fun s2 =>
  some s2
noncomputable def fX5_bx (st : DSt) (x : Nat) (a0 : Int32) (a1 : Int32) : Option (Int32) :=
  oB (gR st (some x) 5 7) fun v1 =>
  oB (aI st v1 0 ((5 * a0) + a1)) fun v2 =>
  some v2
noncomputable def fX5_meltsAt (st : DSt) (a0 : Int32) : Option (Int32) :=
  some (15 + (4 * a0))
noncomputable def fX5_sum_L4 (st : DSt) (a0 : Option Nat) (z1 : Int32 × Int32) : Option ((Int32 × Int32) ⊕ (Int32 × Int32)) :=
  if 5 < z1.2 then
    some (.inr (z1.1, z1.2))
  else
    oB (aI st a0 0 z1.2) fun v2 =>
    some (.inl ((z1.1 + v2), (z1.2 + 1)))
noncomputable def fX5_sum (st : DSt) (a0 : Option Nat) : Option (Int32) :=
  oB (dlp (fX5_sum_L4 st a0) (0, 1)) fun b1 =>
  some b1.1
noncomputable def fX5_turn_L2 (a0 : Option Nat) (a1 : Int32) (z1 : DSt × Int32) : Option ((DSt × Int32) ⊕ (DSt × Int32)) :=
  if 5 < z1.2 then
    some (.inr (z1.1, z1.2))
  else
    oB (fX5_meltsAt z1.1 z1.2) fun q2 =>
    if a1 < q2 then
      some (.inl (z1.1, (z1.2 + 1)))
    else
      oB (aI z1.1 a0 0 z1.2) fun v3 =>
      oB (oD v3 2) fun v4 =>
      oB (sI z1.1 a0 0 z1.2 v4) fun s5 =>
      some (.inl (s5, (z1.2 + 1)))
noncomputable def fX5_turn_L37 (a1 : Int32) (b1 : DSt × Int32) (z8 : Int32) : Option ((Int32) ⊕ (Int32)) :=
  if 5 ≤ z8 then
    some (.inr z8)
  else
    oB (fX5_meltsAt b1.1 z8) fun q9 =>
    if (a1 + 3) < q9 then
      some (.inr z8)
    else
      some (.inl (z8 + 1))
noncomputable def fX5_turn (st : DSt) (a0 : Option Nat) (a1 : Int32) : Option (DSt) :=
  oB (dlp (fX5_turn_L2 a0 a1) (st, 1)) fun b1 =>
  if a1 < 34 then
    oB (dlp (fX5_turn_L37 a1 b1) 1) fun b8 =>
    oB (aI b1.1 a0 0 b8) fun v12 =>
    oB (fX5_sum b1.1 a0) fun q13 =>
    oB (aI b1.1 a0 0 b8) fun v14 =>
    oB (oD v14 4) fun v15 =>
    oB (sI b1.1 a0 0 b8 (v12 + (jmin (100 - q13) (8 + v15)))) fun s16 =>
    some s16
  else
    some b1.1
noncomputable def fX5_turns_L2 (a0 : Option Nat) (a1 : Int32) (a2 : Int32) (z1 : DSt × Int32) : Option ((DSt × Int32) ⊕ (DSt × Int32)) :=
  if a2 ≤ z1.2 then
    some (.inr (z1.1, z1.2))
  else
    oB (fX5_turn z1.1 a0 a1) fun q2 =>
    some (.inl (q2, (z1.2 + 1)))
noncomputable def fX5_turns (st : DSt) (a0 : Option Nat) (a1 : Int32) (a2 : Int32) : Option (DSt) :=
  oB (dlp (fX5_turns_L2 a0 a1 a2) (st, 0)) fun b1 =>
  some b1.1
noncomputable def fX5_temper (st : DSt) (a0 : Option Nat) : Option (Int32) :=
  oB (aI st a0 0 5) fun v1 =>
  oB (aI st a0 0 4) fun v2 =>
  oB (aI st a0 0 1) fun v3 =>
  oB (aI st a0 0 2) fun v4 =>
  oB (aI st a0 0 3) fun v5 =>
  some (jmax 0 (jmin 100 (((((2 * v1) + v2) - v3) - v4) - v5)))
noncomputable def fX5_look_L2 (x : Nat) (a0 : Int32) (z1 : DSt × Int32) : Option ((DSt × Int32) ⊕ (DSt × Int32)) :=
  if 5 < z1.2 then
    some (.inr (z1.1, z1.2))
  else
    oB (gR z1.1 (some x) 5 10) fun v2 =>
    oB (oR z1.1 (some x) 5) fun b3 =>
    oB (fX5_bo z1.1 b3 a0 z1.2) fun q4 =>
    oB (sI z1.1 v2 0 z1.2 q4) fun s5 =>
    some (.inl (s5, (z1.2 + 1)))
noncomputable def fX5_look (st : DSt) (x : Nat) (a0 : Int32) : Option (DSt) :=
  oB (dlp (fX5_look_L2 x a0) (st, 1)) fun b1 =>
  some b1.1
noncomputable def fX5_temperOf (st : DSt) (x : Nat) (a0 : Int32) : Option (Int32 × DSt) :=
  oB (oR st (some x) 5) fun b1 =>
  oB (fX5_look st b1 a0) fun q2 =>
  oB (gR q2 (some x) 5 10) fun v3 =>
  oB (fX5_temper q2 v3) fun q4 =>
  some (q4, q2)
noncomputable def fX5_bowl (st : DSt) (x : Nat) (a0 : Int32) : Option (Int32 × DSt) :=
  oB (pV st (some x) 5 0 (DI 0)) fun s1 =>
  oB (fX5_isIn s1 a0 0 2000) fun q2 =>
  if q2 = 0 then
    oB (oR s1 (some x) 5) fun b16 =>
    oB (fX5_fail s1 b16 1) fun q17 =>
    some (q17.1, q17.2)
  else
    oB (gI s1 (some x) 5 2) fun v3 =>
    if v3 = 5 then
      oB (oR s1 (some x) 5) fun b13 =>
      oB (fX5_fail s1 b13 2) fun q14 =>
      some (q14.1, q14.2)
    else
      oB (gI s1 (some x) 5 2) fun v4 =>
      oB (oR s1 (some x) 5) fun b5 =>
      oB (fX5_letBowl s1 b5 v4 0 a0) fun q6 =>
      oB (gI q6 (some x) 5 2) fun v7 =>
      oB (oR q6 (some x) 5) fun b8 =>
      oB (fX5_letBowl q6 b8 v7 6 20) fun q9 =>
      oB (gI q9 (some x) 5 2) fun v10 =>
      oB (pV q9 (some x) 5 2 (DI (v10 + 1))) fun s11 =>
      oB (gI s11 (some x) 5 2) fun v12 =>
      some ((v12 - 1), s11)
noncomputable def fX5_isWarmth (st : DSt) (x : Nat) (a0 : Int32) (a1 : Int32) : Option (Int32) :=
  oB (fX5_isIn st a0 15 50) fun q1 =>
  if q1 = 0 then
    oB (oZ 0) fun v2 =>
    some v2
  else
    oB (fX5_isIn st a1 1 40) fun q3 =>
    if q3 = 0 then
      oB (oZ 0) fun v4 =>
      some v4
    else
      oB (oZ 1) fun v5 =>
      some v5
noncomputable def fX5_warm_L51 (x : Nat) (a0 : Int32) (z10 : DSt × Int32) : Option ((DSt × Int32) ⊕ (DSt × Int32)) :=
  if 5 < z10.2 then
    some (.inr (z10.1, z10.2))
  else
    oB (gR z10.1 (some x) 5 10) fun v11 =>
    oB (aI z10.1 v11 0 z10.2) fun v12 =>
    oB (oR z10.1 (some x) 5) fun b13 =>
    oB (fX5_letBowl z10.1 b13 a0 z10.2 v12) fun q14 =>
    some (.inl (q14, (z10.2 + 1)))
noncomputable def fX5_warm (st : DSt) (x : Nat) (a0 : Int32) (a1 : Int32) (a2 : Int32) : Option (Int32 × DSt) :=
  oB (pV st (some x) 5 0 (DI 0)) fun s1 =>
  oB (oR s1 (some x) 5) fun b2 =>
  oB (fX5_isBowl s1 b2 a0) fun q3 =>
  if q3 = 0 then
    oB (oR s1 (some x) 5) fun b23 =>
    oB (fX5_fail s1 b23 1) fun q24 =>
    some (q24.1, q24.2)
  else
    oB (oR s1 (some x) 5) fun b4 =>
    oB (fX5_isWarmth s1 b4 a1 a2) fun q5 =>
    if q5 = 0 then
      oB (oR s1 (some x) 5) fun b20 =>
      oB (fX5_fail s1 b20 2) fun q21 =>
      some (q21.1, q21.2)
    else
      oB (oR s1 (some x) 5) fun b6 =>
      oB (fX5_look s1 b6 a0) fun q7 =>
      oB (gR q7 (some x) 5 10) fun v8 =>
      oB (fX5_turns q7 v8 a1 a2) fun q9 =>
      oB (dlp (fX5_warm_L51 x a0) (q9, 1)) fun b10 =>
      oB (oR b10.1 (some x) 5) fun b16 =>
      oB (fX5_letBowl b10.1 b16 a0 6 a1) fun q17 =>
      oB (gR q17 (some x) 5 10) fun v18 =>
      oB (fX5_temper q17 v18) fun q19 =>
      some (q19, q17)
noncomputable def fX5_seed (st : DSt) (x : Nat) (a0 : Int32) (a1 : Int32) : Option (Int32 × DSt) :=
  oB (pV st (some x) 5 0 (DI 0)) fun s1 =>
  oB (oR s1 (some x) 5) fun b2 =>
  oB (fX5_isBowl s1 b2 a0) fun q3 =>
  if q3 = 0 then
    oB (oR s1 (some x) 5) fun b18 =>
    oB (fX5_fail s1 b18 1) fun q19 =>
    some (q19.1, q19.2)
  else
    oB (fX5_isIn s1 a1 1 30) fun q4 =>
    if q4 = 0 then
      oB (oR s1 (some x) 5) fun b15 =>
      oB (fX5_fail s1 b15 2) fun q16 =>
      some (q16.1, q16.2)
    else
      oB (oR s1 (some x) 5) fun b5 =>
      oB (fX5_look s1 b5 a0) fun q6 =>
      oB (gR q6 (some x) 5 10) fun v7 =>
      oB (aI q6 v7 0 5) fun v8 =>
      oB (gR q6 (some x) 5 10) fun v9 =>
      oB (fX5_sum q6 v9) fun q10 =>
      oB (oR q6 (some x) 5) fun b11 =>
      oB (fX5_letBowl q6 b11 a0 5 (v8 + (jmin a1 (100 - q10)))) fun q12 =>
      oB (oR q12 (some x) 5) fun b13 =>
      oB (fX5_bo q12 b13 a0 5) fun q14 =>
      some (q14, q12)
noncomputable def fX5_pour_L66 (x : Nat) (a0 : Int32) (a1 : Int32) (q9 : Int32) (q11 : Int32) (z16 : DSt × Int32) : Option ((DSt × Int32) ⊕ (DSt × Int32)) :=
  if 6 < z16.2 then
    some (.inr (z16.1, z16.2))
  else
    oB (oR z16.1 (some x) 5) fun b17 =>
    oB (fX5_bo z16.1 b17 a1 z16.2) fun q18 =>
    oB (oR z16.1 (some x) 5) fun b19 =>
    oB (fX5_bo z16.1 b19 a1 0) fun q20 =>
    oB (oR z16.1 (some x) 5) fun b21 =>
    oB (fX5_bo z16.1 b21 a0 z16.2) fun q22 =>
    oB (oR z16.1 (some x) 5) fun b23 =>
    oB (fX5_bo z16.1 b23 a0 0) fun q24 =>
    oB (oD ((q18 * q20) + (q22 * q24)) (q9 + q11)) fun v25 =>
    oB (oR z16.1 (some x) 5) fun b26 =>
    oB (fX5_letBowl z16.1 b26 a1 z16.2 v25) fun q27 =>
    some (.inl (q27, (z16.2 + 1)))
noncomputable def fX5_pour_L127 (x : Nat) (a0 : Int32) (z31 : DSt × Int32) : Option ((DSt × Int32) ⊕ (DSt × Int32)) :=
  if 6 ≤ z31.2 then
    some (.inr (z31.1, z31.2))
  else
    oB (oR z31.1 (some x) 5) fun b32 =>
    oB (fX5_letBowl z31.1 b32 a0 z31.2 0) fun q33 =>
    some (.inl (q33, (z31.2 + 1)))
noncomputable def fX5_pour (st : DSt) (x : Nat) (a0 : Int32) (a1 : Int32) : Option (Int32 × DSt) :=
  oB (pV st (some x) 5 0 (DI 0)) fun s1 =>
  oB (oR s1 (some x) 5) fun b2 =>
  oB (fX5_isBowl s1 b2 a0) fun q3 =>
  if q3 = 0 then
    oB (oR s1 (some x) 5) fun b4 =>
    oB (fX5_fail s1 b4 1) fun q5 =>
    some (q5.1, q5.2)
  else
    oB (oR s1 (some x) 5) fun b6 =>
    oB (fX5_isBowl s1 b6 a1) fun q7 =>
    if q7 = 0 then
      oB (oR s1 (some x) 5) fun b40 =>
      oB (fX5_fail s1 b40 1) fun q41 =>
      some (q41.1, q41.2)
    else
      oB (oR s1 (some x) 5) fun b8 =>
      oB (fX5_bo s1 b8 a0 0) fun q9 =>
      oB (oR s1 (some x) 5) fun b10 =>
      oB (fX5_bo s1 b10 a1 0) fun q11 =>
      if a0 = a1 then
        oB (oR s1 (some x) 5) fun b12 =>
        oB (fX5_fail s1 b12 2) fun q13 =>
        some (q13.1, q13.2)
      else
        if (q9 + q11) = 0 then
          oB (oR s1 (some x) 5) fun b14 =>
          oB (fX5_fail s1 b14 2) fun q15 =>
          some (q15.1, q15.2)
        else
          if (q9 + q11) ≤ 2000 then
            oB (dlp (fX5_pour_L66 x a0 a1 q9 q11) (s1, 1)) fun b16 =>
            oB (oR b16.1 (some x) 5) fun b29 =>
            oB (fX5_letBowl b16.1 b29 a1 0 (q9 + q11)) fun q30 =>
            oB (dlp (fX5_pour_L127 x a0) (q30, 0)) fun b31 =>
            some ((q9 + q11), b31.1)
          else
            oB (oR s1 (some x) 5) fun b35 =>
            oB (fX5_fail s1 b35 2) fun q36 =>
            some (q36.1, q36.2)
noncomputable def fX5_put (st : DSt) (x : Nat) (a0 : Int32) (a1 : Int32) (a2 : Int32) (a3 : Int32) (a4 : Int32) (a5 : Int32) : Option (DSt) :=
  oB (oR st (some x) 5) fun b1 =>
  oB (fX5_letSlab st b1 a0 0 a1) fun q2 =>
  oB (oR q2 (some x) 5) fun b3 =>
  oB (fX5_letSlab q2 b3 a0 1 a2) fun q4 =>
  oB (oR q4 (some x) 5) fun b5 =>
  oB (fX5_letSlab q4 b5 a0 2 a3) fun q6 =>
  oB (oR q6 (some x) 5) fun b7 =>
  oB (fX5_letSlab q6 b7 a0 3 a4) fun q8 =>
  oB (oR q8 (some x) 5) fun b9 =>
  oB (fX5_letSlab q8 b9 a0 4 a5) fun q10 =>
  some q10
noncomputable def fX5_squares (st : DSt) (x : Nat) (a0 : Int32) : Option (Int32) :=
  oB (oR st (some x) 5) fun b1 =>
  oB (fX5_sl st b1 a0 0) fun q2 =>
  oB (oR st (some x) 5) fun b3 =>
  oB (fX5_sl st b3 a0 1) fun q4 =>
  some (q2 * q4)
noncomputable def fX5_away (st : DSt) (x : Nat) (a0 : Int32) : Option (DSt) :=
  oB (gI st (some x) 5 3) fun v1 =>
  oB (pV st (some x) 5 3 (DI (v1 - 1))) fun s2 =>
  oB (gR s2 (some x) 5 6) fun v3 =>
  oB (gR s2 (some x) 5 6) fun v4 =>
  oB (gI s2 (some x) 5 3) fun v5 =>
  oB (cpI s2 v3 (5 * (a0 + 1)) v4 (5 * a0) (5 * (v5 - a0)) 0) fun s6 =>
  some s6
noncomputable def fX5_cast (st : DSt) (x : Nat) (a0 : Int32) (a1 : Int32) (a2 : Int32) : Option (Int32 × DSt) :=
  oB (pV st (some x) 5 0 (DI 0)) fun s1 =>
  oB (oR s1 (some x) 5) fun b2 =>
  oB (fX5_isBowl s1 b2 a0) fun q3 =>
  if q3 = 0 then
    oB (oR s1 (some x) 5) fun b33 =>
    oB (fX5_fail s1 b33 1) fun q34 =>
    some (q34.1, q34.2)
  else
    oB (fX5_isIn s1 a1 1 6) fun q4 =>
    if q4 = 0 then
      oB (oR s1 (some x) 5) fun b5 =>
      oB (fX5_fail s1 b5 2) fun q6 =>
      some (q6.1, q6.2)
    else
      oB (fX5_isIn s1 a2 1 6) fun q7 =>
      if q7 = 0 then
        oB (oR s1 (some x) 5) fun b29 =>
        oB (fX5_fail s1 b29 2) fun q30 =>
        some (q30.1, q30.2)
      else
        oB (gI s1 (some x) 5 3) fun v8 =>
        if v8 = 8 then
          oB (oR s1 (some x) 5) fun b9 =>
          oB (fX5_fail s1 b9 3) fun q10 =>
          some (q10.1, q10.2)
        else
          oB (oR s1 (some x) 5) fun b11 =>
          oB (fX5_bo s1 b11 a0 0) fun q12 =>
          if ((10 * a1) * a2) ≤ q12 then
            oB (oR s1 (some x) 5) fun b13 =>
            oB (fX5_bo s1 b13 a0 0) fun q14 =>
            oB (oR s1 (some x) 5) fun b15 =>
            oB (fX5_letBowl s1 b15 a0 0 (q14 - ((10 * a1) * a2))) fun q16 =>
            oB (gI q16 (some x) 5 3) fun v17 =>
            oB (oR q16 (some x) 5) fun b18 =>
            oB (fX5_temperOf q16 b18 a0) fun q19 =>
            oB (oR q19.2 (some x) 5) fun b20 =>
            oB (fX5_put q19.2 b20 v17 a1 a2 q19.1 0 0) fun q21 =>
            oB (gI q21 (some x) 5 3) fun v22 =>
            oB (pV q21 (some x) 5 3 (DI (v22 + 1))) fun s23 =>
            oB (gI s23 (some x) 5 3) fun v24 =>
            some ((v24 - 1), s23)
          else
            oB (oR s1 (some x) 5) fun b25 =>
            oB (fX5_fail s1 b25 3) fun q26 =>
            some (q26.1, q26.2)
noncomputable def fX5_polish (st : DSt) (x : Nat) (a0 : Int32) : Option (Int32 × DSt) :=
  oB (pV st (some x) 5 0 (DI 0)) fun s1 =>
  oB (oR s1 (some x) 5) fun b2 =>
  oB (fX5_isSlab s1 b2 a0) fun q3 =>
  if q3 = 0 then
    oB (oR s1 (some x) 5) fun b10 =>
    oB (fX5_fail s1 b10 1) fun q11 =>
    some (q11.1, q11.2)
  else
    oB (oR s1 (some x) 5) fun b4 =>
    oB (fX5_sl s1 b4 a0 3) fun q5 =>
    oB (oR s1 (some x) 5) fun b6 =>
    oB (fX5_letSlab s1 b6 a0 3 (jmax 0 (q5 - 15))) fun q7 =>
    oB (oR q7 (some x) 5) fun b8 =>
    oB (fX5_sl q7 b8 a0 3) fun q9 =>
    some (q9, q7)
noncomputable def fX5_split (st : DSt) (x : Nat) (a0 : Int32) (a1 : Int32) (a2 : Int32) : Option (Int32 × DSt) :=
  oB (pV st (some x) 5 0 (DI 0)) fun s1 =>
  if a2 = 0 then
    oB (oR s1 (some x) 5) fun b2 =>
    oB (fX5_isSlab s1 b2 a0) fun q3 =>
    if q3 = 0 then
      oB (oR s1 (some x) 5) fun b4 =>
      oB (fX5_fail s1 b4 1) fun q5 =>
      some (q5.1, q5.2)
    else
      oB (oR s1 (some x) 5) fun b6 =>
      oB (fX5_sl s1 b6 a0 0) fun q7 =>
      oB (fX5_isIn s1 a1 1 (q7 - 1)) fun q8 =>
      if q8 = 0 then
        oB (oR s1 (some x) 5) fun b27 =>
        oB (fX5_fail s1 b27 1) fun q28 =>
        some (q28.1, q28.2)
      else
        oB (gI s1 (some x) 5 3) fun v9 =>
        if v9 = 8 then
          oB (oR s1 (some x) 5) fun b24 =>
          oB (fX5_fail s1 b24 2) fun q25 =>
          some (q25.1, q25.2)
        else
          oB (gR s1 (some x) 5 6) fun v10 =>
          oB (gR s1 (some x) 5 6) fun v11 =>
          oB (gI s1 (some x) 5 3) fun v12 =>
          oB (cpI s1 v10 (5 * a0) v11 (5 * v12) 5 0) fun s13 =>
          oB (gI s13 (some x) 5 3) fun v14 =>
          oB (oR s13 (some x) 5) fun b15 =>
          oB (fX5_sl s13 b15 a0 0) fun q16 =>
          oB (oR s13 (some x) 5) fun b17 =>
          oB (fX5_letSlab s13 b17 v14 0 (q16 - a1)) fun q18 =>
          oB (oR q18 (some x) 5) fun b19 =>
          oB (fX5_letSlab q18 b19 a0 0 a1) fun q20 =>
          oB (gI q20 (some x) 5 3) fun v21 =>
          oB (pV q20 (some x) 5 3 (DI (v21 + 1))) fun s22 =>
          oB (gI s22 (some x) 5 3) fun v23 =>
          some ((v23 - 1), s22)
  else
    oB (oR s1 (some x) 5) fun b31 =>
    oB (fX5_isSlab s1 b31 a0) fun q32 =>
    if q32 = 0 then
      oB (oR s1 (some x) 5) fun b33 =>
      oB (fX5_fail s1 b33 1) fun q34 =>
      some (q34.1, q34.2)
    else
      oB (oR s1 (some x) 5) fun b35 =>
      oB (fX5_sl s1 b35 a0 1) fun q36 =>
      oB (fX5_isIn s1 a1 1 (q36 - 1)) fun q37 =>
      if q37 = 0 then
        oB (oR s1 (some x) 5) fun b56 =>
        oB (fX5_fail s1 b56 1) fun q57 =>
        some (q57.1, q57.2)
      else
        oB (gI s1 (some x) 5 3) fun v38 =>
        if v38 = 8 then
          oB (oR s1 (some x) 5) fun b53 =>
          oB (fX5_fail s1 b53 2) fun q54 =>
          some (q54.1, q54.2)
        else
          oB (gR s1 (some x) 5 6) fun v39 =>
          oB (gR s1 (some x) 5 6) fun v40 =>
          oB (gI s1 (some x) 5 3) fun v41 =>
          oB (cpI s1 v39 (5 * a0) v40 (5 * v41) 5 0) fun s42 =>
          oB (gI s42 (some x) 5 3) fun v43 =>
          oB (oR s42 (some x) 5) fun b44 =>
          oB (fX5_sl s42 b44 a0 1) fun q45 =>
          oB (oR s42 (some x) 5) fun b46 =>
          oB (fX5_letSlab s42 b46 v43 1 (q45 - a1)) fun q47 =>
          oB (oR q47 (some x) 5) fun b48 =>
          oB (fX5_letSlab q47 b48 a0 1 a1) fun q49 =>
          oB (gI q49 (some x) 5 3) fun v50 =>
          oB (pV q49 (some x) 5 3 (DI (v50 + 1))) fun s51 =>
          oB (gI s51 (some x) 5 3) fun v52 =>
          some ((v52 - 1), s51)
noncomputable def fX5_melt (st : DSt) (x : Nat) (a0 : Int32) (a1 : Int32) : Option (Int32 × DSt) :=
  oB (pV st (some x) 5 0 (DI 0)) fun s1 =>
  oB (oR s1 (some x) 5) fun b2 =>
  oB (fX5_isSlab s1 b2 a0) fun q3 =>
  if q3 = 0 then
    oB (oR s1 (some x) 5) fun b4 =>
    oB (fX5_fail s1 b4 1) fun q5 =>
    some (q5.1, q5.2)
  else
    oB (oR s1 (some x) 5) fun b6 =>
    oB (fX5_isBowl s1 b6 a1) fun q7 =>
    if q7 = 0 then
      oB (oR s1 (some x) 5) fun b19 =>
      oB (fX5_fail s1 b19 1) fun q20 =>
      some (q20.1, q20.2)
    else
      oB (oR s1 (some x) 5) fun b8 =>
      oB (fX5_bo s1 b8 a1 0) fun q9 =>
      oB (oR s1 (some x) 5) fun b10 =>
      oB (fX5_squares s1 b10 a0) fun q11 =>
      if (q9 + (10 * q11)) ≤ 2000 then
        oB (oR s1 (some x) 5) fun b12 =>
        oB (fX5_letBowl s1 b12 a1 0 (q9 + (10 * q11))) fun q13 =>
        oB (oR q13 (some x) 5) fun b14 =>
        oB (fX5_away q13 b14 a0) fun q15 =>
        some ((q9 + (10 * q11)), q15)
      else
        oB (oR s1 (some x) 5) fun b16 =>
        oB (fX5_fail s1 b16 2) fun q17 =>
        some (q17.1, q17.2)
noncomputable def fX5_box (st : DSt) (x : Nat) (a0 : Int32) (a1 : Int32) : Option (Int32 × DSt) :=
  oB (pV st (some x) 5 0 (DI 0)) fun s1 =>
  oB (fX5_isIn s1 a0 1 36) fun q2 =>
  if q2 = 0 then
    oB (oR s1 (some x) 5) fun b3 =>
    oB (fX5_fail s1 b3 1) fun q4 =>
    some (q4.1, q4.2)
  else
    oB (fX5_isIn s1 a1 0 100) fun q5 =>
    if q5 = 0 then
      oB (oR s1 (some x) 5) fun b22 =>
      oB (fX5_fail s1 b22 1) fun q23 =>
      some (q23.1, q23.2)
    else
      oB (gI s1 (some x) 5 4) fun v6 =>
      if v6 = 6 then
        oB (oR s1 (some x) 5) fun b19 =>
        oB (fX5_fail s1 b19 2) fun q20 =>
        some (q20.1, q20.2)
      else
        oB (some (nC s1 (.inl (0, nI0 5)))) fun s7 =>
        oB (sI s7 (some s1.1) 0 0 a0) fun s8 =>
        oB (sI s8 (some s1.1) 0 1 a1) fun s9 =>
        oB (sI s9 (some s1.1) 0 2 0) fun s10 =>
        oB (sI s10 (some s1.1) 0 3 (-1)) fun s11 =>
        oB (sI s11 (some s1.1) 0 4 (-1)) fun s12 =>
        oB (gR s12 (some x) 5 7) fun v13 =>
        oB (gI s12 (some x) 5 4) fun v14 =>
        oB (cpI s12 (some s1.1) 0 v13 (5 * v14) 5 0) fun s15 =>
        oB (gI s15 (some x) 5 4) fun v16 =>
        oB (pV s15 (some x) 5 4 (DI (v16 + 1))) fun s17 =>
        oB (gI s17 (some x) 5 4) fun v18 =>
        some ((v18 - 1), s17)
noncomputable def fX5_fits (st : DSt) (x : Nat) (a0 : Int32) (a1 : Int32) : Option (Int32) :=
  oB (oR st (some x) 5) fun b1 =>
  oB (fX5_bx st b1 a1 2) fun q2 =>
  if q2 = 0 then
    oB (oR st (some x) 5) fun b4 =>
    oB (fX5_squares st b4 a0) fun q5 =>
    oB (oR st (some x) 5) fun b6 =>
    oB (fX5_bx st b6 a1 0) fun q7 =>
    if q5 = q7 then
      oB (oR st (some x) 5) fun b9 =>
      oB (fX5_sl st b9 a0 2) fun q10 =>
      oB (oR st (some x) 5) fun b11 =>
      oB (fX5_bx st b11 a1 1) fun q12 =>
      if q10 < q12 then
        oB (oZ 0) fun v13 =>
        some v13
      else
        oB (oR st (some x) 5) fun b14 =>
        oB (fX5_sl st b14 a0 3) fun q15 =>
        if 20 < q15 then
          oB (oZ 0) fun v16 =>
          some v16
        else
          oB (oZ 1) fun v17 =>
          some v17
    else
      oB (oZ 0) fun v8 =>
      some v8
  else
    oB (oZ 0) fun v3 =>
    some v3
noncomputable def fX5_fillOne_L2 (x : Nat) (a0 : Int32) (z1 : DSt × Int32) : Option ((DSt × Int32) ⊕ ((DSt × Int32) ⊕ (Int32 × DSt))) :=
  oB (gI z1.1 (some x) 5 3) fun v2 =>
  if v2 ≤ z1.2 then
    some (.inr (.inl (z1.1, z1.2)))
  else
    oB (oR z1.1 (some x) 5) fun b3 =>
    oB (fX5_fits z1.1 b3 z1.2 a0) fun q4 =>
    if q4 = 0 then
      some (.inl (z1.1, (z1.2 + 1)))
    else
      oB (gR z1.1 (some x) 5 7) fun v5 =>
      oB (sI z1.1 v5 0 ((5 * a0) + 2) 1) fun s6 =>
      oB (gR s6 (some x) 5 7) fun v7 =>
      oB (oR s6 (some x) 5) fun b8 =>
      oB (fX5_sl s6 b8 z1.2 2) fun q9 =>
      oB (sI s6 v7 0 ((5 * a0) + 3) q9) fun s10 =>
      oB (gR s10 (some x) 5 7) fun v11 =>
      oB (oR s10 (some x) 5) fun b12 =>
      oB (fX5_sl s10 b12 z1.2 3) fun q13 =>
      oB (sI s10 v11 0 ((5 * a0) + 4) q13) fun s14 =>
      oB (oR s14 (some x) 5) fun b15 =>
      oB (fX5_away s14 b15 z1.2) fun q16 =>
      oB (oZ 1) fun v17 =>
      some (.inr (.inr (v17, q16)))
noncomputable def fX5_fillOne (st : DSt) (x : Nat) (a0 : Int32) : Option (Int32 × DSt) :=
  oB (dlp (fX5_fillOne_L2 x a0) (st, 0)) fun b1 =>
  match b1 with
  | .inr r9 => some r9
  | .inl yb1 =>
    oB (oZ 0) fun v20 =>
    some (v20, yb1.1)
noncomputable def fX5_fillAll_L4 (x : Nat) (z1 : DSt × Int32 × Int32) : Option ((DSt × Int32 × Int32) ⊕ (DSt × Int32 × Int32)) :=
  oB (gI z1.1 (some x) 5 4) fun v2 =>
  if v2 ≤ z1.2.2 then
    some (.inr (z1.1, z1.2.1, z1.2.2))
  else
    oB (oR z1.1 (some x) 5) fun b3 =>
    oB (fX5_fillOne z1.1 b3 z1.2.2) fun q4 =>
    if q4.1 = 0 then
      some (.inl (q4.2, (z1.2.1 + 0), (z1.2.2 + 1)))
    else
      some (.inl (q4.2, (z1.2.1 + 1), (z1.2.2 + 1)))
noncomputable def fX5_fillAll (st : DSt) (x : Nat) : Option (Int32 × DSt) :=
  oB (dlp (fX5_fillAll_L4 x) (st, 0, 0)) fun b1 =>
  some (b1.2.1, b1.1)
noncomputable def fX5_fill (st : DSt) (x : Nat) : Option (Int32 × DSt) :=
  oB (pV st (some x) 5 0 (DI 0)) fun s1 =>
  oB (oR s1 (some x) 5) fun b2 =>
  oB (fX5_fillAll s1 b2) fun q3 =>
  some (q3.1, q3.2)
noncomputable def fX5_more (st : DSt) (x : Nat) (a0 : Int32) (a1 : Int32) : Option (Int32) :=
  oB (oR st (some x) 5) fun b1 =>
  oB (fX5_sl st b1 a0 2) fun q2 =>
  oB (oD (100 - q2) 10) fun v3 =>
  some (v3 + (2 * (jmax 0 (a1 - 24))))
noncomputable def fX5_bloomed_L4 (st : DSt) (x : Nat) (z1 : Int32 × Int32) : Option ((Int32 × Int32) ⊕ (Int32 × Int32)) :=
  oB (gI st (some x) 5 3) fun v2 =>
  if v2 ≤ z1.2 then
    some (.inr (z1.1, z1.2))
  else
    oB (oR st (some x) 5) fun b3 =>
    oB (fX5_sl st b3 z1.2 3) fun q4 =>
    if q4 ≤ 20 then
      some (.inl ((z1.1 + 0), (z1.2 + 1)))
    else
      some (.inl ((z1.1 + 1), (z1.2 + 1)))
noncomputable def fX5_bloomed (st : DSt) (x : Nat) : Option (Int32) :=
  oB (dlp (fX5_bloomed_L4 st x) (0, 0)) fun b1 =>
  some b1.1
noncomputable def fX5_pass_L34 (x : Nat) (a0 : Int32) (a1 : Int32) (z6 : DSt × Int32) : Option ((DSt × Int32) ⊕ (DSt × Int32)) :=
  oB (gI z6.1 (some x) 5 3) fun v7 =>
  if v7 ≤ z6.2 then
    some (.inr (z6.1, z6.2))
  else
    oB (oR z6.1 (some x) 5) fun b8 =>
    oB (fX5_sl z6.1 b8 z6.2 3) fun q9 =>
    oB (oR z6.1 (some x) 5) fun b10 =>
    oB (fX5_more z6.1 b10 z6.2 a0) fun q11 =>
    oB (oR z6.1 (some x) 5) fun b12 =>
    oB (fX5_letSlab z6.1 b12 z6.2 3 (jmin 100 (q9 + (a1 * q11)))) fun q13 =>
    oB (oR q13 (some x) 5) fun b14 =>
    oB (fX5_sl q13 b14 z6.2 4) fun q15 =>
    oB (oR q13 (some x) 5) fun b16 =>
    oB (fX5_letSlab q13 b16 z6.2 4 (q15 + a1)) fun q17 =>
    some (.inl (q17, (z6.2 + 1)))
noncomputable def fX5_pass (st : DSt) (x : Nat) (a0 : Int32) (a1 : Int32) : Option (Int32 × DSt) :=
  oB (pV st (some x) 5 0 (DI 0)) fun s1 =>
  oB (fX5_isIn s1 a0 10 40) fun q2 =>
  if q2 = 0 then
    oB (oR s1 (some x) 5) fun b3 =>
    oB (fX5_fail s1 b3 1) fun q4 =>
    some (q4.1, q4.2)
  else
    oB (fX5_isIn s1 a1 1 60) fun q5 =>
    if q5 = 0 then
      oB (oR s1 (some x) 5) fun b23 =>
      oB (fX5_fail s1 b23 1) fun q24 =>
      some (q24.1, q24.2)
    else
      oB (dlp (fX5_pass_L34 x a0 a1) (s1, 0)) fun b6 =>
      oB (gI b6.1 (some x) 5 1) fun v19 =>
      oB (pV b6.1 (some x) 5 1 (DI (v19 + a1))) fun s20 =>
      oB (oR s20 (some x) 5) fun b21 =>
      oB (fX5_bloomed s20 b21) fun q22 =>
      some (q22, s20)
noncomputable def fX5_bowlTold (st : DSt) (x : Nat) (a0 : Int32) (a1 : Int32) : Option (Int32 × DSt) :=
  if a1 = 7 then
    oB (oR st (some x) 5) fun b3 =>
    oB (fX5_temperOf st b3 a0) fun q4 =>
    some (q4.1, q4.2)
  else
    oB (oR st (some x) 5) fun b1 =>
    oB (fX5_bo st b1 a0 a1) fun q2 =>
    some (q2, st)
noncomputable def fX5_told (st : DSt) (x : Nat) (a0 : Int32) (a1 : Int32) : Option (Int32 × DSt) :=
  oB (pV st (some x) 5 0 (DI 0)) fun s1 =>
  oB (oR s1 (some x) 5) fun b2 =>
  oB (fX5_isBowl s1 b2 a0) fun q3 =>
  if q3 = 0 then
    oB (oR s1 (some x) 5) fun b4 =>
    oB (fX5_fail s1 b4 1) fun q5 =>
    some (q5.1, q5.2)
  else
    oB (fX5_isIn s1 a1 0 7) fun q6 =>
    if q6 = 0 then
      oB (oR s1 (some x) 5) fun b7 =>
      oB (fX5_fail s1 b7 1) fun q8 =>
      some (q8.1, q8.2)
    else
      oB (oR s1 (some x) 5) fun b9 =>
      oB (fX5_bowlTold s1 b9 a0 a1) fun q10 =>
      some (q10.1, q10.2)
noncomputable def fX5_slabTold_L25 (st : DSt) (x : Nat) (a0 : Int32) (z1 : Int32) : Option ((Int32) ⊕ ((Int32) ⊕ (Int32))) :=
  oB (gI st (some x) 5 4) fun v2 =>
  if v2 ≤ z1 then
    some (.inr (.inl z1))
  else
    oB (oR st (some x) 5) fun b3 =>
    oB (fX5_fits st b3 a0 z1) fun q4 =>
    if q4 = 0 then
      some (.inl (z1 + 1))
    else
      some (.inr (.inr z1))
noncomputable def fX5_slabTold (st : DSt) (x : Nat) (a0 : Int32) (a1 : Int32) : Option (Int32) :=
  if 5 ≤ a1 then
    if a1 = 5 then
      oB (oR st (some x) 5) fun b7 =>
      oB (fX5_squares st b7 a0) fun q8 =>
      some q8
    else
      oB (dlp (fX5_slabTold_L25 st x a0) 0) fun b1 =>
      match b1 with
      | .inr r9 => some r9
      | .inl yb1 =>
        some (-1)
  else
    oB (oR st (some x) 5) fun b10 =>
    oB (fX5_sl st b10 a0 a1) fun q11 =>
    some q11
noncomputable def fX5_about (st : DSt) (x : Nat) (a0 : Int32) (a1 : Int32) : Option (Int32 × DSt) :=
  oB (pV st (some x) 5 0 (DI 0)) fun s1 =>
  oB (oR s1 (some x) 5) fun b2 =>
  oB (fX5_isSlab s1 b2 a0) fun q3 =>
  if q3 = 0 then
    oB (oR s1 (some x) 5) fun b4 =>
    oB (fX5_fail s1 b4 1) fun q5 =>
    some (q5.1, q5.2)
  else
    oB (fX5_isIn s1 a1 0 6) fun q6 =>
    if q6 = 0 then
      oB (oR s1 (some x) 5) fun b7 =>
      oB (fX5_fail s1 b7 1) fun q8 =>
      some (q8.1, q8.2)
    else
      oB (oR s1 (some x) 5) fun b9 =>
      oB (fX5_slabTold s1 b9 a0 a1) fun q10 =>
      some (q10, s1)
noncomputable def fX5_order (st : DSt) (x : Nat) (a0 : Int32) (a1 : Int32) : Option (Int32 × DSt) :=
  oB (pV st (some x) 5 0 (DI 0)) fun s1 =>
  oB (gI s1 (some x) 5 4) fun v2 =>
  oB (fX5_isIn s1 a0 0 (v2 - 1)) fun q3 =>
  if q3 = 0 then
    oB (oR s1 (some x) 5) fun b4 =>
    oB (fX5_fail s1 b4 1) fun q5 =>
    some (q5.1, q5.2)
  else
    oB (fX5_isIn s1 a1 0 4) fun q6 =>
    if q6 = 0 then
      oB (oR s1 (some x) 5) fun b7 =>
      oB (fX5_fail s1 b7 1) fun q8 =>
      some (q8.1, q8.2)
    else
      oB (oR s1 (some x) 5) fun b9 =>
      oB (fX5_bx s1 b9 a0 a1) fun q10 =>
      some (q10, s1)
noncomputable def fX5_counted_L66 (st : DSt) (x : Nat) (z13 : Int32 × Int32) : Option ((Int32 × Int32) ⊕ (Int32 × Int32)) :=
  oB (gI st (some x) 5 4) fun v14 =>
  if v14 ≤ z13.2 then
    some (.inr (z13.1, z13.2))
  else
    oB (oR st (some x) 5) fun b15 =>
    oB (fX5_bx st b15 z13.2 2) fun q16 =>
    some (.inl ((z13.1 + q16), (z13.2 + 1)))
noncomputable def fX5_counted_L93 (st : DSt) (x : Nat) (z18 : Int32 × Int32) : Option ((Int32 × Int32) ⊕ (Int32 × Int32)) :=
  oB (gI st (some x) 5 2) fun v19 =>
  if v19 ≤ z18.2 then
    some (.inr (z18.1, z18.2))
  else
    oB (oR st (some x) 5) fun b20 =>
    oB (fX5_bo st b20 z18.2 0) fun q21 =>
    some (.inl ((z18.1 + q21), (z18.2 + 1)))
noncomputable def fX5_counted_L120 (st : DSt) (x : Nat) (z23 : Int32 × Int32) : Option ((Int32 × Int32) ⊕ (Int32 × Int32)) :=
  oB (gI st (some x) 5 3) fun v24 =>
  if v24 ≤ z23.2 then
    some (.inr (z23.1, z23.2))
  else
    oB (oR st (some x) 5) fun b25 =>
    oB (fX5_squares st b25 z23.2) fun q26 =>
    some (.inl ((z23.1 + q26), (z23.2 + 1)))
noncomputable def fX5_counted (st : DSt) (x : Nat) (a0 : Int32) : Option (Int32) :=
  if a0 = 0 then
    oB (gI st (some x) 5 1) fun v9 =>
    some v9
  else
  if a0 = 1 then
    oB (gI st (some x) 5 2) fun v10 =>
    some v10
  else
  if a0 = 2 then
    oB (gI st (some x) 5 3) fun v11 =>
    some v11
  else
  if a0 = 3 then
    oB (gI st (some x) 5 4) fun v12 =>
    some v12
  else
  if a0 = 4 then
    oB (dlp (fX5_counted_L66 st x) (0, 0)) fun b13 =>
    some b13.1
  else
  if a0 = 5 then
    oB (dlp (fX5_counted_L93 st x) (0, 0)) fun b18 =>
    some b18.1
  else
  if a0 = 6 then
    oB (dlp (fX5_counted_L120 st x) (0, 0)) fun b23 =>
    some b23.1
  else
  oB (oR st (some x) 5) fun b28 =>
  oB (fX5_bloomed st b28) fun q29 =>
  some q29
noncomputable def fX5_count (st : DSt) (x : Nat) (a0 : Int32) : Option (Int32 × DSt) :=
  oB (pV st (some x) 5 0 (DI 0)) fun s1 =>
  oB (fX5_isIn s1 a0 0 7) fun q2 =>
  if q2 = 0 then
    oB (oR s1 (some x) 5) fun b3 =>
    oB (fX5_fail s1 b3 1) fun q4 =>
    some (q4.1, q4.2)
  else
    oB (oR s1 (some x) 5) fun b5 =>
    oB (fX5_counted s1 b5 a0) fun q6 =>
    some (q6, s1)
noncomputable def fX5_would (st : DSt) (x : Nat) (a0 : Int32) (a1 : Int32) (a2 : Int32) : Option (Int32 × DSt) :=
  oB (pV st (some x) 5 0 (DI 0)) fun s1 =>
  oB (oR s1 (some x) 5) fun b2 =>
  oB (fX5_isBowl s1 b2 a0) fun q3 =>
  if q3 = 0 then
    oB (oR s1 (some x) 5) fun b15 =>
    oB (fX5_fail s1 b15 1) fun q16 =>
    some (q16.1, q16.2)
  else
    oB (oR s1 (some x) 5) fun b4 =>
    oB (fX5_isWarmth s1 b4 a1 a2) fun q5 =>
    if q5 = 0 then
      oB (oR s1 (some x) 5) fun b12 =>
      oB (fX5_fail s1 b12 2) fun q13 =>
      some (q13.1, q13.2)
    else
      oB (oR s1 (some x) 5) fun b6 =>
      oB (fX5_look s1 b6 a0) fun q7 =>
      oB (gR q7 (some x) 5 10) fun v8 =>
      oB (fX5_turns q7 v8 a1 a2) fun q9 =>
      oB (gR q9 (some x) 5 10) fun v10 =>
      oB (fX5_temper q9 v10) fun q11 =>
      some (q11, q9)
noncomputable def fX5_best_L101 (x : Nat) (a1 : Int32) (z8 : DSt × Int32 × Int32 × Int32 × Int32) (z18 : DSt × Int32 × Int32 × Int32 × Int32) : Option ((DSt × Int32 × Int32 × Int32 × Int32) ⊕ (DSt × Int32 × Int32 × Int32 × Int32)) :=
  if 50 < z18.2.2.2.2 then
    some (.inr (z18.1, z18.2.1, z18.2.2.1, z18.2.2.2.1, z18.2.2.2.2))
  else
    oB (gR z18.1 (some x) 5 11) fun v19 =>
    oB (gR z18.1 (some x) 5 10) fun v20 =>
    oB (gR z18.1 (some x) 5 10) fun v21 =>
    oB (aN z18.1 v21 0) fun v22 =>
    oB (cpI z18.1 v19 0 v20 0 v22 0) fun s23 =>
    oB (gR s23 (some x) 5 10) fun v24 =>
    oB (fX5_turns s23 v24 z18.2.2.2.2 a1) fun q25 =>
    oB (gR q25 (some x) 5 10) fun v26 =>
    oB (fX5_temper q25 v26) fun q27 =>
    if z18.2.1 < q27 then
      oB (gR q25 (some x) 5 10) fun v28 =>
      oB (fX5_temper q25 v28) fun q29 =>
      some (.inl (q25, q29, z8.2.2.2.2, z18.2.2.2.2, (z18.2.2.2.2 + 1)))
    else
      some (.inl (q25, z18.2.1, z18.2.2.1, z18.2.2.2.1, (z18.2.2.2.2 + 1)))
noncomputable def fX5_best_L57 (x : Nat) (a0 : Int32) (a1 : Int32) (z8 : DSt × Int32 × Int32 × Int32 × Int32) : Option ((DSt × Int32 × Int32 × Int32 × Int32) ⊕ (DSt × Int32 × Int32 × Int32 × Int32)) :=
  if 50 < z8.2.2.2.2 then
    some (.inr (z8.1, z8.2.1, z8.2.2.1, z8.2.2.2.1, z8.2.2.2.2))
  else
    oB (oR z8.1 (some x) 5) fun b9 =>
    oB (fX5_look z8.1 b9 a0) fun q10 =>
    oB (gR q10 (some x) 5 10) fun v11 =>
    oB (fX5_turns q10 v11 z8.2.2.2.2 a1) fun q12 =>
    oB (gR q12 (some x) 5 10) fun v13 =>
    oB (gR q12 (some x) 5 11) fun v14 =>
    oB (gR q12 (some x) 5 10) fun v15 =>
    oB (aN q12 v15 0) fun v16 =>
    oB (cpI q12 v13 0 v14 0 v16 0) fun s17 =>
    oB (dlp (fX5_best_L101 x a1 z8) (s17, z8.2.1, z8.2.2.1, z8.2.2.2.1, 15)) fun b18 =>
    some (.inl (b18.1, b18.2.1, b18.2.2.1, b18.2.2.2.1, (z8.2.2.2.2 + 1)))
noncomputable def fX5_best (st : DSt) (x : Nat) (a0 : Int32) (a1 : Int32) (a2 : Int32) : Option (Int32 × DSt) :=
  oB (pV st (some x) 5 0 (DI 0)) fun s1 =>
  oB (oR s1 (some x) 5) fun b2 =>
  oB (fX5_isBowl s1 b2 a0) fun q3 =>
  if q3 = 0 then
    oB (oR s1 (some x) 5) fun b4 =>
    oB (fX5_fail s1 b4 1) fun q5 =>
    some (q5.1, q5.2)
  else
    oB (fX5_isIn s1 a2 0 2) fun q6 =>
    if q6 = 0 then
      oB (oR s1 (some x) 5) fun b38 =>
      oB (fX5_fail s1 b38 1) fun q39 =>
      some (q39.1, q39.2)
    else
      oB (fX5_isIn s1 a1 1 10) fun q7 =>
      if q7 = 0 then
        oB (oR s1 (some x) 5) fun b35 =>
        oB (fX5_fail s1 b35 2) fun q36 =>
        some (q36.1, q36.2)
      else
        oB (dlp (fX5_best_L57 x a0 a1) (s1, (-1), 0, 0, 15)) fun b8 =>
        if a2 = 0 then
          some (b8.2.2.1, b8.1)
        else
          if a2 = 1 then
            some (b8.2.2.2.1, b8.1)
          else
            some (b8.2.1, b8.1)
noncomputable def fX5_until (st : DSt) (x : Nat) (a0 : Int32) (a1 : Int32) : Option (Int32 × DSt) :=
  oB (pV st (some x) 5 0 (DI 0)) fun s1 =>
  oB (oR s1 (some x) 5) fun b2 =>
  oB (fX5_isSlab s1 b2 a0) fun q3 =>
  if q3 = 0 then
    oB (oR s1 (some x) 5) fun b15 =>
    oB (fX5_fail s1 b15 1) fun q16 =>
    some (q16.1, q16.2)
  else
    oB (fX5_isIn s1 a1 10 40) fun q4 =>
    if q4 = 0 then
      oB (oR s1 (some x) 5) fun b12 =>
      oB (fX5_fail s1 b12 2) fun q13 =>
      some (q13.1, q13.2)
    else
      oB (oR s1 (some x) 5) fun b5 =>
      oB (fX5_sl s1 b5 a0 3) fun q6 =>
      oB (oR s1 (some x) 5) fun b7 =>
      oB (fX5_more s1 b7 a0 a1) fun q8 =>
      if 0 < (21 - q6) then
        if q8 = 0 then
          some ((-1), s1)
        else
          oB (oD (((21 - q6) + q8) - 1) q8) fun v9 =>
          some (v9, s1)
      else
        some (0, s1)
noncomputable def fX5_filledBy (st : DSt) (x : Nat) (a0 : Int32) : Option (Int32 × DSt) :=
  oB (gI st (some x) 5 3) fun v1 =>
  oB (gR st (some x) 5 6) fun v2 =>
  oB (gR st (some x) 5 8) fun v3 =>
  oB (gR st (some x) 5 6) fun v4 =>
  oB (aN st v4 0) fun v5 =>
  oB (cpI st v2 0 v3 0 v5 0) fun s6 =>
  oB (gR s6 (some x) 5 7) fun v7 =>
  oB (gR s6 (some x) 5 9) fun v8 =>
  oB (gR s6 (some x) 5 7) fun v9 =>
  oB (aN s6 v9 0) fun v10 =>
  oB (cpI s6 v7 0 v8 0 v10 0) fun s11 =>
  if a0 = (-1) then
    oB (oR s11 (some x) 5) fun b12 =>
    oB (fX5_fillAll s11 b12) fun q13 =>
    oB (pV q13.2 (some x) 5 3 (DI v1)) fun s14 =>
    oB (gR s14 (some x) 5 8) fun v15 =>
    oB (gR s14 (some x) 5 6) fun v16 =>
    oB (gR s14 (some x) 5 6) fun v17 =>
    oB (aN s14 v17 0) fun v18 =>
    oB (cpI s14 v15 0 v16 0 v18 0) fun s19 =>
    oB (gR s19 (some x) 5 9) fun v20 =>
    oB (gR s19 (some x) 5 7) fun v21 =>
    oB (gR s19 (some x) 5 7) fun v22 =>
    oB (aN s19 v22 0) fun v23 =>
    oB (cpI s19 v20 0 v21 0 v23 0) fun s24 =>
    some (q13.1, s24)
  else
    oB (oR s11 (some x) 5) fun b25 =>
    oB (fX5_sl s11 b25 a0 3) fun q26 =>
    oB (oR s11 (some x) 5) fun b27 =>
    oB (fX5_letSlab s11 b27 a0 3 (jmax 0 (q26 - 15))) fun q28 =>
    oB (oR q28 (some x) 5) fun b29 =>
    oB (fX5_fillAll q28 b29) fun q30 =>
    oB (pV q30.2 (some x) 5 3 (DI v1)) fun s31 =>
    oB (gR s31 (some x) 5 8) fun v32 =>
    oB (gR s31 (some x) 5 6) fun v33 =>
    oB (gR s31 (some x) 5 6) fun v34 =>
    oB (aN s31 v34 0) fun v35 =>
    oB (cpI s31 v32 0 v33 0 v35 0) fun s36 =>
    oB (gR s36 (some x) 5 9) fun v37 =>
    oB (gR s36 (some x) 5 7) fun v38 =>
    oB (gR s36 (some x) 5 7) fun v39 =>
    oB (aN s36 v39 0) fun v40 =>
    oB (cpI s36 v37 0 v38 0 v40 0) fun s41 =>
    some (q30.1, s41)
noncomputable def fX5_advise_L15 (x : Nat) (z4 : DSt × Int32 × Int32 × Int32) : Option ((DSt × Int32 × Int32 × Int32) ⊕ (DSt × Int32 × Int32 × Int32)) :=
  oB (gI z4.1 (some x) 5 3) fun v5 =>
  if v5 ≤ z4.2.2.2 then
    some (.inr (z4.1, z4.2.1, z4.2.2.1, z4.2.2.2))
  else
    oB (oR z4.1 (some x) 5) fun b6 =>
    oB (fX5_filledBy z4.1 b6 z4.2.2.2) fun q7 =>
    if z4.2.2.1 < q7.1 then
      some (.inl (q7.2, z4.2.2.2, q7.1, (z4.2.2.2 + 1)))
    else
      some (.inl (q7.2, z4.2.1, z4.2.2.1, (z4.2.2.2 + 1)))
noncomputable def fX5_advise (st : DSt) (x : Nat) : Option (Int32 × DSt) :=
  oB (pV st (some x) 5 0 (DI 0)) fun s1 =>
  oB (oR s1 (some x) 5) fun b2 =>
  oB (fX5_filledBy s1 b2 (-1)) fun q3 =>
  oB (dlp (fX5_advise_L15 x) (q3.2, (-1), q3.1, 0)) fun b4 =>
  some (b4.2.1, b4.1)
noncomputable def fX5_mean_L9 (x : Nat) (s1 : DSt) (z2 : Int32 × Int32) : Option ((Int32 × Int32) ⊕ (Int32 × Int32)) :=
  oB (gI s1 (some x) 5 3) fun v3 =>
  if v3 ≤ z2.2 then
    some (.inr (z2.1, z2.2))
  else
    oB (oR s1 (some x) 5) fun b4 =>
    oB (fX5_sl s1 b4 z2.2 3) fun q5 =>
    some (.inl ((z2.1 + q5), (z2.2 + 1)))
noncomputable def fX5_mean (st : DSt) (x : Nat) : Option (UInt64 × DSt) :=
  oB (pV st (some x) 5 0 (DI 0)) fun s1 =>
  oB (dlp (fX5_mean_L9 x s1) (0, 0)) fun b2 =>
  oB (gI s1 (some x) 5 3) fun v7 =>
  if v7 = 0 then
    some (FP.dconst0, s1)
  else
    oB (gI s1 (some x) 5 3) fun v8 =>
    oB (oDD (FP.i2d b2.1) (FP.i2d v8)) fun v9 =>
    some (v9, s1)
noncomputable def fX5_digest_L11 (x : Nat) (s1 : DSt) (z2 : Int64 × Int32) : Option ((Int64 × Int32) ⊕ (Int64 × Int32)) :=
  if 8 ≤ z2.2 then
    some (.inr (z2.1, z2.2))
  else
    oB (oR s1 (some x) 5) fun b3 =>
    oB (fX5_counted s1 b3 z2.2) fun q4 =>
    some (.inl (((z2.1 * 31) + (q4).toInt64), (z2.2 + 1)))
noncomputable def fX5_digest_L49 (x : Nat) (z6 : DSt × Int64 × Int32) (z8 : DSt × Int64 × Int32) : Option ((DSt × Int64 × Int32) ⊕ (DSt × Int64 × Int32)) :=
  if 8 ≤ z8.2.2 then
    some (.inr (z8.1, z8.2.1, z8.2.2))
  else
    oB (oR z8.1 (some x) 5) fun b9 =>
    oB (fX5_bowlTold z8.1 b9 z6.2.2 z8.2.2) fun q10 =>
    some (.inl (q10.2, ((z8.2.1 * 31) + (q10.1).toInt64), (z8.2.2 + 1)))
noncomputable def fX5_digest_L38 (x : Nat) (z6 : DSt × Int64 × Int32) : Option ((DSt × Int64 × Int32) ⊕ (DSt × Int64 × Int32)) :=
  oB (gI z6.1 (some x) 5 2) fun v7 =>
  if v7 ≤ z6.2.2 then
    some (.inr (z6.1, z6.2.1, z6.2.2))
  else
    oB (dlp (fX5_digest_L49 x z6) (z6.1, z6.2.1, 0)) fun b8 =>
    some (.inl (b8.1, b8.2.1, (z6.2.2 + 1)))
noncomputable def fX5_digest_L96 (x : Nat) (b6 : DSt × Int64 × Int32) (z13 : Int64 × Int32) (z15 : Int64 × Int32) : Option ((Int64 × Int32) ⊕ (Int64 × Int32)) :=
  if 7 ≤ z15.2 then
    some (.inr (z15.1, z15.2))
  else
    oB (oR b6.1 (some x) 5) fun b16 =>
    oB (fX5_slabTold b6.1 b16 z13.2 z15.2) fun q17 =>
    some (.inl (((z15.1 * 31) + (q17).toInt64), (z15.2 + 1)))
noncomputable def fX5_digest_L85 (x : Nat) (b6 : DSt × Int64 × Int32) (z13 : Int64 × Int32) : Option ((Int64 × Int32) ⊕ (Int64 × Int32)) :=
  oB (gI b6.1 (some x) 5 3) fun v14 =>
  if v14 ≤ z13.2 then
    some (.inr (z13.1, z13.2))
  else
    oB (dlp (fX5_digest_L96 x b6 z13) (z13.1, 0)) fun b15 =>
    some (.inl (b15.1, (z13.2 + 1)))
noncomputable def fX5_digest_L143 (x : Nat) (b6 : DSt × Int64 × Int32) (z20 : Int64 × Int32) (z22 : Int64 × Int32) : Option ((Int64 × Int32) ⊕ (Int64 × Int32)) :=
  if 5 ≤ z22.2 then
    some (.inr (z22.1, z22.2))
  else
    oB (oR b6.1 (some x) 5) fun b23 =>
    oB (fX5_bx b6.1 b23 z20.2 z22.2) fun q24 =>
    some (.inl (((z22.1 * 31) + (q24).toInt64), (z22.2 + 1)))
noncomputable def fX5_digest_L132 (x : Nat) (b6 : DSt × Int64 × Int32) (z20 : Int64 × Int32) : Option ((Int64 × Int32) ⊕ (Int64 × Int32)) :=
  oB (gI b6.1 (some x) 5 4) fun v21 =>
  if v21 ≤ z20.2 then
    some (.inr (z20.1, z20.2))
  else
    oB (dlp (fX5_digest_L143 x b6 z20) (z20.1, 0)) fun b22 =>
    some (.inl (b22.1, (z20.2 + 1)))
noncomputable def fX5_digest (st : DSt) (x : Nat) : Option (Int64 × DSt) :=
  oB (pV st (some x) 5 0 (DI 0)) fun s1 =>
  oB (dlp (fX5_digest_L11 x s1) (1789, 0)) fun b2 =>
  oB (dlp (fX5_digest_L38 x) (s1, b2.1, 0)) fun b6 =>
  oB (dlp (fX5_digest_L85 x b6) (b6.2.1, 0)) fun b13 =>
  oB (dlp (fX5_digest_L132 x b6) (b13.1, 0)) fun b20 =>
  some (b20.1, b6.1)
end
section
theorem CF0 : dm_CF RX0 TX0 3 0 tyX0 := ⟨fun w hw => by
    obtain ⟨k, hk, rfl⟩ := List.mem_map.mp hw
    have hk := List.mem_range.mp hk
    rcases (show k = 0 ∨ k = 1 ∨ k = 2 by omega) with rfl | rfl | rfl
    · exact wd_2_83
    · exact wd_2_85
    · exact wd_2_87, tyX0_ok, nmX0, rfl⟩
theorem CF1 : dm_CF RX1 TX1 5 1 tyX1 := ⟨fun w hw => by
    obtain ⟨k, hk, rfl⟩ := List.mem_map.mp hw
    have hk := List.mem_range.mp hk
    rcases (show k = 0 ∨ k = 1 ∨ k = 2 ∨ k = 3 ∨ k = 4 by omega) with rfl | rfl | rfl | rfl | rfl
    · exact wd_3_21
    · exact wd_3_23
    · exact wd_3_25
    · exact wd_3_27
    · exact wd_3_29, tyX1_ok, nmX1, rfl⟩
theorem CF2 : dm_CF RX2 TX2 1 2 tyX2 := ⟨fun w hw => by
    obtain ⟨k, hk, rfl⟩ := List.mem_map.mp hw
    have hk := List.mem_range.mp hk
    rcases (show k = 0 by omega) with rfl
    · exact wd_1_38, tyX2_ok, nmX2, rfl⟩
theorem CF3 : dm_CF RX3 TX3 5 3 tyX3 := ⟨fun w hw => by
    obtain ⟨k, hk, rfl⟩ := List.mem_map.mp hw
    have hk := List.mem_range.mp hk
    rcases (show k = 0 ∨ k = 1 ∨ k = 2 ∨ k = 3 ∨ k = 4 by omega) with rfl | rfl | rfl | rfl | rfl
    · exact wd_2_182
    · exact wd_2_184
    · exact wd_2_186
    · exact wd_2_188
    · exact wd_2_190, tyX3_ok, nmX3, rfl⟩
theorem CF4 : dm_CF RX4 TX4 11 4 tyX4 := ⟨fun w hw => by
    obtain ⟨k, hk, rfl⟩ := List.mem_map.mp hw
    have hk := List.mem_range.mp hk
    rcases (show k = 0 ∨ k = 1 ∨ k = 2 ∨ k = 3 ∨ k = 4 ∨ k = 5 ∨ k = 6 ∨ k = 7 ∨ k = 8 ∨ k = 9 ∨ k = 10 by omega) with rfl | rfl | rfl | rfl | rfl | rfl | rfl | rfl | rfl | rfl | rfl
    · exact wd_1_53
    · exact wd_1_55
    · exact wd_1_57
    · exact wd_1_59
    · exact wd_1_61
    · exact wd_1_63
    · exact wd_1_65
    · exact wd_1_67
    · exact wd_1_69
    · exact wd_1_71
    · exact wd_1_73, tyX4_ok, nmX4, rfl⟩
theorem CF5 : dm_CF RX5 TX5 12 5 tyX5 := ⟨fun w hw => by
    obtain ⟨k, hk, rfl⟩ := List.mem_map.mp hw
    have hk := List.mem_range.mp hk
    rcases (show k = 0 ∨ k = 1 ∨ k = 2 ∨ k = 3 ∨ k = 4 ∨ k = 5 ∨ k = 6 ∨ k = 7 ∨ k = 8 ∨ k = 9 ∨ k = 10 ∨ k = 11 by omega) with rfl | rfl | rfl | rfl | rfl | rfl | rfl | rfl | rfl | rfl | rfl | rfl
    · exact wd_3_114
    · exact wd_3_116
    · exact wd_3_118
    · exact wd_3_120
    · exact wd_3_122
    · exact wd_3_124
    · exact wd_3_126
    · exact wd_3_128
    · exact wd_3_130
    · exact wd_3_132
    · exact wd_3_134
    · exact wd_3_136, tyX5_ok, nmX5, rfl⟩
theorem md_X2_init : dm_md yX2_init 0 := by unfold dm_md; decide +kernel
theorem md_X0_init : dm_md yX0_init 1 := by unfold dm_md; decide +kernel
theorem md_X0_mixed : dm_md yX0_mixed 3 := by unfold dm_md; decide +kernel
theorem md_X2_vanish : dm_md yX2_vanish 0 := by unfold dm_md; decide +kernel
theorem md_X0_takeIn : dm_md yX0_takeIn 1 := by unfold dm_md; decide +kernel
theorem md_X1_init : dm_md yX1_init 2 := by unfold dm_md; decide +kernel
theorem md_X3_squares : dm_md yX3_squares 0 := by unfold dm_md; decide +kernel
theorem md_X1_suits : dm_md yX1_suits 2 := by unfold dm_md; decide +kernel
theorem md_X1_take : dm_md yX1_take 1 := by unfold dm_md; decide +kernel
theorem md_X2_becomeLike : dm_md yX2_becomeLike 1 := by unfold dm_md; decide +kernel
theorem md_X2_meltingPoint : dm_md yX2_meltingPoint 1 := by unfold dm_md; decide +kernel
theorem md_X2_halveWhatMelts : dm_md yX2_halveWhatMelts 1 := by unfold dm_md; decide +kernel
theorem md_X2_growingSort : dm_md yX2_growingSort 1 := by unfold dm_md; decide +kernel
theorem md_X2_total : dm_md yX2_total 0 := by unfold dm_md; decide +kernel
theorem md_X2_increase : dm_md yX2_increase 2 := by unfold dm_md; decide +kernel
theorem md_X2_letGrow : dm_md yX2_letGrow 1 := by unfold dm_md; decide +kernel
theorem md_X2_keepAt : dm_md yX2_keepAt 2 := by unfold dm_md; decide +kernel
theorem md_X2_temper : dm_md yX2_temper 0 := by unfold dm_md; decide +kernel
theorem md_X3_init : dm_md yX3_init 3 := by unfold dm_md; decide +kernel
theorem md_X3_grams : dm_md yX3_grams 0 := by unfold dm_md; decide +kernel
theorem md_X3_isBloomed : dm_md yX3_isBloomed 0 := by unfold dm_md; decide +kernel
theorem md_X3_bloomBehindPolish : dm_md yX3_bloomBehindPolish 0 := by unfold dm_md; decide +kernel
theorem md_X3_bloomOfADay : dm_md yX3_bloomOfADay 1 := by unfold dm_md; decide +kernel
theorem md_X3_standFor : dm_md yX3_standFor 2 := by unfold dm_md; decide +kernel
theorem md_X3_partBehind : dm_md yX3_partBehind 2 := by unfold dm_md; decide +kernel
theorem md_X3_cutDownTo : dm_md yX3_cutDownTo 2 := by unfold dm_md; decide +kernel
theorem md_X4_init : dm_md yX4_init 0 := by unfold dm_md; decide +kernel
theorem md_X4_bowl : dm_md yX4_bowl 1 := by unfold dm_md; decide +kernel
theorem md_X4_bowlAt : dm_md yX4_bowlAt 1 := by unfold dm_md; decide +kernel
theorem md_X4_checkWarming : dm_md yX4_checkWarming 2 := by unfold dm_md; decide +kernel
theorem md_X4_warm : dm_md yX4_warm 3 := by unfold dm_md; decide +kernel
theorem md_X4_seed : dm_md yX4_seed 2 := by unfold dm_md; decide +kernel
theorem md_X4_pour : dm_md yX4_pour 2 := by unfold dm_md; decide +kernel
theorem md_X4_addSlab : dm_md yX4_addSlab 1 := by unfold dm_md; decide +kernel
theorem md_X4_cast : dm_md yX4_cast 3 := by unfold dm_md; decide +kernel
theorem md_X4_findSlab : dm_md yX4_findSlab 1 := by unfold dm_md; decide +kernel
theorem md_X4_slabAt : dm_md yX4_slabAt 1 := by unfold dm_md; decide +kernel
theorem md_X4_polish : dm_md yX4_polish 1 := by unfold dm_md; decide +kernel
theorem md_X4_split : dm_md yX4_split 3 := by unfold dm_md; decide +kernel
theorem md_X4_closeGaps : dm_md yX4_closeGaps 0 := by unfold dm_md; decide +kernel
theorem md_X4_melt : dm_md yX4_melt 2 := by unfold dm_md; decide +kernel
theorem md_X4_box : dm_md yX4_box 2 := by unfold dm_md; decide +kernel
theorem md_X4_planSlab : dm_md yX4_planSlab 2 := by unfold dm_md; decide +kernel
theorem md_X4_planFilling : dm_md yX4_planFilling 1 := by unfold dm_md; decide +kernel
theorem md_X4_moveIntoBox : dm_md yX4_moveIntoBox 2 := by unfold dm_md; decide +kernel
theorem md_X4_fill : dm_md yX4_fill 0 := by unfold dm_md; decide +kernel
theorem md_X4_checkRoom : dm_md yX4_checkRoom 1 := by unfold dm_md; decide +kernel
theorem md_X4_bloomedSlabs : dm_md yX4_bloomedSlabs 0 := by unfold dm_md; decide +kernel
theorem md_X4_pass : dm_md yX4_pass 2 := by unfold dm_md; decide +kernel
theorem md_X4_checkWhat : dm_md yX4_checkWhat 2 := by unfold dm_md; decide +kernel
theorem md_X4_told : dm_md yX4_told 2 := by unfold dm_md; decide +kernel
theorem md_X4_firstEmptyBoxFor : dm_md yX4_firstEmptyBoxFor 1 := by unfold dm_md; decide +kernel
theorem md_X4_about : dm_md yX4_about 2 := by unfold dm_md; decide +kernel
theorem md_X4_boxAt : dm_md yX4_boxAt 1 := by unfold dm_md; decide +kernel
theorem md_X4_order : dm_md yX4_order 2 := by unfold dm_md; decide +kernel
theorem md_X4_filledBoxes : dm_md yX4_filledBoxes 0 := by unfold dm_md; decide +kernel
theorem md_X4_gramsOfBowls : dm_md yX4_gramsOfBowls 0 := by unfold dm_md; decide +kernel
theorem md_X4_squaresOfSlabs : dm_md yX4_squaresOfSlabs 0 := by unfold dm_md; decide +kernel
theorem md_X4_count : dm_md yX4_count 1 := by unfold dm_md; decide +kernel
theorem md_X4_would : dm_md yX4_would 3 := by unfold dm_md; decide +kernel
theorem md_X4_best : dm_md yX4_best 3 := by unfold dm_md; decide +kernel
theorem md_X4_until : dm_md yX4_until 2 := by unfold dm_md; decide +kernel
theorem md_X4_advise : dm_md yX4_advise 0 := by unfold dm_md; decide +kernel
theorem md_X4_mean : dm_md yX4_mean 0 := by unfold dm_md; decide +kernel
theorem md_X4_digest : dm_md yX4_digest 0 := by unfold dm_md; decide +kernel
theorem md_X5_init : dm_md yX5_init 0 := by unfold dm_md; decide +kernel
theorem md_X5_thrown : dm_md yX5_thrown 0 := by unfold dm_md; decide +kernel
theorem md_X5_fail : dm_md yX5_fail 1 := by unfold dm_md; decide +kernel
theorem md_X5_isIn : dm_md yX5_isIn 3 := by unfold dm_md; decide +kernel
theorem md_X5_isBowl : dm_md yX5_isBowl 1 := by unfold dm_md; decide +kernel
theorem md_X5_isSlab : dm_md yX5_isSlab 1 := by unfold dm_md; decide +kernel
theorem md_X5_bo : dm_md yX5_bo 2 := by unfold dm_md; decide +kernel
theorem md_X5_letBowl : dm_md yX5_letBowl 3 := by unfold dm_md; decide +kernel
theorem md_X5_sl : dm_md yX5_sl 2 := by unfold dm_md; decide +kernel
theorem md_X5_letSlab : dm_md yX5_letSlab 3 := by unfold dm_md; decide +kernel
theorem md_X5_bx : dm_md yX5_bx 2 := by unfold dm_md; decide +kernel
theorem md_X5_meltsAt : dm_md yX5_meltsAt 1 := by unfold dm_md; decide +kernel
theorem md_X5_sum : dm_md yX5_sum 1 := by unfold dm_md; decide +kernel
theorem md_X5_turn : dm_md yX5_turn 2 := by unfold dm_md; decide +kernel
theorem md_X5_turns : dm_md yX5_turns 3 := by unfold dm_md; decide +kernel
theorem md_X5_temper : dm_md yX5_temper 1 := by unfold dm_md; decide +kernel
theorem md_X5_look : dm_md yX5_look 1 := by unfold dm_md; decide +kernel
theorem md_X5_temperOf : dm_md yX5_temperOf 1 := by unfold dm_md; decide +kernel
theorem md_X5_bowl : dm_md yX5_bowl 1 := by unfold dm_md; decide +kernel
theorem md_X5_isWarmth : dm_md yX5_isWarmth 2 := by unfold dm_md; decide +kernel
theorem md_X5_warm : dm_md yX5_warm 3 := by unfold dm_md; decide +kernel
theorem md_X5_seed : dm_md yX5_seed 2 := by unfold dm_md; decide +kernel
theorem md_X5_pour : dm_md yX5_pour 2 := by unfold dm_md; decide +kernel
theorem md_X5_put : dm_md yX5_put 6 := by unfold dm_md; decide +kernel
theorem md_X5_squares : dm_md yX5_squares 1 := by unfold dm_md; decide +kernel
theorem md_X5_away : dm_md yX5_away 1 := by unfold dm_md; decide +kernel
theorem md_X5_cast : dm_md yX5_cast 3 := by unfold dm_md; decide +kernel
theorem md_X5_polish : dm_md yX5_polish 1 := by unfold dm_md; decide +kernel
theorem md_X5_split : dm_md yX5_split 3 := by unfold dm_md; decide +kernel
theorem md_X5_melt : dm_md yX5_melt 2 := by unfold dm_md; decide +kernel
theorem md_X5_box : dm_md yX5_box 2 := by unfold dm_md; decide +kernel
theorem md_X5_fits : dm_md yX5_fits 2 := by unfold dm_md; decide +kernel
theorem md_X5_fillOne : dm_md yX5_fillOne 1 := by unfold dm_md; decide +kernel
theorem md_X5_fillAll : dm_md yX5_fillAll 0 := by unfold dm_md; decide +kernel
theorem md_X5_fill : dm_md yX5_fill 0 := by unfold dm_md; decide +kernel
theorem md_X5_more : dm_md yX5_more 2 := by unfold dm_md; decide +kernel
theorem md_X5_bloomed : dm_md yX5_bloomed 0 := by unfold dm_md; decide +kernel
theorem md_X5_pass : dm_md yX5_pass 2 := by unfold dm_md; decide +kernel
theorem md_X5_bowlTold : dm_md yX5_bowlTold 2 := by unfold dm_md; decide +kernel
theorem md_X5_told : dm_md yX5_told 2 := by unfold dm_md; decide +kernel
theorem md_X5_slabTold : dm_md yX5_slabTold 2 := by unfold dm_md; decide +kernel
theorem md_X5_about : dm_md yX5_about 2 := by unfold dm_md; decide +kernel
theorem md_X5_order : dm_md yX5_order 2 := by unfold dm_md; decide +kernel
theorem md_X5_counted : dm_md yX5_counted 1 := by unfold dm_md; decide +kernel
theorem md_X5_count : dm_md yX5_count 1 := by unfold dm_md; decide +kernel
theorem md_X5_would : dm_md yX5_would 3 := by unfold dm_md; decide +kernel
theorem md_X5_best : dm_md yX5_best 3 := by unfold dm_md; decide +kernel
theorem md_X5_until : dm_md yX5_until 2 := by unfold dm_md; decide +kernel
theorem md_X5_filledBy : dm_md yX5_filledBy 1 := by unfold dm_md; decide +kernel
theorem md_X5_advise : dm_md yX5_advise 0 := by unfold dm_md; decide +kernel
theorem md_X5_mean : dm_md yX5_mean 0 := by unfold dm_md; decide +kernel
theorem md_X5_digest : dm_md yX5_digest 0 := by unfold dm_md; decide +kernel
set_option maxRecDepth 100000 in
theorem ah_49 : ∀ w ∈ vx_atS RX4 49 "java/lang/IllegalArgumentException" ["java/lang/RuntimeException", "java/lang/Exception"], (w ∈ lw_tbl ∧ goodWord w = true) ∨ (∃ q ∈ dm_cas, w = .castable q.1 q.2) ∨ ∃ y ∈ dm_dcl, w = .declares y := by decide +kernel
set_option maxRecDepth 100000 in
theorem at_49 : ∀ w ∈ vx_atS RX4 49 "java/lang/IllegalArgumentException" ["java/lang/RuntimeException", "java/lang/Exception"], w ∈ WALL ∨ (∃ q ∈ dm_cas, w = .castable q.1 q.2) ∨ ∃ y ∈ dm_dcl, w = .declares y := fun w hw => (ah_49 w hw).imp (fun h => List.mem_filter.mpr h) id
set_option maxRecDepth 100000 in
theorem gd_49 : ∀ w ∈ Cond.classLink RX4 45 "java/lang/IllegalArgumentException" :: Cond.initialized "java/lang/IllegalArgumentException" :: vx_atS RX4 49 "java/lang/IllegalArgumentException" ["java/lang/RuntimeException", "java/lang/Exception"], vx_ot w = true := by decide +kernel
set_option maxRecDepth 100000 in
theorem ah_60 : ∀ w ∈ vx_atS RX4 60 "java/lang/IllegalStateException" ["java/lang/RuntimeException", "java/lang/Exception"], (w ∈ lw_tbl ∧ goodWord w = true) ∨ (∃ q ∈ dm_cas, w = .castable q.1 q.2) ∨ ∃ y ∈ dm_dcl, w = .declares y := by decide +kernel
set_option maxRecDepth 100000 in
theorem at_60 : ∀ w ∈ vx_atS RX4 60 "java/lang/IllegalStateException" ["java/lang/RuntimeException", "java/lang/Exception"], w ∈ WALL ∨ (∃ q ∈ dm_cas, w = .castable q.1 q.2) ∨ ∃ y ∈ dm_dcl, w = .declares y := fun w hw => (ah_60 w hw).imp (fun h => List.mem_filter.mpr h) id
set_option maxRecDepth 100000 in
theorem gd_60 : ∀ w ∈ Cond.classLink RX4 56 "java/lang/IllegalStateException" :: Cond.initialized "java/lang/IllegalStateException" :: vx_atS RX4 60 "java/lang/IllegalStateException" ["java/lang/RuntimeException", "java/lang/Exception"], vx_ot w = true := by decide +kernel
set_option maxRecDepth 100000 in
theorem ah_135 : ∀ w ∈ vx_atS RX4 135 "java/lang/IndexOutOfBoundsException" ["java/lang/RuntimeException", "java/lang/Exception"], (w ∈ lw_tbl ∧ goodWord w = true) ∨ (∃ q ∈ dm_cas, w = .castable q.1 q.2) ∨ ∃ y ∈ dm_dcl, w = .declares y := by decide +kernel
set_option maxRecDepth 100000 in
theorem at_135 : ∀ w ∈ vx_atS RX4 135 "java/lang/IndexOutOfBoundsException" ["java/lang/RuntimeException", "java/lang/Exception"], w ∈ WALL ∨ (∃ q ∈ dm_cas, w = .castable q.1 q.2) ∨ ∃ y ∈ dm_dcl, w = .declares y := fun w hw => (ah_135 w hw).imp (fun h => List.mem_filter.mpr h) id
set_option maxRecDepth 100000 in
theorem gd_135 : ∀ w ∈ Cond.classLink RX4 131 "java/lang/IndexOutOfBoundsException" :: Cond.initialized "java/lang/IndexOutOfBoundsException" :: vx_atS RX4 135 "java/lang/IndexOutOfBoundsException" ["java/lang/RuntimeException", "java/lang/Exception"], vx_ot w = true := by decide +kernel
end
