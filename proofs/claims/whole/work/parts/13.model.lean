abbrev rmK1_X5_init : Room := { frames := 1, cells := 7, slots := 187, locals := 12 }
set_option maxRecDepth 100000 in
set_option maxHeartbeats 4000000 in
theorem k1_X5_init {st : DSt} {x : Nat} {st1 : DSt} (hf : fX5_init st x = some st1) : dm_K1 yX5_init cX5_init 1 none rmK1_X5_init 7 187 [DR (some x)] st none st1 := by
  refine dm_k1 (by decide) rfl (Nat.le_of_ble_eq_true rfl) fun Y hC hN hI hE => ?_
  replace hI := hI rfl
  unfold fX5_init at hf
  refine dm_sub (lv' := [(0, DR (some x))]) ([0]) rfl ?_
  refine r_aload_n (pc := 0) hC dX5_init_0 rfl 0 rfl ?_
  refine r_objInit (pc := 1) (nL := 0) hC wd_3_101 wd_1_21 (wd_1_22) ⟨_, rfl⟩ dX5_init_1 ⟨Nat.le_of_ble_eq_true rfl, Nat.le_of_ble_eq_true rfl⟩ ?_
  refine r_aload_n (pc := 4) hC dX5_init_4 rfl 0 rfl ?_
  refine r_bipush (pc := 5) (v := 35) hC dX5_init_5 (by decide) ?_
  obtain ⟨s1, es1, hf⟩ := ob hf
  refine r_newa (pc := 7) (atype := .int) (t := .int) (kd := 0) (N := 35) (x := nI0 35) rfl (fun _ => rfl) (fun _ h => nomatch h) (fun _ => rfl) hC wd_1_41 (by decide) rfl (Nat.le_of_ble_eq_true rfl) ⟨Nat.le_of_ble_eq_true rfl, Nat.le_of_ble_eq_true rfl⟩ dX5_init_7 ?_
  rw [Option.some.inj es1]
  obtain ⟨s2, es2, hf⟩ := ob hf
  refine r_putF (pc := 9) CF5 (k := 5) hC hI rfl (by decide) wd_3_107 rfl (dm_fr (by exact Or.inr ⟨_, rfl⟩) _) dX5_init_9 es2 ?_
  refine r_aload_n (pc := 12) hC dX5_init_12 rfl 0 rfl ?_
  refine r_bipush (pc := 13) (v := 40) hC dX5_init_13 (by decide) ?_
  obtain ⟨s3, es3, hf⟩ := ob hf
  refine r_newa (pc := 15) (atype := .int) (t := .int) (kd := 0) (N := 40) (x := nI0 40) rfl (fun _ => rfl) (fun _ h => nomatch h) (fun _ => rfl) hC wd_1_41 (by decide) rfl (Nat.le_of_ble_eq_true rfl) ⟨Nat.le_of_ble_eq_true rfl, Nat.le_of_ble_eq_true rfl⟩ dX5_init_15 ?_
  rw [Option.some.inj es3]
  obtain ⟨s4, es4, hf⟩ := ob hf
  refine r_putF (pc := 17) CF5 (k := 6) hC hI rfl (by decide) wd_3_108 rfl (dm_fr (by exact Or.inr ⟨_, rfl⟩) _) dX5_init_17 es4 ?_
  refine r_aload_n (pc := 20) hC dX5_init_20 rfl 0 rfl ?_
  refine r_bipush (pc := 21) (v := 30) hC dX5_init_21 (by decide) ?_
  obtain ⟨s5, es5, hf⟩ := ob hf
  refine r_newa (pc := 23) (atype := .int) (t := .int) (kd := 0) (N := 30) (x := nI0 30) rfl (fun _ => rfl) (fun _ h => nomatch h) (fun _ => rfl) hC wd_1_41 (by decide) rfl (Nat.le_of_ble_eq_true rfl) ⟨Nat.le_of_ble_eq_true rfl, Nat.le_of_ble_eq_true rfl⟩ dX5_init_23 ?_
  rw [Option.some.inj es5]
  obtain ⟨s6, es6, hf⟩ := ob hf
  refine r_putF (pc := 25) CF5 (k := 7) hC hI rfl (by decide) wd_3_109 rfl (dm_fr (by exact Or.inr ⟨_, rfl⟩) _) dX5_init_25 es6 ?_
  refine r_aload_n (pc := 28) hC dX5_init_28 rfl 0 rfl ?_
  refine r_bipush (pc := 29) (v := 40) hC dX5_init_29 (by decide) ?_
  obtain ⟨s7, es7, hf⟩ := ob hf
  refine r_newa (pc := 31) (atype := .int) (t := .int) (kd := 0) (N := 40) (x := nI0 40) rfl (fun _ => rfl) (fun _ h => nomatch h) (fun _ => rfl) hC wd_1_41 (by decide) rfl (Nat.le_of_ble_eq_true rfl) ⟨Nat.le_of_ble_eq_true rfl, Nat.le_of_ble_eq_true rfl⟩ dX5_init_31 ?_
  rw [Option.some.inj es7]
  obtain ⟨s8, es8, hf⟩ := ob hf
  refine r_putF (pc := 33) CF5 (k := 8) hC hI rfl (by decide) wd_3_110 rfl (dm_fr (by exact Or.inr ⟨_, rfl⟩) _) dX5_init_33 es8 ?_
  refine r_aload_n (pc := 36) hC dX5_init_36 rfl 0 rfl ?_
  refine r_bipush (pc := 37) (v := 30) hC dX5_init_37 (by decide) ?_
  obtain ⟨s9, es9, hf⟩ := ob hf
  refine r_newa (pc := 39) (atype := .int) (t := .int) (kd := 0) (N := 30) (x := nI0 30) rfl (fun _ => rfl) (fun _ h => nomatch h) (fun _ => rfl) hC wd_1_41 (by decide) rfl (Nat.le_of_ble_eq_true rfl) ⟨Nat.le_of_ble_eq_true rfl, Nat.le_of_ble_eq_true rfl⟩ dX5_init_39 ?_
  rw [Option.some.inj es9]
  obtain ⟨s10, es10, hf⟩ := ob hf
  refine r_putF (pc := 41) CF5 (k := 9) hC hI rfl (by decide) wd_3_111 rfl (dm_fr (by exact Or.inr ⟨_, rfl⟩) _) dX5_init_41 es10 ?_
  refine r_aload_n (pc := 44) hC dX5_init_44 rfl 0 rfl ?_
  refine r_bipush (pc := 45) (v := 6) hC dX5_init_45 (by decide) ?_
  obtain ⟨s11, es11, hf⟩ := ob hf
  refine r_newa (pc := 47) (atype := .int) (t := .int) (kd := 0) (N := 6) (x := nI0 6) rfl (fun _ => rfl) (fun _ h => nomatch h) (fun _ => rfl) hC wd_1_41 (by decide) rfl (Nat.le_of_ble_eq_true rfl) ⟨Nat.le_of_ble_eq_true rfl, Nat.le_of_ble_eq_true rfl⟩ dX5_init_47 ?_
  rw [Option.some.inj es11]
  obtain ⟨s12, es12, hf⟩ := ob hf
  refine r_putF (pc := 49) CF5 (k := 10) hC hI rfl (by decide) wd_3_112 rfl (dm_fr (by exact Or.inr ⟨_, rfl⟩) _) dX5_init_49 es12 ?_
  refine r_aload_n (pc := 52) hC dX5_init_52 rfl 0 rfl ?_
  refine r_bipush (pc := 53) (v := 6) hC dX5_init_53 (by decide) ?_
  obtain ⟨s13, es13, hf⟩ := ob hf
  refine r_newa (pc := 55) (atype := .int) (t := .int) (kd := 0) (N := 6) (x := nI0 6) rfl (fun _ => rfl) (fun _ h => nomatch h) (fun _ => rfl) hC wd_1_41 (by decide) rfl (Nat.le_of_ble_eq_true rfl) ⟨Nat.le_of_ble_eq_true rfl, Nat.le_of_ble_eq_true rfl⟩ dX5_init_55 ?_
  rw [Option.some.inj es13]
  obtain ⟨s14, es14, hf⟩ := ob hf
  refine r_putF (pc := 57) CF5 (k := 11) hC hI rfl (by decide) wd_3_113 rfl (dm_fr (by exact Or.inr ⟨_, rfl⟩) _) dX5_init_57 es14 ?_
  exact r_vret (pc := 60) hE hC (f1xV hf) ⟨Nat.le_of_ble_eq_true rfl, Nat.le_of_ble_eq_true rfl⟩ dX5_init_60
abbrev rmK1_X5_thrown : Room := { frames := 0, cells := 0, slots := 0, locals := 0 }
set_option maxRecDepth 100000 in
set_option maxHeartbeats 4000000 in
theorem k1_X5_thrown {st : DSt} {x : Nat} {v : Int32} (hf : fX5_thrown st x = some v) : dm_K1 yX5_thrown cX5_thrown 1 (some .int) rmK1_X5_thrown 0 0 [DR (some x)] st (some (DI v)) st := by
  refine dm_k1 (by decide) rfl (Nat.le_of_ble_eq_true rfl) fun Y hC hN hI hE => ?_
  unfold fX5_thrown at hf
  refine dm_sub (lv' := [(0, DR (some x))]) ([0]) rfl ?_
  refine r_aload_n (pc := 0) hC dX5_thrown_0 rfl 0 rfl ?_
  obtain ⟨v1, ev1, hf⟩ := ob hf
  refine r_getI (pc := 1) CF5 (k := 0) hC (by decide) wd_3_102 dX5_thrown_1 ev1 ?_
  exact r_iret (pc := 4) hE hC (f1pI hf) ⟨Nat.le_of_ble_eq_true rfl, Nat.le_of_ble_eq_true rfl⟩ dX5_thrown_4
abbrev rmK1_X5_fail : Room := { frames := 0, cells := 0, slots := 0, locals := 0 }
set_option maxRecDepth 100000 in
set_option maxHeartbeats 4000000 in
theorem k1_X5_fail {st : DSt} {x : Nat} {a0 : Int32} {v : Int32} {st1 : DSt} (hf : fX5_fail st x a0 = some (v, st1)) : dm_K1 yX5_fail cX5_fail 2 (some .int) rmK1_X5_fail 0 0 [DR (some x), DI a0] st (some (DI v)) st1 := by
  refine dm_k1 (by decide) rfl (Nat.le_of_ble_eq_true rfl) fun Y hC hN hI hE => ?_
  unfold fX5_fail at hf
  refine dm_sub (lv' := [(0, DR (some x)), (1, DI a0)]) ([0, 1]) rfl ?_
  refine r_aload_n (pc := 0) hC dX5_fail_0 rfl 0 rfl ?_
  refine r_iload_n (pc := 1) hC dX5_fail_1 rfl 1 rfl ?_
  obtain ⟨s1, es1, hf⟩ := ob hf
  refine r_put (pc := 2) CF5 (k := 0) hC (by decide) wd_3_102 rfl ⟨rfl, rfl⟩ dX5_fail_2 es1 ?_
  refine r_iconst (pc := 5) (v := 0) hC dX5_fail_5 (by decide) ?_
  exact r_iret (pc := 6) hE hC (f1xI hf) ⟨Nat.le_of_ble_eq_true rfl, Nat.le_of_ble_eq_true rfl⟩ dX5_fail_6
abbrev rmK1_X5_isIn : Room := { frames := 0, cells := 0, slots := 0, locals := 0 }
set_option maxRecDepth 100000 in
set_option maxHeartbeats 4000000 in
theorem k1_X5_isIn {st : DSt} {a0 : Int32} {a1 : Int32} {a2 : Int32} {v : Int32} (hf : fX5_isIn st a0 a1 a2 = some v) : dm_K1 yX5_isIn cX5_isIn 3 (some .boolean) rmK1_X5_isIn 0 0 [DI a0, DI a1, DI a2] st (some (DI v)) st := by
  refine dm_k1 (by decide) rfl (Nat.le_of_ble_eq_true rfl) fun Y hC hN hI hE => ?_
  unfold fX5_isIn at hf
  refine dm_sub (lv' := [(0, DI a0), (1, DI a1), (2, DI a2)]) ([0, 1, 2]) rfl ?_
  refine r_iload_n (pc := 0) hC dX5_isIn_0 rfl 0 rfl ?_
  refine r_iload_n (pc := 1) hC dX5_isIn_1 rfl 1 rfl ?_
  refine r_icmp_lt (pc := 2) (tgt := 14) hC dX5_isIn_2 (by decide) (fun c5 => ?_) (fun c5 => ?_)
  · replace hf := oi_t c5 hf
    refine r_iconst (pc := 14) (v := 0) hC dX5_isIn_14 (by decide) ?_
    obtain ⟨v1, ev1, hf⟩ := ob hf
    exact r_zret (pc := 15) hE hC ev1 (f1pI hf) ⟨Nat.le_of_ble_eq_true rfl, Nat.le_of_ble_eq_true rfl⟩ dX5_isIn_15
  · replace hf := oi_f c5 hf
    refine r_iload_n (pc := 5) hC dX5_isIn_5 rfl 0 rfl ?_
    refine r_iload_n (pc := 6) hC dX5_isIn_6 rfl 2 rfl ?_
    refine r_icmp_gt (pc := 7) (tgt := 14) hC dX5_isIn_7 (by decide) (fun c4 => ?_) (fun c4 => ?_)
    · replace hf := oi_t c4 hf
      refine r_iconst (pc := 14) (v := 0) hC dX5_isIn_14 (by decide) ?_
      obtain ⟨v2, ev2, hf⟩ := ob hf
      exact r_zret (pc := 15) hE hC ev2 (f1pI hf) ⟨Nat.le_of_ble_eq_true rfl, Nat.le_of_ble_eq_true rfl⟩ dX5_isIn_15
    · replace hf := oi_f c4 hf
      refine r_iconst (pc := 10) (v := 1) hC dX5_isIn_10 (by decide) ?_
      refine r_goto (pc := 11) (tgt := 15) hC dX5_isIn_11 (by decide) ?_
      obtain ⟨v3, ev3, hf⟩ := ob hf
      exact r_zret (pc := 15) hE hC ev3 (f1pI hf) ⟨Nat.le_of_ble_eq_true rfl, Nat.le_of_ble_eq_true rfl⟩ dX5_isIn_15
abbrev rmK1_X5_isBowl : Room := { frames := 1, cells := 0, slots := 0, locals := 22 }
set_option maxRecDepth 100000 in
set_option maxHeartbeats 4000000 in
theorem k1_X5_isBowl {st : DSt} {x : Nat} {a0 : Int32} {v : Int32} (hf : fX5_isBowl st x a0 = some v) : dm_K1 yX5_isBowl cX5_isBowl 2 (some .boolean) rmK1_X5_isBowl 0 0 [DR (some x), DI a0] st (some (DI v)) st := by
  refine dm_k1 (by decide) rfl (Nat.le_of_ble_eq_true rfl) fun Y hC hN hI hE => ?_
  unfold fX5_isBowl at hf
  refine dm_sub (lv' := [(0, DR (some x)), (1, DI a0)]) ([0, 1]) rfl ?_
  refine r_iload_n (pc := 0) hC dX5_isBowl_0 rfl 1 rfl ?_
  refine r_iconst (pc := 1) (v := 0) hC dX5_isBowl_1 (by decide) ?_
  refine r_aload_n (pc := 2) hC dX5_isBowl_2 rfl 0 rfl ?_
  obtain ⟨v1, ev1, hf⟩ := ob hf
  refine r_getI (pc := 3) CF5 (k := 2) hC (by decide) wd_3_104 dX5_isBowl_3 ev1 ?_
  refine r_iconst (pc := 6) (v := 1) hC dX5_isBowl_6 (by decide) ?_
  refine r_isub (pc := 7) hC dX5_isBowl_7 ?_
  obtain ⟨q2, eq2, hf⟩ := ob hf
  refine r_callS (pc := 8) (As := [DI a0, DI 0, DI (v1 - 1)]) (rest := []) (stk' := [DI q2]) (k1_X5_isIn eq2) hC wd_3_147 wd_3_148 wd_3_149 wd_1_3 md_X5_isIn rfl ⟨rfl, rfl, Nat.le_of_ble_eq_true rfl, Nat.le_of_ble_eq_true rfl, Nat.le_of_ble_eq_true rfl, Nat.le_of_ble_eq_true rfl⟩ dX5_isBowl_8 rfl (Nat.le_of_ble_eq_true rfl) rfl ?_
  obtain ⟨v3, ev3, hf⟩ := ob hf
  exact r_zret (pc := 11) hE hC ev3 (f1pI hf) ⟨Nat.le_of_ble_eq_true rfl, Nat.le_of_ble_eq_true rfl⟩ dX5_isBowl_11
abbrev rmK1_X5_isSlab : Room := { frames := 1, cells := 0, slots := 0, locals := 22 }
set_option maxRecDepth 100000 in
set_option maxHeartbeats 4000000 in
theorem k1_X5_isSlab {st : DSt} {x : Nat} {a0 : Int32} {v : Int32} (hf : fX5_isSlab st x a0 = some v) : dm_K1 yX5_isSlab cX5_isSlab 2 (some .boolean) rmK1_X5_isSlab 0 0 [DR (some x), DI a0] st (some (DI v)) st := by
  refine dm_k1 (by decide) rfl (Nat.le_of_ble_eq_true rfl) fun Y hC hN hI hE => ?_
  unfold fX5_isSlab at hf
  refine dm_sub (lv' := [(0, DR (some x)), (1, DI a0)]) ([0, 1]) rfl ?_
  refine r_iload_n (pc := 0) hC dX5_isSlab_0 rfl 1 rfl ?_
  refine r_iconst (pc := 1) (v := 0) hC dX5_isSlab_1 (by decide) ?_
  refine r_aload_n (pc := 2) hC dX5_isSlab_2 rfl 0 rfl ?_
  obtain ⟨v1, ev1, hf⟩ := ob hf
  refine r_getI (pc := 3) CF5 (k := 3) hC (by decide) wd_3_105 dX5_isSlab_3 ev1 ?_
  refine r_iconst (pc := 6) (v := 1) hC dX5_isSlab_6 (by decide) ?_
  refine r_isub (pc := 7) hC dX5_isSlab_7 ?_
  obtain ⟨q2, eq2, hf⟩ := ob hf
  refine r_callS (pc := 8) (As := [DI a0, DI 0, DI (v1 - 1)]) (rest := []) (stk' := [DI q2]) (k1_X5_isIn eq2) hC wd_3_147 wd_3_148 wd_3_149 wd_1_3 md_X5_isIn rfl ⟨rfl, rfl, Nat.le_of_ble_eq_true rfl, Nat.le_of_ble_eq_true rfl, Nat.le_of_ble_eq_true rfl, Nat.le_of_ble_eq_true rfl⟩ dX5_isSlab_8 rfl (Nat.le_of_ble_eq_true rfl) rfl ?_
  obtain ⟨v3, ev3, hf⟩ := ob hf
  exact r_zret (pc := 11) hE hC ev3 (f1pI hf) ⟨Nat.le_of_ble_eq_true rfl, Nat.le_of_ble_eq_true rfl⟩ dX5_isSlab_11
abbrev rmK1_X5_bo : Room := { frames := 0, cells := 0, slots := 0, locals := 0 }
set_option maxRecDepth 100000 in
set_option maxHeartbeats 4000000 in
theorem k1_X5_bo {st : DSt} {x : Nat} {a0 : Int32} {a1 : Int32} {v : Int32} (hf : fX5_bo st x a0 a1 = some v) : dm_K1 yX5_bo cX5_bo 3 (some .int) rmK1_X5_bo 0 0 [DR (some x), DI a0, DI a1] st (some (DI v)) st := by
  refine dm_k1 (by decide) rfl (Nat.le_of_ble_eq_true rfl) fun Y hC hN hI hE => ?_
  unfold fX5_bo at hf
  refine dm_sub (lv' := [(0, DR (some x)), (1, DI a0), (2, DI a1)]) ([0, 1, 2]) rfl ?_
  refine r_aload_n (pc := 0) hC dX5_bo_0 rfl 0 rfl ?_
  obtain ⟨v1, ev1, hf⟩ := ob hf
  refine r_getR (pc := 1) CF5 (k := 5) hC (by decide) wd_3_107 dX5_bo_1 ev1 ?_
  refine r_bipush (pc := 4) (v := 7) hC dX5_bo_4 (by decide) ?_
  refine r_iload_n (pc := 6) hC dX5_bo_6 rfl 1 rfl ?_
  refine r_imul (pc := 7) hC dX5_bo_7 ?_
  refine r_iload_n (pc := 8) hC dX5_bo_8 rfl 2 rfl ?_
  refine r_iadd (pc := 9) hC dX5_bo_9 ?_
  obtain ⟨v2, ev2, hf⟩ := ob hf
  refine r_iaload (pc := 10) hC dX5_bo_10 ev2 ?_
  exact r_iret (pc := 11) hE hC (f1pI hf) ⟨Nat.le_of_ble_eq_true rfl, Nat.le_of_ble_eq_true rfl⟩ dX5_bo_11
abbrev rmK1_X5_letBowl : Room := { frames := 0, cells := 0, slots := 0, locals := 0 }
set_option maxRecDepth 100000 in
set_option maxHeartbeats 4000000 in
theorem k1_X5_letBowl {st : DSt} {x : Nat} {a0 : Int32} {a1 : Int32} {a2 : Int32} {st1 : DSt} (hf : fX5_letBowl st x a0 a1 a2 = some st1) : dm_K1 yX5_letBowl cX5_letBowl 4 none rmK1_X5_letBowl 0 0 [DR (some x), DI a0, DI a1, DI a2] st none st1 := by
  refine dm_k1 (by decide) rfl (Nat.le_of_ble_eq_true rfl) fun Y hC hN hI hE => ?_
  unfold fX5_letBowl at hf
  refine dm_sub (lv' := [(0, DR (some x)), (1, DI a0), (2, DI a1), (3, DI a2)]) ([0, 1, 2, 3]) rfl ?_
  refine r_aload_n (pc := 0) hC dX5_letBowl_0 rfl 0 rfl ?_
  obtain ⟨v1, ev1, hf⟩ := ob hf
  refine r_getR (pc := 1) CF5 (k := 5) hC (by decide) wd_3_107 dX5_letBowl_1 ev1 ?_
  refine r_bipush (pc := 4) (v := 7) hC dX5_letBowl_4 (by decide) ?_
  refine r_iload_n (pc := 6) hC dX5_letBowl_6 rfl 1 rfl ?_
  refine r_imul (pc := 7) hC dX5_letBowl_7 ?_
  refine r_iload_n (pc := 8) hC dX5_letBowl_8 rfl 2 rfl ?_
  refine r_iadd (pc := 9) hC dX5_letBowl_9 ?_
  refine r_iload_n (pc := 10) hC dX5_letBowl_10 rfl 3 rfl ?_
  obtain ⟨s2, es2, hf⟩ := ob hf
  refine r_iastore (pc := 11) hC dX5_letBowl_11 es2 ?_
  exact r_vret (pc := 12) hE hC (f1xV hf) ⟨Nat.le_of_ble_eq_true rfl, Nat.le_of_ble_eq_true rfl⟩ dX5_letBowl_12
abbrev rmK1_X5_sl : Room := { frames := 0, cells := 0, slots := 0, locals := 0 }
set_option maxRecDepth 100000 in
set_option maxHeartbeats 4000000 in
theorem k1_X5_sl {st : DSt} {x : Nat} {a0 : Int32} {a1 : Int32} {v : Int32} (hf : fX5_sl st x a0 a1 = some v) : dm_K1 yX5_sl cX5_sl 3 (some .int) rmK1_X5_sl 0 0 [DR (some x), DI a0, DI a1] st (some (DI v)) st := by
  refine dm_k1 (by decide) rfl (Nat.le_of_ble_eq_true rfl) fun Y hC hN hI hE => ?_
  unfold fX5_sl at hf
  refine dm_sub (lv' := [(0, DR (some x)), (1, DI a0), (2, DI a1)]) ([0, 1, 2]) rfl ?_
  refine r_aload_n (pc := 0) hC dX5_sl_0 rfl 0 rfl ?_
  obtain ⟨v1, ev1, hf⟩ := ob hf
  refine r_getR (pc := 1) CF5 (k := 6) hC (by decide) wd_3_108 dX5_sl_1 ev1 ?_
  refine r_iconst (pc := 4) (v := 5) hC dX5_sl_4 (by decide) ?_
  refine r_iload_n (pc := 5) hC dX5_sl_5 rfl 1 rfl ?_
  refine r_imul (pc := 6) hC dX5_sl_6 ?_
  refine r_iload_n (pc := 7) hC dX5_sl_7 rfl 2 rfl ?_
  refine r_iadd (pc := 8) hC dX5_sl_8 ?_
  obtain ⟨v2, ev2, hf⟩ := ob hf
  refine r_iaload (pc := 9) hC dX5_sl_9 ev2 ?_
  exact r_iret (pc := 10) hE hC (f1pI hf) ⟨Nat.le_of_ble_eq_true rfl, Nat.le_of_ble_eq_true rfl⟩ dX5_sl_10
abbrev rmK1_X5_letSlab : Room := { frames := 0, cells := 0, slots := 0, locals := 0 }
set_option maxRecDepth 100000 in
set_option maxHeartbeats 4000000 in
theorem k1_X5_letSlab {st : DSt} {x : Nat} {a0 : Int32} {a1 : Int32} {a2 : Int32} {st1 : DSt} (hf : fX5_letSlab st x a0 a1 a2 = some st1) : dm_K1 yX5_letSlab cX5_letSlab 4 none rmK1_X5_letSlab 0 0 [DR (some x), DI a0, DI a1, DI a2] st none st1 := by
  refine dm_k1 (by decide) rfl (Nat.le_of_ble_eq_true rfl) fun Y hC hN hI hE => ?_
  unfold fX5_letSlab at hf
  refine dm_sub (lv' := [(0, DR (some x)), (1, DI a0), (2, DI a1), (3, DI a2)]) ([0, 1, 2, 3]) rfl ?_
  refine r_aload_n (pc := 0) hC dX5_letSlab_0 rfl 0 rfl ?_
  obtain ⟨v1, ev1, hf⟩ := ob hf
  refine r_getR (pc := 1) CF5 (k := 6) hC (by decide) wd_3_108 dX5_letSlab_1 ev1 ?_
  refine r_iconst (pc := 4) (v := 5) hC dX5_letSlab_4 (by decide) ?_
  refine r_iload_n (pc := 5) hC dX5_letSlab_5 rfl 1 rfl ?_
  refine r_imul (pc := 6) hC dX5_letSlab_6 ?_
  refine r_iload_n (pc := 7) hC dX5_letSlab_7 rfl 2 rfl ?_
  refine r_iadd (pc := 8) hC dX5_letSlab_8 ?_
  refine r_iload_n (pc := 9) hC dX5_letSlab_9 rfl 3 rfl ?_
  obtain ⟨s2, es2, hf⟩ := ob hf
  refine r_iastore (pc := 10) hC dX5_letSlab_10 es2 ?_
  exact r_vret (pc := 11) hE hC (f1xV hf) ⟨Nat.le_of_ble_eq_true rfl, Nat.le_of_ble_eq_true rfl⟩ dX5_letSlab_11
abbrev rmK1_X5_bx : Room := { frames := 0, cells := 0, slots := 0, locals := 0 }
set_option maxRecDepth 100000 in
set_option maxHeartbeats 4000000 in
theorem k1_X5_bx {st : DSt} {x : Nat} {a0 : Int32} {a1 : Int32} {v : Int32} (hf : fX5_bx st x a0 a1 = some v) : dm_K1 yX5_bx cX5_bx 3 (some .int) rmK1_X5_bx 0 0 [DR (some x), DI a0, DI a1] st (some (DI v)) st := by
  refine dm_k1 (by decide) rfl (Nat.le_of_ble_eq_true rfl) fun Y hC hN hI hE => ?_
  unfold fX5_bx at hf
  refine dm_sub (lv' := [(0, DR (some x)), (1, DI a0), (2, DI a1)]) ([0, 1, 2]) rfl ?_
  refine r_aload_n (pc := 0) hC dX5_bx_0 rfl 0 rfl ?_
  obtain ⟨v1, ev1, hf⟩ := ob hf
  refine r_getR (pc := 1) CF5 (k := 7) hC (by decide) wd_3_109 dX5_bx_1 ev1 ?_
  refine r_iconst (pc := 4) (v := 5) hC dX5_bx_4 (by decide) ?_
  refine r_iload_n (pc := 5) hC dX5_bx_5 rfl 1 rfl ?_
  refine r_imul (pc := 6) hC dX5_bx_6 ?_
  refine r_iload_n (pc := 7) hC dX5_bx_7 rfl 2 rfl ?_
  refine r_iadd (pc := 8) hC dX5_bx_8 ?_
  obtain ⟨v2, ev2, hf⟩ := ob hf
  refine r_iaload (pc := 9) hC dX5_bx_9 ev2 ?_
  exact r_iret (pc := 10) hE hC (f1pI hf) ⟨Nat.le_of_ble_eq_true rfl, Nat.le_of_ble_eq_true rfl⟩ dX5_bx_10
abbrev rmK1_X5_meltsAt : Room := { frames := 0, cells := 0, slots := 0, locals := 0 }
set_option maxRecDepth 100000 in
set_option maxHeartbeats 4000000 in
theorem k1_X5_meltsAt {st : DSt} {a0 : Int32} {v : Int32} (hf : fX5_meltsAt st a0 = some v) : dm_K1 yX5_meltsAt cX5_meltsAt 1 (some .int) rmK1_X5_meltsAt 0 0 [DI a0] st (some (DI v)) st := by
  refine dm_k1 (by decide) rfl (Nat.le_of_ble_eq_true rfl) fun Y hC hN hI hE => ?_
  unfold fX5_meltsAt at hf
  refine dm_sub (lv' := [(0, DI a0)]) ([0]) rfl ?_
  refine r_bipush (pc := 0) (v := 15) hC dX5_meltsAt_0 (by decide) ?_
  refine r_iconst (pc := 2) (v := 4) hC dX5_meltsAt_2 (by decide) ?_
  refine r_iload_n (pc := 3) hC dX5_meltsAt_3 rfl 0 rfl ?_
  refine r_imul (pc := 4) hC dX5_meltsAt_4 ?_
  refine r_iadd (pc := 5) hC dX5_meltsAt_5 ?_
  exact r_iret (pc := 6) hE hC (f1pI hf) ⟨Nat.le_of_ble_eq_true rfl, Nat.le_of_ble_eq_true rfl⟩ dX5_meltsAt_6
abbrev rmK1_X5_sum : Room := { frames := 0, cells := 0, slots := 0, locals := 0 }
set_option maxRecDepth 100000 in
set_option maxHeartbeats 4000000 in
theorem k1_X5_sum {st : DSt} {a0 : Option Nat} {v : Int32} (hf : fX5_sum st a0 = some v) : dm_K1 yX5_sum cX5_sum 3 (some .int) rmK1_X5_sum 0 0 [DR a0] st (some (DI v)) st := by
  refine dm_k1 (by decide) rfl (Nat.le_of_ble_eq_true rfl) fun Y hC hN hI hE => ?_
  unfold fX5_sum at hf
  refine dm_sub (lv' := [(0, DR a0)]) ([0]) rfl ?_
  refine r_iconst (pc := 0) (v := 0) hC dX5_sum_0 (by decide) ?_
  refine r_istore_n (pc := 1) (lv' := [(1, DI 0), (0, DR a0)]) hC hN dX5_sum_1 rfl (by decide) rfl ?_
  refine r_iconst (pc := 2) (v := 1) hC dX5_sum_2 (by decide) ?_
  refine r_istore_n (pc := 3) (lv' := [(2, DI 1), (1, DI 0), (0, DR a0)]) hC hN dX5_sum_3 rfl (by decide) rfl ?_
  obtain ⟨b1, eb1, hf⟩ := ob hf
  refine dm_sub (lv' := [(0, DR a0), (1, DI 0), (2, DI 1)]) [2, 1, 0] rfl ?_
  refine dlp_W _ (fun (z1 : Int32 × Int32) => dm_W Y 0 0 st 4 [(0, DR a0), (1, DI z1.1), (2, DI z1.2)] []) (fun (b1 : Int32 × Int32) => dm_W Y 0 0 st 21 [(0, DR a0), (1, DI b1.1), (2, DI b1.2)] []) ?_ eb1 ?_
  · intro z1 r hf hk
    unfold fX5_sum_L4 at hf
    refine r_iload_n (pc := 4) hC dX5_sum_4 rfl 2 rfl ?_
    refine r_iconst (pc := 5) (v := 5) hC dX5_sum_5 (by decide) ?_
    refine r_icmp_gt (pc := 6) (tgt := 21) hC dX5_sum_6 (by decide) (fun c3 => ?_) (fun c3 => ?_)
    · replace hf := oi_t c3 hf
      cases hf
      exact dm_sub [0, 1, 2] rfl hk
    · replace hf := oi_f c3 hf
      refine r_iload_n (pc := 9) hC dX5_sum_9 rfl 1 rfl ?_
      refine r_aload_n (pc := 10) hC dX5_sum_10 rfl 0 rfl ?_
      refine r_iload_n (pc := 11) hC dX5_sum_11 rfl 2 rfl ?_
      obtain ⟨v2, ev2, hf⟩ := ob hf
      refine r_iaload (pc := 12) hC dX5_sum_12 ev2 ?_
      refine r_iadd (pc := 13) hC dX5_sum_13 ?_
      refine r_istore_n (pc := 14) (lv' := [(1, DI (z1.1 + v2)), (0, DR a0), (2, DI z1.2)]) hC hN dX5_sum_14 rfl (by decide) rfl ?_
      refine r_iinc (pc := 15) (pos := 2) (v := (z1.2 + 1)) (lv' := [(2, DI (z1.2 + 1)), (1, DI (z1.1 + v2)), (0, DR a0)]) hC hN dX5_sum_15 rfl rfl (by decide) rfl ?_
      refine r_goto (pc := 18) (tgt := 4) hC dX5_sum_18 (by decide) ?_
      cases hf
      exact dm_sub [2, 1, 0] rfl hk
  · refine r_iload_n (pc := 21) hC dX5_sum_21 rfl 1 rfl ?_
    exact r_iret (pc := 22) hE hC (f1pI hf) ⟨Nat.le_of_ble_eq_true rfl, Nat.le_of_ble_eq_true rfl⟩ dX5_sum_22
abbrev rmK1_X5_turn : Room := { frames := 1, cells := 0, slots := 0, locals := 22 }
set_option maxRecDepth 100000 in
set_option maxHeartbeats 4000000 in
theorem k1_X5_turn {st : DSt} {a0 : Option Nat} {a1 : Int32} {st1 : DSt} (hf : fX5_turn st a0 a1 = some st1) : dm_K1 yX5_turn cX5_turn 3 none rmK1_X5_turn 0 0 [DR a0, DI a1] st none st1 := by
  refine dm_k1 (by decide) rfl (Nat.le_of_ble_eq_true rfl) fun Y hC hN hI hE => ?_
  unfold fX5_turn at hf
  refine dm_sub (lv' := [(0, DR a0), (1, DI a1)]) ([0, 1]) rfl ?_
  refine r_iconst (pc := 0) (v := 1) hC dX5_turn_0 (by decide) ?_
  refine r_istore_n (pc := 1) (lv' := [(2, DI 1), (0, DR a0), (1, DI a1)]) hC hN dX5_turn_1 rfl (by decide) rfl ?_
  obtain ⟨b1, eb1, hf⟩ := ob hf
  refine dm_sub (lv' := [(0, DR a0), (1, DI a1), (2, DI 1)]) [1, 2, 0] rfl ?_
  refine dlp_W _ (fun (z1 : DSt × Int32) => dm_W Y 0 0 z1.1 2 [(0, DR a0), (1, DI a1), (2, DI z1.2)] []) (fun (b1 : DSt × Int32) => dm_W Y 0 0 b1.1 28 [(0, DR a0), (1, DI a1), (2, DI b1.2)] []) ?_ eb1 ?_
  · intro z1 r hf hk
    unfold fX5_turn_L2 at hf
    refine r_iload_n (pc := 2) hC dX5_turn_2 rfl 2 rfl ?_
    refine r_iconst (pc := 3) (v := 5) hC dX5_turn_3 (by decide) ?_
    refine r_icmp_gt (pc := 4) (tgt := 28) hC dX5_turn_4 (by decide) (fun c7 => ?_) (fun c7 => ?_)
    · replace hf := oi_t c7 hf
      cases hf
      exact dm_sub [0, 1, 2] rfl hk
    · replace hf := oi_f c7 hf
      refine r_iload_n (pc := 7) hC dX5_turn_7 rfl 1 rfl ?_
      refine r_iload_n (pc := 8) hC dX5_turn_8 rfl 2 rfl ?_
      obtain ⟨q2, eq2, hf⟩ := ob hf
      refine r_callS (pc := 9) (As := [DI z1.2]) (rest := [DI a1]) (stk' := [DI q2, DI a1]) (k1_X5_meltsAt eq2) hC wd_3_184 wd_3_185 wd_3_186 wd_1_3 md_X5_meltsAt rfl ⟨rfl, rfl, Nat.le_of_ble_eq_true rfl, Nat.le_of_ble_eq_true rfl, Nat.le_of_ble_eq_true rfl, Nat.le_of_ble_eq_true rfl⟩ dX5_turn_9 rfl (Nat.le_of_ble_eq_true rfl) rfl ?_
      refine r_icmp_lt (pc := 12) (tgt := 22) hC dX5_turn_12 (by decide) (fun c6 => ?_) (fun c6 => ?_)
      · replace hf := oi_t c6 hf
        refine r_iinc (pc := 22) (pos := 2) (v := (z1.2 + 1)) (lv' := [(2, DI (z1.2 + 1)), (0, DR a0), (1, DI a1)]) hC hN dX5_turn_22 rfl rfl (by decide) rfl ?_
        refine r_goto (pc := 25) (tgt := 2) hC dX5_turn_25 (by decide) ?_
        cases hf
        exact dm_sub [1, 2, 0] rfl hk
      · replace hf := oi_f c6 hf
        refine r_aload_n (pc := 15) hC dX5_turn_15 rfl 0 rfl ?_
        refine r_iload_n (pc := 16) hC dX5_turn_16 rfl 2 rfl ?_
        refine r_dup2 (pc := 17) hC dX5_turn_17 rfl rfl ?_
        obtain ⟨v3, ev3, hf⟩ := ob hf
        refine r_iaload (pc := 18) hC dX5_turn_18 ev3 ?_
        refine r_iconst (pc := 19) (v := 2) hC dX5_turn_19 (by decide) ?_
        obtain ⟨v4, ev4, hf⟩ := ob hf
        refine r_idiv (pc := 20) hC dX5_turn_20 ev4 ?_
        obtain ⟨s5, es5, hf⟩ := ob hf
        refine r_iastore (pc := 21) hC dX5_turn_21 es5 ?_
        refine r_iinc (pc := 22) (pos := 2) (v := (z1.2 + 1)) (lv' := [(2, DI (z1.2 + 1)), (0, DR a0), (1, DI a1)]) hC hN dX5_turn_22 rfl rfl (by decide) rfl ?_
        refine r_goto (pc := 25) (tgt := 2) hC dX5_turn_25 (by decide) ?_
        cases hf
        exact dm_sub [1, 2, 0] rfl hk
  · refine r_iload_n (pc := 28) hC dX5_turn_28 rfl 1 rfl ?_
    refine r_bipush (pc := 29) (v := 34) hC dX5_turn_29 (by decide) ?_
    refine r_icmp_lt (pc := 31) (tgt := 35) hC dX5_turn_31 (by decide) (fun c17 => ?_) (fun c17 => ?_)
    · replace hf := oi_t c17 hf
      refine r_iconst (pc := 35) (v := 1) hC dX5_turn_35 (by decide) ?_
      refine r_istore_n (pc := 36) (lv' := [(2, DI 1), (0, DR a0), (1, DI a1)]) hC hN dX5_turn_36 rfl (by decide) rfl ?_
      obtain ⟨b8, eb8, hf⟩ := ob hf
      refine dm_sub (lv' := [(0, DR a0), (1, DI a1), (2, DI 1)]) [1, 2, 0] rfl ?_
      refine dlp_W _ (fun (z8 : Int32) => dm_W Y 0 0 b1.1 37 [(0, DR a0), (1, DI a1), (2, DI z8)] []) (fun (b8 : Int32) => dm_W Y 0 0 b1.1 58 [(0, DR a0), (1, DI a1), (2, DI b8)] []) ?_ eb8 ?_
      · intro z8 r hf hk
        unfold fX5_turn_L37 at hf
        refine r_iload_n (pc := 37) hC dX5_turn_37 rfl 2 rfl ?_
        refine r_iconst (pc := 38) (v := 5) hC dX5_turn_38 (by decide) ?_
        refine r_icmp_ge (pc := 39) (tgt := 58) hC dX5_turn_39 (by decide) (fun c11 => ?_) (fun c11 => ?_)
        · replace hf := oi_t c11 hf
          cases hf
          exact dm_sub [0, 1, 2] rfl hk
        · replace hf := oi_f c11 hf
          refine r_iload_n (pc := 42) hC dX5_turn_42 rfl 2 rfl ?_
          obtain ⟨q9, eq9, hf⟩ := ob hf
          refine r_callS (pc := 43) (As := [DI z8]) (rest := []) (stk' := [DI q9]) (k1_X5_meltsAt eq9) hC wd_3_184 wd_3_185 wd_3_186 wd_1_3 md_X5_meltsAt rfl ⟨rfl, rfl, Nat.le_of_ble_eq_true rfl, Nat.le_of_ble_eq_true rfl, Nat.le_of_ble_eq_true rfl, Nat.le_of_ble_eq_true rfl⟩ dX5_turn_43 rfl (Nat.le_of_ble_eq_true rfl) rfl ?_
          refine r_iload_n (pc := 46) hC dX5_turn_46 rfl 1 rfl ?_
          refine r_iconst (pc := 47) (v := 3) hC dX5_turn_47 (by decide) ?_
          refine r_iadd (pc := 48) hC dX5_turn_48 ?_
          refine r_icmp_gt (pc := 49) (tgt := 58) hC dX5_turn_49 (by decide) (fun c10 => ?_) (fun c10 => ?_)
          · replace hf := oi_t c10 hf
            cases hf
            exact dm_sub [0, 1, 2] rfl hk
          · replace hf := oi_f c10 hf
            refine r_iinc (pc := 52) (pos := 2) (v := (z8 + 1)) (lv' := [(2, DI (z8 + 1)), (0, DR a0), (1, DI a1)]) hC hN dX5_turn_52 rfl rfl (by decide) rfl ?_
            refine r_goto (pc := 55) (tgt := 37) hC dX5_turn_55 (by decide) ?_
            cases hf
            exact dm_sub [1, 2, 0] rfl hk
      · refine r_aload_n (pc := 58) hC dX5_turn_58 rfl 0 rfl ?_
        refine r_iload_n (pc := 59) hC dX5_turn_59 rfl 2 rfl ?_
        refine r_dup2 (pc := 60) hC dX5_turn_60 rfl rfl ?_
        obtain ⟨v12, ev12, hf⟩ := ob hf
        refine r_iaload (pc := 61) hC dX5_turn_61 ev12 ?_
        refine r_bipush (pc := 62) (v := 100) hC dX5_turn_62 (by decide) ?_
        refine r_aload_n (pc := 64) hC dX5_turn_64 rfl 0 rfl ?_
        obtain ⟨q13, eq13, hf⟩ := ob hf
        refine r_callS (pc := 65) (As := [DR a0]) (rest := [DI 100, DI v12, DI b8, DR a0]) (stk' := [DI q13, DI 100, DI v12, DI b8, DR a0]) (k1_X5_sum eq13) hC wd_3_187 wd_3_188 wd_3_189 wd_1_3 md_X5_sum rfl ⟨rfl, rfl, Nat.le_of_ble_eq_true rfl, Nat.le_of_ble_eq_true rfl, Nat.le_of_ble_eq_true rfl, Nat.le_of_ble_eq_true rfl⟩ dX5_turn_65 rfl (Nat.le_of_ble_eq_true rfl) rfl ?_
        refine r_isub (pc := 68) hC dX5_turn_68 ?_
        refine r_bipush (pc := 69) (v := 8) hC dX5_turn_69 (by decide) ?_
        refine r_aload_n (pc := 71) hC dX5_turn_71 rfl 0 rfl ?_
        refine r_iload_n (pc := 72) hC dX5_turn_72 rfl 2 rfl ?_
        obtain ⟨v14, ev14, hf⟩ := ob hf
        refine r_iaload (pc := 73) hC dX5_turn_73 ev14 ?_
        refine r_iconst (pc := 74) (v := 4) hC dX5_turn_74 (by decide) ?_
        obtain ⟨v15, ev15, hf⟩ := ob hf
        refine r_idiv (pc := 75) hC dX5_turn_75 ev15 ?_
        refine r_iadd (pc := 76) hC dX5_turn_76 ?_
        refine r_min (pc := 77) hC wd_3_190 wd_2_4 wd_1_11 (wd_2_5) dX5_turn_77 ⟨Nat.le_of_ble_eq_true rfl, Nat.le_of_ble_eq_true rfl, Nat.le_of_ble_eq_true rfl, Nat.le_of_ble_eq_true rfl⟩ ?_
        refine r_iadd (pc := 80) hC dX5_turn_80 ?_
        obtain ⟨s16, es16, hf⟩ := ob hf
        refine r_iastore (pc := 81) hC dX5_turn_81 es16 ?_
        exact r_vret (pc := 82) hE hC (f1xV hf) ⟨Nat.le_of_ble_eq_true rfl, Nat.le_of_ble_eq_true rfl⟩ dX5_turn_82
    · replace hf := oi_f c17 hf
      exact r_vret (pc := 34) hE hC (f1xV hf) ⟨Nat.le_of_ble_eq_true rfl, Nat.le_of_ble_eq_true rfl⟩ dX5_turn_34
abbrev rmK1_X5_turns : Room := { frames := 2, cells := 0, slots := 0, locals := 44 }
set_option maxRecDepth 100000 in
set_option maxHeartbeats 4000000 in
theorem k1_X5_turns {st : DSt} {a0 : Option Nat} {a1 : Int32} {a2 : Int32} {st1 : DSt} (hf : fX5_turns st a0 a1 a2 = some st1) : dm_K1 yX5_turns cX5_turns 4 none rmK1_X5_turns 0 0 [DR a0, DI a1, DI a2] st none st1 := by
  refine dm_k1 (by decide) rfl (Nat.le_of_ble_eq_true rfl) fun Y hC hN hI hE => ?_
  unfold fX5_turns at hf
  refine dm_sub (lv' := [(0, DR a0), (1, DI a1), (2, DI a2)]) ([0, 1, 2]) rfl ?_
  refine r_iconst (pc := 0) (v := 0) hC dX5_turns_0 (by decide) ?_
  refine r_istore_n (pc := 1) (lv' := [(3, DI 0), (0, DR a0), (1, DI a1), (2, DI a2)]) hC hN dX5_turns_1 rfl (by decide) rfl ?_
  obtain ⟨b1, eb1, hf⟩ := ob hf
  refine dm_sub (lv' := [(0, DR a0), (1, DI a1), (2, DI a2), (3, DI 0)]) [1, 2, 3, 0] rfl ?_
  refine dlp_W _ (fun (z1 : DSt × Int32) => dm_W Y 0 0 z1.1 2 [(0, DR a0), (1, DI a1), (2, DI a2), (3, DI z1.2)] []) (fun (b1 : DSt × Int32) => dm_W Y 0 0 b1.1 18 [(0, DR a0), (1, DI a1), (2, DI a2), (3, DI b1.2)] []) ?_ eb1 ?_
  · intro z1 r hf hk
    unfold fX5_turns_L2 at hf
    refine r_iload_n (pc := 2) hC dX5_turns_2 rfl 3 rfl ?_
    refine r_iload_n (pc := 3) hC dX5_turns_3 rfl 2 rfl ?_
    refine r_icmp_ge (pc := 4) (tgt := 18) hC dX5_turns_4 (by decide) (fun c3 => ?_) (fun c3 => ?_)
    · replace hf := oi_t c3 hf
      cases hf
      exact dm_sub [0, 1, 2, 3] rfl hk
    · replace hf := oi_f c3 hf
      refine r_aload_n (pc := 7) hC dX5_turns_7 rfl 0 rfl ?_
      refine r_iload_n (pc := 8) hC dX5_turns_8 rfl 1 rfl ?_
      obtain ⟨q2, eq2, hf⟩ := ob hf
      refine r_callS (pc := 9) (As := [DR a0, DI a1]) (rest := []) (stk' := []) (k1_X5_turn eq2) hC wd_3_181 wd_3_182 wd_3_183 wd_1_3 md_X5_turn rfl ⟨rfl, rfl, Nat.le_of_ble_eq_true rfl, Nat.le_of_ble_eq_true rfl, Nat.le_of_ble_eq_true rfl, Nat.le_of_ble_eq_true rfl⟩ dX5_turns_9 rfl (Nat.le_of_ble_eq_true rfl) rfl ?_
      refine r_iinc (pc := 12) (pos := 3) (v := (z1.2 + 1)) (lv' := [(3, DI (z1.2 + 1)), (0, DR a0), (1, DI a1), (2, DI a2)]) hC hN dX5_turns_12 rfl rfl (by decide) rfl ?_
      refine r_goto (pc := 15) (tgt := 2) hC dX5_turns_15 (by decide) ?_
      cases hf
      exact dm_sub [1, 2, 3, 0] rfl hk
  · exact r_vret (pc := 18) hE hC (f1xV hf) ⟨Nat.le_of_ble_eq_true rfl, Nat.le_of_ble_eq_true rfl⟩ dX5_turns_18
abbrev rmK1_X5_temper : Room := { frames := 1, cells := 0, slots := 0, locals := 14 }
set_option maxRecDepth 100000 in
set_option maxHeartbeats 4000000 in
theorem k1_X5_temper {st : DSt} {a0 : Option Nat} {v : Int32} (hf : fX5_temper st a0 = some v) : dm_K1 yX5_temper cX5_temper 1 (some .int) rmK1_X5_temper 0 0 [DR a0] st (some (DI v)) st := by
  refine dm_k1 (by decide) rfl (Nat.le_of_ble_eq_true rfl) fun Y hC hN hI hE => ?_
  unfold fX5_temper at hf
  refine dm_sub (lv' := [(0, DR a0)]) ([0]) rfl ?_
  refine r_iconst (pc := 0) (v := 0) hC dX5_temper_0 (by decide) ?_
  refine r_bipush (pc := 1) (v := 100) hC dX5_temper_1 (by decide) ?_
  refine r_iconst (pc := 3) (v := 2) hC dX5_temper_3 (by decide) ?_
  refine r_aload_n (pc := 4) hC dX5_temper_4 rfl 0 rfl ?_
  refine r_iconst (pc := 5) (v := 5) hC dX5_temper_5 (by decide) ?_
  obtain ⟨v1, ev1, hf⟩ := ob hf
  refine r_iaload (pc := 6) hC dX5_temper_6 ev1 ?_
  refine r_imul (pc := 7) hC dX5_temper_7 ?_
  refine r_aload_n (pc := 8) hC dX5_temper_8 rfl 0 rfl ?_
  refine r_iconst (pc := 9) (v := 4) hC dX5_temper_9 (by decide) ?_
  obtain ⟨v2, ev2, hf⟩ := ob hf
  refine r_iaload (pc := 10) hC dX5_temper_10 ev2 ?_
  refine r_iadd (pc := 11) hC dX5_temper_11 ?_
  refine r_aload_n (pc := 12) hC dX5_temper_12 rfl 0 rfl ?_
  refine r_iconst (pc := 13) (v := 1) hC dX5_temper_13 (by decide) ?_
  obtain ⟨v3, ev3, hf⟩ := ob hf
  refine r_iaload (pc := 14) hC dX5_temper_14 ev3 ?_
  refine r_isub (pc := 15) hC dX5_temper_15 ?_
  refine r_aload_n (pc := 16) hC dX5_temper_16 rfl 0 rfl ?_
  refine r_iconst (pc := 17) (v := 2) hC dX5_temper_17 (by decide) ?_
  obtain ⟨v4, ev4, hf⟩ := ob hf
  refine r_iaload (pc := 18) hC dX5_temper_18 ev4 ?_
  refine r_isub (pc := 19) hC dX5_temper_19 ?_
  refine r_aload_n (pc := 20) hC dX5_temper_20 rfl 0 rfl ?_
  refine r_iconst (pc := 21) (v := 3) hC dX5_temper_21 (by decide) ?_
  obtain ⟨v5, ev5, hf⟩ := ob hf
  refine r_iaload (pc := 22) hC dX5_temper_22 ev5 ?_
  refine r_isub (pc := 23) hC dX5_temper_23 ?_
  refine r_min (pc := 24) hC wd_3_190 wd_2_4 wd_1_11 (wd_2_5) dX5_temper_24 ⟨Nat.le_of_ble_eq_true rfl, Nat.le_of_ble_eq_true rfl, Nat.le_of_ble_eq_true rfl, Nat.le_of_ble_eq_true rfl⟩ ?_
  refine r_max (pc := 27) hC wd_3_194 wd_1_94 wd_1_11 (wd_1_95) dX5_temper_27 ⟨Nat.le_of_ble_eq_true rfl, Nat.le_of_ble_eq_true rfl, Nat.le_of_ble_eq_true rfl, Nat.le_of_ble_eq_true rfl⟩ ?_
  exact r_iret (pc := 30) hE hC (f1pI hf) ⟨Nat.le_of_ble_eq_true rfl, Nat.le_of_ble_eq_true rfl⟩ dX5_temper_30
abbrev rmK1_X5_look : Room := { frames := 1, cells := 0, slots := 0, locals := 22 }
set_option maxRecDepth 100000 in
set_option maxHeartbeats 4000000 in
theorem k1_X5_look {st : DSt} {x : Nat} {a0 : Int32} {st1 : DSt} (hf : fX5_look st x a0 = some st1) : dm_K1 yX5_look cX5_look 3 none rmK1_X5_look 0 0 [DR (some x), DI a0] st none st1 := by
  refine dm_k1 (by decide) rfl (Nat.le_of_ble_eq_true rfl) fun Y hC hN hI hE => ?_
  unfold fX5_look at hf
  refine dm_sub (lv' := [(0, DR (some x)), (1, DI a0)]) ([0, 1]) rfl ?_
  refine r_iconst (pc := 0) (v := 1) hC dX5_look_0 (by decide) ?_
  refine r_istore_n (pc := 1) (lv' := [(2, DI 1), (0, DR (some x)), (1, DI a0)]) hC hN dX5_look_1 rfl (by decide) rfl ?_
  obtain ⟨b1, eb1, hf⟩ := ob hf
  refine dm_sub (lv' := [(0, DR (some x)), (1, DI a0), (2, DI 1)]) [1, 2, 0] rfl ?_
  refine dlp_W _ (fun (z1 : DSt × Int32) => dm_W Y 0 0 z1.1 2 [(0, DR (some x)), (1, DI a0), (2, DI z1.2)] []) (fun (b1 : DSt × Int32) => dm_W Y 0 0 b1.1 25 [(0, DR (some x)), (1, DI a0), (2, DI b1.2)] []) ?_ eb1 ?_
  · intro z1 r hf hk
    unfold fX5_look_L2 at hf
    refine r_iload_n (pc := 2) hC dX5_look_2 rfl 2 rfl ?_
    refine r_iconst (pc := 3) (v := 5) hC dX5_look_3 (by decide) ?_
    refine r_icmp_gt (pc := 4) (tgt := 25) hC dX5_look_4 (by decide) (fun c6 => ?_) (fun c6 => ?_)
    · replace hf := oi_t c6 hf
      cases hf
      exact dm_sub [0, 1, 2] rfl hk
    · replace hf := oi_f c6 hf
      refine r_aload_n (pc := 7) hC dX5_look_7 rfl 0 rfl ?_
      obtain ⟨v2, ev2, hf⟩ := ob hf
      refine r_getR (pc := 8) CF5 (k := 10) hC (by decide) wd_3_112 dX5_look_8 ev2 ?_
      refine r_iload_n (pc := 11) hC dX5_look_11 rfl 2 rfl ?_
      refine r_aload_n (pc := 12) hC dX5_look_12 rfl 0 rfl ?_
      refine r_iload_n (pc := 13) hC dX5_look_13 rfl 1 rfl ?_
      refine r_iload_n (pc := 14) hC dX5_look_14 rfl 2 rfl ?_
      obtain ⟨b3, gb3, hf⟩ := ob hf
      obtain ⟨q4, eq4, hf⟩ := ob hf
      refine r_callV (pc := 15) (As := [DI a0, DI z1.2]) (rest := [DI z1.2, DR v2]) (stk' := [DI q4, DI z1.2, DR v2]) (k1_X5_bo eq4) gb3 rfl hC wd_3_174 wd_3_176 wd_s_20 wd_3_177 wd_1_3 md_X5_bo rfl ⟨rfl, rfl, Nat.le_of_ble_eq_true rfl, Nat.le_of_ble_eq_true rfl, Nat.le_of_ble_eq_true rfl, Nat.le_of_ble_eq_true rfl⟩ dX5_look_15 rfl (Nat.le_of_ble_eq_true rfl) rfl ?_
      obtain ⟨s5, es5, hf⟩ := ob hf
      refine r_iastore (pc := 18) hC dX5_look_18 es5 ?_
      refine r_iinc (pc := 19) (pos := 2) (v := (z1.2 + 1)) (lv' := [(2, DI (z1.2 + 1)), (0, DR (some x)), (1, DI a0)]) hC hN dX5_look_19 rfl rfl (by decide) rfl ?_
      refine r_goto (pc := 22) (tgt := 2) hC dX5_look_22 (by decide) ?_
      cases hf
      exact dm_sub [1, 2, 0] rfl hk
  · exact r_vret (pc := 25) hE hC (f1xV hf) ⟨Nat.le_of_ble_eq_true rfl, Nat.le_of_ble_eq_true rfl⟩ dX5_look_25
abbrev rmK1_X5_temperOf : Room := { frames := 2, cells := 0, slots := 0, locals := 44 }
set_option maxRecDepth 100000 in
set_option maxHeartbeats 4000000 in
theorem k1_X5_temperOf {st : DSt} {x : Nat} {a0 : Int32} {v : Int32} {st1 : DSt} (hf : fX5_temperOf st x a0 = some (v, st1)) : dm_K1 yX5_temperOf cX5_temperOf 2 (some .int) rmK1_X5_temperOf 0 0 [DR (some x), DI a0] st (some (DI v)) st1 := by
  refine dm_k1 (by decide) rfl (Nat.le_of_ble_eq_true rfl) fun Y hC hN hI hE => ?_
  unfold fX5_temperOf at hf
  refine dm_sub (lv' := [(0, DR (some x)), (1, DI a0)]) ([0, 1]) rfl ?_
  refine r_aload_n (pc := 0) hC dX5_temperOf_0 rfl 0 rfl ?_
  refine r_iload_n (pc := 1) hC dX5_temperOf_1 rfl 1 rfl ?_
  obtain ⟨b1, gb1, hf⟩ := ob hf
  obtain ⟨q2, eq2, hf⟩ := ob hf
  refine r_callV (pc := 2) (As := [DI a0]) (rest := []) (stk' := []) (k1_X5_look eq2) gb1 rfl hC wd_3_170 wd_3_172 wd_s_19 wd_3_173 wd_1_3 md_X5_look rfl ⟨rfl, rfl, Nat.le_of_ble_eq_true rfl, Nat.le_of_ble_eq_true rfl, Nat.le_of_ble_eq_true rfl, Nat.le_of_ble_eq_true rfl⟩ dX5_temperOf_2 rfl (Nat.le_of_ble_eq_true rfl) rfl ?_
  refine r_aload_n (pc := 5) hC dX5_temperOf_5 rfl 0 rfl ?_
  obtain ⟨v3, ev3, hf⟩ := ob hf
  refine r_getR (pc := 6) CF5 (k := 10) hC (by decide) wd_3_112 dX5_temperOf_6 ev3 ?_
  obtain ⟨q4, eq4, hf⟩ := ob hf
  refine r_callS (pc := 9) (As := [DR v3]) (rest := []) (stk' := [DI q4]) (k1_X5_temper eq4) hC wd_3_191 wd_3_192 wd_3_193 wd_1_3 md_X5_temper rfl ⟨rfl, rfl, Nat.le_of_ble_eq_true rfl, Nat.le_of_ble_eq_true rfl, Nat.le_of_ble_eq_true rfl, Nat.le_of_ble_eq_true rfl⟩ dX5_temperOf_9 rfl (Nat.le_of_ble_eq_true rfl) rfl ?_
  exact r_iret (pc := 12) hE hC (f1xI hf) ⟨Nat.le_of_ble_eq_true rfl, Nat.le_of_ble_eq_true rfl⟩ dX5_temperOf_12
abbrev rmK1_X5_bowl : Room := { frames := 1, cells := 0, slots := 0, locals := 23 }
set_option maxRecDepth 100000 in
set_option maxHeartbeats 4000000 in
theorem k1_X5_bowl {st : DSt} {x : Nat} {a0 : Int32} {v : Int32} {st1 : DSt} (hf : fX5_bowl st x a0 = some (v, st1)) : dm_K1 yX5_bowl cX5_bowl 2 (some .int) rmK1_X5_bowl 0 0 [DR (some x), DI a0] st (some (DI v)) st1 := by
  refine dm_k1 (by decide) rfl (Nat.le_of_ble_eq_true rfl) fun Y hC hN hI hE => ?_
  unfold fX5_bowl at hf
  refine dm_sub (lv' := [(0, DR (some x)), (1, DI a0)]) ([0, 1]) rfl ?_
  refine r_aload_n (pc := 0) hC dX5_bowl_0 rfl 0 rfl ?_
  refine r_iconst (pc := 1) (v := 0) hC dX5_bowl_1 (by decide) ?_
  obtain ⟨s1, es1, hf⟩ := ob hf
  refine r_put (pc := 2) CF5 (k := 0) hC (by decide) wd_3_102 rfl ⟨rfl, rfl⟩ dX5_bowl_2 es1 ?_
  refine r_iload_n (pc := 5) hC dX5_bowl_5 rfl 1 rfl ?_
  refine r_iconst (pc := 6) (v := 0) hC dX5_bowl_6 (by decide) ?_
  refine r_sipush (pc := 7) (v := 2000) hC dX5_bowl_7 (by decide) ?_
  obtain ⟨q2, eq2, hf⟩ := ob hf
  refine r_callS (pc := 10) (As := [DI a0, DI 0, DI 2000]) (rest := []) (stk' := [DI q2]) (k1_X5_isIn eq2) hC wd_3_147 wd_3_148 wd_3_149 wd_1_3 md_X5_isIn rfl ⟨rfl, rfl, Nat.le_of_ble_eq_true rfl, Nat.le_of_ble_eq_true rfl, Nat.le_of_ble_eq_true rfl, Nat.le_of_ble_eq_true rfl⟩ dX5_bowl_10 rfl (Nat.le_of_ble_eq_true rfl) rfl ?_
  refine r_if_ne (pc := 13) (tgt := 22) hC dX5_bowl_13 (by decide) (fun c18 => ?_) (fun c18 => ?_)
  · replace hf := oi_f c18 hf
    refine r_aload_n (pc := 22) hC dX5_bowl_22 rfl 0 rfl ?_
    obtain ⟨v3, ev3, hf⟩ := ob hf
    refine r_getI (pc := 23) CF5 (k := 2) hC (by decide) wd_3_104 dX5_bowl_23 ev3 ?_
    refine r_iconst (pc := 26) (v := 5) hC dX5_bowl_26 (by decide) ?_
    refine r_icmp_ne (pc := 27) (tgt := 36) hC dX5_bowl_27 (by decide) (fun c15 => ?_) (fun c15 => ?_)
    · replace hf := oi_f c15 hf
      refine r_aload_n (pc := 36) hC dX5_bowl_36 rfl 0 rfl ?_
      refine r_aload_n (pc := 37) hC dX5_bowl_37 rfl 0 rfl ?_
      obtain ⟨v4, ev4, hf⟩ := ob hf
      refine r_getI (pc := 38) CF5 (k := 2) hC (by decide) wd_3_104 dX5_bowl_38 ev4 ?_
      refine r_iconst (pc := 41) (v := 0) hC dX5_bowl_41 (by decide) ?_
      refine r_iload_n (pc := 42) hC dX5_bowl_42 rfl 1 rfl ?_
      obtain ⟨b5, gb5, hf⟩ := ob hf
      obtain ⟨q6, eq6, hf⟩ := ob hf
      refine r_callV (pc := 43) (As := [DI v4, DI 0, DI a0]) (rest := []) (stk' := []) (k1_X5_letBowl eq6) gb5 rfl hC wd_3_154 wd_3_156 wd_s_16 wd_3_157 wd_1_3 md_X5_letBowl rfl ⟨rfl, rfl, Nat.le_of_ble_eq_true rfl, Nat.le_of_ble_eq_true rfl, Nat.le_of_ble_eq_true rfl, Nat.le_of_ble_eq_true rfl⟩ dX5_bowl_43 rfl (Nat.le_of_ble_eq_true rfl) rfl ?_
      refine r_aload_n (pc := 46) hC dX5_bowl_46 rfl 0 rfl ?_
      refine r_aload_n (pc := 47) hC dX5_bowl_47 rfl 0 rfl ?_
      obtain ⟨v7, ev7, hf⟩ := ob hf
      refine r_getI (pc := 48) CF5 (k := 2) hC (by decide) wd_3_104 dX5_bowl_48 ev7 ?_
      refine r_bipush (pc := 51) (v := 6) hC dX5_bowl_51 (by decide) ?_
      refine r_bipush (pc := 53) (v := 20) hC dX5_bowl_53 (by decide) ?_
      obtain ⟨b8, gb8, hf⟩ := ob hf
      obtain ⟨q9, eq9, hf⟩ := ob hf
      refine r_callV (pc := 55) (As := [DI v7, DI 6, DI 20]) (rest := []) (stk' := []) (k1_X5_letBowl eq9) gb8 rfl hC wd_3_154 wd_3_156 wd_s_16 wd_3_157 wd_1_3 md_X5_letBowl rfl ⟨rfl, rfl, Nat.le_of_ble_eq_true rfl, Nat.le_of_ble_eq_true rfl, Nat.le_of_ble_eq_true rfl, Nat.le_of_ble_eq_true rfl⟩ dX5_bowl_55 rfl (Nat.le_of_ble_eq_true rfl) rfl ?_
      refine r_aload_n (pc := 58) hC dX5_bowl_58 rfl 0 rfl ?_
      refine r_dup (pc := 59) hC dX5_bowl_59 rfl ?_
      obtain ⟨v10, ev10, hf⟩ := ob hf
      refine r_getI (pc := 60) CF5 (k := 2) hC (by decide) wd_3_104 dX5_bowl_60 ev10 ?_
      refine r_iconst (pc := 63) (v := 1) hC dX5_bowl_63 (by decide) ?_
      refine r_iadd (pc := 64) hC dX5_bowl_64 ?_
      obtain ⟨s11, es11, hf⟩ := ob hf
      refine r_put (pc := 65) CF5 (k := 2) hC (by decide) wd_3_104 rfl ⟨rfl, rfl⟩ dX5_bowl_65 es11 ?_
      refine r_aload_n (pc := 68) hC dX5_bowl_68 rfl 0 rfl ?_
      obtain ⟨v12, ev12, hf⟩ := ob hf
      refine r_getI (pc := 69) CF5 (k := 2) hC (by decide) wd_3_104 dX5_bowl_69 ev12 ?_
      refine r_iconst (pc := 72) (v := 1) hC dX5_bowl_72 (by decide) ?_
      refine r_isub (pc := 73) hC dX5_bowl_73 ?_
      exact r_iret (pc := 74) hE hC (f1xI hf) ⟨Nat.le_of_ble_eq_true rfl, Nat.le_of_ble_eq_true rfl⟩ dX5_bowl_74
    · replace hf := oi_t c15 hf
      refine r_aload_n (pc := 30) hC dX5_bowl_30 rfl 0 rfl ?_
      refine r_iconst (pc := 31) (v := 2) hC dX5_bowl_31 (by decide) ?_
      obtain ⟨b13, gb13, hf⟩ := ob hf
      obtain ⟨q14, eq14, hf⟩ := ob hf
      refine r_callV (pc := 32) (As := [DI 2]) (rest := []) (stk' := [DI q14.1]) (k1_X5_fail eq14) gb13 rfl hC wd_3_150 wd_3_152 wd_s_15 wd_3_153 wd_1_3 md_X5_fail rfl ⟨rfl, rfl, Nat.le_of_ble_eq_true rfl, Nat.le_of_ble_eq_true rfl, Nat.le_of_ble_eq_true rfl, Nat.le_of_ble_eq_true rfl⟩ dX5_bowl_32 rfl (Nat.le_of_ble_eq_true rfl) rfl ?_
      exact r_iret (pc := 35) hE hC (f1xI hf) ⟨Nat.le_of_ble_eq_true rfl, Nat.le_of_ble_eq_true rfl⟩ dX5_bowl_35
  · replace hf := oi_t c18 hf
    refine r_aload_n (pc := 16) hC dX5_bowl_16 rfl 0 rfl ?_
    refine r_iconst (pc := 17) (v := 1) hC dX5_bowl_17 (by decide) ?_
    obtain ⟨b16, gb16, hf⟩ := ob hf
    obtain ⟨q17, eq17, hf⟩ := ob hf
    refine r_callV (pc := 18) (As := [DI 1]) (rest := []) (stk' := [DI q17.1]) (k1_X5_fail eq17) gb16 rfl hC wd_3_150 wd_3_152 wd_s_15 wd_3_153 wd_1_3 md_X5_fail rfl ⟨rfl, rfl, Nat.le_of_ble_eq_true rfl, Nat.le_of_ble_eq_true rfl, Nat.le_of_ble_eq_true rfl, Nat.le_of_ble_eq_true rfl⟩ dX5_bowl_18 rfl (Nat.le_of_ble_eq_true rfl) rfl ?_
    exact r_iret (pc := 21) hE hC (f1xI hf) ⟨Nat.le_of_ble_eq_true rfl, Nat.le_of_ble_eq_true rfl⟩ dX5_bowl_21
abbrev rmK1_X5_isWarmth : Room := { frames := 1, cells := 0, slots := 0, locals := 22 }
set_option maxRecDepth 100000 in
set_option maxHeartbeats 4000000 in
theorem k1_X5_isWarmth {st : DSt} {x : Nat} {a0 : Int32} {a1 : Int32} {v : Int32} (hf : fX5_isWarmth st x a0 a1 = some v) : dm_K1 yX5_isWarmth cX5_isWarmth 3 (some .boolean) rmK1_X5_isWarmth 0 0 [DR (some x), DI a0, DI a1] st (some (DI v)) st := by
  refine dm_k1 (by decide) rfl (Nat.le_of_ble_eq_true rfl) fun Y hC hN hI hE => ?_
  unfold fX5_isWarmth at hf
  refine dm_sub (lv' := [(0, DR (some x)), (1, DI a0), (2, DI a1)]) ([0, 1, 2]) rfl ?_
  refine r_iload_n (pc := 0) hC dX5_isWarmth_0 rfl 1 rfl ?_
  refine r_bipush (pc := 1) (v := 15) hC dX5_isWarmth_1 (by decide) ?_
  refine r_bipush (pc := 3) (v := 50) hC dX5_isWarmth_3 (by decide) ?_
  obtain ⟨q1, eq1, hf⟩ := ob hf
  refine r_callS (pc := 5) (As := [DI a0, DI 15, DI 50]) (rest := []) (stk' := [DI q1]) (k1_X5_isIn eq1) hC wd_3_147 wd_3_148 wd_3_149 wd_1_3 md_X5_isIn rfl ⟨rfl, rfl, Nat.le_of_ble_eq_true rfl, Nat.le_of_ble_eq_true rfl, Nat.le_of_ble_eq_true rfl, Nat.le_of_ble_eq_true rfl⟩ dX5_isWarmth_5 rfl (Nat.le_of_ble_eq_true rfl) rfl ?_
  refine r_if_eq (pc := 8) (tgt := 25) hC dX5_isWarmth_8 (by decide) (fun c7 => ?_) (fun c7 => ?_)
  · replace hf := oi_t c7 hf
    refine r_iconst (pc := 25) (v := 0) hC dX5_isWarmth_25 (by decide) ?_
    obtain ⟨v2, ev2, hf⟩ := ob hf
    exact r_zret (pc := 26) hE hC ev2 (f1pI hf) ⟨Nat.le_of_ble_eq_true rfl, Nat.le_of_ble_eq_true rfl⟩ dX5_isWarmth_26
  · replace hf := oi_f c7 hf
    refine r_iload_n (pc := 11) hC dX5_isWarmth_11 rfl 2 rfl ?_
    refine r_iconst (pc := 12) (v := 1) hC dX5_isWarmth_12 (by decide) ?_
    refine r_bipush (pc := 13) (v := 40) hC dX5_isWarmth_13 (by decide) ?_
    obtain ⟨q3, eq3, hf⟩ := ob hf
    refine r_callS (pc := 15) (As := [DI a1, DI 1, DI 40]) (rest := []) (stk' := [DI q3]) (k1_X5_isIn eq3) hC wd_3_147 wd_3_148 wd_3_149 wd_1_3 md_X5_isIn rfl ⟨rfl, rfl, Nat.le_of_ble_eq_true rfl, Nat.le_of_ble_eq_true rfl, Nat.le_of_ble_eq_true rfl, Nat.le_of_ble_eq_true rfl⟩ dX5_isWarmth_15 rfl (Nat.le_of_ble_eq_true rfl) rfl ?_
    refine r_if_eq (pc := 18) (tgt := 25) hC dX5_isWarmth_18 (by decide) (fun c6 => ?_) (fun c6 => ?_)
    · replace hf := oi_t c6 hf
      refine r_iconst (pc := 25) (v := 0) hC dX5_isWarmth_25 (by decide) ?_
      obtain ⟨v4, ev4, hf⟩ := ob hf
      exact r_zret (pc := 26) hE hC ev4 (f1pI hf) ⟨Nat.le_of_ble_eq_true rfl, Nat.le_of_ble_eq_true rfl⟩ dX5_isWarmth_26
    · replace hf := oi_f c6 hf
      refine r_iconst (pc := 21) (v := 1) hC dX5_isWarmth_21 (by decide) ?_
      refine r_goto (pc := 22) (tgt := 26) hC dX5_isWarmth_22 (by decide) ?_
      obtain ⟨v5, ev5, hf⟩ := ob hf
      exact r_zret (pc := 26) hE hC ev5 (f1pI hf) ⟨Nat.le_of_ble_eq_true rfl, Nat.le_of_ble_eq_true rfl⟩ dX5_isWarmth_26
abbrev rmK1_X5_warm : Room := { frames := 3, cells := 0, slots := 0, locals := 67 }
set_option maxRecDepth 100000 in
set_option maxHeartbeats 4000000 in
theorem k1_X5_warm {st : DSt} {x : Nat} {a0 : Int32} {a1 : Int32} {a2 : Int32} {v : Int32} {st1 : DSt} (hf : fX5_warm st x a0 a1 a2 = some (v, st1)) : dm_K1 yX5_warm cX5_warm 5 (some .int) rmK1_X5_warm 0 0 [DR (some x), DI a0, DI a1, DI a2] st (some (DI v)) st1 := by
  refine dm_k1 (by decide) rfl (Nat.le_of_ble_eq_true rfl) fun Y hC hN hI hE => ?_
  unfold fX5_warm at hf
  refine dm_sub (lv' := [(0, DR (some x)), (1, DI a0), (2, DI a1), (3, DI a2)]) ([0, 1, 2, 3]) rfl ?_
  refine r_aload_n (pc := 0) hC dX5_warm_0 rfl 0 rfl ?_
  refine r_iconst (pc := 1) (v := 0) hC dX5_warm_1 (by decide) ?_
  obtain ⟨s1, es1, hf⟩ := ob hf
  refine r_put (pc := 2) CF5 (k := 0) hC (by decide) wd_3_102 rfl ⟨rfl, rfl⟩ dX5_warm_2 es1 ?_
  refine r_aload_n (pc := 5) hC dX5_warm_5 rfl 0 rfl ?_
  refine r_iload_n (pc := 6) hC dX5_warm_6 rfl 1 rfl ?_
  obtain ⟨b2, gb2, hf⟩ := ob hf
  obtain ⟨q3, eq3, hf⟩ := ob hf
  refine r_callV (pc := 7) (As := [DI a0]) (rest := []) (stk' := [DI q3]) (k1_X5_isBowl eq3) gb2 rfl hC wd_3_162 wd_3_164 wd_s_17 wd_3_165 wd_1_3 md_X5_isBowl rfl ⟨rfl, rfl, Nat.le_of_ble_eq_true rfl, Nat.le_of_ble_eq_true rfl, Nat.le_of_ble_eq_true rfl, Nat.le_of_ble_eq_true rfl⟩ dX5_warm_7 rfl (Nat.le_of_ble_eq_true rfl) rfl ?_
  refine r_if_ne (pc := 10) (tgt := 19) hC dX5_warm_10 (by decide) (fun c25 => ?_) (fun c25 => ?_)
  · replace hf := oi_f c25 hf
    refine r_aload_n (pc := 19) hC dX5_warm_19 rfl 0 rfl ?_
    refine r_iload_n (pc := 20) hC dX5_warm_20 rfl 2 rfl ?_
    refine r_iload_n (pc := 21) hC dX5_warm_21 rfl 3 rfl ?_
    obtain ⟨b4, gb4, hf⟩ := ob hf
    obtain ⟨q5, eq5, hf⟩ := ob hf
    refine r_callV (pc := 22) (As := [DI a1, DI a2]) (rest := []) (stk' := [DI q5]) (k1_X5_isWarmth eq5) gb4 rfl hC wd_3_166 wd_3_168 wd_s_18 wd_3_169 wd_1_3 md_X5_isWarmth rfl ⟨rfl, rfl, Nat.le_of_ble_eq_true rfl, Nat.le_of_ble_eq_true rfl, Nat.le_of_ble_eq_true rfl, Nat.le_of_ble_eq_true rfl⟩ dX5_warm_22 rfl (Nat.le_of_ble_eq_true rfl) rfl ?_
    refine r_if_ne (pc := 25) (tgt := 34) hC dX5_warm_25 (by decide) (fun c22 => ?_) (fun c22 => ?_)
    · replace hf := oi_f c22 hf
      refine r_aload_n (pc := 34) hC dX5_warm_34 rfl 0 rfl ?_
      refine r_iload_n (pc := 35) hC dX5_warm_35 rfl 1 rfl ?_
      obtain ⟨b6, gb6, hf⟩ := ob hf
      obtain ⟨q7, eq7, hf⟩ := ob hf
      refine r_callV (pc := 36) (As := [DI a0]) (rest := []) (stk' := []) (k1_X5_look eq7) gb6 rfl hC wd_3_170 wd_3_172 wd_s_19 wd_3_173 wd_1_3 md_X5_look rfl ⟨rfl, rfl, Nat.le_of_ble_eq_true rfl, Nat.le_of_ble_eq_true rfl, Nat.le_of_ble_eq_true rfl, Nat.le_of_ble_eq_true rfl⟩ dX5_warm_36 rfl (Nat.le_of_ble_eq_true rfl) rfl ?_
      refine r_aload_n (pc := 39) hC dX5_warm_39 rfl 0 rfl ?_
      obtain ⟨v8, ev8, hf⟩ := ob hf
      refine r_getR (pc := 40) CF5 (k := 10) hC (by decide) wd_3_112 dX5_warm_40 ev8 ?_
      refine r_iload_n (pc := 43) hC dX5_warm_43 rfl 2 rfl ?_
      refine r_iload_n (pc := 44) hC dX5_warm_44 rfl 3 rfl ?_
      obtain ⟨q9, eq9, hf⟩ := ob hf
      refine r_callS (pc := 45) (As := [DR v8, DI a1, DI a2]) (rest := []) (stk' := []) (k1_X5_turns eq9) hC wd_3_178 wd_3_179 wd_3_180 wd_1_3 md_X5_turns rfl ⟨rfl, rfl, Nat.le_of_ble_eq_true rfl, Nat.le_of_ble_eq_true rfl, Nat.le_of_ble_eq_true rfl, Nat.le_of_ble_eq_true rfl⟩ dX5_warm_45 rfl (Nat.le_of_ble_eq_true rfl) rfl ?_
      refine r_iconst (pc := 48) (v := 1) hC dX5_warm_48 (by decide) ?_
      refine r_istore (pc := 49) (lv' := [(4, DI 1), (0, DR (some x)), (1, DI a0), (2, DI a1), (3, DI a2)]) hC hN dX5_warm_49 (by decide) rfl ?_
      obtain ⟨b10, eb10, hf⟩ := ob hf
      refine dm_sub (lv' := [(0, DR (some x)), (1, DI a0), (2, DI a1), (4, DI 1)]) [1, 2, 3, 0] rfl ?_
      refine dlp_W _ (fun (z10 : DSt × Int32) => dm_W Y 0 0 z10.1 51 [(0, DR (some x)), (1, DI a0), (2, DI a1), (4, DI z10.2)] []) (fun (b10 : DSt × Int32) => dm_W Y 0 0 b10.1 77 [(0, DR (some x)), (1, DI a0), (2, DI a1), (4, DI b10.2)] []) ?_ eb10 ?_
      · intro z10 r hf hk
        unfold fX5_warm_L51 at hf
        refine r_iload (pc := 51) hC dX5_warm_51 3 rfl ?_
        refine r_iconst (pc := 53) (v := 5) hC dX5_warm_53 (by decide) ?_
        refine r_icmp_gt (pc := 54) (tgt := 77) hC dX5_warm_54 (by decide) (fun c15 => ?_) (fun c15 => ?_)
        · replace hf := oi_t c15 hf
          cases hf
          exact dm_sub [0, 1, 2, 3] rfl hk
        · replace hf := oi_f c15 hf
          refine r_aload_n (pc := 57) hC dX5_warm_57 rfl 0 rfl ?_
          refine r_iload_n (pc := 58) hC dX5_warm_58 rfl 1 rfl ?_
          refine r_iload (pc := 59) hC dX5_warm_59 3 rfl ?_
          refine r_aload_n (pc := 61) hC dX5_warm_61 rfl 0 rfl ?_
          obtain ⟨v11, ev11, hf⟩ := ob hf
          refine r_getR (pc := 62) CF5 (k := 10) hC (by decide) wd_3_112 dX5_warm_62 ev11 ?_
          refine r_iload (pc := 65) hC dX5_warm_65 3 rfl ?_
          obtain ⟨v12, ev12, hf⟩ := ob hf
          refine r_iaload (pc := 67) hC dX5_warm_67 ev12 ?_
          obtain ⟨b13, gb13, hf⟩ := ob hf
          obtain ⟨q14, eq14, hf⟩ := ob hf
          refine r_callV (pc := 68) (As := [DI a0, DI z10.2, DI v12]) (rest := []) (stk' := []) (k1_X5_letBowl eq14) gb13 rfl hC wd_3_154 wd_3_156 wd_s_16 wd_3_157 wd_1_3 md_X5_letBowl rfl ⟨rfl, rfl, Nat.le_of_ble_eq_true rfl, Nat.le_of_ble_eq_true rfl, Nat.le_of_ble_eq_true rfl, Nat.le_of_ble_eq_true rfl⟩ dX5_warm_68 rfl (Nat.le_of_ble_eq_true rfl) rfl ?_
          refine r_iinc (pc := 71) (pos := 3) (v := (z10.2 + 1)) (lv' := [(4, DI (z10.2 + 1)), (0, DR (some x)), (1, DI a0), (2, DI a1)]) hC hN dX5_warm_71 rfl rfl (by decide) rfl ?_
          refine r_goto (pc := 74) (tgt := 51) hC dX5_warm_74 (by decide) ?_
          cases hf
          exact dm_sub [1, 2, 3, 0] rfl hk
      · refine r_aload_n (pc := 77) hC dX5_warm_77 rfl 0 rfl ?_
        refine r_iload_n (pc := 78) hC dX5_warm_78 rfl 1 rfl ?_
        refine r_bipush (pc := 79) (v := 6) hC dX5_warm_79 (by decide) ?_
        refine r_iload_n (pc := 81) hC dX5_warm_81 rfl 2 rfl ?_
        obtain ⟨b16, gb16, hf⟩ := ob hf
        obtain ⟨q17, eq17, hf⟩ := ob hf
        refine r_callV (pc := 82) (As := [DI a0, DI 6, DI a1]) (rest := []) (stk' := []) (k1_X5_letBowl eq17) gb16 rfl hC wd_3_154 wd_3_156 wd_s_16 wd_3_157 wd_1_3 md_X5_letBowl rfl ⟨rfl, rfl, Nat.le_of_ble_eq_true rfl, Nat.le_of_ble_eq_true rfl, Nat.le_of_ble_eq_true rfl, Nat.le_of_ble_eq_true rfl⟩ dX5_warm_82 rfl (Nat.le_of_ble_eq_true rfl) rfl ?_
        refine r_aload_n (pc := 85) hC dX5_warm_85 rfl 0 rfl ?_
        obtain ⟨v18, ev18, hf⟩ := ob hf
        refine r_getR (pc := 86) CF5 (k := 10) hC (by decide) wd_3_112 dX5_warm_86 ev18 ?_
        obtain ⟨q19, eq19, hf⟩ := ob hf
        refine r_callS (pc := 89) (As := [DR v18]) (rest := []) (stk' := [DI q19]) (k1_X5_temper eq19) hC wd_3_191 wd_3_192 wd_3_193 wd_1_3 md_X5_temper rfl ⟨rfl, rfl, Nat.le_of_ble_eq_true rfl, Nat.le_of_ble_eq_true rfl, Nat.le_of_ble_eq_true rfl, Nat.le_of_ble_eq_true rfl⟩ dX5_warm_89 rfl (Nat.le_of_ble_eq_true rfl) rfl ?_
        exact r_iret (pc := 92) hE hC (f1xI hf) ⟨Nat.le_of_ble_eq_true rfl, Nat.le_of_ble_eq_true rfl⟩ dX5_warm_92
    · replace hf := oi_t c22 hf
      refine r_aload_n (pc := 28) hC dX5_warm_28 rfl 0 rfl ?_
      refine r_iconst (pc := 29) (v := 2) hC dX5_warm_29 (by decide) ?_
      obtain ⟨b20, gb20, hf⟩ := ob hf
      obtain ⟨q21, eq21, hf⟩ := ob hf
      refine r_callV (pc := 30) (As := [DI 2]) (rest := []) (stk' := [DI q21.1]) (k1_X5_fail eq21) gb20 rfl hC wd_3_150 wd_3_152 wd_s_15 wd_3_153 wd_1_3 md_X5_fail rfl ⟨rfl, rfl, Nat.le_of_ble_eq_true rfl, Nat.le_of_ble_eq_true rfl, Nat.le_of_ble_eq_true rfl, Nat.le_of_ble_eq_true rfl⟩ dX5_warm_30 rfl (Nat.le_of_ble_eq_true rfl) rfl ?_
      exact r_iret (pc := 33) hE hC (f1xI hf) ⟨Nat.le_of_ble_eq_true rfl, Nat.le_of_ble_eq_true rfl⟩ dX5_warm_33
  · replace hf := oi_t c25 hf
    refine r_aload_n (pc := 13) hC dX5_warm_13 rfl 0 rfl ?_
    refine r_iconst (pc := 14) (v := 1) hC dX5_warm_14 (by decide) ?_
    obtain ⟨b23, gb23, hf⟩ := ob hf
    obtain ⟨q24, eq24, hf⟩ := ob hf
    refine r_callV (pc := 15) (As := [DI 1]) (rest := []) (stk' := [DI q24.1]) (k1_X5_fail eq24) gb23 rfl hC wd_3_150 wd_3_152 wd_s_15 wd_3_153 wd_1_3 md_X5_fail rfl ⟨rfl, rfl, Nat.le_of_ble_eq_true rfl, Nat.le_of_ble_eq_true rfl, Nat.le_of_ble_eq_true rfl, Nat.le_of_ble_eq_true rfl⟩ dX5_warm_15 rfl (Nat.le_of_ble_eq_true rfl) rfl ?_
    exact r_iret (pc := 18) hE hC (f1xI hf) ⟨Nat.le_of_ble_eq_true rfl, Nat.le_of_ble_eq_true rfl⟩ dX5_warm_18
abbrev rmK1_X5_seed : Room := { frames := 2, cells := 0, slots := 0, locals := 44 }
set_option maxRecDepth 100000 in
set_option maxHeartbeats 4000000 in
theorem k1_X5_seed {st : DSt} {x : Nat} {a0 : Int32} {a1 : Int32} {v : Int32} {st1 : DSt} (hf : fX5_seed st x a0 a1 = some (v, st1)) : dm_K1 yX5_seed cX5_seed 3 (some .int) rmK1_X5_seed 0 0 [DR (some x), DI a0, DI a1] st (some (DI v)) st1 := by
  refine dm_k1 (by decide) rfl (Nat.le_of_ble_eq_true rfl) fun Y hC hN hI hE => ?_
  unfold fX5_seed at hf
  refine dm_sub (lv' := [(0, DR (some x)), (1, DI a0), (2, DI a1)]) ([0, 1, 2]) rfl ?_
  refine r_aload_n (pc := 0) hC dX5_seed_0 rfl 0 rfl ?_
  refine r_iconst (pc := 1) (v := 0) hC dX5_seed_1 (by decide) ?_
  obtain ⟨s1, es1, hf⟩ := ob hf
  refine r_put (pc := 2) CF5 (k := 0) hC (by decide) wd_3_102 rfl ⟨rfl, rfl⟩ dX5_seed_2 es1 ?_
  refine r_aload_n (pc := 5) hC dX5_seed_5 rfl 0 rfl ?_
  refine r_iload_n (pc := 6) hC dX5_seed_6 rfl 1 rfl ?_
  obtain ⟨b2, gb2, hf⟩ := ob hf
  obtain ⟨q3, eq3, hf⟩ := ob hf
  refine r_callV (pc := 7) (As := [DI a0]) (rest := []) (stk' := [DI q3]) (k1_X5_isBowl eq3) gb2 rfl hC wd_3_162 wd_3_164 wd_s_17 wd_3_165 wd_1_3 md_X5_isBowl rfl ⟨rfl, rfl, Nat.le_of_ble_eq_true rfl, Nat.le_of_ble_eq_true rfl, Nat.le_of_ble_eq_true rfl, Nat.le_of_ble_eq_true rfl⟩ dX5_seed_7 rfl (Nat.le_of_ble_eq_true rfl) rfl ?_
  refine r_if_ne (pc := 10) (tgt := 19) hC dX5_seed_10 (by decide) (fun c20 => ?_) (fun c20 => ?_)
  · replace hf := oi_f c20 hf
    refine r_iload_n (pc := 19) hC dX5_seed_19 rfl 2 rfl ?_
    refine r_iconst (pc := 20) (v := 1) hC dX5_seed_20 (by decide) ?_
    refine r_bipush (pc := 21) (v := 30) hC dX5_seed_21 (by decide) ?_
    obtain ⟨q4, eq4, hf⟩ := ob hf
    refine r_callS (pc := 23) (As := [DI a1, DI 1, DI 30]) (rest := []) (stk' := [DI q4]) (k1_X5_isIn eq4) hC wd_3_147 wd_3_148 wd_3_149 wd_1_3 md_X5_isIn rfl ⟨rfl, rfl, Nat.le_of_ble_eq_true rfl, Nat.le_of_ble_eq_true rfl, Nat.le_of_ble_eq_true rfl, Nat.le_of_ble_eq_true rfl⟩ dX5_seed_23 rfl (Nat.le_of_ble_eq_true rfl) rfl ?_
    refine r_if_ne (pc := 26) (tgt := 35) hC dX5_seed_26 (by decide) (fun c17 => ?_) (fun c17 => ?_)
    · replace hf := oi_f c17 hf
      refine r_aload_n (pc := 35) hC dX5_seed_35 rfl 0 rfl ?_
      refine r_iload_n (pc := 36) hC dX5_seed_36 rfl 1 rfl ?_
      obtain ⟨b5, gb5, hf⟩ := ob hf
      obtain ⟨q6, eq6, hf⟩ := ob hf
      refine r_callV (pc := 37) (As := [DI a0]) (rest := []) (stk' := []) (k1_X5_look eq6) gb5 rfl hC wd_3_170 wd_3_172 wd_s_19 wd_3_173 wd_1_3 md_X5_look rfl ⟨rfl, rfl, Nat.le_of_ble_eq_true rfl, Nat.le_of_ble_eq_true rfl, Nat.le_of_ble_eq_true rfl, Nat.le_of_ble_eq_true rfl⟩ dX5_seed_37 rfl (Nat.le_of_ble_eq_true rfl) rfl ?_
      refine r_aload_n (pc := 40) hC dX5_seed_40 rfl 0 rfl ?_
      refine r_iload_n (pc := 41) hC dX5_seed_41 rfl 1 rfl ?_
      refine r_iconst (pc := 42) (v := 5) hC dX5_seed_42 (by decide) ?_
      refine r_aload_n (pc := 43) hC dX5_seed_43 rfl 0 rfl ?_
      obtain ⟨v7, ev7, hf⟩ := ob hf
      refine r_getR (pc := 44) CF5 (k := 10) hC (by decide) wd_3_112 dX5_seed_44 ev7 ?_
      refine r_iconst (pc := 47) (v := 5) hC dX5_seed_47 (by decide) ?_
      obtain ⟨v8, ev8, hf⟩ := ob hf
      refine r_iaload (pc := 48) hC dX5_seed_48 ev8 ?_
      refine r_iload_n (pc := 49) hC dX5_seed_49 rfl 2 rfl ?_
      refine r_bipush (pc := 50) (v := 100) hC dX5_seed_50 (by decide) ?_
      refine r_aload_n (pc := 52) hC dX5_seed_52 rfl 0 rfl ?_
      obtain ⟨v9, ev9, hf⟩ := ob hf
      refine r_getR (pc := 53) CF5 (k := 10) hC (by decide) wd_3_112 dX5_seed_53 ev9 ?_
      obtain ⟨q10, eq10, hf⟩ := ob hf
      refine r_callS (pc := 56) (As := [DR v9]) (rest := [DI 100, DI a1, DI v8, DI 5, DI a0, DR (some x)]) (stk' := [DI q10, DI 100, DI a1, DI v8, DI 5, DI a0, DR (some x)]) (k1_X5_sum eq10) hC wd_3_187 wd_3_188 wd_3_189 wd_1_3 md_X5_sum rfl ⟨rfl, rfl, Nat.le_of_ble_eq_true rfl, Nat.le_of_ble_eq_true rfl, Nat.le_of_ble_eq_true rfl, Nat.le_of_ble_eq_true rfl⟩ dX5_seed_56 rfl (Nat.le_of_ble_eq_true rfl) rfl ?_
      refine r_isub (pc := 59) hC dX5_seed_59 ?_
      refine r_min (pc := 60) hC wd_3_190 wd_2_4 wd_1_11 (wd_2_5) dX5_seed_60 ⟨Nat.le_of_ble_eq_true rfl, Nat.le_of_ble_eq_true rfl, Nat.le_of_ble_eq_true rfl, Nat.le_of_ble_eq_true rfl⟩ ?_
      refine r_iadd (pc := 63) hC dX5_seed_63 ?_
      obtain ⟨b11, gb11, hf⟩ := ob hf
      obtain ⟨q12, eq12, hf⟩ := ob hf
      refine r_callV (pc := 64) (As := [DI a0, DI 5, DI (v8 + (jmin a1 (100 - q10)))]) (rest := []) (stk' := []) (k1_X5_letBowl eq12) gb11 rfl hC wd_3_154 wd_3_156 wd_s_16 wd_3_157 wd_1_3 md_X5_letBowl rfl ⟨rfl, rfl, Nat.le_of_ble_eq_true rfl, Nat.le_of_ble_eq_true rfl, Nat.le_of_ble_eq_true rfl, Nat.le_of_ble_eq_true rfl⟩ dX5_seed_64 rfl (Nat.le_of_ble_eq_true rfl) rfl ?_
      refine r_aload_n (pc := 67) hC dX5_seed_67 rfl 0 rfl ?_
      refine r_iload_n (pc := 68) hC dX5_seed_68 rfl 1 rfl ?_
      refine r_iconst (pc := 69) (v := 5) hC dX5_seed_69 (by decide) ?_
      obtain ⟨b13, gb13, hf⟩ := ob hf
      obtain ⟨q14, eq14, hf⟩ := ob hf
      refine r_callV (pc := 70) (As := [DI a0, DI 5]) (rest := []) (stk' := [DI q14]) (k1_X5_bo eq14) gb13 rfl hC wd_3_174 wd_3_176 wd_s_20 wd_3_177 wd_1_3 md_X5_bo rfl ⟨rfl, rfl, Nat.le_of_ble_eq_true rfl, Nat.le_of_ble_eq_true rfl, Nat.le_of_ble_eq_true rfl, Nat.le_of_ble_eq_true rfl⟩ dX5_seed_70 rfl (Nat.le_of_ble_eq_true rfl) rfl ?_
      exact r_iret (pc := 73) hE hC (f1xI hf) ⟨Nat.le_of_ble_eq_true rfl, Nat.le_of_ble_eq_true rfl⟩ dX5_seed_73
    · replace hf := oi_t c17 hf
      refine r_aload_n (pc := 29) hC dX5_seed_29 rfl 0 rfl ?_
      refine r_iconst (pc := 30) (v := 2) hC dX5_seed_30 (by decide) ?_
      obtain ⟨b15, gb15, hf⟩ := ob hf
      obtain ⟨q16, eq16, hf⟩ := ob hf
      refine r_callV (pc := 31) (As := [DI 2]) (rest := []) (stk' := [DI q16.1]) (k1_X5_fail eq16) gb15 rfl hC wd_3_150 wd_3_152 wd_s_15 wd_3_153 wd_1_3 md_X5_fail rfl ⟨rfl, rfl, Nat.le_of_ble_eq_true rfl, Nat.le_of_ble_eq_true rfl, Nat.le_of_ble_eq_true rfl, Nat.le_of_ble_eq_true rfl⟩ dX5_seed_31 rfl (Nat.le_of_ble_eq_true rfl) rfl ?_
      exact r_iret (pc := 34) hE hC (f1xI hf) ⟨Nat.le_of_ble_eq_true rfl, Nat.le_of_ble_eq_true rfl⟩ dX5_seed_34
  · replace hf := oi_t c20 hf
    refine r_aload_n (pc := 13) hC dX5_seed_13 rfl 0 rfl ?_
    refine r_iconst (pc := 14) (v := 1) hC dX5_seed_14 (by decide) ?_
    obtain ⟨b18, gb18, hf⟩ := ob hf
    obtain ⟨q19, eq19, hf⟩ := ob hf
    refine r_callV (pc := 15) (As := [DI 1]) (rest := []) (stk' := [DI q19.1]) (k1_X5_fail eq19) gb18 rfl hC wd_3_150 wd_3_152 wd_s_15 wd_3_153 wd_1_3 md_X5_fail rfl ⟨rfl, rfl, Nat.le_of_ble_eq_true rfl, Nat.le_of_ble_eq_true rfl, Nat.le_of_ble_eq_true rfl, Nat.le_of_ble_eq_true rfl⟩ dX5_seed_15 rfl (Nat.le_of_ble_eq_true rfl) rfl ?_
    exact r_iret (pc := 18) hE hC (f1xI hf) ⟨Nat.le_of_ble_eq_true rfl, Nat.le_of_ble_eq_true rfl⟩ dX5_seed_18
abbrev rmK1_X5_pour : Room := { frames := 2, cells := 0, slots := 0, locals := 43 }
set_option maxRecDepth 100000 in
set_option maxHeartbeats 4000000 in
theorem k1_X5_pour {st : DSt} {x : Nat} {a0 : Int32} {a1 : Int32} {v : Int32} {st1 : DSt} (hf : fX5_pour st x a0 a1 = some (v, st1)) : dm_K1 yX5_pour cX5_pour 5 (some .int) rmK1_X5_pour 0 0 [DR (some x), DI a0, DI a1] st (some (DI v)) st1 := by
  refine dm_k1 (by decide) rfl (Nat.le_of_ble_eq_true rfl) fun Y hC hN hI hE => ?_
  unfold fX5_pour at hf
  refine dm_sub (lv' := [(0, DR (some x)), (1, DI a0), (2, DI a1)]) ([0, 1, 2]) rfl ?_
  refine r_aload_n (pc := 0) hC dX5_pour_0 rfl 0 rfl ?_
  refine r_iconst (pc := 1) (v := 0) hC dX5_pour_1 (by decide) ?_
  obtain ⟨s1, es1, hf⟩ := ob hf
  refine r_put (pc := 2) CF5 (k := 0) hC (by decide) wd_3_102 rfl ⟨rfl, rfl⟩ dX5_pour_2 es1 ?_
  refine r_aload_n (pc := 5) hC dX5_pour_5 rfl 0 rfl ?_
  refine r_iload_n (pc := 6) hC dX5_pour_6 rfl 1 rfl ?_
  obtain ⟨b2, gb2, hf⟩ := ob hf
  obtain ⟨q3, eq3, hf⟩ := ob hf
  refine r_callV (pc := 7) (As := [DI a0]) (rest := []) (stk' := [DI q3]) (k1_X5_isBowl eq3) gb2 rfl hC wd_3_162 wd_3_164 wd_s_17 wd_3_165 wd_1_3 md_X5_isBowl rfl ⟨rfl, rfl, Nat.le_of_ble_eq_true rfl, Nat.le_of_ble_eq_true rfl, Nat.le_of_ble_eq_true rfl, Nat.le_of_ble_eq_true rfl⟩ dX5_pour_7 rfl (Nat.le_of_ble_eq_true rfl) rfl ?_
  refine r_if_eq (pc := 10) (tgt := 21) hC dX5_pour_10 (by decide) (fun c43 => ?_) (fun c43 => ?_)
  · replace hf := oi_t c43 hf
    refine r_aload_n (pc := 21) hC dX5_pour_21 rfl 0 rfl ?_
    refine r_iconst (pc := 22) (v := 1) hC dX5_pour_22 (by decide) ?_
    obtain ⟨b4, gb4, hf⟩ := ob hf
    obtain ⟨q5, eq5, hf⟩ := ob hf
    refine r_callV (pc := 23) (As := [DI 1]) (rest := []) (stk' := [DI q5.1]) (k1_X5_fail eq5) gb4 rfl hC wd_3_150 wd_3_152 wd_s_15 wd_3_153 wd_1_3 md_X5_fail rfl ⟨rfl, rfl, Nat.le_of_ble_eq_true rfl, Nat.le_of_ble_eq_true rfl, Nat.le_of_ble_eq_true rfl, Nat.le_of_ble_eq_true rfl⟩ dX5_pour_23 rfl (Nat.le_of_ble_eq_true rfl) rfl ?_
    exact r_iret (pc := 26) hE hC (f1xI hf) ⟨Nat.le_of_ble_eq_true rfl, Nat.le_of_ble_eq_true rfl⟩ dX5_pour_26
  · replace hf := oi_f c43 hf
    refine r_aload_n (pc := 13) hC dX5_pour_13 rfl 0 rfl ?_
    refine r_iload_n (pc := 14) hC dX5_pour_14 rfl 2 rfl ?_
    obtain ⟨b6, gb6, hf⟩ := ob hf
    obtain ⟨q7, eq7, hf⟩ := ob hf
    refine r_callV (pc := 15) (As := [DI a1]) (rest := []) (stk' := [DI q7]) (k1_X5_isBowl eq7) gb6 rfl hC wd_3_162 wd_3_164 wd_s_17 wd_3_165 wd_1_3 md_X5_isBowl rfl ⟨rfl, rfl, Nat.le_of_ble_eq_true rfl, Nat.le_of_ble_eq_true rfl, Nat.le_of_ble_eq_true rfl, Nat.le_of_ble_eq_true rfl⟩ dX5_pour_15 rfl (Nat.le_of_ble_eq_true rfl) rfl ?_
    refine r_if_ne (pc := 18) (tgt := 27) hC dX5_pour_18 (by decide) (fun c42 => ?_) (fun c42 => ?_)
    · replace hf := oi_f c42 hf
      refine r_aload_n (pc := 27) hC dX5_pour_27 rfl 0 rfl ?_
      refine r_iload_n (pc := 28) hC dX5_pour_28 rfl 1 rfl ?_
      refine r_iconst (pc := 29) (v := 0) hC dX5_pour_29 (by decide) ?_
      obtain ⟨b8, gb8, hf⟩ := ob hf
      obtain ⟨q9, eq9, hf⟩ := ob hf
      refine r_callV (pc := 30) (As := [DI a0, DI 0]) (rest := []) (stk' := [DI q9]) (k1_X5_bo eq9) gb8 rfl hC wd_3_174 wd_3_176 wd_s_20 wd_3_177 wd_1_3 md_X5_bo rfl ⟨rfl, rfl, Nat.le_of_ble_eq_true rfl, Nat.le_of_ble_eq_true rfl, Nat.le_of_ble_eq_true rfl, Nat.le_of_ble_eq_true rfl⟩ dX5_pour_30 rfl (Nat.le_of_ble_eq_true rfl) rfl ?_
      refine r_aload_n (pc := 33) hC dX5_pour_33 rfl 0 rfl ?_
      refine r_iload_n (pc := 34) hC dX5_pour_34 rfl 2 rfl ?_
      refine r_iconst (pc := 35) (v := 0) hC dX5_pour_35 (by decide) ?_
      obtain ⟨b10, gb10, hf⟩ := ob hf
      obtain ⟨q11, eq11, hf⟩ := ob hf
      refine r_callV (pc := 36) (As := [DI a1, DI 0]) (rest := [DI q9]) (stk' := [DI q11, DI q9]) (k1_X5_bo eq11) gb10 rfl hC wd_3_174 wd_3_176 wd_s_20 wd_3_177 wd_1_3 md_X5_bo rfl ⟨rfl, rfl, Nat.le_of_ble_eq_true rfl, Nat.le_of_ble_eq_true rfl, Nat.le_of_ble_eq_true rfl, Nat.le_of_ble_eq_true rfl⟩ dX5_pour_36 rfl (Nat.le_of_ble_eq_true rfl) rfl ?_
      refine r_iadd (pc := 39) hC dX5_pour_39 ?_
      refine r_istore_n (pc := 40) (lv' := [(3, DI (q9 + q11)), (0, DR (some x)), (1, DI a0), (2, DI a1)]) hC hN dX5_pour_40 rfl (by decide) rfl ?_
      refine r_iload_n (pc := 41) hC dX5_pour_41 rfl 2 rfl ?_
      refine r_iload_n (pc := 42) hC dX5_pour_42 rfl 3 rfl ?_
      refine r_icmp_eq (pc := 43) (tgt := 57) hC dX5_pour_43 (by decide) (fun c39 => ?_) (fun c39 => ?_)
      · replace hf := oi_t c39 hf
        refine r_aload_n (pc := 57) hC dX5_pour_57 rfl 1 rfl ?_
        refine r_iconst (pc := 58) (v := 2) hC dX5_pour_58 (by decide) ?_
        obtain ⟨b12, gb12, hf⟩ := ob hf
        obtain ⟨q13, eq13, hf⟩ := ob hf
        refine r_callV (pc := 59) (As := [DI 2]) (rest := []) (stk' := [DI q13.1]) (k1_X5_fail eq13) gb12 rfl hC wd_3_150 wd_3_152 wd_s_15 wd_3_153 wd_1_3 md_X5_fail rfl ⟨rfl, rfl, Nat.le_of_ble_eq_true rfl, Nat.le_of_ble_eq_true rfl, Nat.le_of_ble_eq_true rfl, Nat.le_of_ble_eq_true rfl⟩ dX5_pour_59 rfl (Nat.le_of_ble_eq_true rfl) rfl ?_
        exact r_iret (pc := 62) hE hC (f1xI hf) ⟨Nat.le_of_ble_eq_true rfl, Nat.le_of_ble_eq_true rfl⟩ dX5_pour_62
      · replace hf := oi_f c39 hf
        refine r_iload_n (pc := 46) hC dX5_pour_46 rfl 0 rfl ?_
        refine r_if_eq (pc := 47) (tgt := 57) hC dX5_pour_47 (by decide) (fun c38 => ?_) (fun c38 => ?_)
        · replace hf := oi_t c38 hf
          refine r_aload_n (pc := 57) hC dX5_pour_57 rfl 1 rfl ?_
          refine r_iconst (pc := 58) (v := 2) hC dX5_pour_58 (by decide) ?_
          obtain ⟨b14, gb14, hf⟩ := ob hf
          obtain ⟨q15, eq15, hf⟩ := ob hf
          refine r_callV (pc := 59) (As := [DI 2]) (rest := []) (stk' := [DI q15.1]) (k1_X5_fail eq15) gb14 rfl hC wd_3_150 wd_3_152 wd_s_15 wd_3_153 wd_1_3 md_X5_fail rfl ⟨rfl, rfl, Nat.le_of_ble_eq_true rfl, Nat.le_of_ble_eq_true rfl, Nat.le_of_ble_eq_true rfl, Nat.le_of_ble_eq_true rfl⟩ dX5_pour_59 rfl (Nat.le_of_ble_eq_true rfl) rfl ?_
          exact r_iret (pc := 62) hE hC (f1xI hf) ⟨Nat.le_of_ble_eq_true rfl, Nat.le_of_ble_eq_true rfl⟩ dX5_pour_62
        · replace hf := oi_f c38 hf
          refine r_iload_n (pc := 50) hC dX5_pour_50 rfl 0 rfl ?_
          refine r_sipush (pc := 51) (v := 2000) hC dX5_pour_51 (by decide) ?_
          refine r_icmp_le (pc := 54) (tgt := 63) hC dX5_pour_54 (by decide) (fun c37 => ?_) (fun c37 => ?_)
          · replace hf := oi_t c37 hf
            refine r_iconst (pc := 63) (v := 1) hC dX5_pour_63 (by decide) ?_
            refine r_istore (pc := 64) (lv' := [(4, DI 1), (3, DI (q9 + q11)), (0, DR (some x)), (1, DI a0), (2, DI a1)]) hC hN dX5_pour_64 (by decide) rfl ?_
            obtain ⟨b16, eb16, hf⟩ := ob hf
            refine dm_sub (lv' := [(0, DR (some x)), (1, DI a0), (2, DI a1), (3, DI (q9 + q11)), (4, DI 1)]) [2, 3, 4, 1, 0] rfl ?_
            refine dlp_W _ (fun (z16 : DSt × Int32) => dm_W Y 0 0 z16.1 66 [(0, DR (some x)), (1, DI a0), (2, DI a1), (3, DI (q9 + q11)), (4, DI z16.2)] []) (fun (b16 : DSt × Int32) => dm_W Y 0 0 b16.1 117 [(0, DR (some x)), (1, DI a0), (2, DI a1), (3, DI (q9 + q11)), (4, DI b16.2)] []) ?_ eb16 ?_
            · intro z16 r hf hk
              unfold fX5_pour_L66 at hf
              refine r_iload (pc := 66) hC dX5_pour_66 4 rfl ?_
              refine r_bipush (pc := 68) (v := 6) hC dX5_pour_68 (by decide) ?_
              refine r_icmp_gt (pc := 70) (tgt := 117) hC dX5_pour_70 (by decide) (fun c28 => ?_) (fun c28 => ?_)
              · replace hf := oi_t c28 hf
                cases hf
                exact dm_sub [0, 1, 2, 3, 4] rfl hk
              · replace hf := oi_f c28 hf
                refine r_aload_n (pc := 73) hC dX5_pour_73 rfl 0 rfl ?_
                refine r_iload_n (pc := 74) hC dX5_pour_74 rfl 2 rfl ?_
                refine r_iload (pc := 75) hC dX5_pour_75 4 rfl ?_
                refine r_aload_n (pc := 77) hC dX5_pour_77 rfl 0 rfl ?_
                refine r_iload_n (pc := 78) hC dX5_pour_78 rfl 2 rfl ?_
                refine r_iload (pc := 79) hC dX5_pour_79 4 rfl ?_
                obtain ⟨b17, gb17, hf⟩ := ob hf
                obtain ⟨q18, eq18, hf⟩ := ob hf
                refine r_callV (pc := 81) (As := [DI a1, DI z16.2]) (rest := [DI z16.2, DI a1, DR (some x)]) (stk' := [DI q18, DI z16.2, DI a1, DR (some x)]) (k1_X5_bo eq18) gb17 rfl hC wd_3_174 wd_3_176 wd_s_20 wd_3_177 wd_1_3 md_X5_bo rfl ⟨rfl, rfl, Nat.le_of_ble_eq_true rfl, Nat.le_of_ble_eq_true rfl, Nat.le_of_ble_eq_true rfl, Nat.le_of_ble_eq_true rfl⟩ dX5_pour_81 rfl (Nat.le_of_ble_eq_true rfl) rfl ?_
                refine r_aload_n (pc := 84) hC dX5_pour_84 rfl 0 rfl ?_
                refine r_iload_n (pc := 85) hC dX5_pour_85 rfl 2 rfl ?_
                refine r_iconst (pc := 86) (v := 0) hC dX5_pour_86 (by decide) ?_
                obtain ⟨b19, gb19, hf⟩ := ob hf
                obtain ⟨q20, eq20, hf⟩ := ob hf
                refine r_callV (pc := 87) (As := [DI a1, DI 0]) (rest := [DI q18, DI z16.2, DI a1, DR (some x)]) (stk' := [DI q20, DI q18, DI z16.2, DI a1, DR (some x)]) (k1_X5_bo eq20) gb19 rfl hC wd_3_174 wd_3_176 wd_s_20 wd_3_177 wd_1_3 md_X5_bo rfl ⟨rfl, rfl, Nat.le_of_ble_eq_true rfl, Nat.le_of_ble_eq_true rfl, Nat.le_of_ble_eq_true rfl, Nat.le_of_ble_eq_true rfl⟩ dX5_pour_87 rfl (Nat.le_of_ble_eq_true rfl) rfl ?_
                refine r_imul (pc := 90) hC dX5_pour_90 ?_
                refine r_aload_n (pc := 91) hC dX5_pour_91 rfl 0 rfl ?_
                refine r_iload_n (pc := 92) hC dX5_pour_92 rfl 1 rfl ?_
                refine r_iload (pc := 93) hC dX5_pour_93 4 rfl ?_
                obtain ⟨b21, gb21, hf⟩ := ob hf
                obtain ⟨q22, eq22, hf⟩ := ob hf
                refine r_callV (pc := 95) (As := [DI a0, DI z16.2]) (rest := [DI (q18 * q20), DI z16.2, DI a1, DR (some x)]) (stk' := [DI q22, DI (q18 * q20), DI z16.2, DI a1, DR (some x)]) (k1_X5_bo eq22) gb21 rfl hC wd_3_174 wd_3_176 wd_s_20 wd_3_177 wd_1_3 md_X5_bo rfl ⟨rfl, rfl, Nat.le_of_ble_eq_true rfl, Nat.le_of_ble_eq_true rfl, Nat.le_of_ble_eq_true rfl, Nat.le_of_ble_eq_true rfl⟩ dX5_pour_95 rfl (Nat.le_of_ble_eq_true rfl) rfl ?_
                refine r_aload_n (pc := 98) hC dX5_pour_98 rfl 0 rfl ?_
                refine r_iload_n (pc := 99) hC dX5_pour_99 rfl 1 rfl ?_
                refine r_iconst (pc := 100) (v := 0) hC dX5_pour_100 (by decide) ?_
                obtain ⟨b23, gb23, hf⟩ := ob hf
                obtain ⟨q24, eq24, hf⟩ := ob hf
                refine r_callV (pc := 101) (As := [DI a0, DI 0]) (rest := [DI q22, DI (q18 * q20), DI z16.2, DI a1, DR (some x)]) (stk' := [DI q24, DI q22, DI (q18 * q20), DI z16.2, DI a1, DR (some x)]) (k1_X5_bo eq24) gb23 rfl hC wd_3_174 wd_3_176 wd_s_20 wd_3_177 wd_1_3 md_X5_bo rfl ⟨rfl, rfl, Nat.le_of_ble_eq_true rfl, Nat.le_of_ble_eq_true rfl, Nat.le_of_ble_eq_true rfl, Nat.le_of_ble_eq_true rfl⟩ dX5_pour_101 rfl (Nat.le_of_ble_eq_true rfl) rfl ?_
                refine r_imul (pc := 104) hC dX5_pour_104 ?_
                refine r_iadd (pc := 105) hC dX5_pour_105 ?_
                refine r_iload_n (pc := 106) hC dX5_pour_106 rfl 3 rfl ?_
                obtain ⟨v25, ev25, hf⟩ := ob hf
                refine r_idiv (pc := 107) hC dX5_pour_107 ev25 ?_
                obtain ⟨b26, gb26, hf⟩ := ob hf
                obtain ⟨q27, eq27, hf⟩ := ob hf
                refine r_callV (pc := 108) (As := [DI a1, DI z16.2, DI v25]) (rest := []) (stk' := []) (k1_X5_letBowl eq27) gb26 rfl hC wd_3_154 wd_3_156 wd_s_16 wd_3_157 wd_1_3 md_X5_letBowl rfl ⟨rfl, rfl, Nat.le_of_ble_eq_true rfl, Nat.le_of_ble_eq_true rfl, Nat.le_of_ble_eq_true rfl, Nat.le_of_ble_eq_true rfl⟩ dX5_pour_108 rfl (Nat.le_of_ble_eq_true rfl) rfl ?_
                refine r_iinc (pc := 111) (pos := 4) (v := (z16.2 + 1)) (lv' := [(4, DI (z16.2 + 1)), (0, DR (some x)), (1, DI a0), (2, DI a1), (3, DI (q9 + q11))]) hC hN dX5_pour_111 rfl rfl (by decide) rfl ?_
                refine r_goto (pc := 114) (tgt := 66) hC dX5_pour_114 (by decide) ?_
                cases hf
                exact dm_sub [1, 2, 3, 4, 0] rfl hk
            · refine r_aload_n (pc := 117) hC dX5_pour_117 rfl 0 rfl ?_
              refine r_iload_n (pc := 118) hC dX5_pour_118 rfl 2 rfl ?_
              refine r_iconst (pc := 119) (v := 0) hC dX5_pour_119 (by decide) ?_
              refine r_iload_n (pc := 120) hC dX5_pour_120 rfl 3 rfl ?_
              obtain ⟨b29, gb29, hf⟩ := ob hf
              obtain ⟨q30, eq30, hf⟩ := ob hf
              refine r_callV (pc := 121) (As := [DI a1, DI 0, DI (q9 + q11)]) (rest := []) (stk' := []) (k1_X5_letBowl eq30) gb29 rfl hC wd_3_154 wd_3_156 wd_s_16 wd_3_157 wd_1_3 md_X5_letBowl rfl ⟨rfl, rfl, Nat.le_of_ble_eq_true rfl, Nat.le_of_ble_eq_true rfl, Nat.le_of_ble_eq_true rfl, Nat.le_of_ble_eq_true rfl⟩ dX5_pour_121 rfl (Nat.le_of_ble_eq_true rfl) rfl ?_
              refine r_iconst (pc := 124) (v := 0) hC dX5_pour_124 (by decide) ?_
              refine r_istore (pc := 125) (lv' := [(4, DI 0), (0, DR (some x)), (1, DI a0), (2, DI a1), (3, DI (q9 + q11))]) hC hN dX5_pour_125 (by decide) rfl ?_
              obtain ⟨b31, eb31, hf⟩ := ob hf
              refine dm_sub (lv' := [(0, DR (some x)), (1, DI a0), (3, DI (q9 + q11)), (4, DI 0)]) [1, 2, 4, 0] rfl ?_
              refine dlp_W _ (fun (z31 : DSt × Int32) => dm_W Y 0 0 z31.1 127 [(0, DR (some x)), (1, DI a0), (3, DI (q9 + q11)), (4, DI z31.2)] []) (fun (b31 : DSt × Int32) => dm_W Y 0 0 b31.1 148 [(0, DR (some x)), (1, DI a0), (3, DI (q9 + q11)), (4, DI b31.2)] []) ?_ eb31 ?_
              · intro z31 r hf hk
                unfold fX5_pour_L127 at hf
                refine r_iload (pc := 127) hC dX5_pour_127 3 rfl ?_
                refine r_bipush (pc := 129) (v := 6) hC dX5_pour_129 (by decide) ?_
                refine r_icmp_ge (pc := 131) (tgt := 148) hC dX5_pour_131 (by decide) (fun c34 => ?_) (fun c34 => ?_)
                · replace hf := oi_t c34 hf
                  cases hf
                  exact dm_sub [0, 1, 2, 3] rfl hk
                · replace hf := oi_f c34 hf
                  refine r_aload_n (pc := 134) hC dX5_pour_134 rfl 0 rfl ?_
                  refine r_iload_n (pc := 135) hC dX5_pour_135 rfl 1 rfl ?_
                  refine r_iload (pc := 136) hC dX5_pour_136 3 rfl ?_
                  refine r_iconst (pc := 138) (v := 0) hC dX5_pour_138 (by decide) ?_
                  obtain ⟨b32, gb32, hf⟩ := ob hf
                  obtain ⟨q33, eq33, hf⟩ := ob hf
                  refine r_callV (pc := 139) (As := [DI a0, DI z31.2, DI 0]) (rest := []) (stk' := []) (k1_X5_letBowl eq33) gb32 rfl hC wd_3_154 wd_3_156 wd_s_16 wd_3_157 wd_1_3 md_X5_letBowl rfl ⟨rfl, rfl, Nat.le_of_ble_eq_true rfl, Nat.le_of_ble_eq_true rfl, Nat.le_of_ble_eq_true rfl, Nat.le_of_ble_eq_true rfl⟩ dX5_pour_139 rfl (Nat.le_of_ble_eq_true rfl) rfl ?_
                  refine r_iinc (pc := 142) (pos := 3) (v := (z31.2 + 1)) (lv' := [(4, DI (z31.2 + 1)), (0, DR (some x)), (1, DI a0), (3, DI (q9 + q11))]) hC hN dX5_pour_142 rfl rfl (by decide) rfl ?_
                  refine r_goto (pc := 145) (tgt := 127) hC dX5_pour_145 (by decide) ?_
                  cases hf
                  exact dm_sub [1, 2, 3, 0] rfl hk
              · refine r_iload_n (pc := 148) hC dX5_pour_148 rfl 2 rfl ?_
                exact r_iret (pc := 149) hE hC (f1xI hf) ⟨Nat.le_of_ble_eq_true rfl, Nat.le_of_ble_eq_true rfl⟩ dX5_pour_149
          · replace hf := oi_f c37 hf
            refine r_aload_n (pc := 57) hC dX5_pour_57 rfl 1 rfl ?_
            refine r_iconst (pc := 58) (v := 2) hC dX5_pour_58 (by decide) ?_
            obtain ⟨b35, gb35, hf⟩ := ob hf
            obtain ⟨q36, eq36, hf⟩ := ob hf
            refine r_callV (pc := 59) (As := [DI 2]) (rest := []) (stk' := [DI q36.1]) (k1_X5_fail eq36) gb35 rfl hC wd_3_150 wd_3_152 wd_s_15 wd_3_153 wd_1_3 md_X5_fail rfl ⟨rfl, rfl, Nat.le_of_ble_eq_true rfl, Nat.le_of_ble_eq_true rfl, Nat.le_of_ble_eq_true rfl, Nat.le_of_ble_eq_true rfl⟩ dX5_pour_59 rfl (Nat.le_of_ble_eq_true rfl) rfl ?_
            exact r_iret (pc := 62) hE hC (f1xI hf) ⟨Nat.le_of_ble_eq_true rfl, Nat.le_of_ble_eq_true rfl⟩ dX5_pour_62
    · replace hf := oi_t c42 hf
      refine r_aload_n (pc := 21) hC dX5_pour_21 rfl 0 rfl ?_
      refine r_iconst (pc := 22) (v := 1) hC dX5_pour_22 (by decide) ?_
      obtain ⟨b40, gb40, hf⟩ := ob hf
      obtain ⟨q41, eq41, hf⟩ := ob hf
      refine r_callV (pc := 23) (As := [DI 1]) (rest := []) (stk' := [DI q41.1]) (k1_X5_fail eq41) gb40 rfl hC wd_3_150 wd_3_152 wd_s_15 wd_3_153 wd_1_3 md_X5_fail rfl ⟨rfl, rfl, Nat.le_of_ble_eq_true rfl, Nat.le_of_ble_eq_true rfl, Nat.le_of_ble_eq_true rfl, Nat.le_of_ble_eq_true rfl⟩ dX5_pour_23 rfl (Nat.le_of_ble_eq_true rfl) rfl ?_
      exact r_iret (pc := 26) hE hC (f1xI hf) ⟨Nat.le_of_ble_eq_true rfl, Nat.le_of_ble_eq_true rfl⟩ dX5_pour_26
abbrev rmK1_X5_put : Room := { frames := 1, cells := 0, slots := 0, locals := 23 }
set_option maxRecDepth 100000 in
set_option maxHeartbeats 4000000 in
theorem k1_X5_put {st : DSt} {x : Nat} {a0 : Int32} {a1 : Int32} {a2 : Int32} {a3 : Int32} {a4 : Int32} {a5 : Int32} {st1 : DSt} (hf : fX5_put st x a0 a1 a2 a3 a4 a5 = some st1) : dm_K1 yX5_put cX5_put 7 none rmK1_X5_put 0 0 [DR (some x), DI a0, DI a1, DI a2, DI a3, DI a4, DI a5] st none st1 := by
  refine dm_k1 (by decide) rfl (Nat.le_of_ble_eq_true rfl) fun Y hC hN hI hE => ?_
  unfold fX5_put at hf
  refine dm_sub (lv' := [(0, DR (some x)), (1, DI a0), (2, DI a1), (3, DI a2), (4, DI a3), (5, DI a4), (6, DI a5)]) ([0, 1, 2, 3, 4, 5, 6]) rfl ?_
  refine r_aload_n (pc := 0) hC dX5_put_0 rfl 0 rfl ?_
  refine r_iload_n (pc := 1) hC dX5_put_1 rfl 1 rfl ?_
  refine r_iconst (pc := 2) (v := 0) hC dX5_put_2 (by decide) ?_
  refine r_iload_n (pc := 3) hC dX5_put_3 rfl 2 rfl ?_
  obtain ⟨b1, gb1, hf⟩ := ob hf
  obtain ⟨q2, eq2, hf⟩ := ob hf
  refine r_callV (pc := 4) (As := [DI a0, DI 0, DI a1]) (rest := []) (stk' := []) (k1_X5_letSlab eq2) gb1 rfl hC wd_3_215 wd_3_217 wd_s_23 wd_3_218 wd_1_3 md_X5_letSlab rfl ⟨rfl, rfl, Nat.le_of_ble_eq_true rfl, Nat.le_of_ble_eq_true rfl, Nat.le_of_ble_eq_true rfl, Nat.le_of_ble_eq_true rfl⟩ dX5_put_4 rfl (Nat.le_of_ble_eq_true rfl) rfl ?_
  refine r_aload_n (pc := 7) hC dX5_put_7 rfl 0 rfl ?_
  refine r_iload_n (pc := 8) hC dX5_put_8 rfl 1 rfl ?_
  refine r_iconst (pc := 9) (v := 1) hC dX5_put_9 (by decide) ?_
  refine r_iload_n (pc := 10) hC dX5_put_10 rfl 3 rfl ?_
  obtain ⟨b3, gb3, hf⟩ := ob hf
  obtain ⟨q4, eq4, hf⟩ := ob hf
  refine r_callV (pc := 11) (As := [DI a0, DI 1, DI a2]) (rest := []) (stk' := []) (k1_X5_letSlab eq4) gb3 rfl hC wd_3_215 wd_3_217 wd_s_23 wd_3_218 wd_1_3 md_X5_letSlab rfl ⟨rfl, rfl, Nat.le_of_ble_eq_true rfl, Nat.le_of_ble_eq_true rfl, Nat.le_of_ble_eq_true rfl, Nat.le_of_ble_eq_true rfl⟩ dX5_put_11 rfl (Nat.le_of_ble_eq_true rfl) rfl ?_
  refine r_aload_n (pc := 14) hC dX5_put_14 rfl 0 rfl ?_
  refine r_iload_n (pc := 15) hC dX5_put_15 rfl 1 rfl ?_
  refine r_iconst (pc := 16) (v := 2) hC dX5_put_16 (by decide) ?_
  refine r_iload (pc := 17) hC dX5_put_17 4 rfl ?_
  obtain ⟨b5, gb5, hf⟩ := ob hf
  obtain ⟨q6, eq6, hf⟩ := ob hf
  refine r_callV (pc := 19) (As := [DI a0, DI 2, DI a3]) (rest := []) (stk' := []) (k1_X5_letSlab eq6) gb5 rfl hC wd_3_215 wd_3_217 wd_s_23 wd_3_218 wd_1_3 md_X5_letSlab rfl ⟨rfl, rfl, Nat.le_of_ble_eq_true rfl, Nat.le_of_ble_eq_true rfl, Nat.le_of_ble_eq_true rfl, Nat.le_of_ble_eq_true rfl⟩ dX5_put_19 rfl (Nat.le_of_ble_eq_true rfl) rfl ?_
  refine r_aload_n (pc := 22) hC dX5_put_22 rfl 0 rfl ?_
  refine r_iload_n (pc := 23) hC dX5_put_23 rfl 1 rfl ?_
  refine r_iconst (pc := 24) (v := 3) hC dX5_put_24 (by decide) ?_
  refine r_iload (pc := 25) hC dX5_put_25 5 rfl ?_
  obtain ⟨b7, gb7, hf⟩ := ob hf
  obtain ⟨q8, eq8, hf⟩ := ob hf
  refine r_callV (pc := 27) (As := [DI a0, DI 3, DI a4]) (rest := []) (stk' := []) (k1_X5_letSlab eq8) gb7 rfl hC wd_3_215 wd_3_217 wd_s_23 wd_3_218 wd_1_3 md_X5_letSlab rfl ⟨rfl, rfl, Nat.le_of_ble_eq_true rfl, Nat.le_of_ble_eq_true rfl, Nat.le_of_ble_eq_true rfl, Nat.le_of_ble_eq_true rfl⟩ dX5_put_27 rfl (Nat.le_of_ble_eq_true rfl) rfl ?_
  refine r_aload_n (pc := 30) hC dX5_put_30 rfl 0 rfl ?_
  refine r_iload_n (pc := 31) hC dX5_put_31 rfl 1 rfl ?_
  refine r_iconst (pc := 32) (v := 4) hC dX5_put_32 (by decide) ?_
  refine r_iload (pc := 33) hC dX5_put_33 6 rfl ?_
  obtain ⟨b9, gb9, hf⟩ := ob hf
  obtain ⟨q10, eq10, hf⟩ := ob hf
  refine r_callV (pc := 35) (As := [DI a0, DI 4, DI a5]) (rest := []) (stk' := []) (k1_X5_letSlab eq10) gb9 rfl hC wd_3_215 wd_3_217 wd_s_23 wd_3_218 wd_1_3 md_X5_letSlab rfl ⟨rfl, rfl, Nat.le_of_ble_eq_true rfl, Nat.le_of_ble_eq_true rfl, Nat.le_of_ble_eq_true rfl, Nat.le_of_ble_eq_true rfl⟩ dX5_put_35 rfl (Nat.le_of_ble_eq_true rfl) rfl ?_
  exact r_vret (pc := 38) hE hC (f1xV hf) ⟨Nat.le_of_ble_eq_true rfl, Nat.le_of_ble_eq_true rfl⟩ dX5_put_38
abbrev rmK1_X5_squares : Room := { frames := 1, cells := 0, slots := 0, locals := 22 }
set_option maxRecDepth 100000 in
set_option maxHeartbeats 4000000 in
theorem k1_X5_squares {st : DSt} {x : Nat} {a0 : Int32} {v : Int32} (hf : fX5_squares st x a0 = some v) : dm_K1 yX5_squares cX5_squares 2 (some .int) rmK1_X5_squares 0 0 [DR (some x), DI a0] st (some (DI v)) st := by
  refine dm_k1 (by decide) rfl (Nat.le_of_ble_eq_true rfl) fun Y hC hN hI hE => ?_
  unfold fX5_squares at hf
  refine dm_sub (lv' := [(0, DR (some x)), (1, DI a0)]) ([0, 1]) rfl ?_
  refine r_aload_n (pc := 0) hC dX5_squares_0 rfl 0 rfl ?_
  refine r_iload_n (pc := 1) hC dX5_squares_1 rfl 1 rfl ?_
  refine r_iconst (pc := 2) (v := 0) hC dX5_squares_2 (by decide) ?_
  obtain ⟨b1, gb1, hf⟩ := ob hf
  obtain ⟨q2, eq2, hf⟩ := ob hf
  refine r_callV (pc := 3) (As := [DI a0, DI 0]) (rest := []) (stk' := [DI q2]) (k1_X5_sl eq2) gb1 rfl hC wd_3_227 wd_3_229 wd_s_25 wd_3_230 wd_1_3 md_X5_sl rfl ⟨rfl, rfl, Nat.le_of_ble_eq_true rfl, Nat.le_of_ble_eq_true rfl, Nat.le_of_ble_eq_true rfl, Nat.le_of_ble_eq_true rfl⟩ dX5_squares_3 rfl (Nat.le_of_ble_eq_true rfl) rfl ?_
  refine r_aload_n (pc := 6) hC dX5_squares_6 rfl 0 rfl ?_
  refine r_iload_n (pc := 7) hC dX5_squares_7 rfl 1 rfl ?_
  refine r_iconst (pc := 8) (v := 1) hC dX5_squares_8 (by decide) ?_
  obtain ⟨b3, gb3, hf⟩ := ob hf
  obtain ⟨q4, eq4, hf⟩ := ob hf
  refine r_callV (pc := 9) (As := [DI a0, DI 1]) (rest := [DI q2]) (stk' := [DI q4, DI q2]) (k1_X5_sl eq4) gb3 rfl hC wd_3_227 wd_3_229 wd_s_25 wd_3_230 wd_1_3 md_X5_sl rfl ⟨rfl, rfl, Nat.le_of_ble_eq_true rfl, Nat.le_of_ble_eq_true rfl, Nat.le_of_ble_eq_true rfl, Nat.le_of_ble_eq_true rfl⟩ dX5_squares_9 rfl (Nat.le_of_ble_eq_true rfl) rfl ?_
  refine r_imul (pc := 12) hC dX5_squares_12 ?_
  exact r_iret (pc := 13) hE hC (f1pI hf) ⟨Nat.le_of_ble_eq_true rfl, Nat.le_of_ble_eq_true rfl⟩ dX5_squares_13
abbrev rmK1_X5_away : Room := { frames := 1, cells := 0, slots := 0, locals := 51 }
set_option maxRecDepth 100000 in
set_option maxHeartbeats 4000000 in
theorem k1_X5_away {st : DSt} {x : Nat} {a0 : Int32} {st1 : DSt} (hf : fX5_away st x a0 = some st1) : dm_K1 yX5_away cX5_away 2 none rmK1_X5_away 0 0 [DR (some x), DI a0] st none st1 := by
  refine dm_k1 (by decide) rfl (Nat.le_of_ble_eq_true rfl) fun Y hC hN hI hE => ?_
  unfold fX5_away at hf
  refine dm_sub (lv' := [(0, DR (some x)), (1, DI a0)]) ([0, 1]) rfl ?_
  refine r_aload_n (pc := 0) hC dX5_away_0 rfl 0 rfl ?_
  refine r_dup (pc := 1) hC dX5_away_1 rfl ?_
  obtain ⟨v1, ev1, hf⟩ := ob hf
  refine r_getI (pc := 2) CF5 (k := 3) hC (by decide) wd_3_105 dX5_away_2 ev1 ?_
  refine r_iconst (pc := 5) (v := 1) hC dX5_away_5 (by decide) ?_
  refine r_isub (pc := 6) hC dX5_away_6 ?_
  obtain ⟨s2, es2, hf⟩ := ob hf
  refine r_put (pc := 7) CF5 (k := 3) hC (by decide) wd_3_105 rfl ⟨rfl, rfl⟩ dX5_away_7 es2 ?_
  refine r_aload_n (pc := 10) hC dX5_away_10 rfl 0 rfl ?_
  obtain ⟨v3, ev3, hf⟩ := ob hf
  refine r_getR (pc := 11) CF5 (k := 6) hC (by decide) wd_3_108 dX5_away_11 ev3 ?_
  refine r_iconst (pc := 14) (v := 5) hC dX5_away_14 (by decide) ?_
  refine r_iload_n (pc := 15) hC dX5_away_15 rfl 1 rfl ?_
  refine r_iconst (pc := 16) (v := 1) hC dX5_away_16 (by decide) ?_
  refine r_iadd (pc := 17) hC dX5_away_17 ?_
  refine r_imul (pc := 18) hC dX5_away_18 ?_
  refine r_aload_n (pc := 19) hC dX5_away_19 rfl 0 rfl ?_
  obtain ⟨v4, ev4, hf⟩ := ob hf
  refine r_getR (pc := 20) CF5 (k := 6) hC (by decide) wd_3_108 dX5_away_20 ev4 ?_
  refine r_iconst (pc := 23) (v := 5) hC dX5_away_23 (by decide) ?_
  refine r_iload_n (pc := 24) hC dX5_away_24 rfl 1 rfl ?_
  refine r_imul (pc := 25) hC dX5_away_25 ?_
  refine r_iconst (pc := 26) (v := 5) hC dX5_away_26 (by decide) ?_
  refine r_aload_n (pc := 27) hC dX5_away_27 rfl 0 rfl ?_
  obtain ⟨v5, ev5, hf⟩ := ob hf
  refine r_getI (pc := 28) CF5 (k := 3) hC (by decide) wd_3_105 dX5_away_28 ev5 ?_
  refine r_iload_n (pc := 31) hC dX5_away_31 rfl 1 rfl ?_
  refine r_isub (pc := 32) hC dX5_away_32 ?_
  refine r_imul (pc := 33) hC dX5_away_33 ?_
  obtain ⟨s6, es6, hf⟩ := ob hf
  refine r_copy (pc := 34) hC wd_3_235 wd_3_237 wd_3_236 wd_1_13 dX5_away_34 ⟨Nat.le_of_ble_eq_true rfl, Nat.le_of_ble_eq_true rfl⟩ es6 ?_
  exact r_vret (pc := 37) hE hC (f1xV hf) ⟨Nat.le_of_ble_eq_true rfl, Nat.le_of_ble_eq_true rfl⟩ dX5_away_37
abbrev rmK1_X5_cast : Room := { frames := 3, cells := 0, slots := 0, locals := 65 }
set_option maxRecDepth 100000 in
set_option maxHeartbeats 4000000 in
theorem k1_X5_cast {st : DSt} {x : Nat} {a0 : Int32} {a1 : Int32} {a2 : Int32} {v : Int32} {st1 : DSt} (hf : fX5_cast st x a0 a1 a2 = some (v, st1)) : dm_K1 yX5_cast cX5_cast 4 (some .int) rmK1_X5_cast 0 0 [DR (some x), DI a0, DI a1, DI a2] st (some (DI v)) st1 := by
  refine dm_k1 (by decide) rfl (Nat.le_of_ble_eq_true rfl) fun Y hC hN hI hE => ?_
  unfold fX5_cast at hf
  refine dm_sub (lv' := [(0, DR (some x)), (1, DI a0), (2, DI a1), (3, DI a2)]) ([0, 1, 2, 3]) rfl ?_
  refine r_aload_n (pc := 0) hC dX5_cast_0 rfl 0 rfl ?_
  refine r_iconst (pc := 1) (v := 0) hC dX5_cast_1 (by decide) ?_
  obtain ⟨s1, es1, hf⟩ := ob hf
  refine r_put (pc := 2) CF5 (k := 0) hC (by decide) wd_3_102 rfl ⟨rfl, rfl⟩ dX5_cast_2 es1 ?_
  refine r_aload_n (pc := 5) hC dX5_cast_5 rfl 0 rfl ?_
  refine r_iload_n (pc := 6) hC dX5_cast_6 rfl 1 rfl ?_
  obtain ⟨b2, gb2, hf⟩ := ob hf
  obtain ⟨q3, eq3, hf⟩ := ob hf
  refine r_callV (pc := 7) (As := [DI a0]) (rest := []) (stk' := [DI q3]) (k1_X5_isBowl eq3) gb2 rfl hC wd_3_162 wd_3_164 wd_s_17 wd_3_165 wd_1_3 md_X5_isBowl rfl ⟨rfl, rfl, Nat.le_of_ble_eq_true rfl, Nat.le_of_ble_eq_true rfl, Nat.le_of_ble_eq_true rfl, Nat.le_of_ble_eq_true rfl⟩ dX5_cast_7 rfl (Nat.le_of_ble_eq_true rfl) rfl ?_
  refine r_if_ne (pc := 10) (tgt := 19) hC dX5_cast_10 (by decide) (fun c35 => ?_) (fun c35 => ?_)
  · replace hf := oi_f c35 hf
    refine r_iload_n (pc := 19) hC dX5_cast_19 rfl 2 rfl ?_
    refine r_iconst (pc := 20) (v := 1) hC dX5_cast_20 (by decide) ?_
    refine r_bipush (pc := 21) (v := 6) hC dX5_cast_21 (by decide) ?_
    obtain ⟨q4, eq4, hf⟩ := ob hf
    refine r_callS (pc := 23) (As := [DI a1, DI 1, DI 6]) (rest := []) (stk' := [DI q4]) (k1_X5_isIn eq4) hC wd_3_147 wd_3_148 wd_3_149 wd_1_3 md_X5_isIn rfl ⟨rfl, rfl, Nat.le_of_ble_eq_true rfl, Nat.le_of_ble_eq_true rfl, Nat.le_of_ble_eq_true rfl, Nat.le_of_ble_eq_true rfl⟩ dX5_cast_23 rfl (Nat.le_of_ble_eq_true rfl) rfl ?_
    refine r_if_eq (pc := 26) (tgt := 39) hC dX5_cast_26 (by decide) (fun c32 => ?_) (fun c32 => ?_)
    · replace hf := oi_t c32 hf
      refine r_aload_n (pc := 39) hC dX5_cast_39 rfl 0 rfl ?_
      refine r_iconst (pc := 40) (v := 2) hC dX5_cast_40 (by decide) ?_
      obtain ⟨b5, gb5, hf⟩ := ob hf
      obtain ⟨q6, eq6, hf⟩ := ob hf
      refine r_callV (pc := 41) (As := [DI 2]) (rest := []) (stk' := [DI q6.1]) (k1_X5_fail eq6) gb5 rfl hC wd_3_150 wd_3_152 wd_s_15 wd_3_153 wd_1_3 md_X5_fail rfl ⟨rfl, rfl, Nat.le_of_ble_eq_true rfl, Nat.le_of_ble_eq_true rfl, Nat.le_of_ble_eq_true rfl, Nat.le_of_ble_eq_true rfl⟩ dX5_cast_41 rfl (Nat.le_of_ble_eq_true rfl) rfl ?_
      exact r_iret (pc := 44) hE hC (f1xI hf) ⟨Nat.le_of_ble_eq_true rfl, Nat.le_of_ble_eq_true rfl⟩ dX5_cast_44
    · replace hf := oi_f c32 hf
      refine r_iload_n (pc := 29) hC dX5_cast_29 rfl 3 rfl ?_
      refine r_iconst (pc := 30) (v := 1) hC dX5_cast_30 (by decide) ?_
      refine r_bipush (pc := 31) (v := 6) hC dX5_cast_31 (by decide) ?_
      obtain ⟨q7, eq7, hf⟩ := ob hf
      refine r_callS (pc := 33) (As := [DI a2, DI 1, DI 6]) (rest := []) (stk' := [DI q7]) (k1_X5_isIn eq7) hC wd_3_147 wd_3_148 wd_3_149 wd_1_3 md_X5_isIn rfl ⟨rfl, rfl, Nat.le_of_ble_eq_true rfl, Nat.le_of_ble_eq_true rfl, Nat.le_of_ble_eq_true rfl, Nat.le_of_ble_eq_true rfl⟩ dX5_cast_33 rfl (Nat.le_of_ble_eq_true rfl) rfl ?_
      refine r_if_ne (pc := 36) (tgt := 45) hC dX5_cast_36 (by decide) (fun c31 => ?_) (fun c31 => ?_)
      · replace hf := oi_f c31 hf
        refine r_aload_n (pc := 45) hC dX5_cast_45 rfl 0 rfl ?_
        obtain ⟨v8, ev8, hf⟩ := ob hf
        refine r_getI (pc := 46) CF5 (k := 3) hC (by decide) wd_3_105 dX5_cast_46 ev8 ?_
        refine r_bipush (pc := 49) (v := 8) hC dX5_cast_49 (by decide) ?_
        refine r_icmp_eq (pc := 51) (tgt := 69) hC dX5_cast_51 (by decide) (fun c28 => ?_) (fun c28 => ?_)
        · replace hf := oi_t c28 hf
          refine r_aload_n (pc := 69) hC dX5_cast_69 rfl 0 rfl ?_
          refine r_iconst (pc := 70) (v := 3) hC dX5_cast_70 (by decide) ?_
          obtain ⟨b9, gb9, hf⟩ := ob hf
          obtain ⟨q10, eq10, hf⟩ := ob hf
          refine r_callV (pc := 71) (As := [DI 3]) (rest := []) (stk' := [DI q10.1]) (k1_X5_fail eq10) gb9 rfl hC wd_3_150 wd_3_152 wd_s_15 wd_3_153 wd_1_3 md_X5_fail rfl ⟨rfl, rfl, Nat.le_of_ble_eq_true rfl, Nat.le_of_ble_eq_true rfl, Nat.le_of_ble_eq_true rfl, Nat.le_of_ble_eq_true rfl⟩ dX5_cast_71 rfl (Nat.le_of_ble_eq_true rfl) rfl ?_
          exact r_iret (pc := 74) hE hC (f1xI hf) ⟨Nat.le_of_ble_eq_true rfl, Nat.le_of_ble_eq_true rfl⟩ dX5_cast_74
        · replace hf := oi_f c28 hf
          refine r_aload_n (pc := 54) hC dX5_cast_54 rfl 0 rfl ?_
          refine r_iload_n (pc := 55) hC dX5_cast_55 rfl 1 rfl ?_
          refine r_iconst (pc := 56) (v := 0) hC dX5_cast_56 (by decide) ?_
          obtain ⟨b11, gb11, hf⟩ := ob hf
          obtain ⟨q12, eq12, hf⟩ := ob hf
          refine r_callV (pc := 57) (As := [DI a0, DI 0]) (rest := []) (stk' := [DI q12]) (k1_X5_bo eq12) gb11 rfl hC wd_3_174 wd_3_176 wd_s_20 wd_3_177 wd_1_3 md_X5_bo rfl ⟨rfl, rfl, Nat.le_of_ble_eq_true rfl, Nat.le_of_ble_eq_true rfl, Nat.le_of_ble_eq_true rfl, Nat.le_of_ble_eq_true rfl⟩ dX5_cast_57 rfl (Nat.le_of_ble_eq_true rfl) rfl ?_
          refine r_bipush (pc := 60) (v := 10) hC dX5_cast_60 (by decide) ?_
          refine r_iload_n (pc := 62) hC dX5_cast_62 rfl 2 rfl ?_
          refine r_imul (pc := 63) hC dX5_cast_63 ?_
          refine r_iload_n (pc := 64) hC dX5_cast_64 rfl 3 rfl ?_
          refine r_imul (pc := 65) hC dX5_cast_65 ?_
          refine r_icmp_ge (pc := 66) (tgt := 75) hC dX5_cast_66 (by decide) (fun c27 => ?_) (fun c27 => ?_)
          · replace hf := oi_t c27 hf
            refine r_aload_n (pc := 75) hC dX5_cast_75 rfl 0 rfl ?_
            refine r_iload_n (pc := 76) hC dX5_cast_76 rfl 1 rfl ?_
            refine r_iconst (pc := 77) (v := 0) hC dX5_cast_77 (by decide) ?_
            refine r_aload_n (pc := 78) hC dX5_cast_78 rfl 0 rfl ?_
            refine r_iload_n (pc := 79) hC dX5_cast_79 rfl 1 rfl ?_
            refine r_iconst (pc := 80) (v := 0) hC dX5_cast_80 (by decide) ?_
            obtain ⟨b13, gb13, hf⟩ := ob hf
            obtain ⟨q14, eq14, hf⟩ := ob hf
            refine r_callV (pc := 81) (As := [DI a0, DI 0]) (rest := [DI 0, DI a0, DR (some x)]) (stk' := [DI q14, DI 0, DI a0, DR (some x)]) (k1_X5_bo eq14) gb13 rfl hC wd_3_174 wd_3_176 wd_s_20 wd_3_177 wd_1_3 md_X5_bo rfl ⟨rfl, rfl, Nat.le_of_ble_eq_true rfl, Nat.le_of_ble_eq_true rfl, Nat.le_of_ble_eq_true rfl, Nat.le_of_ble_eq_true rfl⟩ dX5_cast_81 rfl (Nat.le_of_ble_eq_true rfl) rfl ?_
            refine r_bipush (pc := 84) (v := 10) hC dX5_cast_84 (by decide) ?_
            refine r_iload_n (pc := 86) hC dX5_cast_86 rfl 2 rfl ?_
            refine r_imul (pc := 87) hC dX5_cast_87 ?_
            refine r_iload_n (pc := 88) hC dX5_cast_88 rfl 3 rfl ?_
            refine r_imul (pc := 89) hC dX5_cast_89 ?_
            refine r_isub (pc := 90) hC dX5_cast_90 ?_
            obtain ⟨b15, gb15, hf⟩ := ob hf
            obtain ⟨q16, eq16, hf⟩ := ob hf
            refine r_callV (pc := 91) (As := [DI a0, DI 0, DI (q14 - ((10 * a1) * a2))]) (rest := []) (stk' := []) (k1_X5_letBowl eq16) gb15 rfl hC wd_3_154 wd_3_156 wd_s_16 wd_3_157 wd_1_3 md_X5_letBowl rfl ⟨rfl, rfl, Nat.le_of_ble_eq_true rfl, Nat.le_of_ble_eq_true rfl, Nat.le_of_ble_eq_true rfl, Nat.le_of_ble_eq_true rfl⟩ dX5_cast_91 rfl (Nat.le_of_ble_eq_true rfl) rfl ?_
            refine r_aload_n (pc := 94) hC dX5_cast_94 rfl 0 rfl ?_
            refine r_aload_n (pc := 95) hC dX5_cast_95 rfl 0 rfl ?_
            obtain ⟨v17, ev17, hf⟩ := ob hf
            refine r_getI (pc := 96) CF5 (k := 3) hC (by decide) wd_3_105 dX5_cast_96 ev17 ?_
            refine r_iload_n (pc := 99) hC dX5_cast_99 rfl 2 rfl ?_
            refine r_iload_n (pc := 100) hC dX5_cast_100 rfl 3 rfl ?_
            refine r_aload_n (pc := 101) hC dX5_cast_101 rfl 0 rfl ?_
            refine r_iload_n (pc := 102) hC dX5_cast_102 rfl 1 rfl ?_
            obtain ⟨b18, gb18, hf⟩ := ob hf
            obtain ⟨q19, eq19, hf⟩ := ob hf
            refine r_callV (pc := 103) (As := [DI a0]) (rest := [DI a2, DI a1, DI v17, DR (some x)]) (stk' := [DI q19.1, DI a2, DI a1, DI v17, DR (some x)]) (k1_X5_temperOf eq19) gb18 rfl hC wd_3_207 wd_3_209 wd_s_21 wd_3_210 wd_1_3 md_X5_temperOf rfl ⟨rfl, rfl, Nat.le_of_ble_eq_true rfl, Nat.le_of_ble_eq_true rfl, Nat.le_of_ble_eq_true rfl, Nat.le_of_ble_eq_true rfl⟩ dX5_cast_103 rfl (Nat.le_of_ble_eq_true rfl) rfl ?_
            refine r_iconst (pc := 106) (v := 0) hC dX5_cast_106 (by decide) ?_
            refine r_iconst (pc := 107) (v := 0) hC dX5_cast_107 (by decide) ?_
            obtain ⟨b20, gb20, hf⟩ := ob hf
            obtain ⟨q21, eq21, hf⟩ := ob hf
            refine r_callV (pc := 108) (As := [DI v17, DI a1, DI a2, DI q19.1, DI 0, DI 0]) (rest := []) (stk' := []) (k1_X5_put eq21) gb20 rfl hC wd_3_211 wd_3_213 wd_s_22 wd_3_214 wd_1_3 md_X5_put rfl ⟨rfl, rfl, Nat.le_of_ble_eq_true rfl, Nat.le_of_ble_eq_true rfl, Nat.le_of_ble_eq_true rfl, Nat.le_of_ble_eq_true rfl⟩ dX5_cast_108 rfl (Nat.le_of_ble_eq_true rfl) rfl ?_
            refine r_aload_n (pc := 111) hC dX5_cast_111 rfl 0 rfl ?_
            refine r_dup (pc := 112) hC dX5_cast_112 rfl ?_
            obtain ⟨v22, ev22, hf⟩ := ob hf
            refine r_getI (pc := 113) CF5 (k := 3) hC (by decide) wd_3_105 dX5_cast_113 ev22 ?_
            refine r_iconst (pc := 116) (v := 1) hC dX5_cast_116 (by decide) ?_
            refine r_iadd (pc := 117) hC dX5_cast_117 ?_
            obtain ⟨s23, es23, hf⟩ := ob hf
            refine r_put (pc := 118) CF5 (k := 3) hC (by decide) wd_3_105 rfl ⟨rfl, rfl⟩ dX5_cast_118 es23 ?_
            refine r_aload_n (pc := 121) hC dX5_cast_121 rfl 0 rfl ?_
            obtain ⟨v24, ev24, hf⟩ := ob hf
            refine r_getI (pc := 122) CF5 (k := 3) hC (by decide) wd_3_105 dX5_cast_122 ev24 ?_
            refine r_iconst (pc := 125) (v := 1) hC dX5_cast_125 (by decide) ?_
            refine r_isub (pc := 126) hC dX5_cast_126 ?_
            exact r_iret (pc := 127) hE hC (f1xI hf) ⟨Nat.le_of_ble_eq_true rfl, Nat.le_of_ble_eq_true rfl⟩ dX5_cast_127
          · replace hf := oi_f c27 hf
            refine r_aload_n (pc := 69) hC dX5_cast_69 rfl 0 rfl ?_
            refine r_iconst (pc := 70) (v := 3) hC dX5_cast_70 (by decide) ?_
            obtain ⟨b25, gb25, hf⟩ := ob hf
            obtain ⟨q26, eq26, hf⟩ := ob hf
            refine r_callV (pc := 71) (As := [DI 3]) (rest := []) (stk' := [DI q26.1]) (k1_X5_fail eq26) gb25 rfl hC wd_3_150 wd_3_152 wd_s_15 wd_3_153 wd_1_3 md_X5_fail rfl ⟨rfl, rfl, Nat.le_of_ble_eq_true rfl, Nat.le_of_ble_eq_true rfl, Nat.le_of_ble_eq_true rfl, Nat.le_of_ble_eq_true rfl⟩ dX5_cast_71 rfl (Nat.le_of_ble_eq_true rfl) rfl ?_
            exact r_iret (pc := 74) hE hC (f1xI hf) ⟨Nat.le_of_ble_eq_true rfl, Nat.le_of_ble_eq_true rfl⟩ dX5_cast_74
      · replace hf := oi_t c31 hf
        refine r_aload_n (pc := 39) hC dX5_cast_39 rfl 0 rfl ?_
        refine r_iconst (pc := 40) (v := 2) hC dX5_cast_40 (by decide) ?_
        obtain ⟨b29, gb29, hf⟩ := ob hf
        obtain ⟨q30, eq30, hf⟩ := ob hf
        refine r_callV (pc := 41) (As := [DI 2]) (rest := []) (stk' := [DI q30.1]) (k1_X5_fail eq30) gb29 rfl hC wd_3_150 wd_3_152 wd_s_15 wd_3_153 wd_1_3 md_X5_fail rfl ⟨rfl, rfl, Nat.le_of_ble_eq_true rfl, Nat.le_of_ble_eq_true rfl, Nat.le_of_ble_eq_true rfl, Nat.le_of_ble_eq_true rfl⟩ dX5_cast_41 rfl (Nat.le_of_ble_eq_true rfl) rfl ?_
        exact r_iret (pc := 44) hE hC (f1xI hf) ⟨Nat.le_of_ble_eq_true rfl, Nat.le_of_ble_eq_true rfl⟩ dX5_cast_44
  · replace hf := oi_t c35 hf
    refine r_aload_n (pc := 13) hC dX5_cast_13 rfl 0 rfl ?_
    refine r_iconst (pc := 14) (v := 1) hC dX5_cast_14 (by decide) ?_
    obtain ⟨b33, gb33, hf⟩ := ob hf
    obtain ⟨q34, eq34, hf⟩ := ob hf
    refine r_callV (pc := 15) (As := [DI 1]) (rest := []) (stk' := [DI q34.1]) (k1_X5_fail eq34) gb33 rfl hC wd_3_150 wd_3_152 wd_s_15 wd_3_153 wd_1_3 md_X5_fail rfl ⟨rfl, rfl, Nat.le_of_ble_eq_true rfl, Nat.le_of_ble_eq_true rfl, Nat.le_of_ble_eq_true rfl, Nat.le_of_ble_eq_true rfl⟩ dX5_cast_15 rfl (Nat.le_of_ble_eq_true rfl) rfl ?_
    exact r_iret (pc := 18) hE hC (f1xI hf) ⟨Nat.le_of_ble_eq_true rfl, Nat.le_of_ble_eq_true rfl⟩ dX5_cast_18
abbrev rmK1_X5_polish : Room := { frames := 2, cells := 0, slots := 0, locals := 43 }
set_option maxRecDepth 100000 in
set_option maxHeartbeats 4000000 in
theorem k1_X5_polish {st : DSt} {x : Nat} {a0 : Int32} {v : Int32} {st1 : DSt} (hf : fX5_polish st x a0 = some (v, st1)) : dm_K1 yX5_polish cX5_polish 2 (some .int) rmK1_X5_polish 0 0 [DR (some x), DI a0] st (some (DI v)) st1 := by
  refine dm_k1 (by decide) rfl (Nat.le_of_ble_eq_true rfl) fun Y hC hN hI hE => ?_
  unfold fX5_polish at hf
  refine dm_sub (lv' := [(0, DR (some x)), (1, DI a0)]) ([0, 1]) rfl ?_
  refine r_aload_n (pc := 0) hC dX5_polish_0 rfl 0 rfl ?_
  refine r_iconst (pc := 1) (v := 0) hC dX5_polish_1 (by decide) ?_
  obtain ⟨s1, es1, hf⟩ := ob hf
  refine r_put (pc := 2) CF5 (k := 0) hC (by decide) wd_3_102 rfl ⟨rfl, rfl⟩ dX5_polish_2 es1 ?_
  refine r_aload_n (pc := 5) hC dX5_polish_5 rfl 0 rfl ?_
  refine r_iload_n (pc := 6) hC dX5_polish_6 rfl 1 rfl ?_
  obtain ⟨b2, gb2, hf⟩ := ob hf
  obtain ⟨q3, eq3, hf⟩ := ob hf
  refine r_callV (pc := 7) (As := [DI a0]) (rest := []) (stk' := [DI q3]) (k1_X5_isSlab eq3) gb2 rfl hC wd_3_223 wd_3_225 wd_s_24 wd_3_226 wd_1_3 md_X5_isSlab rfl ⟨rfl, rfl, Nat.le_of_ble_eq_true rfl, Nat.le_of_ble_eq_true rfl, Nat.le_of_ble_eq_true rfl, Nat.le_of_ble_eq_true rfl⟩ dX5_polish_7 rfl (Nat.le_of_ble_eq_true rfl) rfl ?_
  refine r_if_ne (pc := 10) (tgt := 19) hC dX5_polish_10 (by decide) (fun c12 => ?_) (fun c12 => ?_)
  · replace hf := oi_f c12 hf
    refine r_aload_n (pc := 19) hC dX5_polish_19 rfl 0 rfl ?_
    refine r_iload_n (pc := 20) hC dX5_polish_20 rfl 1 rfl ?_
    refine r_iconst (pc := 21) (v := 3) hC dX5_polish_21 (by decide) ?_
    refine r_iconst (pc := 22) (v := 0) hC dX5_polish_22 (by decide) ?_
    refine r_aload_n (pc := 23) hC dX5_polish_23 rfl 0 rfl ?_
    refine r_iload_n (pc := 24) hC dX5_polish_24 rfl 1 rfl ?_
    refine r_iconst (pc := 25) (v := 3) hC dX5_polish_25 (by decide) ?_
    obtain ⟨b4, gb4, hf⟩ := ob hf
    obtain ⟨q5, eq5, hf⟩ := ob hf
    refine r_callV (pc := 26) (As := [DI a0, DI 3]) (rest := [DI 0, DI 3, DI a0, DR (some x)]) (stk' := [DI q5, DI 0, DI 3, DI a0, DR (some x)]) (k1_X5_sl eq5) gb4 rfl hC wd_3_227 wd_3_229 wd_s_25 wd_3_230 wd_1_3 md_X5_sl rfl ⟨rfl, rfl, Nat.le_of_ble_eq_true rfl, Nat.le_of_ble_eq_true rfl, Nat.le_of_ble_eq_true rfl, Nat.le_of_ble_eq_true rfl⟩ dX5_polish_26 rfl (Nat.le_of_ble_eq_true rfl) rfl ?_
    refine r_bipush (pc := 29) (v := 15) hC dX5_polish_29 (by decide) ?_
    refine r_isub (pc := 31) hC dX5_polish_31 ?_
    refine r_max (pc := 32) hC wd_3_194 wd_1_94 wd_1_11 (wd_1_95) dX5_polish_32 ⟨Nat.le_of_ble_eq_true rfl, Nat.le_of_ble_eq_true rfl, Nat.le_of_ble_eq_true rfl, Nat.le_of_ble_eq_true rfl⟩ ?_
    obtain ⟨b6, gb6, hf⟩ := ob hf
    obtain ⟨q7, eq7, hf⟩ := ob hf
    refine r_callV (pc := 35) (As := [DI a0, DI 3, DI (jmax 0 (q5 - 15))]) (rest := []) (stk' := []) (k1_X5_letSlab eq7) gb6 rfl hC wd_3_215 wd_3_217 wd_s_23 wd_3_218 wd_1_3 md_X5_letSlab rfl ⟨rfl, rfl, Nat.le_of_ble_eq_true rfl, Nat.le_of_ble_eq_true rfl, Nat.le_of_ble_eq_true rfl, Nat.le_of_ble_eq_true rfl⟩ dX5_polish_35 rfl (Nat.le_of_ble_eq_true rfl) rfl ?_
    refine r_aload_n (pc := 38) hC dX5_polish_38 rfl 0 rfl ?_
    refine r_iload_n (pc := 39) hC dX5_polish_39 rfl 1 rfl ?_
    refine r_iconst (pc := 40) (v := 3) hC dX5_polish_40 (by decide) ?_
    obtain ⟨b8, gb8, hf⟩ := ob hf
    obtain ⟨q9, eq9, hf⟩ := ob hf
    refine r_callV (pc := 41) (As := [DI a0, DI 3]) (rest := []) (stk' := [DI q9]) (k1_X5_sl eq9) gb8 rfl hC wd_3_227 wd_3_229 wd_s_25 wd_3_230 wd_1_3 md_X5_sl rfl ⟨rfl, rfl, Nat.le_of_ble_eq_true rfl, Nat.le_of_ble_eq_true rfl, Nat.le_of_ble_eq_true rfl, Nat.le_of_ble_eq_true rfl⟩ dX5_polish_41 rfl (Nat.le_of_ble_eq_true rfl) rfl ?_
    exact r_iret (pc := 44) hE hC (f1xI hf) ⟨Nat.le_of_ble_eq_true rfl, Nat.le_of_ble_eq_true rfl⟩ dX5_polish_44
  · replace hf := oi_t c12 hf
    refine r_aload_n (pc := 13) hC dX5_polish_13 rfl 0 rfl ?_
    refine r_iconst (pc := 14) (v := 1) hC dX5_polish_14 (by decide) ?_
    obtain ⟨b10, gb10, hf⟩ := ob hf
    obtain ⟨q11, eq11, hf⟩ := ob hf
    refine r_callV (pc := 15) (As := [DI 1]) (rest := []) (stk' := [DI q11.1]) (k1_X5_fail eq11) gb10 rfl hC wd_3_150 wd_3_152 wd_s_15 wd_3_153 wd_1_3 md_X5_fail rfl ⟨rfl, rfl, Nat.le_of_ble_eq_true rfl, Nat.le_of_ble_eq_true rfl, Nat.le_of_ble_eq_true rfl, Nat.le_of_ble_eq_true rfl⟩ dX5_polish_15 rfl (Nat.le_of_ble_eq_true rfl) rfl ?_
    exact r_iret (pc := 18) hE hC (f1xI hf) ⟨Nat.le_of_ble_eq_true rfl, Nat.le_of_ble_eq_true rfl⟩ dX5_polish_18
abbrev rmK1_X5_split : Room := { frames := 2, cells := 0, slots := 0, locals := 51 }
set_option maxRecDepth 100000 in
set_option maxHeartbeats 4000000 in
theorem k1_X5_split {st : DSt} {x : Nat} {a0 : Int32} {a1 : Int32} {a2 : Int32} {v : Int32} {st1 : DSt} (hf : fX5_split st x a0 a1 a2 = some (v, st1)) : dm_K1 yX5_split cX5_split 5 (some .int) rmK1_X5_split 0 0 [DR (some x), DI a0, DI a1, DI a2] st (some (DI v)) st1 := by
  refine dm_k1 (by decide) rfl (Nat.le_of_ble_eq_true rfl) fun Y hC hN hI hE => ?_
  unfold fX5_split at hf
  refine dm_sub (lv' := [(0, DR (some x)), (1, DI a0), (2, DI a1), (3, DI a2)]) ([0, 1, 2, 3]) rfl ?_
  refine r_aload_n (pc := 0) hC dX5_split_0 rfl 0 rfl ?_
  refine r_iconst (pc := 1) (v := 0) hC dX5_split_1 (by decide) ?_
  obtain ⟨s1, es1, hf⟩ := ob hf
  refine r_put (pc := 2) CF5 (k := 0) hC (by decide) wd_3_102 rfl ⟨rfl, rfl⟩ dX5_split_2 es1 ?_
  refine r_iload_n (pc := 5) hC dX5_split_5 rfl 3 rfl ?_
  refine r_if_eq (pc := 6) (tgt := 13) hC dX5_split_6 (by decide) (fun c60 => ?_) (fun c60 => ?_)
  · replace hf := oi_t c60 hf
    refine r_iconst (pc := 13) (v := 0) hC dX5_split_13 (by decide) ?_
    refine r_istore (pc := 14) (lv' := [(4, DI 0), (0, DR (some x)), (1, DI a0), (2, DI a1), (3, DI a2)]) hC hN dX5_split_14 (by decide) rfl ?_
    refine r_aload_n (pc := 16) hC dX5_split_16 rfl 1 rfl ?_
    refine r_iload_n (pc := 17) hC dX5_split_17 rfl 2 rfl ?_
    obtain ⟨b2, gb2, hf⟩ := ob hf
    obtain ⟨q3, eq3, hf⟩ := ob hf
    refine r_callV (pc := 18) (As := [DI a0]) (rest := []) (stk' := [DI q3]) (k1_X5_isSlab eq3) gb2 rfl hC wd_3_223 wd_3_225 wd_s_24 wd_3_226 wd_1_3 md_X5_isSlab rfl ⟨rfl, rfl, Nat.le_of_ble_eq_true rfl, Nat.le_of_ble_eq_true rfl, Nat.le_of_ble_eq_true rfl, Nat.le_of_ble_eq_true rfl⟩ dX5_split_18 rfl (Nat.le_of_ble_eq_true rfl) rfl ?_
    refine r_if_eq (pc := 21) (tgt := 41) hC dX5_split_21 (by decide) (fun c30 => ?_) (fun c30 => ?_)
    · replace hf := oi_t c30 hf
      refine r_aload_n (pc := 41) hC dX5_split_41 rfl 1 rfl ?_
      refine r_iconst (pc := 42) (v := 1) hC dX5_split_42 (by decide) ?_
      obtain ⟨b4, gb4, hf⟩ := ob hf
      obtain ⟨q5, eq5, hf⟩ := ob hf
      refine r_callV (pc := 43) (As := [DI 1]) (rest := []) (stk' := [DI q5.1]) (k1_X5_fail eq5) gb4 rfl hC wd_3_150 wd_3_152 wd_s_15 wd_3_153 wd_1_3 md_X5_fail rfl ⟨rfl, rfl, Nat.le_of_ble_eq_true rfl, Nat.le_of_ble_eq_true rfl, Nat.le_of_ble_eq_true rfl, Nat.le_of_ble_eq_true rfl⟩ dX5_split_43 rfl (Nat.le_of_ble_eq_true rfl) rfl ?_
      exact r_iret (pc := 46) hE hC (f1xI hf) ⟨Nat.le_of_ble_eq_true rfl, Nat.le_of_ble_eq_true rfl⟩ dX5_split_46
    · replace hf := oi_f c30 hf
      refine r_iload_n (pc := 24) hC dX5_split_24 rfl 3 rfl ?_
      refine r_iconst (pc := 25) (v := 1) hC dX5_split_25 (by decide) ?_
      refine r_aload_n (pc := 26) hC dX5_split_26 rfl 1 rfl ?_
      refine r_iload_n (pc := 27) hC dX5_split_27 rfl 2 rfl ?_
      refine r_iload (pc := 28) hC dX5_split_28 0 rfl ?_
      obtain ⟨b6, gb6, hf⟩ := ob hf
      obtain ⟨q7, eq7, hf⟩ := ob hf
      refine r_callV (pc := 30) (As := [DI a0, DI 0]) (rest := [DI 1, DI a1]) (stk' := [DI q7, DI 1, DI a1]) (k1_X5_sl eq7) gb6 rfl hC wd_3_227 wd_3_229 wd_s_25 wd_3_230 wd_1_3 md_X5_sl rfl ⟨rfl, rfl, Nat.le_of_ble_eq_true rfl, Nat.le_of_ble_eq_true rfl, Nat.le_of_ble_eq_true rfl, Nat.le_of_ble_eq_true rfl⟩ dX5_split_30 rfl (Nat.le_of_ble_eq_true rfl) rfl ?_
      refine r_iconst (pc := 33) (v := 1) hC dX5_split_33 (by decide) ?_
      refine r_isub (pc := 34) hC dX5_split_34 ?_
      obtain ⟨q8, eq8, hf⟩ := ob hf
      refine r_callS (pc := 35) (As := [DI a1, DI 1, DI (q7 - 1)]) (rest := []) (stk' := [DI q8]) (k1_X5_isIn eq8) hC wd_3_147 wd_3_148 wd_3_149 wd_1_3 md_X5_isIn rfl ⟨rfl, rfl, Nat.le_of_ble_eq_true rfl, Nat.le_of_ble_eq_true rfl, Nat.le_of_ble_eq_true rfl, Nat.le_of_ble_eq_true rfl⟩ dX5_split_35 rfl (Nat.le_of_ble_eq_true rfl) rfl ?_
      refine r_if_ne (pc := 38) (tgt := 47) hC dX5_split_38 (by decide) (fun c29 => ?_) (fun c29 => ?_)
      · replace hf := oi_f c29 hf
        refine r_aload_n (pc := 47) hC dX5_split_47 rfl 1 rfl ?_
        obtain ⟨v9, ev9, hf⟩ := ob hf
        refine r_getI (pc := 48) CF5 (k := 3) hC (by decide) wd_3_105 dX5_split_48 ev9 ?_
        refine r_bipush (pc := 51) (v := 8) hC dX5_split_51 (by decide) ?_
        refine r_icmp_ne (pc := 53) (tgt := 62) hC dX5_split_53 (by decide) (fun c26 => ?_) (fun c26 => ?_)
        · replace hf := oi_f c26 hf
          refine r_aload_n (pc := 62) hC dX5_split_62 rfl 1 rfl ?_
          obtain ⟨v10, ev10, hf⟩ := ob hf
          refine r_getR (pc := 63) CF5 (k := 6) hC (by decide) wd_3_108 dX5_split_63 ev10 ?_
          refine r_iconst (pc := 66) (v := 5) hC dX5_split_66 (by decide) ?_
          refine r_iload_n (pc := 67) hC dX5_split_67 rfl 2 rfl ?_
          refine r_imul (pc := 68) hC dX5_split_68 ?_
          refine r_aload_n (pc := 69) hC dX5_split_69 rfl 1 rfl ?_
          obtain ⟨v11, ev11, hf⟩ := ob hf
          refine r_getR (pc := 70) CF5 (k := 6) hC (by decide) wd_3_108 dX5_split_70 ev11 ?_
          refine r_iconst (pc := 73) (v := 5) hC dX5_split_73 (by decide) ?_
          refine r_aload_n (pc := 74) hC dX5_split_74 rfl 1 rfl ?_
          obtain ⟨v12, ev12, hf⟩ := ob hf
          refine r_getI (pc := 75) CF5 (k := 3) hC (by decide) wd_3_105 dX5_split_75 ev12 ?_
          refine r_imul (pc := 78) hC dX5_split_78 ?_
          refine r_iconst (pc := 79) (v := 5) hC dX5_split_79 (by decide) ?_
          obtain ⟨s13, es13, hf⟩ := ob hf
          refine r_copy (pc := 80) hC wd_3_235 wd_3_237 wd_3_236 wd_1_13 dX5_split_80 ⟨Nat.le_of_ble_eq_true rfl, Nat.le_of_ble_eq_true rfl⟩ es13 ?_
          refine r_aload_n (pc := 83) hC dX5_split_83 rfl 1 rfl ?_
          refine r_aload_n (pc := 84) hC dX5_split_84 rfl 1 rfl ?_
          obtain ⟨v14, ev14, hf⟩ := ob hf
          refine r_getI (pc := 85) CF5 (k := 3) hC (by decide) wd_3_105 dX5_split_85 ev14 ?_
          refine r_iload (pc := 88) hC dX5_split_88 0 rfl ?_
          refine r_aload_n (pc := 90) hC dX5_split_90 rfl 1 rfl ?_
          refine r_iload_n (pc := 91) hC dX5_split_91 rfl 2 rfl ?_
          refine r_iload (pc := 92) hC dX5_split_92 0 rfl ?_
          obtain ⟨b15, gb15, hf⟩ := ob hf
          obtain ⟨q16, eq16, hf⟩ := ob hf
          refine r_callV (pc := 94) (As := [DI a0, DI 0]) (rest := [DI 0, DI v14, DR (some x)]) (stk' := [DI q16, DI 0, DI v14, DR (some x)]) (k1_X5_sl eq16) gb15 rfl hC wd_3_227 wd_3_229 wd_s_25 wd_3_230 wd_1_3 md_X5_sl rfl ⟨rfl, rfl, Nat.le_of_ble_eq_true rfl, Nat.le_of_ble_eq_true rfl, Nat.le_of_ble_eq_true rfl, Nat.le_of_ble_eq_true rfl⟩ dX5_split_94 rfl (Nat.le_of_ble_eq_true rfl) rfl ?_
          refine r_iload_n (pc := 97) hC dX5_split_97 rfl 3 rfl ?_
          refine r_isub (pc := 98) hC dX5_split_98 ?_
          obtain ⟨b17, gb17, hf⟩ := ob hf
          obtain ⟨q18, eq18, hf⟩ := ob hf
          refine r_callV (pc := 99) (As := [DI v14, DI 0, DI (q16 - a1)]) (rest := []) (stk' := []) (k1_X5_letSlab eq18) gb17 rfl hC wd_3_215 wd_3_217 wd_s_23 wd_3_218 wd_1_3 md_X5_letSlab rfl ⟨rfl, rfl, Nat.le_of_ble_eq_true rfl, Nat.le_of_ble_eq_true rfl, Nat.le_of_ble_eq_true rfl, Nat.le_of_ble_eq_true rfl⟩ dX5_split_99 rfl (Nat.le_of_ble_eq_true rfl) rfl ?_
          refine r_aload_n (pc := 102) hC dX5_split_102 rfl 1 rfl ?_
          refine r_iload_n (pc := 103) hC dX5_split_103 rfl 2 rfl ?_
          refine r_iload (pc := 104) hC dX5_split_104 0 rfl ?_
          refine r_iload_n (pc := 106) hC dX5_split_106 rfl 3 rfl ?_
          obtain ⟨b19, gb19, hf⟩ := ob hf
          obtain ⟨q20, eq20, hf⟩ := ob hf
          refine r_callV (pc := 107) (As := [DI a0, DI 0, DI a1]) (rest := []) (stk' := []) (k1_X5_letSlab eq20) gb19 rfl hC wd_3_215 wd_3_217 wd_s_23 wd_3_218 wd_1_3 md_X5_letSlab rfl ⟨rfl, rfl, Nat.le_of_ble_eq_true rfl, Nat.le_of_ble_eq_true rfl, Nat.le_of_ble_eq_true rfl, Nat.le_of_ble_eq_true rfl⟩ dX5_split_107 rfl (Nat.le_of_ble_eq_true rfl) rfl ?_
          refine r_aload_n (pc := 110) hC dX5_split_110 rfl 1 rfl ?_
          refine r_dup (pc := 111) hC dX5_split_111 rfl ?_
          obtain ⟨v21, ev21, hf⟩ := ob hf
          refine r_getI (pc := 112) CF5 (k := 3) hC (by decide) wd_3_105 dX5_split_112 ev21 ?_
          refine r_iconst (pc := 115) (v := 1) hC dX5_split_115 (by decide) ?_
          refine r_iadd (pc := 116) hC dX5_split_116 ?_
          obtain ⟨s22, es22, hf⟩ := ob hf
          refine r_put (pc := 117) CF5 (k := 3) hC (by decide) wd_3_105 rfl ⟨rfl, rfl⟩ dX5_split_117 es22 ?_
          refine r_aload_n (pc := 120) hC dX5_split_120 rfl 1 rfl ?_
          obtain ⟨v23, ev23, hf⟩ := ob hf
          refine r_getI (pc := 121) CF5 (k := 3) hC (by decide) wd_3_105 dX5_split_121 ev23 ?_
          refine r_iconst (pc := 124) (v := 1) hC dX5_split_124 (by decide) ?_
          refine r_isub (pc := 125) hC dX5_split_125 ?_
          exact r_iret (pc := 126) hE hC (f1xI hf) ⟨Nat.le_of_ble_eq_true rfl, Nat.le_of_ble_eq_true rfl⟩ dX5_split_126
        · replace hf := oi_t c26 hf
          refine r_aload_n (pc := 56) hC dX5_split_56 rfl 1 rfl ?_
          refine r_iconst (pc := 57) (v := 2) hC dX5_split_57 (by decide) ?_
          obtain ⟨b24, gb24, hf⟩ := ob hf
          obtain ⟨q25, eq25, hf⟩ := ob hf
          refine r_callV (pc := 58) (As := [DI 2]) (rest := []) (stk' := [DI q25.1]) (k1_X5_fail eq25) gb24 rfl hC wd_3_150 wd_3_152 wd_s_15 wd_3_153 wd_1_3 md_X5_fail rfl ⟨rfl, rfl, Nat.le_of_ble_eq_true rfl, Nat.le_of_ble_eq_true rfl, Nat.le_of_ble_eq_true rfl, Nat.le_of_ble_eq_true rfl⟩ dX5_split_58 rfl (Nat.le_of_ble_eq_true rfl) rfl ?_
          exact r_iret (pc := 61) hE hC (f1xI hf) ⟨Nat.le_of_ble_eq_true rfl, Nat.le_of_ble_eq_true rfl⟩ dX5_split_61
      · replace hf := oi_t c29 hf
        refine r_aload_n (pc := 41) hC dX5_split_41 rfl 1 rfl ?_
        refine r_iconst (pc := 42) (v := 1) hC dX5_split_42 (by decide) ?_
        obtain ⟨b27, gb27, hf⟩ := ob hf
        obtain ⟨q28, eq28, hf⟩ := ob hf
        refine r_callV (pc := 43) (As := [DI 1]) (rest := []) (stk' := [DI q28.1]) (k1_X5_fail eq28) gb27 rfl hC wd_3_150 wd_3_152 wd_s_15 wd_3_153 wd_1_3 md_X5_fail rfl ⟨rfl, rfl, Nat.le_of_ble_eq_true rfl, Nat.le_of_ble_eq_true rfl, Nat.le_of_ble_eq_true rfl, Nat.le_of_ble_eq_true rfl⟩ dX5_split_43 rfl (Nat.le_of_ble_eq_true rfl) rfl ?_
        exact r_iret (pc := 46) hE hC (f1xI hf) ⟨Nat.le_of_ble_eq_true rfl, Nat.le_of_ble_eq_true rfl⟩ dX5_split_46
  · replace hf := oi_f c60 hf
    refine r_iconst (pc := 9) (v := 1) hC dX5_split_9 (by decide) ?_
    refine r_goto (pc := 10) (tgt := 14) hC dX5_split_10 (by decide) ?_
    refine r_istore (pc := 14) (lv' := [(4, DI 1), (0, DR (some x)), (1, DI a0), (2, DI a1), (3, DI a2)]) hC hN dX5_split_14 (by decide) rfl ?_
    refine r_aload_n (pc := 16) hC dX5_split_16 rfl 1 rfl ?_
    refine r_iload_n (pc := 17) hC dX5_split_17 rfl 2 rfl ?_
    obtain ⟨b31, gb31, hf⟩ := ob hf
    obtain ⟨q32, eq32, hf⟩ := ob hf
    refine r_callV (pc := 18) (As := [DI a0]) (rest := []) (stk' := [DI q32]) (k1_X5_isSlab eq32) gb31 rfl hC wd_3_223 wd_3_225 wd_s_24 wd_3_226 wd_1_3 md_X5_isSlab rfl ⟨rfl, rfl, Nat.le_of_ble_eq_true rfl, Nat.le_of_ble_eq_true rfl, Nat.le_of_ble_eq_true rfl, Nat.le_of_ble_eq_true rfl⟩ dX5_split_18 rfl (Nat.le_of_ble_eq_true rfl) rfl ?_
    refine r_if_eq (pc := 21) (tgt := 41) hC dX5_split_21 (by decide) (fun c59 => ?_) (fun c59 => ?_)
    · replace hf := oi_t c59 hf
      refine r_aload_n (pc := 41) hC dX5_split_41 rfl 1 rfl ?_
      refine r_iconst (pc := 42) (v := 1) hC dX5_split_42 (by decide) ?_
      obtain ⟨b33, gb33, hf⟩ := ob hf
      obtain ⟨q34, eq34, hf⟩ := ob hf
      refine r_callV (pc := 43) (As := [DI 1]) (rest := []) (stk' := [DI q34.1]) (k1_X5_fail eq34) gb33 rfl hC wd_3_150 wd_3_152 wd_s_15 wd_3_153 wd_1_3 md_X5_fail rfl ⟨rfl, rfl, Nat.le_of_ble_eq_true rfl, Nat.le_of_ble_eq_true rfl, Nat.le_of_ble_eq_true rfl, Nat.le_of_ble_eq_true rfl⟩ dX5_split_43 rfl (Nat.le_of_ble_eq_true rfl) rfl ?_
      exact r_iret (pc := 46) hE hC (f1xI hf) ⟨Nat.le_of_ble_eq_true rfl, Nat.le_of_ble_eq_true rfl⟩ dX5_split_46
    · replace hf := oi_f c59 hf
      refine r_iload_n (pc := 24) hC dX5_split_24 rfl 3 rfl ?_
      refine r_iconst (pc := 25) (v := 1) hC dX5_split_25 (by decide) ?_
      refine r_aload_n (pc := 26) hC dX5_split_26 rfl 1 rfl ?_
      refine r_iload_n (pc := 27) hC dX5_split_27 rfl 2 rfl ?_
      refine r_iload (pc := 28) hC dX5_split_28 0 rfl ?_
      obtain ⟨b35, gb35, hf⟩ := ob hf
      obtain ⟨q36, eq36, hf⟩ := ob hf
      refine r_callV (pc := 30) (As := [DI a0, DI 1]) (rest := [DI 1, DI a1]) (stk' := [DI q36, DI 1, DI a1]) (k1_X5_sl eq36) gb35 rfl hC wd_3_227 wd_3_229 wd_s_25 wd_3_230 wd_1_3 md_X5_sl rfl ⟨rfl, rfl, Nat.le_of_ble_eq_true rfl, Nat.le_of_ble_eq_true rfl, Nat.le_of_ble_eq_true rfl, Nat.le_of_ble_eq_true rfl⟩ dX5_split_30 rfl (Nat.le_of_ble_eq_true rfl) rfl ?_
      refine r_iconst (pc := 33) (v := 1) hC dX5_split_33 (by decide) ?_
      refine r_isub (pc := 34) hC dX5_split_34 ?_
      obtain ⟨q37, eq37, hf⟩ := ob hf
      refine r_callS (pc := 35) (As := [DI a1, DI 1, DI (q36 - 1)]) (rest := []) (stk' := [DI q37]) (k1_X5_isIn eq37) hC wd_3_147 wd_3_148 wd_3_149 wd_1_3 md_X5_isIn rfl ⟨rfl, rfl, Nat.le_of_ble_eq_true rfl, Nat.le_of_ble_eq_true rfl, Nat.le_of_ble_eq_true rfl, Nat.le_of_ble_eq_true rfl⟩ dX5_split_35 rfl (Nat.le_of_ble_eq_true rfl) rfl ?_
      refine r_if_ne (pc := 38) (tgt := 47) hC dX5_split_38 (by decide) (fun c58 => ?_) (fun c58 => ?_)
      · replace hf := oi_f c58 hf
        refine r_aload_n (pc := 47) hC dX5_split_47 rfl 1 rfl ?_
        obtain ⟨v38, ev38, hf⟩ := ob hf
        refine r_getI (pc := 48) CF5 (k := 3) hC (by decide) wd_3_105 dX5_split_48 ev38 ?_
        refine r_bipush (pc := 51) (v := 8) hC dX5_split_51 (by decide) ?_
        refine r_icmp_ne (pc := 53) (tgt := 62) hC dX5_split_53 (by decide) (fun c55 => ?_) (fun c55 => ?_)
        · replace hf := oi_f c55 hf
          refine r_aload_n (pc := 62) hC dX5_split_62 rfl 1 rfl ?_
          obtain ⟨v39, ev39, hf⟩ := ob hf
          refine r_getR (pc := 63) CF5 (k := 6) hC (by decide) wd_3_108 dX5_split_63 ev39 ?_
          refine r_iconst (pc := 66) (v := 5) hC dX5_split_66 (by decide) ?_
          refine r_iload_n (pc := 67) hC dX5_split_67 rfl 2 rfl ?_
          refine r_imul (pc := 68) hC dX5_split_68 ?_
          refine r_aload_n (pc := 69) hC dX5_split_69 rfl 1 rfl ?_
          obtain ⟨v40, ev40, hf⟩ := ob hf
          refine r_getR (pc := 70) CF5 (k := 6) hC (by decide) wd_3_108 dX5_split_70 ev40 ?_
          refine r_iconst (pc := 73) (v := 5) hC dX5_split_73 (by decide) ?_
          refine r_aload_n (pc := 74) hC dX5_split_74 rfl 1 rfl ?_
          obtain ⟨v41, ev41, hf⟩ := ob hf
          refine r_getI (pc := 75) CF5 (k := 3) hC (by decide) wd_3_105 dX5_split_75 ev41 ?_
          refine r_imul (pc := 78) hC dX5_split_78 ?_
          refine r_iconst (pc := 79) (v := 5) hC dX5_split_79 (by decide) ?_
          obtain ⟨s42, es42, hf⟩ := ob hf
          refine r_copy (pc := 80) hC wd_3_235 wd_3_237 wd_3_236 wd_1_13 dX5_split_80 ⟨Nat.le_of_ble_eq_true rfl, Nat.le_of_ble_eq_true rfl⟩ es42 ?_
          refine r_aload_n (pc := 83) hC dX5_split_83 rfl 1 rfl ?_
          refine r_aload_n (pc := 84) hC dX5_split_84 rfl 1 rfl ?_
          obtain ⟨v43, ev43, hf⟩ := ob hf
          refine r_getI (pc := 85) CF5 (k := 3) hC (by decide) wd_3_105 dX5_split_85 ev43 ?_
          refine r_iload (pc := 88) hC dX5_split_88 0 rfl ?_
          refine r_aload_n (pc := 90) hC dX5_split_90 rfl 1 rfl ?_
          refine r_iload_n (pc := 91) hC dX5_split_91 rfl 2 rfl ?_
          refine r_iload (pc := 92) hC dX5_split_92 0 rfl ?_
          obtain ⟨b44, gb44, hf⟩ := ob hf
          obtain ⟨q45, eq45, hf⟩ := ob hf
          refine r_callV (pc := 94) (As := [DI a0, DI 1]) (rest := [DI 1, DI v43, DR (some x)]) (stk' := [DI q45, DI 1, DI v43, DR (some x)]) (k1_X5_sl eq45) gb44 rfl hC wd_3_227 wd_3_229 wd_s_25 wd_3_230 wd_1_3 md_X5_sl rfl ⟨rfl, rfl, Nat.le_of_ble_eq_true rfl, Nat.le_of_ble_eq_true rfl, Nat.le_of_ble_eq_true rfl, Nat.le_of_ble_eq_true rfl⟩ dX5_split_94 rfl (Nat.le_of_ble_eq_true rfl) rfl ?_
          refine r_iload_n (pc := 97) hC dX5_split_97 rfl 3 rfl ?_
          refine r_isub (pc := 98) hC dX5_split_98 ?_
          obtain ⟨b46, gb46, hf⟩ := ob hf
          obtain ⟨q47, eq47, hf⟩ := ob hf
          refine r_callV (pc := 99) (As := [DI v43, DI 1, DI (q45 - a1)]) (rest := []) (stk' := []) (k1_X5_letSlab eq47) gb46 rfl hC wd_3_215 wd_3_217 wd_s_23 wd_3_218 wd_1_3 md_X5_letSlab rfl ⟨rfl, rfl, Nat.le_of_ble_eq_true rfl, Nat.le_of_ble_eq_true rfl, Nat.le_of_ble_eq_true rfl, Nat.le_of_ble_eq_true rfl⟩ dX5_split_99 rfl (Nat.le_of_ble_eq_true rfl) rfl ?_
          refine r_aload_n (pc := 102) hC dX5_split_102 rfl 1 rfl ?_
          refine r_iload_n (pc := 103) hC dX5_split_103 rfl 2 rfl ?_
          refine r_iload (pc := 104) hC dX5_split_104 0 rfl ?_
          refine r_iload_n (pc := 106) hC dX5_split_106 rfl 3 rfl ?_
          obtain ⟨b48, gb48, hf⟩ := ob hf
          obtain ⟨q49, eq49, hf⟩ := ob hf
          refine r_callV (pc := 107) (As := [DI a0, DI 1, DI a1]) (rest := []) (stk' := []) (k1_X5_letSlab eq49) gb48 rfl hC wd_3_215 wd_3_217 wd_s_23 wd_3_218 wd_1_3 md_X5_letSlab rfl ⟨rfl, rfl, Nat.le_of_ble_eq_true rfl, Nat.le_of_ble_eq_true rfl, Nat.le_of_ble_eq_true rfl, Nat.le_of_ble_eq_true rfl⟩ dX5_split_107 rfl (Nat.le_of_ble_eq_true rfl) rfl ?_
          refine r_aload_n (pc := 110) hC dX5_split_110 rfl 1 rfl ?_
          refine r_dup (pc := 111) hC dX5_split_111 rfl ?_
          obtain ⟨v50, ev50, hf⟩ := ob hf
          refine r_getI (pc := 112) CF5 (k := 3) hC (by decide) wd_3_105 dX5_split_112 ev50 ?_
          refine r_iconst (pc := 115) (v := 1) hC dX5_split_115 (by decide) ?_
          refine r_iadd (pc := 116) hC dX5_split_116 ?_
          obtain ⟨s51, es51, hf⟩ := ob hf
          refine r_put (pc := 117) CF5 (k := 3) hC (by decide) wd_3_105 rfl ⟨rfl, rfl⟩ dX5_split_117 es51 ?_
          refine r_aload_n (pc := 120) hC dX5_split_120 rfl 1 rfl ?_
          obtain ⟨v52, ev52, hf⟩ := ob hf
          refine r_getI (pc := 121) CF5 (k := 3) hC (by decide) wd_3_105 dX5_split_121 ev52 ?_
          refine r_iconst (pc := 124) (v := 1) hC dX5_split_124 (by decide) ?_
          refine r_isub (pc := 125) hC dX5_split_125 ?_
          exact r_iret (pc := 126) hE hC (f1xI hf) ⟨Nat.le_of_ble_eq_true rfl, Nat.le_of_ble_eq_true rfl⟩ dX5_split_126
        · replace hf := oi_t c55 hf
          refine r_aload_n (pc := 56) hC dX5_split_56 rfl 1 rfl ?_
          refine r_iconst (pc := 57) (v := 2) hC dX5_split_57 (by decide) ?_
          obtain ⟨b53, gb53, hf⟩ := ob hf
          obtain ⟨q54, eq54, hf⟩ := ob hf
          refine r_callV (pc := 58) (As := [DI 2]) (rest := []) (stk' := [DI q54.1]) (k1_X5_fail eq54) gb53 rfl hC wd_3_150 wd_3_152 wd_s_15 wd_3_153 wd_1_3 md_X5_fail rfl ⟨rfl, rfl, Nat.le_of_ble_eq_true rfl, Nat.le_of_ble_eq_true rfl, Nat.le_of_ble_eq_true rfl, Nat.le_of_ble_eq_true rfl⟩ dX5_split_58 rfl (Nat.le_of_ble_eq_true rfl) rfl ?_
          exact r_iret (pc := 61) hE hC (f1xI hf) ⟨Nat.le_of_ble_eq_true rfl, Nat.le_of_ble_eq_true rfl⟩ dX5_split_61
      · replace hf := oi_t c58 hf
        refine r_aload_n (pc := 41) hC dX5_split_41 rfl 1 rfl ?_
        refine r_iconst (pc := 42) (v := 1) hC dX5_split_42 (by decide) ?_
        obtain ⟨b56, gb56, hf⟩ := ob hf
        obtain ⟨q57, eq57, hf⟩ := ob hf
        refine r_callV (pc := 43) (As := [DI 1]) (rest := []) (stk' := [DI q57.1]) (k1_X5_fail eq57) gb56 rfl hC wd_3_150 wd_3_152 wd_s_15 wd_3_153 wd_1_3 md_X5_fail rfl ⟨rfl, rfl, Nat.le_of_ble_eq_true rfl, Nat.le_of_ble_eq_true rfl, Nat.le_of_ble_eq_true rfl, Nat.le_of_ble_eq_true rfl⟩ dX5_split_43 rfl (Nat.le_of_ble_eq_true rfl) rfl ?_
        exact r_iret (pc := 46) hE hC (f1xI hf) ⟨Nat.le_of_ble_eq_true rfl, Nat.le_of_ble_eq_true rfl⟩ dX5_split_46
abbrev rmK1_X5_melt : Room := { frames := 2, cells := 0, slots := 0, locals := 72 }
set_option maxRecDepth 100000 in
set_option maxHeartbeats 4000000 in
theorem k1_X5_melt {st : DSt} {x : Nat} {a0 : Int32} {a1 : Int32} {v : Int32} {st1 : DSt} (hf : fX5_melt st x a0 a1 = some (v, st1)) : dm_K1 yX5_melt cX5_melt 4 (some .int) rmK1_X5_melt 0 0 [DR (some x), DI a0, DI a1] st (some (DI v)) st1 := by
  refine dm_k1 (by decide) rfl (Nat.le_of_ble_eq_true rfl) fun Y hC hN hI hE => ?_
  unfold fX5_melt at hf
  refine dm_sub (lv' := [(0, DR (some x)), (1, DI a0), (2, DI a1)]) ([0, 1, 2]) rfl ?_
  refine r_aload_n (pc := 0) hC dX5_melt_0 rfl 0 rfl ?_
  refine r_iconst (pc := 1) (v := 0) hC dX5_melt_1 (by decide) ?_
  obtain ⟨s1, es1, hf⟩ := ob hf
  refine r_put (pc := 2) CF5 (k := 0) hC (by decide) wd_3_102 rfl ⟨rfl, rfl⟩ dX5_melt_2 es1 ?_
  refine r_aload_n (pc := 5) hC dX5_melt_5 rfl 0 rfl ?_
  refine r_iload_n (pc := 6) hC dX5_melt_6 rfl 1 rfl ?_
  obtain ⟨b2, gb2, hf⟩ := ob hf
  obtain ⟨q3, eq3, hf⟩ := ob hf
  refine r_callV (pc := 7) (As := [DI a0]) (rest := []) (stk' := [DI q3]) (k1_X5_isSlab eq3) gb2 rfl hC wd_3_223 wd_3_225 wd_s_24 wd_3_226 wd_1_3 md_X5_isSlab rfl ⟨rfl, rfl, Nat.le_of_ble_eq_true rfl, Nat.le_of_ble_eq_true rfl, Nat.le_of_ble_eq_true rfl, Nat.le_of_ble_eq_true rfl⟩ dX5_melt_7 rfl (Nat.le_of_ble_eq_true rfl) rfl ?_
  refine r_if_eq (pc := 10) (tgt := 21) hC dX5_melt_10 (by decide) (fun c22 => ?_) (fun c22 => ?_)
  · replace hf := oi_t c22 hf
    refine r_aload_n (pc := 21) hC dX5_melt_21 rfl 0 rfl ?_
    refine r_iconst (pc := 22) (v := 1) hC dX5_melt_22 (by decide) ?_
    obtain ⟨b4, gb4, hf⟩ := ob hf
    obtain ⟨q5, eq5, hf⟩ := ob hf
    refine r_callV (pc := 23) (As := [DI 1]) (rest := []) (stk' := [DI q5.1]) (k1_X5_fail eq5) gb4 rfl hC wd_3_150 wd_3_152 wd_s_15 wd_3_153 wd_1_3 md_X5_fail rfl ⟨rfl, rfl, Nat.le_of_ble_eq_true rfl, Nat.le_of_ble_eq_true rfl, Nat.le_of_ble_eq_true rfl, Nat.le_of_ble_eq_true rfl⟩ dX5_melt_23 rfl (Nat.le_of_ble_eq_true rfl) rfl ?_
    exact r_iret (pc := 26) hE hC (f1xI hf) ⟨Nat.le_of_ble_eq_true rfl, Nat.le_of_ble_eq_true rfl⟩ dX5_melt_26
  · replace hf := oi_f c22 hf
    refine r_aload_n (pc := 13) hC dX5_melt_13 rfl 0 rfl ?_
    refine r_iload_n (pc := 14) hC dX5_melt_14 rfl 2 rfl ?_
    obtain ⟨b6, gb6, hf⟩ := ob hf
    obtain ⟨q7, eq7, hf⟩ := ob hf
    refine r_callV (pc := 15) (As := [DI a1]) (rest := []) (stk' := [DI q7]) (k1_X5_isBowl eq7) gb6 rfl hC wd_3_162 wd_3_164 wd_s_17 wd_3_165 wd_1_3 md_X5_isBowl rfl ⟨rfl, rfl, Nat.le_of_ble_eq_true rfl, Nat.le_of_ble_eq_true rfl, Nat.le_of_ble_eq_true rfl, Nat.le_of_ble_eq_true rfl⟩ dX5_melt_15 rfl (Nat.le_of_ble_eq_true rfl) rfl ?_
    refine r_if_ne (pc := 18) (tgt := 27) hC dX5_melt_18 (by decide) (fun c21 => ?_) (fun c21 => ?_)
    · replace hf := oi_f c21 hf
      refine r_aload_n (pc := 27) hC dX5_melt_27 rfl 0 rfl ?_
      refine r_iload_n (pc := 28) hC dX5_melt_28 rfl 2 rfl ?_
      refine r_iconst (pc := 29) (v := 0) hC dX5_melt_29 (by decide) ?_
      obtain ⟨b8, gb8, hf⟩ := ob hf
      obtain ⟨q9, eq9, hf⟩ := ob hf
      refine r_callV (pc := 30) (As := [DI a1, DI 0]) (rest := []) (stk' := [DI q9]) (k1_X5_bo eq9) gb8 rfl hC wd_3_174 wd_3_176 wd_s_20 wd_3_177 wd_1_3 md_X5_bo rfl ⟨rfl, rfl, Nat.le_of_ble_eq_true rfl, Nat.le_of_ble_eq_true rfl, Nat.le_of_ble_eq_true rfl, Nat.le_of_ble_eq_true rfl⟩ dX5_melt_30 rfl (Nat.le_of_ble_eq_true rfl) rfl ?_
      refine r_bipush (pc := 33) (v := 10) hC dX5_melt_33 (by decide) ?_
      refine r_aload_n (pc := 35) hC dX5_melt_35 rfl 0 rfl ?_
      refine r_iload_n (pc := 36) hC dX5_melt_36 rfl 1 rfl ?_
      obtain ⟨b10, gb10, hf⟩ := ob hf
      obtain ⟨q11, eq11, hf⟩ := ob hf
      refine r_callV (pc := 37) (As := [DI a0]) (rest := [DI 10, DI q9]) (stk' := [DI q11, DI 10, DI q9]) (k1_X5_squares eq11) gb10 rfl hC wd_4_2 wd_4_4 wd_s_26 wd_4_5 wd_1_3 md_X5_squares rfl ⟨rfl, rfl, Nat.le_of_ble_eq_true rfl, Nat.le_of_ble_eq_true rfl, Nat.le_of_ble_eq_true rfl, Nat.le_of_ble_eq_true rfl⟩ dX5_melt_37 rfl (Nat.le_of_ble_eq_true rfl) rfl ?_
      refine r_imul (pc := 40) hC dX5_melt_40 ?_
      refine r_iadd (pc := 41) hC dX5_melt_41 ?_
      refine r_istore_n (pc := 42) (lv' := [(3, DI (q9 + (10 * q11))), (0, DR (some x)), (1, DI a0), (2, DI a1)]) hC hN dX5_melt_42 rfl (by decide) rfl ?_
      refine r_iload_n (pc := 43) hC dX5_melt_43 rfl 0 rfl ?_
      refine r_sipush (pc := 44) (v := 2000) hC dX5_melt_44 (by decide) ?_
      refine r_icmp_le (pc := 47) (tgt := 56) hC dX5_melt_47 (by decide) (fun c18 => ?_) (fun c18 => ?_)
      · replace hf := oi_t c18 hf
        refine r_aload_n (pc := 56) hC dX5_melt_56 rfl 1 rfl ?_
        refine r_iload_n (pc := 57) hC dX5_melt_57 rfl 3 rfl ?_
        refine r_iconst (pc := 58) (v := 0) hC dX5_melt_58 (by decide) ?_
        refine r_iload_n (pc := 59) hC dX5_melt_59 rfl 0 rfl ?_
        obtain ⟨b12, gb12, hf⟩ := ob hf
        obtain ⟨q13, eq13, hf⟩ := ob hf
        refine r_callV (pc := 60) (As := [DI a1, DI 0, DI (q9 + (10 * q11))]) (rest := []) (stk' := []) (k1_X5_letBowl eq13) gb12 rfl hC wd_3_154 wd_3_156 wd_s_16 wd_3_157 wd_1_3 md_X5_letBowl rfl ⟨rfl, rfl, Nat.le_of_ble_eq_true rfl, Nat.le_of_ble_eq_true rfl, Nat.le_of_ble_eq_true rfl, Nat.le_of_ble_eq_true rfl⟩ dX5_melt_60 rfl (Nat.le_of_ble_eq_true rfl) rfl ?_
        refine r_aload_n (pc := 63) hC dX5_melt_63 rfl 1 rfl ?_
        refine r_iload_n (pc := 64) hC dX5_melt_64 rfl 2 rfl ?_
        obtain ⟨b14, gb14, hf⟩ := ob hf
        obtain ⟨q15, eq15, hf⟩ := ob hf
        refine r_callV (pc := 65) (As := [DI a0]) (rest := []) (stk' := []) (k1_X5_away eq15) gb14 rfl hC wd_4_6 wd_4_8 wd_s_27 wd_4_9 wd_1_3 md_X5_away rfl ⟨rfl, rfl, Nat.le_of_ble_eq_true rfl, Nat.le_of_ble_eq_true rfl, Nat.le_of_ble_eq_true rfl, Nat.le_of_ble_eq_true rfl⟩ dX5_melt_65 rfl (Nat.le_of_ble_eq_true rfl) rfl ?_
        refine r_iload_n (pc := 68) hC dX5_melt_68 rfl 0 rfl ?_
        exact r_iret (pc := 69) hE hC (f1xI hf) ⟨Nat.le_of_ble_eq_true rfl, Nat.le_of_ble_eq_true rfl⟩ dX5_melt_69
      · replace hf := oi_f c18 hf
        refine r_aload_n (pc := 50) hC dX5_melt_50 rfl 1 rfl ?_
        refine r_iconst (pc := 51) (v := 2) hC dX5_melt_51 (by decide) ?_
        obtain ⟨b16, gb16, hf⟩ := ob hf
        obtain ⟨q17, eq17, hf⟩ := ob hf
        refine r_callV (pc := 52) (As := [DI 2]) (rest := []) (stk' := [DI q17.1]) (k1_X5_fail eq17) gb16 rfl hC wd_3_150 wd_3_152 wd_s_15 wd_3_153 wd_1_3 md_X5_fail rfl ⟨rfl, rfl, Nat.le_of_ble_eq_true rfl, Nat.le_of_ble_eq_true rfl, Nat.le_of_ble_eq_true rfl, Nat.le_of_ble_eq_true rfl⟩ dX5_melt_52 rfl (Nat.le_of_ble_eq_true rfl) rfl ?_
        exact r_iret (pc := 55) hE hC (f1xI hf) ⟨Nat.le_of_ble_eq_true rfl, Nat.le_of_ble_eq_true rfl⟩ dX5_melt_55
    · replace hf := oi_t c21 hf
      refine r_aload_n (pc := 21) hC dX5_melt_21 rfl 0 rfl ?_
      refine r_iconst (pc := 22) (v := 1) hC dX5_melt_22 (by decide) ?_
      obtain ⟨b19, gb19, hf⟩ := ob hf
      obtain ⟨q20, eq20, hf⟩ := ob hf
      refine r_callV (pc := 23) (As := [DI 1]) (rest := []) (stk' := [DI q20.1]) (k1_X5_fail eq20) gb19 rfl hC wd_3_150 wd_3_152 wd_s_15 wd_3_153 wd_1_3 md_X5_fail rfl ⟨rfl, rfl, Nat.le_of_ble_eq_true rfl, Nat.le_of_ble_eq_true rfl, Nat.le_of_ble_eq_true rfl, Nat.le_of_ble_eq_true rfl⟩ dX5_melt_23 rfl (Nat.le_of_ble_eq_true rfl) rfl ?_
      exact r_iret (pc := 26) hE hC (f1xI hf) ⟨Nat.le_of_ble_eq_true rfl, Nat.le_of_ble_eq_true rfl⟩ dX5_melt_26
abbrev rmK1_X5_box : Room := { frames := 1, cells := 1, slots := 5, locals := 51 }
set_option maxRecDepth 100000 in
set_option maxHeartbeats 4000000 in
theorem k1_X5_box {st : DSt} {x : Nat} {a0 : Int32} {a1 : Int32} {v : Int32} {st1 : DSt} (hf : fX5_box st x a0 a1 = some (v, st1)) : dm_K1 yX5_box cX5_box 4 (some .int) rmK1_X5_box 1 5 [DR (some x), DI a0, DI a1] st (some (DI v)) st1 := by
  refine dm_k1 (by decide) rfl (Nat.le_of_ble_eq_true rfl) fun Y hC hN hI hE => ?_
  unfold fX5_box at hf
  refine dm_sub (lv' := [(0, DR (some x)), (1, DI a0), (2, DI a1)]) ([0, 1, 2]) rfl ?_
  refine r_aload_n (pc := 0) hC dX5_box_0 rfl 0 rfl ?_
  refine r_iconst (pc := 1) (v := 0) hC dX5_box_1 (by decide) ?_
  obtain ⟨s1, es1, hf⟩ := ob hf
  refine r_put (pc := 2) CF5 (k := 0) hC (by decide) wd_3_102 rfl ⟨rfl, rfl⟩ dX5_box_2 es1 ?_
  refine r_iload_n (pc := 5) hC dX5_box_5 rfl 1 rfl ?_
  refine r_iconst (pc := 6) (v := 1) hC dX5_box_6 (by decide) ?_
  refine r_bipush (pc := 7) (v := 36) hC dX5_box_7 (by decide) ?_
  obtain ⟨q2, eq2, hf⟩ := ob hf
  refine r_callS (pc := 9) (As := [DI a0, DI 1, DI 36]) (rest := []) (stk' := [DI q2]) (k1_X5_isIn eq2) hC wd_3_147 wd_3_148 wd_3_149 wd_1_3 md_X5_isIn rfl ⟨rfl, rfl, Nat.le_of_ble_eq_true rfl, Nat.le_of_ble_eq_true rfl, Nat.le_of_ble_eq_true rfl, Nat.le_of_ble_eq_true rfl⟩ dX5_box_9 rfl (Nat.le_of_ble_eq_true rfl) rfl ?_
  refine r_if_eq (pc := 12) (tgt := 25) hC dX5_box_12 (by decide) (fun c25 => ?_) (fun c25 => ?_)
  · replace hf := oi_t c25 hf
    refine r_aload_n (pc := 25) hC dX5_box_25 rfl 0 rfl ?_
    refine r_iconst (pc := 26) (v := 1) hC dX5_box_26 (by decide) ?_
    obtain ⟨b3, gb3, hf⟩ := ob hf
    obtain ⟨q4, eq4, hf⟩ := ob hf
    refine r_callV (pc := 27) (As := [DI 1]) (rest := []) (stk' := [DI q4.1]) (k1_X5_fail eq4) gb3 rfl hC wd_3_150 wd_3_152 wd_s_15 wd_3_153 wd_1_3 md_X5_fail rfl ⟨rfl, rfl, Nat.le_of_ble_eq_true rfl, Nat.le_of_ble_eq_true rfl, Nat.le_of_ble_eq_true rfl, Nat.le_of_ble_eq_true rfl⟩ dX5_box_27 rfl (Nat.le_of_ble_eq_true rfl) rfl ?_
    exact r_iret (pc := 30) hE hC (f1xI hf) ⟨Nat.le_of_ble_eq_true rfl, Nat.le_of_ble_eq_true rfl⟩ dX5_box_30
  · replace hf := oi_f c25 hf
    refine r_iload_n (pc := 15) hC dX5_box_15 rfl 2 rfl ?_
    refine r_iconst (pc := 16) (v := 0) hC dX5_box_16 (by decide) ?_
    refine r_bipush (pc := 17) (v := 100) hC dX5_box_17 (by decide) ?_
    obtain ⟨q5, eq5, hf⟩ := ob hf
    refine r_callS (pc := 19) (As := [DI a1, DI 0, DI 100]) (rest := []) (stk' := [DI q5]) (k1_X5_isIn eq5) hC wd_3_147 wd_3_148 wd_3_149 wd_1_3 md_X5_isIn rfl ⟨rfl, rfl, Nat.le_of_ble_eq_true rfl, Nat.le_of_ble_eq_true rfl, Nat.le_of_ble_eq_true rfl, Nat.le_of_ble_eq_true rfl⟩ dX5_box_19 rfl (Nat.le_of_ble_eq_true rfl) rfl ?_
    refine r_if_ne (pc := 22) (tgt := 31) hC dX5_box_22 (by decide) (fun c24 => ?_) (fun c24 => ?_)
    · replace hf := oi_f c24 hf
      refine r_aload_n (pc := 31) hC dX5_box_31 rfl 0 rfl ?_
      obtain ⟨v6, ev6, hf⟩ := ob hf
      refine r_getI (pc := 32) CF5 (k := 4) hC (by decide) wd_3_106 dX5_box_32 ev6 ?_
      refine r_bipush (pc := 35) (v := 6) hC dX5_box_35 (by decide) ?_
      refine r_icmp_ne (pc := 37) (tgt := 46) hC dX5_box_37 (by decide) (fun c21 => ?_) (fun c21 => ?_)
      · replace hf := oi_f c21 hf
        refine r_iconst (pc := 46) (v := 5) hC dX5_box_46 (by decide) ?_
        obtain ⟨s7, es7, hf⟩ := ob hf
        refine r_newa (pc := 47) (atype := .int) (t := .int) (kd := 0) (N := 5) (x := nI0 5) rfl (fun _ => rfl) (fun _ h => nomatch h) (fun _ => rfl) hC wd_1_41 (by decide) rfl (Nat.le_of_ble_eq_true rfl) ⟨Nat.le_of_ble_eq_true rfl, Nat.le_of_ble_eq_true rfl⟩ dX5_box_47 ?_
        rw [Option.some.inj es7]
        refine r_dup (pc := 49) hC dX5_box_49 rfl ?_
        refine r_iconst (pc := 50) (v := 0) hC dX5_box_50 (by decide) ?_
        refine r_iload_n (pc := 51) hC dX5_box_51 rfl 1 rfl ?_
        obtain ⟨s8, es8, hf⟩ := ob hf
        refine r_iastore (pc := 52) hC dX5_box_52 es8 ?_
        refine r_dup (pc := 53) hC dX5_box_53 rfl ?_
        refine r_iconst (pc := 54) (v := 1) hC dX5_box_54 (by decide) ?_
        refine r_iload_n (pc := 55) hC dX5_box_55 rfl 2 rfl ?_
        obtain ⟨s9, es9, hf⟩ := ob hf
        refine r_iastore (pc := 56) hC dX5_box_56 es9 ?_
        refine r_dup (pc := 57) hC dX5_box_57 rfl ?_
        refine r_iconst (pc := 58) (v := 2) hC dX5_box_58 (by decide) ?_
        refine r_iconst (pc := 59) (v := 0) hC dX5_box_59 (by decide) ?_
        obtain ⟨s10, es10, hf⟩ := ob hf
        refine r_iastore (pc := 60) hC dX5_box_60 es10 ?_
        refine r_dup (pc := 61) hC dX5_box_61 rfl ?_
        refine r_iconst (pc := 62) (v := 3) hC dX5_box_62 (by decide) ?_
        refine r_iconst (pc := 63) (v := (-1)) hC dX5_box_63 (by decide) ?_
        obtain ⟨s11, es11, hf⟩ := ob hf
        refine r_iastore (pc := 64) hC dX5_box_64 es11 ?_
        refine r_dup (pc := 65) hC dX5_box_65 rfl ?_
        refine r_iconst (pc := 66) (v := 4) hC dX5_box_66 (by decide) ?_
        refine r_iconst (pc := 67) (v := (-1)) hC dX5_box_67 (by decide) ?_
        obtain ⟨s12, es12, hf⟩ := ob hf
        refine r_iastore (pc := 68) hC dX5_box_68 es12 ?_
        refine r_astore_n (pc := 69) (lv' := [(3, DR (some s1.1)), (0, DR (some x)), (1, DI a0), (2, DI a1)]) hC hN dX5_box_69 rfl (by decide) rfl ?_
        refine r_aload_n (pc := 70) hC dX5_box_70 rfl 0 rfl ?_
        refine r_iconst (pc := 71) (v := 0) hC dX5_box_71 (by decide) ?_
        refine r_aload_n (pc := 72) hC dX5_box_72 rfl 1 rfl ?_
        obtain ⟨v13, ev13, hf⟩ := ob hf
        refine r_getR (pc := 73) CF5 (k := 7) hC (by decide) wd_3_109 dX5_box_73 ev13 ?_
        refine r_iconst (pc := 76) (v := 5) hC dX5_box_76 (by decide) ?_
        refine r_aload_n (pc := 77) hC dX5_box_77 rfl 1 rfl ?_
        obtain ⟨v14, ev14, hf⟩ := ob hf
        refine r_getI (pc := 78) CF5 (k := 4) hC (by decide) wd_3_106 dX5_box_78 ev14 ?_
        refine r_imul (pc := 81) hC dX5_box_81 ?_
        refine r_iconst (pc := 82) (v := 5) hC dX5_box_82 (by decide) ?_
        obtain ⟨s15, es15, hf⟩ := ob hf
        refine r_copy (pc := 83) hC wd_3_235 wd_3_237 wd_3_236 wd_1_13 dX5_box_83 ⟨Nat.le_of_ble_eq_true rfl, Nat.le_of_ble_eq_true rfl⟩ es15 ?_
        refine r_aload_n (pc := 86) hC dX5_box_86 rfl 1 rfl ?_
        refine r_dup (pc := 87) hC dX5_box_87 rfl ?_
        obtain ⟨v16, ev16, hf⟩ := ob hf
        refine r_getI (pc := 88) CF5 (k := 4) hC (by decide) wd_3_106 dX5_box_88 ev16 ?_
        refine r_iconst (pc := 91) (v := 1) hC dX5_box_91 (by decide) ?_
        refine r_iadd (pc := 92) hC dX5_box_92 ?_
        obtain ⟨s17, es17, hf⟩ := ob hf
        refine r_put (pc := 93) CF5 (k := 4) hC (by decide) wd_3_106 rfl ⟨rfl, rfl⟩ dX5_box_93 es17 ?_
        refine r_aload_n (pc := 96) hC dX5_box_96 rfl 1 rfl ?_
        obtain ⟨v18, ev18, hf⟩ := ob hf
        refine r_getI (pc := 97) CF5 (k := 4) hC (by decide) wd_3_106 dX5_box_97 ev18 ?_
        refine r_iconst (pc := 100) (v := 1) hC dX5_box_100 (by decide) ?_
        refine r_isub (pc := 101) hC dX5_box_101 ?_
        exact r_iret (pc := 102) hE hC (f1xI hf) ⟨Nat.le_of_ble_eq_true rfl, Nat.le_of_ble_eq_true rfl⟩ dX5_box_102
      · replace hf := oi_t c21 hf
        refine r_aload_n (pc := 40) hC dX5_box_40 rfl 0 rfl ?_
        refine r_iconst (pc := 41) (v := 2) hC dX5_box_41 (by decide) ?_
        obtain ⟨b19, gb19, hf⟩ := ob hf
        obtain ⟨q20, eq20, hf⟩ := ob hf
        refine r_callV (pc := 42) (As := [DI 2]) (rest := []) (stk' := [DI q20.1]) (k1_X5_fail eq20) gb19 rfl hC wd_3_150 wd_3_152 wd_s_15 wd_3_153 wd_1_3 md_X5_fail rfl ⟨rfl, rfl, Nat.le_of_ble_eq_true rfl, Nat.le_of_ble_eq_true rfl, Nat.le_of_ble_eq_true rfl, Nat.le_of_ble_eq_true rfl⟩ dX5_box_42 rfl (Nat.le_of_ble_eq_true rfl) rfl ?_
        exact r_iret (pc := 45) hE hC (f1xI hf) ⟨Nat.le_of_ble_eq_true rfl, Nat.le_of_ble_eq_true rfl⟩ dX5_box_45
    · replace hf := oi_t c24 hf
      refine r_aload_n (pc := 25) hC dX5_box_25 rfl 0 rfl ?_
      refine r_iconst (pc := 26) (v := 1) hC dX5_box_26 (by decide) ?_
      obtain ⟨b22, gb22, hf⟩ := ob hf
      obtain ⟨q23, eq23, hf⟩ := ob hf
      refine r_callV (pc := 27) (As := [DI 1]) (rest := []) (stk' := [DI q23.1]) (k1_X5_fail eq23) gb22 rfl hC wd_3_150 wd_3_152 wd_s_15 wd_3_153 wd_1_3 md_X5_fail rfl ⟨rfl, rfl, Nat.le_of_ble_eq_true rfl, Nat.le_of_ble_eq_true rfl, Nat.le_of_ble_eq_true rfl, Nat.le_of_ble_eq_true rfl⟩ dX5_box_27 rfl (Nat.le_of_ble_eq_true rfl) rfl ?_
      exact r_iret (pc := 30) hE hC (f1xI hf) ⟨Nat.le_of_ble_eq_true rfl, Nat.le_of_ble_eq_true rfl⟩ dX5_box_30
abbrev rmK1_X5_fits : Room := { frames := 2, cells := 0, slots := 0, locals := 43 }
set_option maxRecDepth 100000 in
set_option maxHeartbeats 4000000 in
theorem k1_X5_fits {st : DSt} {x : Nat} {a0 : Int32} {a1 : Int32} {v : Int32} (hf : fX5_fits st x a0 a1 = some v) : dm_K1 yX5_fits cX5_fits 3 (some .boolean) rmK1_X5_fits 0 0 [DR (some x), DI a0, DI a1] st (some (DI v)) st := by
  refine dm_k1 (by decide) rfl (Nat.le_of_ble_eq_true rfl) fun Y hC hN hI hE => ?_
  unfold fX5_fits at hf
  refine dm_sub (lv' := [(0, DR (some x)), (1, DI a0), (2, DI a1)]) ([0, 1, 2]) rfl ?_
  refine r_aload_n (pc := 0) hC dX5_fits_0 rfl 0 rfl ?_
  refine r_iload_n (pc := 1) hC dX5_fits_1 rfl 2 rfl ?_
  refine r_iconst (pc := 2) (v := 2) hC dX5_fits_2 (by decide) ?_
  obtain ⟨b1, gb1, hf⟩ := ob hf
  obtain ⟨q2, eq2, hf⟩ := ob hf
  refine r_callV (pc := 3) (As := [DI a1, DI 2]) (rest := []) (stk' := [DI q2]) (k1_X5_bx eq2) gb1 rfl hC wd_4_30 wd_4_32 wd_s_31 wd_4_33 wd_1_3 md_X5_bx rfl ⟨rfl, rfl, Nat.le_of_ble_eq_true rfl, Nat.le_of_ble_eq_true rfl, Nat.le_of_ble_eq_true rfl, Nat.le_of_ble_eq_true rfl⟩ dX5_fits_3 rfl (Nat.le_of_ble_eq_true rfl) rfl ?_
  refine r_if_ne (pc := 6) (tgt := 53) hC dX5_fits_6 (by decide) (fun c21 => ?_) (fun c21 => ?_)
  · replace hf := oi_f c21 hf
    refine r_iconst (pc := 53) (v := 0) hC dX5_fits_53 (by decide) ?_
    obtain ⟨v3, ev3, hf⟩ := ob hf
    exact r_zret (pc := 54) hE hC ev3 (f1pI hf) ⟨Nat.le_of_ble_eq_true rfl, Nat.le_of_ble_eq_true rfl⟩ dX5_fits_54
  · replace hf := oi_t c21 hf
    refine r_aload_n (pc := 9) hC dX5_fits_9 rfl 0 rfl ?_
    refine r_iload_n (pc := 10) hC dX5_fits_10 rfl 1 rfl ?_
    obtain ⟨b4, gb4, hf⟩ := ob hf
    obtain ⟨q5, eq5, hf⟩ := ob hf
    refine r_callV (pc := 11) (As := [DI a0]) (rest := []) (stk' := [DI q5]) (k1_X5_squares eq5) gb4 rfl hC wd_4_2 wd_4_4 wd_s_26 wd_4_5 wd_1_3 md_X5_squares rfl ⟨rfl, rfl, Nat.le_of_ble_eq_true rfl, Nat.le_of_ble_eq_true rfl, Nat.le_of_ble_eq_true rfl, Nat.le_of_ble_eq_true rfl⟩ dX5_fits_11 rfl (Nat.le_of_ble_eq_true rfl) rfl ?_
    refine r_aload_n (pc := 14) hC dX5_fits_14 rfl 0 rfl ?_
    refine r_iload_n (pc := 15) hC dX5_fits_15 rfl 2 rfl ?_
    refine r_iconst (pc := 16) (v := 0) hC dX5_fits_16 (by decide) ?_
    obtain ⟨b6, gb6, hf⟩ := ob hf
    obtain ⟨q7, eq7, hf⟩ := ob hf
    refine r_callV (pc := 17) (As := [DI a1, DI 0]) (rest := [DI q5]) (stk' := [DI q7, DI q5]) (k1_X5_bx eq7) gb6 rfl hC wd_4_30 wd_4_32 wd_s_31 wd_4_33 wd_1_3 md_X5_bx rfl ⟨rfl, rfl, Nat.le_of_ble_eq_true rfl, Nat.le_of_ble_eq_true rfl, Nat.le_of_ble_eq_true rfl, Nat.le_of_ble_eq_true rfl⟩ dX5_fits_17 rfl (Nat.le_of_ble_eq_true rfl) rfl ?_
    refine r_icmp_ne (pc := 20) (tgt := 53) hC dX5_fits_20 (by decide) (fun c20 => ?_) (fun c20 => ?_)
    · replace hf := oi_f c20 hf
      refine r_iconst (pc := 53) (v := 0) hC dX5_fits_53 (by decide) ?_
      obtain ⟨v8, ev8, hf⟩ := ob hf
      exact r_zret (pc := 54) hE hC ev8 (f1pI hf) ⟨Nat.le_of_ble_eq_true rfl, Nat.le_of_ble_eq_true rfl⟩ dX5_fits_54
    · replace hf := oi_t c20 hf
      refine r_aload_n (pc := 23) hC dX5_fits_23 rfl 0 rfl ?_
      refine r_iload_n (pc := 24) hC dX5_fits_24 rfl 1 rfl ?_
      refine r_iconst (pc := 25) (v := 2) hC dX5_fits_25 (by decide) ?_
      obtain ⟨b9, gb9, hf⟩ := ob hf
      obtain ⟨q10, eq10, hf⟩ := ob hf
      refine r_callV (pc := 26) (As := [DI a0, DI 2]) (rest := []) (stk' := [DI q10]) (k1_X5_sl eq10) gb9 rfl hC wd_3_227 wd_3_229 wd_s_25 wd_3_230 wd_1_3 md_X5_sl rfl ⟨rfl, rfl, Nat.le_of_ble_eq_true rfl, Nat.le_of_ble_eq_true rfl, Nat.le_of_ble_eq_true rfl, Nat.le_of_ble_eq_true rfl⟩ dX5_fits_26 rfl (Nat.le_of_ble_eq_true rfl) rfl ?_
      refine r_aload_n (pc := 29) hC dX5_fits_29 rfl 0 rfl ?_
      refine r_iload_n (pc := 30) hC dX5_fits_30 rfl 2 rfl ?_
      refine r_iconst (pc := 31) (v := 1) hC dX5_fits_31 (by decide) ?_
      obtain ⟨b11, gb11, hf⟩ := ob hf
      obtain ⟨q12, eq12, hf⟩ := ob hf
      refine r_callV (pc := 32) (As := [DI a1, DI 1]) (rest := [DI q10]) (stk' := [DI q12, DI q10]) (k1_X5_bx eq12) gb11 rfl hC wd_4_30 wd_4_32 wd_s_31 wd_4_33 wd_1_3 md_X5_bx rfl ⟨rfl, rfl, Nat.le_of_ble_eq_true rfl, Nat.le_of_ble_eq_true rfl, Nat.le_of_ble_eq_true rfl, Nat.le_of_ble_eq_true rfl⟩ dX5_fits_32 rfl (Nat.le_of_ble_eq_true rfl) rfl ?_
      refine r_icmp_lt (pc := 35) (tgt := 53) hC dX5_fits_35 (by decide) (fun c19 => ?_) (fun c19 => ?_)
      · replace hf := oi_t c19 hf
        refine r_iconst (pc := 53) (v := 0) hC dX5_fits_53 (by decide) ?_
        obtain ⟨v13, ev13, hf⟩ := ob hf
        exact r_zret (pc := 54) hE hC ev13 (f1pI hf) ⟨Nat.le_of_ble_eq_true rfl, Nat.le_of_ble_eq_true rfl⟩ dX5_fits_54
      · replace hf := oi_f c19 hf
        refine r_aload_n (pc := 38) hC dX5_fits_38 rfl 0 rfl ?_
        refine r_iload_n (pc := 39) hC dX5_fits_39 rfl 1 rfl ?_
        refine r_iconst (pc := 40) (v := 3) hC dX5_fits_40 (by decide) ?_
        obtain ⟨b14, gb14, hf⟩ := ob hf
        obtain ⟨q15, eq15, hf⟩ := ob hf
        refine r_callV (pc := 41) (As := [DI a0, DI 3]) (rest := []) (stk' := [DI q15]) (k1_X5_sl eq15) gb14 rfl hC wd_3_227 wd_3_229 wd_s_25 wd_3_230 wd_1_3 md_X5_sl rfl ⟨rfl, rfl, Nat.le_of_ble_eq_true rfl, Nat.le_of_ble_eq_true rfl, Nat.le_of_ble_eq_true rfl, Nat.le_of_ble_eq_true rfl⟩ dX5_fits_41 rfl (Nat.le_of_ble_eq_true rfl) rfl ?_
        refine r_bipush (pc := 44) (v := 20) hC dX5_fits_44 (by decide) ?_
        refine r_icmp_gt (pc := 46) (tgt := 53) hC dX5_fits_46 (by decide) (fun c18 => ?_) (fun c18 => ?_)
        · replace hf := oi_t c18 hf
          refine r_iconst (pc := 53) (v := 0) hC dX5_fits_53 (by decide) ?_
          obtain ⟨v16, ev16, hf⟩ := ob hf
          exact r_zret (pc := 54) hE hC ev16 (f1pI hf) ⟨Nat.le_of_ble_eq_true rfl, Nat.le_of_ble_eq_true rfl⟩ dX5_fits_54
        · replace hf := oi_f c18 hf
          refine r_iconst (pc := 49) (v := 1) hC dX5_fits_49 (by decide) ?_
          refine r_goto (pc := 50) (tgt := 54) hC dX5_fits_50 (by decide) ?_
          obtain ⟨v17, ev17, hf⟩ := ob hf
          exact r_zret (pc := 54) hE hC ev17 (f1pI hf) ⟨Nat.le_of_ble_eq_true rfl, Nat.le_of_ble_eq_true rfl⟩ dX5_fits_54
abbrev rmK1_X5_fillOne : Room := { frames := 3, cells := 0, slots := 0, locals := 72 }
set_option maxRecDepth 100000 in
set_option maxHeartbeats 4000000 in
theorem k1_X5_fillOne {st : DSt} {x : Nat} {a0 : Int32} {v : Int32} {st1 : DSt} (hf : fX5_fillOne st x a0 = some (v, st1)) : dm_K1 yX5_fillOne cX5_fillOne 3 (some .boolean) rmK1_X5_fillOne 0 0 [DR (some x), DI a0] st (some (DI v)) st1 := by
  refine dm_k1 (by decide) rfl (Nat.le_of_ble_eq_true rfl) fun Y hC hN hI hE => ?_
  unfold fX5_fillOne at hf
  refine dm_sub (lv' := [(0, DR (some x)), (1, DI a0)]) ([0, 1]) rfl ?_
  refine r_iconst (pc := 0) (v := 0) hC dX5_fillOne_0 (by decide) ?_
  refine r_istore_n (pc := 1) (lv' := [(2, DI 0), (0, DR (some x)), (1, DI a0)]) hC hN dX5_fillOne_1 rfl (by decide) rfl ?_
  obtain ⟨b1, eb1, hf⟩ := ob hf
  refine dm_sub (lv' := [(0, DR (some x)), (1, DI a0), (2, DI 0)]) [1, 2, 0] rfl ?_
  refine dlp_W _ (fun (z1 : DSt × Int32) => dm_W Y 0 0 z1.1 2 [(0, DR (some x)), (1, DI a0), (2, DI z1.2)] []) (fun (b1 : (DSt × Int32) ⊕ (Int32 × DSt)) => match b1 with | .inl yb1 => dm_W Y 0 0 yb1.1 78 [(0, DR (some x)), (1, DI a0), (2, DI yb1.2)] [] | .inr r9 => some r9 = some (v, st1)) ?_ eb1 ?_
  · intro z1 r hf hk
    unfold fX5_fillOne_L2 at hf
    refine r_iload_n (pc := 2) hC dX5_fillOne_2 rfl 2 rfl ?_
    refine r_aload_n (pc := 3) hC dX5_fillOne_3 rfl 0 rfl ?_
    obtain ⟨v2, ev2, hf⟩ := ob hf
    refine r_getI (pc := 4) CF5 (k := 3) hC (by decide) wd_3_105 dX5_fillOne_4 ev2 ?_
    refine r_icmp_ge (pc := 7) (tgt := 78) hC dX5_fillOne_7 (by decide) (fun c19 => ?_) (fun c19 => ?_)
    · replace hf := oi_t c19 hf
      cases hf
      exact dm_sub [0, 1, 2] rfl hk
    · replace hf := oi_f c19 hf
      refine r_aload_n (pc := 10) hC dX5_fillOne_10 rfl 0 rfl ?_
      refine r_iload_n (pc := 11) hC dX5_fillOne_11 rfl 2 rfl ?_
      refine r_iload_n (pc := 12) hC dX5_fillOne_12 rfl 1 rfl ?_
      obtain ⟨b3, gb3, hf⟩ := ob hf
      obtain ⟨q4, eq4, hf⟩ := ob hf
      refine r_callV (pc := 13) (As := [DI z1.2, DI a0]) (rest := []) (stk' := [DI q4]) (k1_X5_fits eq4) gb3 rfl hC wd_4_26 wd_4_28 wd_s_30 wd_4_29 wd_1_3 md_X5_fits rfl ⟨rfl, rfl, Nat.le_of_ble_eq_true rfl, Nat.le_of_ble_eq_true rfl, Nat.le_of_ble_eq_true rfl, Nat.le_of_ble_eq_true rfl⟩ dX5_fillOne_13 rfl (Nat.le_of_ble_eq_true rfl) rfl ?_
      refine r_if_ne (pc := 16) (tgt := 22) hC dX5_fillOne_16 (by decide) (fun c18 => ?_) (fun c18 => ?_)
      · replace hf := oi_f c18 hf
        refine r_aload_n (pc := 22) hC dX5_fillOne_22 rfl 0 rfl ?_
        obtain ⟨v5, ev5, hf⟩ := ob hf
        refine r_getR (pc := 23) CF5 (k := 7) hC (by decide) wd_3_109 dX5_fillOne_23 ev5 ?_
        refine r_iconst (pc := 26) (v := 5) hC dX5_fillOne_26 (by decide) ?_
        refine r_iload_n (pc := 27) hC dX5_fillOne_27 rfl 1 rfl ?_
        refine r_imul (pc := 28) hC dX5_fillOne_28 ?_
        refine r_iconst (pc := 29) (v := 2) hC dX5_fillOne_29 (by decide) ?_
        refine r_iadd (pc := 30) hC dX5_fillOne_30 ?_
        refine r_iconst (pc := 31) (v := 1) hC dX5_fillOne_31 (by decide) ?_
        obtain ⟨s6, es6, hf⟩ := ob hf
        refine r_iastore (pc := 32) hC dX5_fillOne_32 es6 ?_
        refine r_aload_n (pc := 33) hC dX5_fillOne_33 rfl 0 rfl ?_
        obtain ⟨v7, ev7, hf⟩ := ob hf
        refine r_getR (pc := 34) CF5 (k := 7) hC (by decide) wd_3_109 dX5_fillOne_34 ev7 ?_
        refine r_iconst (pc := 37) (v := 5) hC dX5_fillOne_37 (by decide) ?_
        refine r_iload_n (pc := 38) hC dX5_fillOne_38 rfl 1 rfl ?_
        refine r_imul (pc := 39) hC dX5_fillOne_39 ?_
        refine r_iconst (pc := 40) (v := 3) hC dX5_fillOne_40 (by decide) ?_
        refine r_iadd (pc := 41) hC dX5_fillOne_41 ?_
        refine r_aload_n (pc := 42) hC dX5_fillOne_42 rfl 0 rfl ?_
        refine r_iload_n (pc := 43) hC dX5_fillOne_43 rfl 2 rfl ?_
        refine r_iconst (pc := 44) (v := 2) hC dX5_fillOne_44 (by decide) ?_
        obtain ⟨b8, gb8, hf⟩ := ob hf
        obtain ⟨q9, eq9, hf⟩ := ob hf
        refine r_callV (pc := 45) (As := [DI z1.2, DI 2]) (rest := [DI ((5 * a0) + 3), DR v7]) (stk' := [DI q9, DI ((5 * a0) + 3), DR v7]) (k1_X5_sl eq9) gb8 rfl hC wd_3_227 wd_3_229 wd_s_25 wd_3_230 wd_1_3 md_X5_sl rfl ⟨rfl, rfl, Nat.le_of_ble_eq_true rfl, Nat.le_of_ble_eq_true rfl, Nat.le_of_ble_eq_true rfl, Nat.le_of_ble_eq_true rfl⟩ dX5_fillOne_45 rfl (Nat.le_of_ble_eq_true rfl) rfl ?_
        obtain ⟨s10, es10, hf⟩ := ob hf
        refine r_iastore (pc := 48) hC dX5_fillOne_48 es10 ?_
        refine r_aload_n (pc := 49) hC dX5_fillOne_49 rfl 0 rfl ?_
        obtain ⟨v11, ev11, hf⟩ := ob hf
        refine r_getR (pc := 50) CF5 (k := 7) hC (by decide) wd_3_109 dX5_fillOne_50 ev11 ?_
        refine r_iconst (pc := 53) (v := 5) hC dX5_fillOne_53 (by decide) ?_
        refine r_iload_n (pc := 54) hC dX5_fillOne_54 rfl 1 rfl ?_
        refine r_imul (pc := 55) hC dX5_fillOne_55 ?_
        refine r_iconst (pc := 56) (v := 4) hC dX5_fillOne_56 (by decide) ?_
        refine r_iadd (pc := 57) hC dX5_fillOne_57 ?_
        refine r_aload_n (pc := 58) hC dX5_fillOne_58 rfl 0 rfl ?_
        refine r_iload_n (pc := 59) hC dX5_fillOne_59 rfl 2 rfl ?_
        refine r_iconst (pc := 60) (v := 3) hC dX5_fillOne_60 (by decide) ?_
        obtain ⟨b12, gb12, hf⟩ := ob hf
        obtain ⟨q13, eq13, hf⟩ := ob hf
        refine r_callV (pc := 61) (As := [DI z1.2, DI 3]) (rest := [DI ((5 * a0) + 4), DR v11]) (stk' := [DI q13, DI ((5 * a0) + 4), DR v11]) (k1_X5_sl eq13) gb12 rfl hC wd_3_227 wd_3_229 wd_s_25 wd_3_230 wd_1_3 md_X5_sl rfl ⟨rfl, rfl, Nat.le_of_ble_eq_true rfl, Nat.le_of_ble_eq_true rfl, Nat.le_of_ble_eq_true rfl, Nat.le_of_ble_eq_true rfl⟩ dX5_fillOne_61 rfl (Nat.le_of_ble_eq_true rfl) rfl ?_
        obtain ⟨s14, es14, hf⟩ := ob hf
        refine r_iastore (pc := 64) hC dX5_fillOne_64 es14 ?_
        refine r_aload_n (pc := 65) hC dX5_fillOne_65 rfl 0 rfl ?_
        refine r_iload_n (pc := 66) hC dX5_fillOne_66 rfl 2 rfl ?_
        obtain ⟨b15, gb15, hf⟩ := ob hf
        obtain ⟨q16, eq16, hf⟩ := ob hf
        refine r_callV (pc := 67) (As := [DI z1.2]) (rest := []) (stk' := []) (k1_X5_away eq16) gb15 rfl hC wd_4_6 wd_4_8 wd_s_27 wd_4_9 wd_1_3 md_X5_away rfl ⟨rfl, rfl, Nat.le_of_ble_eq_true rfl, Nat.le_of_ble_eq_true rfl, Nat.le_of_ble_eq_true rfl, Nat.le_of_ble_eq_true rfl⟩ dX5_fillOne_67 rfl (Nat.le_of_ble_eq_true rfl) rfl ?_
        refine r_iconst (pc := 70) (v := 1) hC dX5_fillOne_70 (by decide) ?_
        obtain ⟨v17, ev17, hf⟩ := ob hf
        cases hf
        exact r_zret (pc := 71) hE hC ev17 (f1xI hk) ⟨Nat.le_of_ble_eq_true rfl, Nat.le_of_ble_eq_true rfl⟩ dX5_fillOne_71
      · replace hf := oi_t c18 hf
        refine r_goto (pc := 19) (tgt := 72) hC dX5_fillOne_19 (by decide) ?_
        refine r_iinc (pc := 72) (pos := 2) (v := (z1.2 + 1)) (lv' := [(2, DI (z1.2 + 1)), (0, DR (some x)), (1, DI a0)]) hC hN dX5_fillOne_72 rfl rfl (by decide) rfl ?_
        refine r_goto (pc := 75) (tgt := 2) hC dX5_fillOne_75 (by decide) ?_
        cases hf
        exact dm_sub [1, 2, 0] rfl hk
  · rcases b1 with yb1 | r9
    · refine r_iconst (pc := 78) (v := 0) hC dX5_fillOne_78 (by decide) ?_
      obtain ⟨v20, ev20, hf⟩ := ob hf
      exact r_zret (pc := 79) hE hC ev20 (f1xI hf) ⟨Nat.le_of_ble_eq_true rfl, Nat.le_of_ble_eq_true rfl⟩ dX5_fillOne_79
    · exact hf
abbrev rmK1_X5_fillAll : Room := { frames := 4, cells := 0, slots := 0, locals := 94 }
set_option maxRecDepth 100000 in
set_option maxHeartbeats 4000000 in
theorem k1_X5_fillAll {st : DSt} {x : Nat} {v : Int32} {st1 : DSt} (hf : fX5_fillAll st x = some (v, st1)) : dm_K1 yX5_fillAll cX5_fillAll 3 (some .int) rmK1_X5_fillAll 0 0 [DR (some x)] st (some (DI v)) st1 := by
  refine dm_k1 (by decide) rfl (Nat.le_of_ble_eq_true rfl) fun Y hC hN hI hE => ?_
  unfold fX5_fillAll at hf
  refine dm_sub (lv' := [(0, DR (some x))]) ([0]) rfl ?_
  refine r_iconst (pc := 0) (v := 0) hC dX5_fillAll_0 (by decide) ?_
  refine r_istore_n (pc := 1) (lv' := [(1, DI 0), (0, DR (some x))]) hC hN dX5_fillAll_1 rfl (by decide) rfl ?_
  refine r_iconst (pc := 2) (v := 0) hC dX5_fillAll_2 (by decide) ?_
  refine r_istore_n (pc := 3) (lv' := [(2, DI 0), (1, DI 0), (0, DR (some x))]) hC hN dX5_fillAll_3 rfl (by decide) rfl ?_
  obtain ⟨b1, eb1, hf⟩ := ob hf
  refine dm_sub (lv' := [(0, DR (some x)), (1, DI 0), (2, DI 0)]) [2, 1, 0] rfl ?_
  refine dlp_W _ (fun (z1 : DSt × Int32 × Int32) => dm_W Y 0 0 z1.1 4 [(0, DR (some x)), (1, DI z1.2.1), (2, DI z1.2.2)] []) (fun (b1 : DSt × Int32 × Int32) => dm_W Y 0 0 b1.1 34 [(0, DR (some x)), (1, DI b1.2.1), (2, DI b1.2.2)] []) ?_ eb1 ?_
  · intro z1 r hf hk
    unfold fX5_fillAll_L4 at hf
    refine r_iload_n (pc := 4) hC dX5_fillAll_4 rfl 2 rfl ?_
    refine r_aload_n (pc := 5) hC dX5_fillAll_5 rfl 0 rfl ?_
    obtain ⟨v2, ev2, hf⟩ := ob hf
    refine r_getI (pc := 6) CF5 (k := 4) hC (by decide) wd_3_106 dX5_fillAll_6 ev2 ?_
    refine r_icmp_ge (pc := 9) (tgt := 34) hC dX5_fillAll_9 (by decide) (fun c6 => ?_) (fun c6 => ?_)
    · replace hf := oi_t c6 hf
      cases hf
      exact dm_sub [0, 1, 2] rfl hk
    · replace hf := oi_f c6 hf
      refine r_iload_n (pc := 12) hC dX5_fillAll_12 rfl 1 rfl ?_
      refine r_aload_n (pc := 13) hC dX5_fillAll_13 rfl 0 rfl ?_
      refine r_iload_n (pc := 14) hC dX5_fillAll_14 rfl 2 rfl ?_
      obtain ⟨b3, gb3, hf⟩ := ob hf
      obtain ⟨q4, eq4, hf⟩ := ob hf
      refine r_callV (pc := 15) (As := [DI z1.2.2]) (rest := [DI z1.2.1]) (stk' := [DI q4.1, DI z1.2.1]) (k1_X5_fillOne eq4) gb3 rfl hC wd_4_22 wd_4_24 wd_s_29 wd_4_25 wd_1_3 md_X5_fillOne rfl ⟨rfl, rfl, Nat.le_of_ble_eq_true rfl, Nat.le_of_ble_eq_true rfl, Nat.le_of_ble_eq_true rfl, Nat.le_of_ble_eq_true rfl⟩ dX5_fillAll_15 rfl (Nat.le_of_ble_eq_true rfl) rfl ?_
      refine r_if_eq (pc := 18) (tgt := 25) hC dX5_fillAll_18 (by decide) (fun c5 => ?_) (fun c5 => ?_)
      · replace hf := oi_t c5 hf
        refine r_iconst (pc := 25) (v := 0) hC dX5_fillAll_25 (by decide) ?_
        refine r_iadd (pc := 26) hC dX5_fillAll_26 ?_
        refine r_istore_n (pc := 27) (lv' := [(1, DI (z1.2.1 + 0)), (0, DR (some x)), (2, DI z1.2.2)]) hC hN dX5_fillAll_27 rfl (by decide) rfl ?_
        refine r_iinc (pc := 28) (pos := 2) (v := (z1.2.2 + 1)) (lv' := [(2, DI (z1.2.2 + 1)), (1, DI (z1.2.1 + 0)), (0, DR (some x))]) hC hN dX5_fillAll_28 rfl rfl (by decide) rfl ?_
        refine r_goto (pc := 31) (tgt := 4) hC dX5_fillAll_31 (by decide) ?_
        cases hf
        exact dm_sub [2, 1, 0] rfl hk
      · replace hf := oi_f c5 hf
        refine r_iconst (pc := 21) (v := 1) hC dX5_fillAll_21 (by decide) ?_
        refine r_goto (pc := 22) (tgt := 26) hC dX5_fillAll_22 (by decide) ?_
        refine r_iadd (pc := 26) hC dX5_fillAll_26 ?_
        refine r_istore_n (pc := 27) (lv' := [(1, DI (z1.2.1 + 1)), (0, DR (some x)), (2, DI z1.2.2)]) hC hN dX5_fillAll_27 rfl (by decide) rfl ?_
        refine r_iinc (pc := 28) (pos := 2) (v := (z1.2.2 + 1)) (lv' := [(2, DI (z1.2.2 + 1)), (1, DI (z1.2.1 + 1)), (0, DR (some x))]) hC hN dX5_fillAll_28 rfl rfl (by decide) rfl ?_
        refine r_goto (pc := 31) (tgt := 4) hC dX5_fillAll_31 (by decide) ?_
        cases hf
        exact dm_sub [2, 1, 0] rfl hk
  · refine r_iload_n (pc := 34) hC dX5_fillAll_34 rfl 1 rfl ?_
    exact r_iret (pc := 35) hE hC (f1xI hf) ⟨Nat.le_of_ble_eq_true rfl, Nat.le_of_ble_eq_true rfl⟩ dX5_fillAll_35
abbrev rmK1_X5_fill : Room := { frames := 5, cells := 0, slots := 0, locals := 116 }
set_option maxRecDepth 100000 in
set_option maxHeartbeats 4000000 in
theorem k1_X5_fill {st : DSt} {x : Nat} {v : Int32} {st1 : DSt} (hf : fX5_fill st x = some (v, st1)) : dm_K1 yX5_fill cX5_fill 1 (some .int) rmK1_X5_fill 0 0 [DR (some x)] st (some (DI v)) st1 := by
  refine dm_k1 (by decide) rfl (Nat.le_of_ble_eq_true rfl) fun Y hC hN hI hE => ?_
  unfold fX5_fill at hf
  refine dm_sub (lv' := [(0, DR (some x))]) ([0]) rfl ?_
  refine r_aload_n (pc := 0) hC dX5_fill_0 rfl 0 rfl ?_
  refine r_iconst (pc := 1) (v := 0) hC dX5_fill_1 (by decide) ?_
  obtain ⟨s1, es1, hf⟩ := ob hf
  refine r_put (pc := 2) CF5 (k := 0) hC (by decide) wd_3_102 rfl ⟨rfl, rfl⟩ dX5_fill_2 es1 ?_
  refine r_aload_n (pc := 5) hC dX5_fill_5 rfl 0 rfl ?_
  obtain ⟨b2, gb2, hf⟩ := ob hf
  obtain ⟨q3, eq3, hf⟩ := ob hf
  refine r_callV (pc := 6) (As := []) (rest := []) (stk' := [DI q3.1]) (k1_X5_fillAll eq3) gb2 rfl hC wd_4_18 wd_4_20 wd_s_28 wd_4_21 wd_1_3 md_X5_fillAll rfl ⟨rfl, rfl, Nat.le_of_ble_eq_true rfl, Nat.le_of_ble_eq_true rfl, Nat.le_of_ble_eq_true rfl, Nat.le_of_ble_eq_true rfl⟩ dX5_fill_6 rfl (Nat.le_of_ble_eq_true rfl) rfl ?_
  exact r_iret (pc := 9) hE hC (f1xI hf) ⟨Nat.le_of_ble_eq_true rfl, Nat.le_of_ble_eq_true rfl⟩ dX5_fill_9
abbrev rmK1_X5_more : Room := { frames := 1, cells := 0, slots := 0, locals := 22 }
set_option maxRecDepth 100000 in
set_option maxHeartbeats 4000000 in
theorem k1_X5_more {st : DSt} {x : Nat} {a0 : Int32} {a1 : Int32} {v : Int32} (hf : fX5_more st x a0 a1 = some v) : dm_K1 yX5_more cX5_more 3 (some .int) rmK1_X5_more 0 0 [DR (some x), DI a0, DI a1] st (some (DI v)) st := by
  refine dm_k1 (by decide) rfl (Nat.le_of_ble_eq_true rfl) fun Y hC hN hI hE => ?_
  unfold fX5_more at hf
  refine dm_sub (lv' := [(0, DR (some x)), (1, DI a0), (2, DI a1)]) ([0, 1, 2]) rfl ?_
  refine r_bipush (pc := 0) (v := 100) hC dX5_more_0 (by decide) ?_
  refine r_aload_n (pc := 2) hC dX5_more_2 rfl 0 rfl ?_
  refine r_iload_n (pc := 3) hC dX5_more_3 rfl 1 rfl ?_
  refine r_iconst (pc := 4) (v := 2) hC dX5_more_4 (by decide) ?_
  obtain ⟨b1, gb1, hf⟩ := ob hf
  obtain ⟨q2, eq2, hf⟩ := ob hf
  refine r_callV (pc := 5) (As := [DI a0, DI 2]) (rest := [DI 100]) (stk' := [DI q2, DI 100]) (k1_X5_sl eq2) gb1 rfl hC wd_3_227 wd_3_229 wd_s_25 wd_3_230 wd_1_3 md_X5_sl rfl ⟨rfl, rfl, Nat.le_of_ble_eq_true rfl, Nat.le_of_ble_eq_true rfl, Nat.le_of_ble_eq_true rfl, Nat.le_of_ble_eq_true rfl⟩ dX5_more_5 rfl (Nat.le_of_ble_eq_true rfl) rfl ?_
  refine r_isub (pc := 8) hC dX5_more_8 ?_
  refine r_bipush (pc := 9) (v := 10) hC dX5_more_9 (by decide) ?_
  obtain ⟨v3, ev3, hf⟩ := ob hf
  refine r_idiv (pc := 11) hC dX5_more_11 ev3 ?_
  refine r_iconst (pc := 12) (v := 2) hC dX5_more_12 (by decide) ?_
  refine r_iconst (pc := 13) (v := 0) hC dX5_more_13 (by decide) ?_
  refine r_iload_n (pc := 14) hC dX5_more_14 rfl 2 rfl ?_
  refine r_bipush (pc := 15) (v := 24) hC dX5_more_15 (by decide) ?_
  refine r_isub (pc := 17) hC dX5_more_17 ?_
  refine r_max (pc := 18) hC wd_3_194 wd_1_94 wd_1_11 (wd_1_95) dX5_more_18 ⟨Nat.le_of_ble_eq_true rfl, Nat.le_of_ble_eq_true rfl, Nat.le_of_ble_eq_true rfl, Nat.le_of_ble_eq_true rfl⟩ ?_
  refine r_imul (pc := 21) hC dX5_more_21 ?_
  refine r_iadd (pc := 22) hC dX5_more_22 ?_
  exact r_iret (pc := 23) hE hC (f1pI hf) ⟨Nat.le_of_ble_eq_true rfl, Nat.le_of_ble_eq_true rfl⟩ dX5_more_23
abbrev rmK1_X5_bloomed : Room := { frames := 1, cells := 0, slots := 0, locals := 22 }
set_option maxRecDepth 100000 in
set_option maxHeartbeats 4000000 in
theorem k1_X5_bloomed {st : DSt} {x : Nat} {v : Int32} (hf : fX5_bloomed st x = some v) : dm_K1 yX5_bloomed cX5_bloomed 3 (some .int) rmK1_X5_bloomed 0 0 [DR (some x)] st (some (DI v)) st := by
  refine dm_k1 (by decide) rfl (Nat.le_of_ble_eq_true rfl) fun Y hC hN hI hE => ?_
  unfold fX5_bloomed at hf
  refine dm_sub (lv' := [(0, DR (some x))]) ([0]) rfl ?_
  refine r_iconst (pc := 0) (v := 0) hC dX5_bloomed_0 (by decide) ?_
  refine r_istore_n (pc := 1) (lv' := [(1, DI 0), (0, DR (some x))]) hC hN dX5_bloomed_1 rfl (by decide) rfl ?_
  refine r_iconst (pc := 2) (v := 0) hC dX5_bloomed_2 (by decide) ?_
  refine r_istore_n (pc := 3) (lv' := [(2, DI 0), (1, DI 0), (0, DR (some x))]) hC hN dX5_bloomed_3 rfl (by decide) rfl ?_
  obtain ⟨b1, eb1, hf⟩ := ob hf
  refine dm_sub (lv' := [(0, DR (some x)), (1, DI 0), (2, DI 0)]) [2, 1, 0] rfl ?_
  refine dlp_W _ (fun (z1 : Int32 × Int32) => dm_W Y 0 0 st 4 [(0, DR (some x)), (1, DI z1.1), (2, DI z1.2)] []) (fun (b1 : Int32 × Int32) => dm_W Y 0 0 st 37 [(0, DR (some x)), (1, DI b1.1), (2, DI b1.2)] []) ?_ eb1 ?_
  · intro z1 r hf hk
    unfold fX5_bloomed_L4 at hf
    refine r_iload_n (pc := 4) hC dX5_bloomed_4 rfl 2 rfl ?_
    refine r_aload_n (pc := 5) hC dX5_bloomed_5 rfl 0 rfl ?_
    obtain ⟨v2, ev2, hf⟩ := ob hf
    refine r_getI (pc := 6) CF5 (k := 3) hC (by decide) wd_3_105 dX5_bloomed_6 ev2 ?_
    refine r_icmp_ge (pc := 9) (tgt := 37) hC dX5_bloomed_9 (by decide) (fun c6 => ?_) (fun c6 => ?_)
    · replace hf := oi_t c6 hf
      cases hf
      exact dm_sub [0, 1, 2] rfl hk
    · replace hf := oi_f c6 hf
      refine r_iload_n (pc := 12) hC dX5_bloomed_12 rfl 1 rfl ?_
      refine r_aload_n (pc := 13) hC dX5_bloomed_13 rfl 0 rfl ?_
      refine r_iload_n (pc := 14) hC dX5_bloomed_14 rfl 2 rfl ?_
      refine r_iconst (pc := 15) (v := 3) hC dX5_bloomed_15 (by decide) ?_
      obtain ⟨b3, gb3, hf⟩ := ob hf
      obtain ⟨q4, eq4, hf⟩ := ob hf
      refine r_callV (pc := 16) (As := [DI z1.2, DI 3]) (rest := [DI z1.1]) (stk' := [DI q4, DI z1.1]) (k1_X5_sl eq4) gb3 rfl hC wd_3_227 wd_3_229 wd_s_25 wd_3_230 wd_1_3 md_X5_sl rfl ⟨rfl, rfl, Nat.le_of_ble_eq_true rfl, Nat.le_of_ble_eq_true rfl, Nat.le_of_ble_eq_true rfl, Nat.le_of_ble_eq_true rfl⟩ dX5_bloomed_16 rfl (Nat.le_of_ble_eq_true rfl) rfl ?_
      refine r_bipush (pc := 19) (v := 20) hC dX5_bloomed_19 (by decide) ?_
      refine r_icmp_le (pc := 21) (tgt := 28) hC dX5_bloomed_21 (by decide) (fun c5 => ?_) (fun c5 => ?_)
      · replace hf := oi_t c5 hf
        refine r_iconst (pc := 28) (v := 0) hC dX5_bloomed_28 (by decide) ?_
        refine r_iadd (pc := 29) hC dX5_bloomed_29 ?_
        refine r_istore_n (pc := 30) (lv' := [(1, DI (z1.1 + 0)), (0, DR (some x)), (2, DI z1.2)]) hC hN dX5_bloomed_30 rfl (by decide) rfl ?_
        refine r_iinc (pc := 31) (pos := 2) (v := (z1.2 + 1)) (lv' := [(2, DI (z1.2 + 1)), (1, DI (z1.1 + 0)), (0, DR (some x))]) hC hN dX5_bloomed_31 rfl rfl (by decide) rfl ?_
        refine r_goto (pc := 34) (tgt := 4) hC dX5_bloomed_34 (by decide) ?_
        cases hf
        exact dm_sub [2, 1, 0] rfl hk
      · replace hf := oi_f c5 hf
        refine r_iconst (pc := 24) (v := 1) hC dX5_bloomed_24 (by decide) ?_
        refine r_goto (pc := 25) (tgt := 29) hC dX5_bloomed_25 (by decide) ?_
        refine r_iadd (pc := 29) hC dX5_bloomed_29 ?_
        refine r_istore_n (pc := 30) (lv' := [(1, DI (z1.1 + 1)), (0, DR (some x)), (2, DI z1.2)]) hC hN dX5_bloomed_30 rfl (by decide) rfl ?_
        refine r_iinc (pc := 31) (pos := 2) (v := (z1.2 + 1)) (lv' := [(2, DI (z1.2 + 1)), (1, DI (z1.1 + 1)), (0, DR (some x))]) hC hN dX5_bloomed_31 rfl rfl (by decide) rfl ?_
        refine r_goto (pc := 34) (tgt := 4) hC dX5_bloomed_34 (by decide) ?_
        cases hf
        exact dm_sub [2, 1, 0] rfl hk
  · refine r_iload_n (pc := 37) hC dX5_bloomed_37 rfl 1 rfl ?_
    exact r_iret (pc := 38) hE hC (f1pI hf) ⟨Nat.le_of_ble_eq_true rfl, Nat.le_of_ble_eq_true rfl⟩ dX5_bloomed_38
abbrev rmK1_X5_pass : Room := { frames := 2, cells := 0, slots := 0, locals := 44 }
set_option maxRecDepth 100000 in
set_option maxHeartbeats 4000000 in
theorem k1_X5_pass {st : DSt} {x : Nat} {a0 : Int32} {a1 : Int32} {v : Int32} {st1 : DSt} (hf : fX5_pass st x a0 a1 = some (v, st1)) : dm_K1 yX5_pass cX5_pass 4 (some .int) rmK1_X5_pass 0 0 [DR (some x), DI a0, DI a1] st (some (DI v)) st1 := by
  refine dm_k1 (by decide) rfl (Nat.le_of_ble_eq_true rfl) fun Y hC hN hI hE => ?_
  unfold fX5_pass at hf
  refine dm_sub (lv' := [(0, DR (some x)), (1, DI a0), (2, DI a1)]) ([0, 1, 2]) rfl ?_
  refine r_aload_n (pc := 0) hC dX5_pass_0 rfl 0 rfl ?_
  refine r_iconst (pc := 1) (v := 0) hC dX5_pass_1 (by decide) ?_
  obtain ⟨s1, es1, hf⟩ := ob hf
  refine r_put (pc := 2) CF5 (k := 0) hC (by decide) wd_3_102 rfl ⟨rfl, rfl⟩ dX5_pass_2 es1 ?_
  refine r_iload_n (pc := 5) hC dX5_pass_5 rfl 1 rfl ?_
  refine r_bipush (pc := 6) (v := 10) hC dX5_pass_6 (by decide) ?_
  refine r_bipush (pc := 8) (v := 40) hC dX5_pass_8 (by decide) ?_
  obtain ⟨q2, eq2, hf⟩ := ob hf
  refine r_callS (pc := 10) (As := [DI a0, DI 10, DI 40]) (rest := []) (stk' := [DI q2]) (k1_X5_isIn eq2) hC wd_3_147 wd_3_148 wd_3_149 wd_1_3 md_X5_isIn rfl ⟨rfl, rfl, Nat.le_of_ble_eq_true rfl, Nat.le_of_ble_eq_true rfl, Nat.le_of_ble_eq_true rfl, Nat.le_of_ble_eq_true rfl⟩ dX5_pass_10 rfl (Nat.le_of_ble_eq_true rfl) rfl ?_
  refine r_if_eq (pc := 13) (tgt := 26) hC dX5_pass_13 (by decide) (fun c26 => ?_) (fun c26 => ?_)
  · replace hf := oi_t c26 hf
    refine r_aload_n (pc := 26) hC dX5_pass_26 rfl 0 rfl ?_
    refine r_iconst (pc := 27) (v := 1) hC dX5_pass_27 (by decide) ?_
    obtain ⟨b3, gb3, hf⟩ := ob hf
    obtain ⟨q4, eq4, hf⟩ := ob hf
    refine r_callV (pc := 28) (As := [DI 1]) (rest := []) (stk' := [DI q4.1]) (k1_X5_fail eq4) gb3 rfl hC wd_3_150 wd_3_152 wd_s_15 wd_3_153 wd_1_3 md_X5_fail rfl ⟨rfl, rfl, Nat.le_of_ble_eq_true rfl, Nat.le_of_ble_eq_true rfl, Nat.le_of_ble_eq_true rfl, Nat.le_of_ble_eq_true rfl⟩ dX5_pass_28 rfl (Nat.le_of_ble_eq_true rfl) rfl ?_
    exact r_iret (pc := 31) hE hC (f1xI hf) ⟨Nat.le_of_ble_eq_true rfl, Nat.le_of_ble_eq_true rfl⟩ dX5_pass_31
  · replace hf := oi_f c26 hf
    refine r_iload_n (pc := 16) hC dX5_pass_16 rfl 2 rfl ?_
    refine r_iconst (pc := 17) (v := 1) hC dX5_pass_17 (by decide) ?_
    refine r_bipush (pc := 18) (v := 60) hC dX5_pass_18 (by decide) ?_
    obtain ⟨q5, eq5, hf⟩ := ob hf
    refine r_callS (pc := 20) (As := [DI a1, DI 1, DI 60]) (rest := []) (stk' := [DI q5]) (k1_X5_isIn eq5) hC wd_3_147 wd_3_148 wd_3_149 wd_1_3 md_X5_isIn rfl ⟨rfl, rfl, Nat.le_of_ble_eq_true rfl, Nat.le_of_ble_eq_true rfl, Nat.le_of_ble_eq_true rfl, Nat.le_of_ble_eq_true rfl⟩ dX5_pass_20 rfl (Nat.le_of_ble_eq_true rfl) rfl ?_
    refine r_if_ne (pc := 23) (tgt := 32) hC dX5_pass_23 (by decide) (fun c25 => ?_) (fun c25 => ?_)
    · replace hf := oi_f c25 hf
      refine r_iconst (pc := 32) (v := 0) hC dX5_pass_32 (by decide) ?_
      refine r_istore_n (pc := 33) (lv' := [(3, DI 0), (0, DR (some x)), (1, DI a0), (2, DI a1)]) hC hN dX5_pass_33 rfl (by decide) rfl ?_
      obtain ⟨b6, eb6, hf⟩ := ob hf
      refine dm_sub (lv' := [(0, DR (some x)), (1, DI a0), (2, DI a1), (3, DI 0)]) [1, 2, 3, 0] rfl ?_
      refine dlp_W _ (fun (z6 : DSt × Int32) => dm_W Y 0 0 z6.1 34 [(0, DR (some x)), (1, DI a0), (2, DI a1), (3, DI z6.2)] []) (fun (b6 : DSt × Int32) => dm_W Y 0 0 b6.1 88 [(0, DR (some x)), (1, DI a0), (2, DI a1), (3, DI b6.2)] []) ?_ eb6 ?_
      · intro z6 r hf hk
        unfold fX5_pass_L34 at hf
        refine r_iload_n (pc := 34) hC dX5_pass_34 rfl 3 rfl ?_
        refine r_aload_n (pc := 35) hC dX5_pass_35 rfl 0 rfl ?_
        obtain ⟨v7, ev7, hf⟩ := ob hf
        refine r_getI (pc := 36) CF5 (k := 3) hC (by decide) wd_3_105 dX5_pass_36 ev7 ?_
        refine r_icmp_ge (pc := 39) (tgt := 88) hC dX5_pass_39 (by decide) (fun c18 => ?_) (fun c18 => ?_)
        · replace hf := oi_t c18 hf
          cases hf
          exact dm_sub [0, 1, 2, 3] rfl hk
        · replace hf := oi_f c18 hf
          refine r_aload_n (pc := 42) hC dX5_pass_42 rfl 0 rfl ?_
          refine r_iload_n (pc := 43) hC dX5_pass_43 rfl 3 rfl ?_
          refine r_iconst (pc := 44) (v := 3) hC dX5_pass_44 (by decide) ?_
          refine r_bipush (pc := 45) (v := 100) hC dX5_pass_45 (by decide) ?_
          refine r_aload_n (pc := 47) hC dX5_pass_47 rfl 0 rfl ?_
          refine r_iload_n (pc := 48) hC dX5_pass_48 rfl 3 rfl ?_
          refine r_iconst (pc := 49) (v := 3) hC dX5_pass_49 (by decide) ?_
          obtain ⟨b8, gb8, hf⟩ := ob hf
          obtain ⟨q9, eq9, hf⟩ := ob hf
          refine r_callV (pc := 50) (As := [DI z6.2, DI 3]) (rest := [DI 100, DI 3, DI z6.2, DR (some x)]) (stk' := [DI q9, DI 100, DI 3, DI z6.2, DR (some x)]) (k1_X5_sl eq9) gb8 rfl hC wd_3_227 wd_3_229 wd_s_25 wd_3_230 wd_1_3 md_X5_sl rfl ⟨rfl, rfl, Nat.le_of_ble_eq_true rfl, Nat.le_of_ble_eq_true rfl, Nat.le_of_ble_eq_true rfl, Nat.le_of_ble_eq_true rfl⟩ dX5_pass_50 rfl (Nat.le_of_ble_eq_true rfl) rfl ?_
          refine r_iload_n (pc := 53) hC dX5_pass_53 rfl 2 rfl ?_
          refine r_aload_n (pc := 54) hC dX5_pass_54 rfl 0 rfl ?_
          refine r_iload_n (pc := 55) hC dX5_pass_55 rfl 3 rfl ?_
          refine r_iload_n (pc := 56) hC dX5_pass_56 rfl 1 rfl ?_
          obtain ⟨b10, gb10, hf⟩ := ob hf
          obtain ⟨q11, eq11, hf⟩ := ob hf
          refine r_callV (pc := 57) (As := [DI z6.2, DI a0]) (rest := [DI a1, DI q9, DI 100, DI 3, DI z6.2, DR (some x)]) (stk' := [DI q11, DI a1, DI q9, DI 100, DI 3, DI z6.2, DR (some x)]) (k1_X5_more eq11) gb10 rfl hC wd_4_38 wd_4_40 wd_s_32 wd_4_41 wd_1_3 md_X5_more rfl ⟨rfl, rfl, Nat.le_of_ble_eq_true rfl, Nat.le_of_ble_eq_true rfl, Nat.le_of_ble_eq_true rfl, Nat.le_of_ble_eq_true rfl⟩ dX5_pass_57 rfl (Nat.le_of_ble_eq_true rfl) rfl ?_
          refine r_imul (pc := 60) hC dX5_pass_60 ?_
          refine r_iadd (pc := 61) hC dX5_pass_61 ?_
          refine r_min (pc := 62) hC wd_3_190 wd_2_4 wd_1_11 (wd_2_5) dX5_pass_62 ⟨Nat.le_of_ble_eq_true rfl, Nat.le_of_ble_eq_true rfl, Nat.le_of_ble_eq_true rfl, Nat.le_of_ble_eq_true rfl⟩ ?_
          obtain ⟨b12, gb12, hf⟩ := ob hf
          obtain ⟨q13, eq13, hf⟩ := ob hf
          refine r_callV (pc := 65) (As := [DI z6.2, DI 3, DI (jmin 100 (q9 + (a1 * q11)))]) (rest := []) (stk' := []) (k1_X5_letSlab eq13) gb12 rfl hC wd_3_215 wd_3_217 wd_s_23 wd_3_218 wd_1_3 md_X5_letSlab rfl ⟨rfl, rfl, Nat.le_of_ble_eq_true rfl, Nat.le_of_ble_eq_true rfl, Nat.le_of_ble_eq_true rfl, Nat.le_of_ble_eq_true rfl⟩ dX5_pass_65 rfl (Nat.le_of_ble_eq_true rfl) rfl ?_
          refine r_aload_n (pc := 68) hC dX5_pass_68 rfl 0 rfl ?_
          refine r_iload_n (pc := 69) hC dX5_pass_69 rfl 3 rfl ?_
          refine r_iconst (pc := 70) (v := 4) hC dX5_pass_70 (by decide) ?_
          refine r_aload_n (pc := 71) hC dX5_pass_71 rfl 0 rfl ?_
          refine r_iload_n (pc := 72) hC dX5_pass_72 rfl 3 rfl ?_
          refine r_iconst (pc := 73) (v := 4) hC dX5_pass_73 (by decide) ?_
          obtain ⟨b14, gb14, hf⟩ := ob hf
          obtain ⟨q15, eq15, hf⟩ := ob hf
          refine r_callV (pc := 74) (As := [DI z6.2, DI 4]) (rest := [DI 4, DI z6.2, DR (some x)]) (stk' := [DI q15, DI 4, DI z6.2, DR (some x)]) (k1_X5_sl eq15) gb14 rfl hC wd_3_227 wd_3_229 wd_s_25 wd_3_230 wd_1_3 md_X5_sl rfl ⟨rfl, rfl, Nat.le_of_ble_eq_true rfl, Nat.le_of_ble_eq_true rfl, Nat.le_of_ble_eq_true rfl, Nat.le_of_ble_eq_true rfl⟩ dX5_pass_74 rfl (Nat.le_of_ble_eq_true rfl) rfl ?_
          refine r_iload_n (pc := 77) hC dX5_pass_77 rfl 2 rfl ?_
          refine r_iadd (pc := 78) hC dX5_pass_78 ?_
          obtain ⟨b16, gb16, hf⟩ := ob hf
          obtain ⟨q17, eq17, hf⟩ := ob hf
          refine r_callV (pc := 79) (As := [DI z6.2, DI 4, DI (q15 + a1)]) (rest := []) (stk' := []) (k1_X5_letSlab eq17) gb16 rfl hC wd_3_215 wd_3_217 wd_s_23 wd_3_218 wd_1_3 md_X5_letSlab rfl ⟨rfl, rfl, Nat.le_of_ble_eq_true rfl, Nat.le_of_ble_eq_true rfl, Nat.le_of_ble_eq_true rfl, Nat.le_of_ble_eq_true rfl⟩ dX5_pass_79 rfl (Nat.le_of_ble_eq_true rfl) rfl ?_
          refine r_iinc (pc := 82) (pos := 3) (v := (z6.2 + 1)) (lv' := [(3, DI (z6.2 + 1)), (0, DR (some x)), (1, DI a0), (2, DI a1)]) hC hN dX5_pass_82 rfl rfl (by decide) rfl ?_
          refine r_goto (pc := 85) (tgt := 34) hC dX5_pass_85 (by decide) ?_
          cases hf
          exact dm_sub [1, 2, 3, 0] rfl hk
      · refine r_aload_n (pc := 88) hC dX5_pass_88 rfl 0 rfl ?_
        refine r_dup (pc := 89) hC dX5_pass_89 rfl ?_
        obtain ⟨v19, ev19, hf⟩ := ob hf
        refine r_getI (pc := 90) CF5 (k := 1) hC (by decide) wd_3_103 dX5_pass_90 ev19 ?_
        refine r_iload_n (pc := 93) hC dX5_pass_93 rfl 2 rfl ?_
        refine r_iadd (pc := 94) hC dX5_pass_94 ?_
        obtain ⟨s20, es20, hf⟩ := ob hf
        refine r_put (pc := 95) CF5 (k := 1) hC (by decide) wd_3_103 rfl ⟨rfl, rfl⟩ dX5_pass_95 es20 ?_
        refine r_aload_n (pc := 98) hC dX5_pass_98 rfl 0 rfl ?_
        obtain ⟨b21, gb21, hf⟩ := ob hf
        obtain ⟨q22, eq22, hf⟩ := ob hf
        refine r_callV (pc := 99) (As := []) (rest := []) (stk' := [DI q22]) (k1_X5_bloomed eq22) gb21 rfl hC wd_4_42 wd_4_44 wd_s_33 wd_4_45 wd_1_3 md_X5_bloomed rfl ⟨rfl, rfl, Nat.le_of_ble_eq_true rfl, Nat.le_of_ble_eq_true rfl, Nat.le_of_ble_eq_true rfl, Nat.le_of_ble_eq_true rfl⟩ dX5_pass_99 rfl (Nat.le_of_ble_eq_true rfl) rfl ?_
        exact r_iret (pc := 102) hE hC (f1xI hf) ⟨Nat.le_of_ble_eq_true rfl, Nat.le_of_ble_eq_true rfl⟩ dX5_pass_102
    · replace hf := oi_t c25 hf
      refine r_aload_n (pc := 26) hC dX5_pass_26 rfl 0 rfl ?_
      refine r_iconst (pc := 27) (v := 1) hC dX5_pass_27 (by decide) ?_
      obtain ⟨b23, gb23, hf⟩ := ob hf
      obtain ⟨q24, eq24, hf⟩ := ob hf
      refine r_callV (pc := 28) (As := [DI 1]) (rest := []) (stk' := [DI q24.1]) (k1_X5_fail eq24) gb23 rfl hC wd_3_150 wd_3_152 wd_s_15 wd_3_153 wd_1_3 md_X5_fail rfl ⟨rfl, rfl, Nat.le_of_ble_eq_true rfl, Nat.le_of_ble_eq_true rfl, Nat.le_of_ble_eq_true rfl, Nat.le_of_ble_eq_true rfl⟩ dX5_pass_28 rfl (Nat.le_of_ble_eq_true rfl) rfl ?_
      exact r_iret (pc := 31) hE hC (f1xI hf) ⟨Nat.le_of_ble_eq_true rfl, Nat.le_of_ble_eq_true rfl⟩ dX5_pass_31
abbrev rmK1_X5_bowlTold : Room := { frames := 3, cells := 0, slots := 0, locals := 65 }
set_option maxRecDepth 100000 in
set_option maxHeartbeats 4000000 in
theorem k1_X5_bowlTold {st : DSt} {x : Nat} {a0 : Int32} {a1 : Int32} {v : Int32} {st1 : DSt} (hf : fX5_bowlTold st x a0 a1 = some (v, st1)) : dm_K1 yX5_bowlTold cX5_bowlTold 3 (some .int) rmK1_X5_bowlTold 0 0 [DR (some x), DI a0, DI a1] st (some (DI v)) st1 := by
  refine dm_k1 (by decide) rfl (Nat.le_of_ble_eq_true rfl) fun Y hC hN hI hE => ?_
  unfold fX5_bowlTold at hf
  refine dm_sub (lv' := [(0, DR (some x)), (1, DI a0), (2, DI a1)]) ([0, 1, 2]) rfl ?_
  refine r_iload_n (pc := 0) hC dX5_bowlTold_0 rfl 2 rfl ?_
  refine r_bipush (pc := 1) (v := 7) hC dX5_bowlTold_1 (by decide) ?_
  refine r_icmp_ne (pc := 3) (tgt := 14) hC dX5_bowlTold_3 (by decide) (fun c5 => ?_) (fun c5 => ?_)
  · replace hf := oi_f c5 hf
    refine r_aload_n (pc := 14) hC dX5_bowlTold_14 rfl 0 rfl ?_
    refine r_iload_n (pc := 15) hC dX5_bowlTold_15 rfl 1 rfl ?_
    refine r_iload_n (pc := 16) hC dX5_bowlTold_16 rfl 2 rfl ?_
    obtain ⟨b1, gb1, hf⟩ := ob hf
    obtain ⟨q2, eq2, hf⟩ := ob hf
    refine r_callV (pc := 17) (As := [DI a0, DI a1]) (rest := []) (stk' := [DI q2]) (k1_X5_bo eq2) gb1 rfl hC wd_3_174 wd_3_176 wd_s_20 wd_3_177 wd_1_3 md_X5_bo rfl ⟨rfl, rfl, Nat.le_of_ble_eq_true rfl, Nat.le_of_ble_eq_true rfl, Nat.le_of_ble_eq_true rfl, Nat.le_of_ble_eq_true rfl⟩ dX5_bowlTold_17 rfl (Nat.le_of_ble_eq_true rfl) rfl ?_
    exact r_iret (pc := 20) hE hC (f1xI hf) ⟨Nat.le_of_ble_eq_true rfl, Nat.le_of_ble_eq_true rfl⟩ dX5_bowlTold_20
  · replace hf := oi_t c5 hf
    refine r_aload_n (pc := 6) hC dX5_bowlTold_6 rfl 0 rfl ?_
    refine r_iload_n (pc := 7) hC dX5_bowlTold_7 rfl 1 rfl ?_
    obtain ⟨b3, gb3, hf⟩ := ob hf
    obtain ⟨q4, eq4, hf⟩ := ob hf
    refine r_callV (pc := 8) (As := [DI a0]) (rest := []) (stk' := [DI q4.1]) (k1_X5_temperOf eq4) gb3 rfl hC wd_3_207 wd_3_209 wd_s_21 wd_3_210 wd_1_3 md_X5_temperOf rfl ⟨rfl, rfl, Nat.le_of_ble_eq_true rfl, Nat.le_of_ble_eq_true rfl, Nat.le_of_ble_eq_true rfl, Nat.le_of_ble_eq_true rfl⟩ dX5_bowlTold_8 rfl (Nat.le_of_ble_eq_true rfl) rfl ?_
    refine r_goto (pc := 11) (tgt := 20) hC dX5_bowlTold_11 (by decide) ?_
    exact r_iret (pc := 20) hE hC (f1xI hf) ⟨Nat.le_of_ble_eq_true rfl, Nat.le_of_ble_eq_true rfl⟩ dX5_bowlTold_20
abbrev rmK1_X5_told : Room := { frames := 4, cells := 0, slots := 0, locals := 87 }
set_option maxRecDepth 100000 in
set_option maxHeartbeats 4000000 in
theorem k1_X5_told {st : DSt} {x : Nat} {a0 : Int32} {a1 : Int32} {v : Int32} {st1 : DSt} (hf : fX5_told st x a0 a1 = some (v, st1)) : dm_K1 yX5_told cX5_told 3 (some .int) rmK1_X5_told 0 0 [DR (some x), DI a0, DI a1] st (some (DI v)) st1 := by
  refine dm_k1 (by decide) rfl (Nat.le_of_ble_eq_true rfl) fun Y hC hN hI hE => ?_
  unfold fX5_told at hf
  refine dm_sub (lv' := [(0, DR (some x)), (1, DI a0), (2, DI a1)]) ([0, 1, 2]) rfl ?_
  refine r_aload_n (pc := 0) hC dX5_told_0 rfl 0 rfl ?_
  refine r_iconst (pc := 1) (v := 0) hC dX5_told_1 (by decide) ?_
  obtain ⟨s1, es1, hf⟩ := ob hf
  refine r_put (pc := 2) CF5 (k := 0) hC (by decide) wd_3_102 rfl ⟨rfl, rfl⟩ dX5_told_2 es1 ?_
  refine r_aload_n (pc := 5) hC dX5_told_5 rfl 0 rfl ?_
  refine r_iload_n (pc := 6) hC dX5_told_6 rfl 1 rfl ?_
  obtain ⟨b2, gb2, hf⟩ := ob hf
  obtain ⟨q3, eq3, hf⟩ := ob hf
  refine r_callV (pc := 7) (As := [DI a0]) (rest := []) (stk' := [DI q3]) (k1_X5_isBowl eq3) gb2 rfl hC wd_3_162 wd_3_164 wd_s_17 wd_3_165 wd_1_3 md_X5_isBowl rfl ⟨rfl, rfl, Nat.le_of_ble_eq_true rfl, Nat.le_of_ble_eq_true rfl, Nat.le_of_ble_eq_true rfl, Nat.le_of_ble_eq_true rfl⟩ dX5_told_7 rfl (Nat.le_of_ble_eq_true rfl) rfl ?_
  refine r_if_eq (pc := 10) (tgt := 32) hC dX5_told_10 (by decide) (fun c12 => ?_) (fun c12 => ?_)
  · replace hf := oi_t c12 hf
    refine r_aload_n (pc := 32) hC dX5_told_32 rfl 0 rfl ?_
    refine r_iconst (pc := 33) (v := 1) hC dX5_told_33 (by decide) ?_
    obtain ⟨b4, gb4, hf⟩ := ob hf
    obtain ⟨q5, eq5, hf⟩ := ob hf
    refine r_callV (pc := 34) (As := [DI 1]) (rest := []) (stk' := [DI q5.1]) (k1_X5_fail eq5) gb4 rfl hC wd_3_150 wd_3_152 wd_s_15 wd_3_153 wd_1_3 md_X5_fail rfl ⟨rfl, rfl, Nat.le_of_ble_eq_true rfl, Nat.le_of_ble_eq_true rfl, Nat.le_of_ble_eq_true rfl, Nat.le_of_ble_eq_true rfl⟩ dX5_told_34 rfl (Nat.le_of_ble_eq_true rfl) rfl ?_
    exact r_iret (pc := 37) hE hC (f1xI hf) ⟨Nat.le_of_ble_eq_true rfl, Nat.le_of_ble_eq_true rfl⟩ dX5_told_37
  · replace hf := oi_f c12 hf
    refine r_iload_n (pc := 13) hC dX5_told_13 rfl 2 rfl ?_
    refine r_iconst (pc := 14) (v := 0) hC dX5_told_14 (by decide) ?_
    refine r_bipush (pc := 15) (v := 7) hC dX5_told_15 (by decide) ?_
    obtain ⟨q6, eq6, hf⟩ := ob hf
    refine r_callS (pc := 17) (As := [DI a1, DI 0, DI 7]) (rest := []) (stk' := [DI q6]) (k1_X5_isIn eq6) hC wd_3_147 wd_3_148 wd_3_149 wd_1_3 md_X5_isIn rfl ⟨rfl, rfl, Nat.le_of_ble_eq_true rfl, Nat.le_of_ble_eq_true rfl, Nat.le_of_ble_eq_true rfl, Nat.le_of_ble_eq_true rfl⟩ dX5_told_17 rfl (Nat.le_of_ble_eq_true rfl) rfl ?_
    refine r_if_eq (pc := 20) (tgt := 32) hC dX5_told_20 (by decide) (fun c11 => ?_) (fun c11 => ?_)
    · replace hf := oi_t c11 hf
      refine r_aload_n (pc := 32) hC dX5_told_32 rfl 0 rfl ?_
      refine r_iconst (pc := 33) (v := 1) hC dX5_told_33 (by decide) ?_
      obtain ⟨b7, gb7, hf⟩ := ob hf
      obtain ⟨q8, eq8, hf⟩ := ob hf
      refine r_callV (pc := 34) (As := [DI 1]) (rest := []) (stk' := [DI q8.1]) (k1_X5_fail eq8) gb7 rfl hC wd_3_150 wd_3_152 wd_s_15 wd_3_153 wd_1_3 md_X5_fail rfl ⟨rfl, rfl, Nat.le_of_ble_eq_true rfl, Nat.le_of_ble_eq_true rfl, Nat.le_of_ble_eq_true rfl, Nat.le_of_ble_eq_true rfl⟩ dX5_told_34 rfl (Nat.le_of_ble_eq_true rfl) rfl ?_
      exact r_iret (pc := 37) hE hC (f1xI hf) ⟨Nat.le_of_ble_eq_true rfl, Nat.le_of_ble_eq_true rfl⟩ dX5_told_37
    · replace hf := oi_f c11 hf
      refine r_aload_n (pc := 23) hC dX5_told_23 rfl 0 rfl ?_
      refine r_iload_n (pc := 24) hC dX5_told_24 rfl 1 rfl ?_
      refine r_iload_n (pc := 25) hC dX5_told_25 rfl 2 rfl ?_
      obtain ⟨b9, gb9, hf⟩ := ob hf
      obtain ⟨q10, eq10, hf⟩ := ob hf
      refine r_callV (pc := 26) (As := [DI a0, DI a1]) (rest := []) (stk' := [DI q10.1]) (k1_X5_bowlTold eq10) gb9 rfl hC wd_4_50 wd_4_52 wd_s_34 wd_4_53 wd_1_3 md_X5_bowlTold rfl ⟨rfl, rfl, Nat.le_of_ble_eq_true rfl, Nat.le_of_ble_eq_true rfl, Nat.le_of_ble_eq_true rfl, Nat.le_of_ble_eq_true rfl⟩ dX5_told_26 rfl (Nat.le_of_ble_eq_true rfl) rfl ?_
      refine r_goto (pc := 29) (tgt := 37) hC dX5_told_29 (by decide) ?_
      exact r_iret (pc := 37) hE hC (f1xI hf) ⟨Nat.le_of_ble_eq_true rfl, Nat.le_of_ble_eq_true rfl⟩ dX5_told_37
abbrev rmK1_X5_slabTold : Room := { frames := 3, cells := 0, slots := 0, locals := 65 }
set_option maxRecDepth 100000 in
set_option maxHeartbeats 4000000 in
theorem k1_X5_slabTold {st : DSt} {x : Nat} {a0 : Int32} {a1 : Int32} {v : Int32} (hf : fX5_slabTold st x a0 a1 = some v) : dm_K1 yX5_slabTold cX5_slabTold 4 (some .int) rmK1_X5_slabTold 0 0 [DR (some x), DI a0, DI a1] st (some (DI v)) st := by
  refine dm_k1 (by decide) rfl (Nat.le_of_ble_eq_true rfl) fun Y hC hN hI hE => ?_
  unfold fX5_slabTold at hf
  refine dm_sub (lv' := [(0, DR (some x)), (1, DI a0), (2, DI a1)]) ([0, 1, 2]) rfl ?_
  refine r_iload_n (pc := 0) hC dX5_slabTold_0 rfl 2 rfl ?_
  refine r_iconst (pc := 1) (v := 5) hC dX5_slabTold_1 (by decide) ?_
  refine r_icmp_ge (pc := 2) (tgt := 12) hC dX5_slabTold_2 (by decide) (fun c12 => ?_) (fun c12 => ?_)
  · replace hf := oi_t c12 hf
    refine r_iload_n (pc := 12) hC dX5_slabTold_12 rfl 2 rfl ?_
    refine r_iconst (pc := 13) (v := 5) hC dX5_slabTold_13 (by decide) ?_
    refine r_icmp_ne (pc := 14) (tgt := 23) hC dX5_slabTold_14 (by decide) (fun c9 => ?_) (fun c9 => ?_)
    · replace hf := oi_f c9 hf
      refine r_iconst (pc := 23) (v := 0) hC dX5_slabTold_23 (by decide) ?_
      refine r_istore_n (pc := 24) (lv' := [(3, DI 0), (0, DR (some x)), (1, DI a0), (2, DI a1)]) hC hN dX5_slabTold_24 rfl (by decide) rfl ?_
      obtain ⟨b1, eb1, hf⟩ := ob hf
      refine dm_sub (lv' := [(0, DR (some x)), (1, DI a0), (3, DI 0)]) [1, 2, 0] rfl ?_
      refine dlp_W _ (fun (z1 : Int32) => dm_W Y 0 0 st 25 [(0, DR (some x)), (1, DI a0), (3, DI z1)] []) (fun (b1 : (Int32) ⊕ (Int32)) => match b1 with | .inl yb1 => dm_W Y 0 0 st 50 [(0, DR (some x)), (1, DI a0), (3, DI yb1)] [] | .inr r9 => some r9 = some v) ?_ eb1 ?_
      · intro z1 r hf hk
        unfold fX5_slabTold_L25 at hf
        refine r_iload_n (pc := 25) hC dX5_slabTold_25 rfl 2 rfl ?_
        refine r_aload_n (pc := 26) hC dX5_slabTold_26 rfl 0 rfl ?_
        obtain ⟨v2, ev2, hf⟩ := ob hf
        refine r_getI (pc := 27) CF5 (k := 4) hC (by decide) wd_3_106 dX5_slabTold_27 ev2 ?_
        refine r_icmp_ge (pc := 30) (tgt := 50) hC dX5_slabTold_30 (by decide) (fun c6 => ?_) (fun c6 => ?_)
        · replace hf := oi_t c6 hf
          cases hf
          exact dm_sub [0, 1, 2] rfl hk
        · replace hf := oi_f c6 hf
          refine r_aload_n (pc := 33) hC dX5_slabTold_33 rfl 0 rfl ?_
          refine r_iload_n (pc := 34) hC dX5_slabTold_34 rfl 1 rfl ?_
          refine r_iload_n (pc := 35) hC dX5_slabTold_35 rfl 2 rfl ?_
          obtain ⟨b3, gb3, hf⟩ := ob hf
          obtain ⟨q4, eq4, hf⟩ := ob hf
          refine r_callV (pc := 36) (As := [DI a0, DI z1]) (rest := []) (stk' := [DI q4]) (k1_X5_fits eq4) gb3 rfl hC wd_4_26 wd_4_28 wd_s_30 wd_4_29 wd_1_3 md_X5_fits rfl ⟨rfl, rfl, Nat.le_of_ble_eq_true rfl, Nat.le_of_ble_eq_true rfl, Nat.le_of_ble_eq_true rfl, Nat.le_of_ble_eq_true rfl⟩ dX5_slabTold_36 rfl (Nat.le_of_ble_eq_true rfl) rfl ?_
          refine r_if_eq (pc := 39) (tgt := 44) hC dX5_slabTold_39 (by decide) (fun c5 => ?_) (fun c5 => ?_)
          · replace hf := oi_t c5 hf
            refine r_iinc (pc := 44) (pos := 2) (v := (z1 + 1)) (lv' := [(3, DI (z1 + 1)), (0, DR (some x)), (1, DI a0)]) hC hN dX5_slabTold_44 rfl rfl (by decide) rfl ?_
            refine r_goto (pc := 47) (tgt := 25) hC dX5_slabTold_47 (by decide) ?_
            cases hf
            exact dm_sub [1, 2, 0] rfl hk
          · replace hf := oi_f c5 hf
            refine r_iload_n (pc := 42) hC dX5_slabTold_42 rfl 2 rfl ?_
            cases hf
            exact r_iret (pc := 43) hE hC (f1pI hk) ⟨Nat.le_of_ble_eq_true rfl, Nat.le_of_ble_eq_true rfl⟩ dX5_slabTold_43
      · rcases b1 with yb1 | r9
        · refine r_iconst (pc := 50) (v := (-1)) hC dX5_slabTold_50 (by decide) ?_
          exact r_iret (pc := 51) hE hC (f1pI hf) ⟨Nat.le_of_ble_eq_true rfl, Nat.le_of_ble_eq_true rfl⟩ dX5_slabTold_51
        · exact hf
    · replace hf := oi_t c9 hf
      refine r_aload_n (pc := 17) hC dX5_slabTold_17 rfl 0 rfl ?_
      refine r_iload_n (pc := 18) hC dX5_slabTold_18 rfl 1 rfl ?_
      obtain ⟨b7, gb7, hf⟩ := ob hf
      obtain ⟨q8, eq8, hf⟩ := ob hf
      refine r_callV (pc := 19) (As := [DI a0]) (rest := []) (stk' := [DI q8]) (k1_X5_squares eq8) gb7 rfl hC wd_4_2 wd_4_4 wd_s_26 wd_4_5 wd_1_3 md_X5_squares rfl ⟨rfl, rfl, Nat.le_of_ble_eq_true rfl, Nat.le_of_ble_eq_true rfl, Nat.le_of_ble_eq_true rfl, Nat.le_of_ble_eq_true rfl⟩ dX5_slabTold_19 rfl (Nat.le_of_ble_eq_true rfl) rfl ?_
      exact r_iret (pc := 22) hE hC (f1pI hf) ⟨Nat.le_of_ble_eq_true rfl, Nat.le_of_ble_eq_true rfl⟩ dX5_slabTold_22
  · replace hf := oi_f c12 hf
    refine r_aload_n (pc := 5) hC dX5_slabTold_5 rfl 0 rfl ?_
    refine r_iload_n (pc := 6) hC dX5_slabTold_6 rfl 1 rfl ?_
    refine r_iload_n (pc := 7) hC dX5_slabTold_7 rfl 2 rfl ?_
    obtain ⟨b10, gb10, hf⟩ := ob hf
    obtain ⟨q11, eq11, hf⟩ := ob hf
    refine r_callV (pc := 8) (As := [DI a0, DI a1]) (rest := []) (stk' := [DI q11]) (k1_X5_sl eq11) gb10 rfl hC wd_3_227 wd_3_229 wd_s_25 wd_3_230 wd_1_3 md_X5_sl rfl ⟨rfl, rfl, Nat.le_of_ble_eq_true rfl, Nat.le_of_ble_eq_true rfl, Nat.le_of_ble_eq_true rfl, Nat.le_of_ble_eq_true rfl⟩ dX5_slabTold_8 rfl (Nat.le_of_ble_eq_true rfl) rfl ?_
    exact r_iret (pc := 11) hE hC (f1pI hf) ⟨Nat.le_of_ble_eq_true rfl, Nat.le_of_ble_eq_true rfl⟩ dX5_slabTold_11
abbrev rmK1_X5_about : Room := { frames := 4, cells := 0, slots := 0, locals := 88 }
set_option maxRecDepth 100000 in
set_option maxHeartbeats 4000000 in
theorem k1_X5_about {st : DSt} {x : Nat} {a0 : Int32} {a1 : Int32} {v : Int32} {st1 : DSt} (hf : fX5_about st x a0 a1 = some (v, st1)) : dm_K1 yX5_about cX5_about 3 (some .int) rmK1_X5_about 0 0 [DR (some x), DI a0, DI a1] st (some (DI v)) st1 := by
  refine dm_k1 (by decide) rfl (Nat.le_of_ble_eq_true rfl) fun Y hC hN hI hE => ?_
  unfold fX5_about at hf
  refine dm_sub (lv' := [(0, DR (some x)), (1, DI a0), (2, DI a1)]) ([0, 1, 2]) rfl ?_
  refine r_aload_n (pc := 0) hC dX5_about_0 rfl 0 rfl ?_
  refine r_iconst (pc := 1) (v := 0) hC dX5_about_1 (by decide) ?_
  obtain ⟨s1, es1, hf⟩ := ob hf
  refine r_put (pc := 2) CF5 (k := 0) hC (by decide) wd_3_102 rfl ⟨rfl, rfl⟩ dX5_about_2 es1 ?_
  refine r_aload_n (pc := 5) hC dX5_about_5 rfl 0 rfl ?_
  refine r_iload_n (pc := 6) hC dX5_about_6 rfl 1 rfl ?_
  obtain ⟨b2, gb2, hf⟩ := ob hf
  obtain ⟨q3, eq3, hf⟩ := ob hf
  refine r_callV (pc := 7) (As := [DI a0]) (rest := []) (stk' := [DI q3]) (k1_X5_isSlab eq3) gb2 rfl hC wd_3_223 wd_3_225 wd_s_24 wd_3_226 wd_1_3 md_X5_isSlab rfl ⟨rfl, rfl, Nat.le_of_ble_eq_true rfl, Nat.le_of_ble_eq_true rfl, Nat.le_of_ble_eq_true rfl, Nat.le_of_ble_eq_true rfl⟩ dX5_about_7 rfl (Nat.le_of_ble_eq_true rfl) rfl ?_
  refine r_if_eq (pc := 10) (tgt := 32) hC dX5_about_10 (by decide) (fun c12 => ?_) (fun c12 => ?_)
  · replace hf := oi_t c12 hf
    refine r_aload_n (pc := 32) hC dX5_about_32 rfl 0 rfl ?_
    refine r_iconst (pc := 33) (v := 1) hC dX5_about_33 (by decide) ?_
    obtain ⟨b4, gb4, hf⟩ := ob hf
    obtain ⟨q5, eq5, hf⟩ := ob hf
    refine r_callV (pc := 34) (As := [DI 1]) (rest := []) (stk' := [DI q5.1]) (k1_X5_fail eq5) gb4 rfl hC wd_3_150 wd_3_152 wd_s_15 wd_3_153 wd_1_3 md_X5_fail rfl ⟨rfl, rfl, Nat.le_of_ble_eq_true rfl, Nat.le_of_ble_eq_true rfl, Nat.le_of_ble_eq_true rfl, Nat.le_of_ble_eq_true rfl⟩ dX5_about_34 rfl (Nat.le_of_ble_eq_true rfl) rfl ?_
    exact r_iret (pc := 37) hE hC (f1xI hf) ⟨Nat.le_of_ble_eq_true rfl, Nat.le_of_ble_eq_true rfl⟩ dX5_about_37
  · replace hf := oi_f c12 hf
    refine r_iload_n (pc := 13) hC dX5_about_13 rfl 2 rfl ?_
    refine r_iconst (pc := 14) (v := 0) hC dX5_about_14 (by decide) ?_
    refine r_bipush (pc := 15) (v := 6) hC dX5_about_15 (by decide) ?_
    obtain ⟨q6, eq6, hf⟩ := ob hf
    refine r_callS (pc := 17) (As := [DI a1, DI 0, DI 6]) (rest := []) (stk' := [DI q6]) (k1_X5_isIn eq6) hC wd_3_147 wd_3_148 wd_3_149 wd_1_3 md_X5_isIn rfl ⟨rfl, rfl, Nat.le_of_ble_eq_true rfl, Nat.le_of_ble_eq_true rfl, Nat.le_of_ble_eq_true rfl, Nat.le_of_ble_eq_true rfl⟩ dX5_about_17 rfl (Nat.le_of_ble_eq_true rfl) rfl ?_
    refine r_if_eq (pc := 20) (tgt := 32) hC dX5_about_20 (by decide) (fun c11 => ?_) (fun c11 => ?_)
    · replace hf := oi_t c11 hf
      refine r_aload_n (pc := 32) hC dX5_about_32 rfl 0 rfl ?_
      refine r_iconst (pc := 33) (v := 1) hC dX5_about_33 (by decide) ?_
      obtain ⟨b7, gb7, hf⟩ := ob hf
      obtain ⟨q8, eq8, hf⟩ := ob hf
      refine r_callV (pc := 34) (As := [DI 1]) (rest := []) (stk' := [DI q8.1]) (k1_X5_fail eq8) gb7 rfl hC wd_3_150 wd_3_152 wd_s_15 wd_3_153 wd_1_3 md_X5_fail rfl ⟨rfl, rfl, Nat.le_of_ble_eq_true rfl, Nat.le_of_ble_eq_true rfl, Nat.le_of_ble_eq_true rfl, Nat.le_of_ble_eq_true rfl⟩ dX5_about_34 rfl (Nat.le_of_ble_eq_true rfl) rfl ?_
      exact r_iret (pc := 37) hE hC (f1xI hf) ⟨Nat.le_of_ble_eq_true rfl, Nat.le_of_ble_eq_true rfl⟩ dX5_about_37
    · replace hf := oi_f c11 hf
      refine r_aload_n (pc := 23) hC dX5_about_23 rfl 0 rfl ?_
      refine r_iload_n (pc := 24) hC dX5_about_24 rfl 1 rfl ?_
      refine r_iload_n (pc := 25) hC dX5_about_25 rfl 2 rfl ?_
      obtain ⟨b9, gb9, hf⟩ := ob hf
      obtain ⟨q10, eq10, hf⟩ := ob hf
      refine r_callV (pc := 26) (As := [DI a0, DI a1]) (rest := []) (stk' := [DI q10]) (k1_X5_slabTold eq10) gb9 rfl hC wd_4_58 wd_4_60 wd_s_35 wd_4_61 wd_1_3 md_X5_slabTold rfl ⟨rfl, rfl, Nat.le_of_ble_eq_true rfl, Nat.le_of_ble_eq_true rfl, Nat.le_of_ble_eq_true rfl, Nat.le_of_ble_eq_true rfl⟩ dX5_about_26 rfl (Nat.le_of_ble_eq_true rfl) rfl ?_
      refine r_goto (pc := 29) (tgt := 37) hC dX5_about_29 (by decide) ?_
      exact r_iret (pc := 37) hE hC (f1xI hf) ⟨Nat.le_of_ble_eq_true rfl, Nat.le_of_ble_eq_true rfl⟩ dX5_about_37
abbrev rmK1_X5_order : Room := { frames := 1, cells := 0, slots := 0, locals := 22 }
set_option maxRecDepth 100000 in
set_option maxHeartbeats 4000000 in
theorem k1_X5_order {st : DSt} {x : Nat} {a0 : Int32} {a1 : Int32} {v : Int32} {st1 : DSt} (hf : fX5_order st x a0 a1 = some (v, st1)) : dm_K1 yX5_order cX5_order 3 (some .int) rmK1_X5_order 0 0 [DR (some x), DI a0, DI a1] st (some (DI v)) st1 := by
  refine dm_k1 (by decide) rfl (Nat.le_of_ble_eq_true rfl) fun Y hC hN hI hE => ?_
  unfold fX5_order at hf
  refine dm_sub (lv' := [(0, DR (some x)), (1, DI a0), (2, DI a1)]) ([0, 1, 2]) rfl ?_
  refine r_aload_n (pc := 0) hC dX5_order_0 rfl 0 rfl ?_
  refine r_iconst (pc := 1) (v := 0) hC dX5_order_1 (by decide) ?_
  obtain ⟨s1, es1, hf⟩ := ob hf
  refine r_put (pc := 2) CF5 (k := 0) hC (by decide) wd_3_102 rfl ⟨rfl, rfl⟩ dX5_order_2 es1 ?_
  refine r_iload_n (pc := 5) hC dX5_order_5 rfl 1 rfl ?_
  refine r_iconst (pc := 6) (v := 0) hC dX5_order_6 (by decide) ?_
  refine r_aload_n (pc := 7) hC dX5_order_7 rfl 0 rfl ?_
  obtain ⟨v2, ev2, hf⟩ := ob hf
  refine r_getI (pc := 8) CF5 (k := 4) hC (by decide) wd_3_106 dX5_order_8 ev2 ?_
  refine r_iconst (pc := 11) (v := 1) hC dX5_order_11 (by decide) ?_
  refine r_isub (pc := 12) hC dX5_order_12 ?_
  obtain ⟨q3, eq3, hf⟩ := ob hf
  refine r_callS (pc := 13) (As := [DI a0, DI 0, DI (v2 - 1)]) (rest := []) (stk' := [DI q3]) (k1_X5_isIn eq3) hC wd_3_147 wd_3_148 wd_3_149 wd_1_3 md_X5_isIn rfl ⟨rfl, rfl, Nat.le_of_ble_eq_true rfl, Nat.le_of_ble_eq_true rfl, Nat.le_of_ble_eq_true rfl, Nat.le_of_ble_eq_true rfl⟩ dX5_order_13 rfl (Nat.le_of_ble_eq_true rfl) rfl ?_
  refine r_if_eq (pc := 16) (tgt := 37) hC dX5_order_16 (by decide) (fun c12 => ?_) (fun c12 => ?_)
  · replace hf := oi_t c12 hf
    refine r_aload_n (pc := 37) hC dX5_order_37 rfl 0 rfl ?_
    refine r_iconst (pc := 38) (v := 1) hC dX5_order_38 (by decide) ?_
    obtain ⟨b4, gb4, hf⟩ := ob hf
    obtain ⟨q5, eq5, hf⟩ := ob hf
    refine r_callV (pc := 39) (As := [DI 1]) (rest := []) (stk' := [DI q5.1]) (k1_X5_fail eq5) gb4 rfl hC wd_3_150 wd_3_152 wd_s_15 wd_3_153 wd_1_3 md_X5_fail rfl ⟨rfl, rfl, Nat.le_of_ble_eq_true rfl, Nat.le_of_ble_eq_true rfl, Nat.le_of_ble_eq_true rfl, Nat.le_of_ble_eq_true rfl⟩ dX5_order_39 rfl (Nat.le_of_ble_eq_true rfl) rfl ?_
    exact r_iret (pc := 42) hE hC (f1xI hf) ⟨Nat.le_of_ble_eq_true rfl, Nat.le_of_ble_eq_true rfl⟩ dX5_order_42
  · replace hf := oi_f c12 hf
    refine r_iload_n (pc := 19) hC dX5_order_19 rfl 2 rfl ?_
    refine r_iconst (pc := 20) (v := 0) hC dX5_order_20 (by decide) ?_
    refine r_iconst (pc := 21) (v := 4) hC dX5_order_21 (by decide) ?_
    obtain ⟨q6, eq6, hf⟩ := ob hf
    refine r_callS (pc := 22) (As := [DI a1, DI 0, DI 4]) (rest := []) (stk' := [DI q6]) (k1_X5_isIn eq6) hC wd_3_147 wd_3_148 wd_3_149 wd_1_3 md_X5_isIn rfl ⟨rfl, rfl, Nat.le_of_ble_eq_true rfl, Nat.le_of_ble_eq_true rfl, Nat.le_of_ble_eq_true rfl, Nat.le_of_ble_eq_true rfl⟩ dX5_order_22 rfl (Nat.le_of_ble_eq_true rfl) rfl ?_
    refine r_if_eq (pc := 25) (tgt := 37) hC dX5_order_25 (by decide) (fun c11 => ?_) (fun c11 => ?_)
    · replace hf := oi_t c11 hf
      refine r_aload_n (pc := 37) hC dX5_order_37 rfl 0 rfl ?_
      refine r_iconst (pc := 38) (v := 1) hC dX5_order_38 (by decide) ?_
      obtain ⟨b7, gb7, hf⟩ := ob hf
      obtain ⟨q8, eq8, hf⟩ := ob hf
      refine r_callV (pc := 39) (As := [DI 1]) (rest := []) (stk' := [DI q8.1]) (k1_X5_fail eq8) gb7 rfl hC wd_3_150 wd_3_152 wd_s_15 wd_3_153 wd_1_3 md_X5_fail rfl ⟨rfl, rfl, Nat.le_of_ble_eq_true rfl, Nat.le_of_ble_eq_true rfl, Nat.le_of_ble_eq_true rfl, Nat.le_of_ble_eq_true rfl⟩ dX5_order_39 rfl (Nat.le_of_ble_eq_true rfl) rfl ?_
      exact r_iret (pc := 42) hE hC (f1xI hf) ⟨Nat.le_of_ble_eq_true rfl, Nat.le_of_ble_eq_true rfl⟩ dX5_order_42
    · replace hf := oi_f c11 hf
      refine r_aload_n (pc := 28) hC dX5_order_28 rfl 0 rfl ?_
      refine r_iload_n (pc := 29) hC dX5_order_29 rfl 1 rfl ?_
      refine r_iload_n (pc := 30) hC dX5_order_30 rfl 2 rfl ?_
      obtain ⟨b9, gb9, hf⟩ := ob hf
      obtain ⟨q10, eq10, hf⟩ := ob hf
      refine r_callV (pc := 31) (As := [DI a0, DI a1]) (rest := []) (stk' := [DI q10]) (k1_X5_bx eq10) gb9 rfl hC wd_4_30 wd_4_32 wd_s_31 wd_4_33 wd_1_3 md_X5_bx rfl ⟨rfl, rfl, Nat.le_of_ble_eq_true rfl, Nat.le_of_ble_eq_true rfl, Nat.le_of_ble_eq_true rfl, Nat.le_of_ble_eq_true rfl⟩ dX5_order_31 rfl (Nat.le_of_ble_eq_true rfl) rfl ?_
      refine r_goto (pc := 34) (tgt := 42) hC dX5_order_34 (by decide) ?_
      exact r_iret (pc := 42) hE hC (f1xI hf) ⟨Nat.le_of_ble_eq_true rfl, Nat.le_of_ble_eq_true rfl⟩ dX5_order_42
abbrev rmK1_X5_counted : Room := { frames := 2, cells := 0, slots := 0, locals := 44 }
set_option maxRecDepth 100000 in
set_option maxHeartbeats 4000000 in
theorem k1_X5_counted {st : DSt} {x : Nat} {a0 : Int32} {v : Int32} (hf : fX5_counted st x a0 = some v) : dm_K1 yX5_counted cX5_counted 4 (some .int) rmK1_X5_counted 0 0 [DR (some x), DI a0] st (some (DI v)) st := by
  refine dm_k1 (by decide) rfl (Nat.le_of_ble_eq_true rfl) fun Y hC hN hI hE => ?_
  unfold fX5_counted at hf
  refine dm_sub (lv' := [(0, DR (some x)), (1, DI a0)]) ([0, 1]) rfl ?_
  refine r_iconst (pc := 0) (v := 0) hC dX5_counted_0 (by decide) ?_
  refine r_istore_n (pc := 1) (lv' := [(2, DI 0), (0, DR (some x)), (1, DI a0)]) hC hN dX5_counted_1 rfl (by decide) rfl ?_
  refine r_iload_n (pc := 2) hC dX5_counted_2 rfl 2 rfl ?_
  by_cases c1 : a0 = 0
  · replace hf := oi_t c1 hf
    refine r_tswIn (pc := 3) (off := 41) (tgt := 44) hC dX5_counted_3 (by rw [c1]; decide) (by rw [c1]; decide) (by rw [c1]; rfl) (by decide) ?_
    refine r_aload_n (pc := 44) hC dX5_counted_44 rfl 1 rfl ?_
    obtain ⟨v9, ev9, hf⟩ := ob hf
    refine r_getI (pc := 45) CF5 (k := 1) hC (by decide) wd_3_103 dX5_counted_45 ev9 ?_
    exact r_iret (pc := 48) hE hC (f1pI hf) ⟨Nat.le_of_ble_eq_true rfl, Nat.le_of_ble_eq_true rfl⟩ dX5_counted_48
  replace hf := oi_f c1 hf
  by_cases c2 : a0 = 1
  · replace hf := oi_t c2 hf
    refine r_tswIn (pc := 3) (off := 46) (tgt := 49) hC dX5_counted_3 (by rw [c2]; decide) (by rw [c2]; decide) (by rw [c2]; rfl) (by decide) ?_
    refine r_aload_n (pc := 49) hC dX5_counted_49 rfl 1 rfl ?_
    obtain ⟨v10, ev10, hf⟩ := ob hf
    refine r_getI (pc := 50) CF5 (k := 2) hC (by decide) wd_3_104 dX5_counted_50 ev10 ?_
    exact r_iret (pc := 53) hE hC (f1pI hf) ⟨Nat.le_of_ble_eq_true rfl, Nat.le_of_ble_eq_true rfl⟩ dX5_counted_53
  replace hf := oi_f c2 hf
  by_cases c3 : a0 = 2
  · replace hf := oi_t c3 hf
    refine r_tswIn (pc := 3) (off := 51) (tgt := 54) hC dX5_counted_3 (by rw [c3]; decide) (by rw [c3]; decide) (by rw [c3]; rfl) (by decide) ?_
    refine r_aload_n (pc := 54) hC dX5_counted_54 rfl 1 rfl ?_
    obtain ⟨v11, ev11, hf⟩ := ob hf
    refine r_getI (pc := 55) CF5 (k := 3) hC (by decide) wd_3_105 dX5_counted_55 ev11 ?_
    exact r_iret (pc := 58) hE hC (f1pI hf) ⟨Nat.le_of_ble_eq_true rfl, Nat.le_of_ble_eq_true rfl⟩ dX5_counted_58
  replace hf := oi_f c3 hf
  by_cases c4 : a0 = 3
  · replace hf := oi_t c4 hf
    refine r_tswIn (pc := 3) (off := 56) (tgt := 59) hC dX5_counted_3 (by rw [c4]; decide) (by rw [c4]; decide) (by rw [c4]; rfl) (by decide) ?_
    refine r_aload_n (pc := 59) hC dX5_counted_59 rfl 1 rfl ?_
    obtain ⟨v12, ev12, hf⟩ := ob hf
    refine r_getI (pc := 60) CF5 (k := 4) hC (by decide) wd_3_106 dX5_counted_60 ev12 ?_
    exact r_iret (pc := 63) hE hC (f1pI hf) ⟨Nat.le_of_ble_eq_true rfl, Nat.le_of_ble_eq_true rfl⟩ dX5_counted_63
  replace hf := oi_f c4 hf
  by_cases c5 : a0 = 4
  · replace hf := oi_t c5 hf
    refine r_tswIn (pc := 3) (off := 61) (tgt := 64) hC dX5_counted_3 (by rw [c5]; decide) (by rw [c5]; decide) (by rw [c5]; rfl) (by decide) ?_
    refine r_iconst (pc := 64) (v := 0) hC dX5_counted_64 (by decide) ?_
    refine r_istore_n (pc := 65) (lv' := [(3, DI 0), (2, DI 0), (0, DR (some x)), (1, DI a0)]) hC hN dX5_counted_65 rfl (by decide) rfl ?_
    obtain ⟨b13, eb13, hf⟩ := ob hf
    refine dm_sub (lv' := [(0, DR (some x)), (2, DI 0), (3, DI 0)]) [2, 1, 0] rfl ?_
    refine dlp_W _ (fun (z13 : Int32 × Int32) => dm_W Y 0 0 st 66 [(0, DR (some x)), (2, DI z13.1), (3, DI z13.2)] []) (fun (b13 : Int32 × Int32) => dm_W Y 0 0 st 89 [(0, DR (some x)), (2, DI b13.1), (3, DI b13.2)] []) ?_ eb13 ?_
    · intro z13 r hf hk
      unfold fX5_counted_L66 at hf
      refine r_iload_n (pc := 66) hC dX5_counted_66 rfl 2 rfl ?_
      refine r_aload_n (pc := 67) hC dX5_counted_67 rfl 0 rfl ?_
      obtain ⟨v14, ev14, hf⟩ := ob hf
      refine r_getI (pc := 68) CF5 (k := 4) hC (by decide) wd_3_106 dX5_counted_68 ev14 ?_
      refine r_icmp_ge (pc := 71) (tgt := 89) hC dX5_counted_71 (by decide) (fun c17 => ?_) (fun c17 => ?_)
      · replace hf := oi_t c17 hf
        cases hf
        exact dm_sub [0, 1, 2] rfl hk
      · replace hf := oi_f c17 hf
        refine r_iload_n (pc := 74) hC dX5_counted_74 rfl 1 rfl ?_
        refine r_aload_n (pc := 75) hC dX5_counted_75 rfl 0 rfl ?_
        refine r_iload_n (pc := 76) hC dX5_counted_76 rfl 2 rfl ?_
        refine r_iconst (pc := 77) (v := 2) hC dX5_counted_77 (by decide) ?_
        obtain ⟨b15, gb15, hf⟩ := ob hf
        obtain ⟨q16, eq16, hf⟩ := ob hf
        refine r_callV (pc := 78) (As := [DI z13.2, DI 2]) (rest := [DI z13.1]) (stk' := [DI q16, DI z13.1]) (k1_X5_bx eq16) gb15 rfl hC wd_4_30 wd_4_32 wd_s_31 wd_4_33 wd_1_3 md_X5_bx rfl ⟨rfl, rfl, Nat.le_of_ble_eq_true rfl, Nat.le_of_ble_eq_true rfl, Nat.le_of_ble_eq_true rfl, Nat.le_of_ble_eq_true rfl⟩ dX5_counted_78 rfl (Nat.le_of_ble_eq_true rfl) rfl ?_
        refine r_iadd (pc := 81) hC dX5_counted_81 ?_
        refine r_istore_n (pc := 82) (lv' := [(2, DI (z13.1 + q16)), (0, DR (some x)), (3, DI z13.2)]) hC hN dX5_counted_82 rfl (by decide) rfl ?_
        refine r_iinc (pc := 83) (pos := 2) (v := (z13.2 + 1)) (lv' := [(3, DI (z13.2 + 1)), (2, DI (z13.1 + q16)), (0, DR (some x))]) hC hN dX5_counted_83 rfl rfl (by decide) rfl ?_
        refine r_goto (pc := 86) (tgt := 66) hC dX5_counted_86 (by decide) ?_
        cases hf
        exact dm_sub [2, 1, 0] rfl hk
    · refine r_iload_n (pc := 89) hC dX5_counted_89 rfl 1 rfl ?_
      exact r_iret (pc := 90) hE hC (f1pI hf) ⟨Nat.le_of_ble_eq_true rfl, Nat.le_of_ble_eq_true rfl⟩ dX5_counted_90
  replace hf := oi_f c5 hf
  by_cases c6 : a0 = 5
  · replace hf := oi_t c6 hf
    refine r_tswIn (pc := 3) (off := 88) (tgt := 91) hC dX5_counted_3 (by rw [c6]; decide) (by rw [c6]; decide) (by rw [c6]; rfl) (by decide) ?_
    refine r_iconst (pc := 91) (v := 0) hC dX5_counted_91 (by decide) ?_
    refine r_istore_n (pc := 92) (lv' := [(3, DI 0), (2, DI 0), (0, DR (some x)), (1, DI a0)]) hC hN dX5_counted_92 rfl (by decide) rfl ?_
    obtain ⟨b18, eb18, hf⟩ := ob hf
    refine dm_sub (lv' := [(0, DR (some x)), (2, DI 0), (3, DI 0)]) [2, 1, 0] rfl ?_
    refine dlp_W _ (fun (z18 : Int32 × Int32) => dm_W Y 0 0 st 93 [(0, DR (some x)), (2, DI z18.1), (3, DI z18.2)] []) (fun (b18 : Int32 × Int32) => dm_W Y 0 0 st 116 [(0, DR (some x)), (2, DI b18.1), (3, DI b18.2)] []) ?_ eb18 ?_
    · intro z18 r hf hk
      unfold fX5_counted_L93 at hf
      refine r_iload_n (pc := 93) hC dX5_counted_93 rfl 2 rfl ?_
      refine r_aload_n (pc := 94) hC dX5_counted_94 rfl 0 rfl ?_
      obtain ⟨v19, ev19, hf⟩ := ob hf
      refine r_getI (pc := 95) CF5 (k := 2) hC (by decide) wd_3_104 dX5_counted_95 ev19 ?_
      refine r_icmp_ge (pc := 98) (tgt := 116) hC dX5_counted_98 (by decide) (fun c22 => ?_) (fun c22 => ?_)
      · replace hf := oi_t c22 hf
        cases hf
        exact dm_sub [0, 1, 2] rfl hk
      · replace hf := oi_f c22 hf
        refine r_iload_n (pc := 101) hC dX5_counted_101 rfl 1 rfl ?_
        refine r_aload_n (pc := 102) hC dX5_counted_102 rfl 0 rfl ?_
        refine r_iload_n (pc := 103) hC dX5_counted_103 rfl 2 rfl ?_
        refine r_iconst (pc := 104) (v := 0) hC dX5_counted_104 (by decide) ?_
        obtain ⟨b20, gb20, hf⟩ := ob hf
        obtain ⟨q21, eq21, hf⟩ := ob hf
        refine r_callV (pc := 105) (As := [DI z18.2, DI 0]) (rest := [DI z18.1]) (stk' := [DI q21, DI z18.1]) (k1_X5_bo eq21) gb20 rfl hC wd_3_174 wd_3_176 wd_s_20 wd_3_177 wd_1_3 md_X5_bo rfl ⟨rfl, rfl, Nat.le_of_ble_eq_true rfl, Nat.le_of_ble_eq_true rfl, Nat.le_of_ble_eq_true rfl, Nat.le_of_ble_eq_true rfl⟩ dX5_counted_105 rfl (Nat.le_of_ble_eq_true rfl) rfl ?_
        refine r_iadd (pc := 108) hC dX5_counted_108 ?_
        refine r_istore_n (pc := 109) (lv' := [(2, DI (z18.1 + q21)), (0, DR (some x)), (3, DI z18.2)]) hC hN dX5_counted_109 rfl (by decide) rfl ?_
        refine r_iinc (pc := 110) (pos := 2) (v := (z18.2 + 1)) (lv' := [(3, DI (z18.2 + 1)), (2, DI (z18.1 + q21)), (0, DR (some x))]) hC hN dX5_counted_110 rfl rfl (by decide) rfl ?_
        refine r_goto (pc := 113) (tgt := 93) hC dX5_counted_113 (by decide) ?_
        cases hf
        exact dm_sub [2, 1, 0] rfl hk
    · refine r_iload_n (pc := 116) hC dX5_counted_116 rfl 1 rfl ?_
      exact r_iret (pc := 117) hE hC (f1pI hf) ⟨Nat.le_of_ble_eq_true rfl, Nat.le_of_ble_eq_true rfl⟩ dX5_counted_117
  replace hf := oi_f c6 hf
  by_cases c7 : a0 = 6
  · replace hf := oi_t c7 hf
    refine r_tswIn (pc := 3) (off := 115) (tgt := 118) hC dX5_counted_3 (by rw [c7]; decide) (by rw [c7]; decide) (by rw [c7]; rfl) (by decide) ?_
    refine r_iconst (pc := 118) (v := 0) hC dX5_counted_118 (by decide) ?_
    refine r_istore_n (pc := 119) (lv' := [(3, DI 0), (2, DI 0), (0, DR (some x)), (1, DI a0)]) hC hN dX5_counted_119 rfl (by decide) rfl ?_
    obtain ⟨b23, eb23, hf⟩ := ob hf
    refine dm_sub (lv' := [(0, DR (some x)), (2, DI 0), (3, DI 0)]) [2, 1, 0] rfl ?_
    refine dlp_W _ (fun (z23 : Int32 × Int32) => dm_W Y 0 0 st 120 [(0, DR (some x)), (2, DI z23.1), (3, DI z23.2)] []) (fun (b23 : Int32 × Int32) => dm_W Y 0 0 st 142 [(0, DR (some x)), (2, DI b23.1), (3, DI b23.2)] []) ?_ eb23 ?_
    · intro z23 r hf hk
      unfold fX5_counted_L120 at hf
      refine r_iload_n (pc := 120) hC dX5_counted_120 rfl 2 rfl ?_
      refine r_aload_n (pc := 121) hC dX5_counted_121 rfl 0 rfl ?_
      obtain ⟨v24, ev24, hf⟩ := ob hf
      refine r_getI (pc := 122) CF5 (k := 3) hC (by decide) wd_3_105 dX5_counted_122 ev24 ?_
      refine r_icmp_ge (pc := 125) (tgt := 142) hC dX5_counted_125 (by decide) (fun c27 => ?_) (fun c27 => ?_)
      · replace hf := oi_t c27 hf
        cases hf
        exact dm_sub [0, 1, 2] rfl hk
      · replace hf := oi_f c27 hf
        refine r_iload_n (pc := 128) hC dX5_counted_128 rfl 1 rfl ?_
        refine r_aload_n (pc := 129) hC dX5_counted_129 rfl 0 rfl ?_
        refine r_iload_n (pc := 130) hC dX5_counted_130 rfl 2 rfl ?_
        obtain ⟨b25, gb25, hf⟩ := ob hf
        obtain ⟨q26, eq26, hf⟩ := ob hf
        refine r_callV (pc := 131) (As := [DI z23.2]) (rest := [DI z23.1]) (stk' := [DI q26, DI z23.1]) (k1_X5_squares eq26) gb25 rfl hC wd_4_2 wd_4_4 wd_s_26 wd_4_5 wd_1_3 md_X5_squares rfl ⟨rfl, rfl, Nat.le_of_ble_eq_true rfl, Nat.le_of_ble_eq_true rfl, Nat.le_of_ble_eq_true rfl, Nat.le_of_ble_eq_true rfl⟩ dX5_counted_131 rfl (Nat.le_of_ble_eq_true rfl) rfl ?_
        refine r_iadd (pc := 134) hC dX5_counted_134 ?_
        refine r_istore_n (pc := 135) (lv' := [(2, DI (z23.1 + q26)), (0, DR (some x)), (3, DI z23.2)]) hC hN dX5_counted_135 rfl (by decide) rfl ?_
        refine r_iinc (pc := 136) (pos := 2) (v := (z23.2 + 1)) (lv' := [(3, DI (z23.2 + 1)), (2, DI (z23.1 + q26)), (0, DR (some x))]) hC hN dX5_counted_136 rfl rfl (by decide) rfl ?_
        refine r_goto (pc := 139) (tgt := 120) hC dX5_counted_139 (by decide) ?_
        cases hf
        exact dm_sub [2, 1, 0] rfl hk
    · refine r_iload_n (pc := 142) hC dX5_counted_142 rfl 1 rfl ?_
      exact r_iret (pc := 143) hE hC (f1pI hf) ⟨Nat.le_of_ble_eq_true rfl, Nat.le_of_ble_eq_true rfl⟩ dX5_counted_143
  replace hf := oi_f c7 hf
  have ho : ∀ k, k < 7 → ¬ a0 = nI k := by
    intro k hk hz
    rcases (show k = 0 ∨ k = 1 ∨ k = 2 ∨ k = 3 ∨ k = 4 ∨ k = 5 ∨ k = 6 by omega) with rfl | rfl | rfl | rfl | rfl | rfl | rfl
    · exact c1 (hz.trans rfl)
    · exact c2 (hz.trans rfl)
    · exact c3 (hz.trans rfl)
    · exact c4 (hz.trans rfl)
    · exact c5 (hz.trans rfl)
    · exact c6 (hz.trans rfl)
    · exact c7 (hz.trans rfl)
  refine r_tswOut (pc := 3) (tgt := 144) hC dX5_counted_3 (by have q := dm_out (by decide) ho; omega) (by decide) ?_
  refine r_aload_n (pc := 144) hC dX5_counted_144 rfl 1 rfl ?_
  obtain ⟨b28, gb28, hf⟩ := ob hf
  obtain ⟨q29, eq29, hf⟩ := ob hf
  refine r_callV (pc := 145) (As := []) (rest := []) (stk' := [DI q29]) (k1_X5_bloomed eq29) gb28 rfl hC wd_4_42 wd_4_44 wd_s_33 wd_4_45 wd_1_3 md_X5_bloomed rfl ⟨rfl, rfl, Nat.le_of_ble_eq_true rfl, Nat.le_of_ble_eq_true rfl, Nat.le_of_ble_eq_true rfl, Nat.le_of_ble_eq_true rfl⟩ dX5_counted_145 rfl (Nat.le_of_ble_eq_true rfl) rfl ?_
  exact r_iret (pc := 148) hE hC (f1pI hf) ⟨Nat.le_of_ble_eq_true rfl, Nat.le_of_ble_eq_true rfl⟩ dX5_counted_148
abbrev rmK1_X5_count : Room := { frames := 3, cells := 0, slots := 0, locals := 67 }
set_option maxRecDepth 100000 in
set_option maxHeartbeats 4000000 in
theorem k1_X5_count {st : DSt} {x : Nat} {a0 : Int32} {v : Int32} {st1 : DSt} (hf : fX5_count st x a0 = some (v, st1)) : dm_K1 yX5_count cX5_count 2 (some .int) rmK1_X5_count 0 0 [DR (some x), DI a0] st (some (DI v)) st1 := by
  refine dm_k1 (by decide) rfl (Nat.le_of_ble_eq_true rfl) fun Y hC hN hI hE => ?_
  unfold fX5_count at hf
  refine dm_sub (lv' := [(0, DR (some x)), (1, DI a0)]) ([0, 1]) rfl ?_
  refine r_aload_n (pc := 0) hC dX5_count_0 rfl 0 rfl ?_
  refine r_iconst (pc := 1) (v := 0) hC dX5_count_1 (by decide) ?_
  obtain ⟨s1, es1, hf⟩ := ob hf
  refine r_put (pc := 2) CF5 (k := 0) hC (by decide) wd_3_102 rfl ⟨rfl, rfl⟩ dX5_count_2 es1 ?_
  refine r_iload_n (pc := 5) hC dX5_count_5 rfl 1 rfl ?_
  refine r_iconst (pc := 6) (v := 0) hC dX5_count_6 (by decide) ?_
  refine r_bipush (pc := 7) (v := 7) hC dX5_count_7 (by decide) ?_
  obtain ⟨q2, eq2, hf⟩ := ob hf
  refine r_callS (pc := 9) (As := [DI a0, DI 0, DI 7]) (rest := []) (stk' := [DI q2]) (k1_X5_isIn eq2) hC wd_3_147 wd_3_148 wd_3_149 wd_1_3 md_X5_isIn rfl ⟨rfl, rfl, Nat.le_of_ble_eq_true rfl, Nat.le_of_ble_eq_true rfl, Nat.le_of_ble_eq_true rfl, Nat.le_of_ble_eq_true rfl⟩ dX5_count_9 rfl (Nat.le_of_ble_eq_true rfl) rfl ?_
  refine r_if_eq (pc := 12) (tgt := 23) hC dX5_count_12 (by decide) (fun c7 => ?_) (fun c7 => ?_)
  · replace hf := oi_t c7 hf
    refine r_aload_n (pc := 23) hC dX5_count_23 rfl 0 rfl ?_
    refine r_iconst (pc := 24) (v := 1) hC dX5_count_24 (by decide) ?_
    obtain ⟨b3, gb3, hf⟩ := ob hf
    obtain ⟨q4, eq4, hf⟩ := ob hf
    refine r_callV (pc := 25) (As := [DI 1]) (rest := []) (stk' := [DI q4.1]) (k1_X5_fail eq4) gb3 rfl hC wd_3_150 wd_3_152 wd_s_15 wd_3_153 wd_1_3 md_X5_fail rfl ⟨rfl, rfl, Nat.le_of_ble_eq_true rfl, Nat.le_of_ble_eq_true rfl, Nat.le_of_ble_eq_true rfl, Nat.le_of_ble_eq_true rfl⟩ dX5_count_25 rfl (Nat.le_of_ble_eq_true rfl) rfl ?_
    exact r_iret (pc := 28) hE hC (f1xI hf) ⟨Nat.le_of_ble_eq_true rfl, Nat.le_of_ble_eq_true rfl⟩ dX5_count_28
  · replace hf := oi_f c7 hf
    refine r_aload_n (pc := 15) hC dX5_count_15 rfl 0 rfl ?_
    refine r_iload_n (pc := 16) hC dX5_count_16 rfl 1 rfl ?_
    obtain ⟨b5, gb5, hf⟩ := ob hf
    obtain ⟨q6, eq6, hf⟩ := ob hf
    refine r_callV (pc := 17) (As := [DI a0]) (rest := []) (stk' := [DI q6]) (k1_X5_counted eq6) gb5 rfl hC wd_4_70 wd_4_72 wd_s_36 wd_4_73 wd_1_3 md_X5_counted rfl ⟨rfl, rfl, Nat.le_of_ble_eq_true rfl, Nat.le_of_ble_eq_true rfl, Nat.le_of_ble_eq_true rfl, Nat.le_of_ble_eq_true rfl⟩ dX5_count_17 rfl (Nat.le_of_ble_eq_true rfl) rfl ?_
    refine r_goto (pc := 20) (tgt := 28) hC dX5_count_20 (by decide) ?_
    exact r_iret (pc := 28) hE hC (f1xI hf) ⟨Nat.le_of_ble_eq_true rfl, Nat.le_of_ble_eq_true rfl⟩ dX5_count_28
abbrev rmK1_X5_would : Room := { frames := 3, cells := 0, slots := 0, locals := 67 }
set_option maxRecDepth 100000 in
set_option maxHeartbeats 4000000 in
theorem k1_X5_would {st : DSt} {x : Nat} {a0 : Int32} {a1 : Int32} {a2 : Int32} {v : Int32} {st1 : DSt} (hf : fX5_would st x a0 a1 a2 = some (v, st1)) : dm_K1 yX5_would cX5_would 4 (some .int) rmK1_X5_would 0 0 [DR (some x), DI a0, DI a1, DI a2] st (some (DI v)) st1 := by
  refine dm_k1 (by decide) rfl (Nat.le_of_ble_eq_true rfl) fun Y hC hN hI hE => ?_
  unfold fX5_would at hf
  refine dm_sub (lv' := [(0, DR (some x)), (1, DI a0), (2, DI a1), (3, DI a2)]) ([0, 1, 2, 3]) rfl ?_
  refine r_aload_n (pc := 0) hC dX5_would_0 rfl 0 rfl ?_
  refine r_iconst (pc := 1) (v := 0) hC dX5_would_1 (by decide) ?_
  obtain ⟨s1, es1, hf⟩ := ob hf
  refine r_put (pc := 2) CF5 (k := 0) hC (by decide) wd_3_102 rfl ⟨rfl, rfl⟩ dX5_would_2 es1 ?_
  refine r_aload_n (pc := 5) hC dX5_would_5 rfl 0 rfl ?_
  refine r_iload_n (pc := 6) hC dX5_would_6 rfl 1 rfl ?_
  obtain ⟨b2, gb2, hf⟩ := ob hf
  obtain ⟨q3, eq3, hf⟩ := ob hf
  refine r_callV (pc := 7) (As := [DI a0]) (rest := []) (stk' := [DI q3]) (k1_X5_isBowl eq3) gb2 rfl hC wd_3_162 wd_3_164 wd_s_17 wd_3_165 wd_1_3 md_X5_isBowl rfl ⟨rfl, rfl, Nat.le_of_ble_eq_true rfl, Nat.le_of_ble_eq_true rfl, Nat.le_of_ble_eq_true rfl, Nat.le_of_ble_eq_true rfl⟩ dX5_would_7 rfl (Nat.le_of_ble_eq_true rfl) rfl ?_
  refine r_if_ne (pc := 10) (tgt := 19) hC dX5_would_10 (by decide) (fun c17 => ?_) (fun c17 => ?_)
  · replace hf := oi_f c17 hf
    refine r_aload_n (pc := 19) hC dX5_would_19 rfl 0 rfl ?_
    refine r_iload_n (pc := 20) hC dX5_would_20 rfl 2 rfl ?_
    refine r_iload_n (pc := 21) hC dX5_would_21 rfl 3 rfl ?_
    obtain ⟨b4, gb4, hf⟩ := ob hf
    obtain ⟨q5, eq5, hf⟩ := ob hf
    refine r_callV (pc := 22) (As := [DI a1, DI a2]) (rest := []) (stk' := [DI q5]) (k1_X5_isWarmth eq5) gb4 rfl hC wd_3_166 wd_3_168 wd_s_18 wd_3_169 wd_1_3 md_X5_isWarmth rfl ⟨rfl, rfl, Nat.le_of_ble_eq_true rfl, Nat.le_of_ble_eq_true rfl, Nat.le_of_ble_eq_true rfl, Nat.le_of_ble_eq_true rfl⟩ dX5_would_22 rfl (Nat.le_of_ble_eq_true rfl) rfl ?_
    refine r_if_ne (pc := 25) (tgt := 34) hC dX5_would_25 (by decide) (fun c14 => ?_) (fun c14 => ?_)
    · replace hf := oi_f c14 hf
      refine r_aload_n (pc := 34) hC dX5_would_34 rfl 0 rfl ?_
      refine r_iload_n (pc := 35) hC dX5_would_35 rfl 1 rfl ?_
      obtain ⟨b6, gb6, hf⟩ := ob hf
      obtain ⟨q7, eq7, hf⟩ := ob hf
      refine r_callV (pc := 36) (As := [DI a0]) (rest := []) (stk' := []) (k1_X5_look eq7) gb6 rfl hC wd_3_170 wd_3_172 wd_s_19 wd_3_173 wd_1_3 md_X5_look rfl ⟨rfl, rfl, Nat.le_of_ble_eq_true rfl, Nat.le_of_ble_eq_true rfl, Nat.le_of_ble_eq_true rfl, Nat.le_of_ble_eq_true rfl⟩ dX5_would_36 rfl (Nat.le_of_ble_eq_true rfl) rfl ?_
      refine r_aload_n (pc := 39) hC dX5_would_39 rfl 0 rfl ?_
      obtain ⟨v8, ev8, hf⟩ := ob hf
      refine r_getR (pc := 40) CF5 (k := 10) hC (by decide) wd_3_112 dX5_would_40 ev8 ?_
      refine r_iload_n (pc := 43) hC dX5_would_43 rfl 2 rfl ?_
      refine r_iload_n (pc := 44) hC dX5_would_44 rfl 3 rfl ?_
      obtain ⟨q9, eq9, hf⟩ := ob hf
      refine r_callS (pc := 45) (As := [DR v8, DI a1, DI a2]) (rest := []) (stk' := []) (k1_X5_turns eq9) hC wd_3_178 wd_3_179 wd_3_180 wd_1_3 md_X5_turns rfl ⟨rfl, rfl, Nat.le_of_ble_eq_true rfl, Nat.le_of_ble_eq_true rfl, Nat.le_of_ble_eq_true rfl, Nat.le_of_ble_eq_true rfl⟩ dX5_would_45 rfl (Nat.le_of_ble_eq_true rfl) rfl ?_
      refine r_aload_n (pc := 48) hC dX5_would_48 rfl 0 rfl ?_
      obtain ⟨v10, ev10, hf⟩ := ob hf
      refine r_getR (pc := 49) CF5 (k := 10) hC (by decide) wd_3_112 dX5_would_49 ev10 ?_
      obtain ⟨q11, eq11, hf⟩ := ob hf
      refine r_callS (pc := 52) (As := [DR v10]) (rest := []) (stk' := [DI q11]) (k1_X5_temper eq11) hC wd_3_191 wd_3_192 wd_3_193 wd_1_3 md_X5_temper rfl ⟨rfl, rfl, Nat.le_of_ble_eq_true rfl, Nat.le_of_ble_eq_true rfl, Nat.le_of_ble_eq_true rfl, Nat.le_of_ble_eq_true rfl⟩ dX5_would_52 rfl (Nat.le_of_ble_eq_true rfl) rfl ?_
      exact r_iret (pc := 55) hE hC (f1xI hf) ⟨Nat.le_of_ble_eq_true rfl, Nat.le_of_ble_eq_true rfl⟩ dX5_would_55
    · replace hf := oi_t c14 hf
      refine r_aload_n (pc := 28) hC dX5_would_28 rfl 0 rfl ?_
      refine r_iconst (pc := 29) (v := 2) hC dX5_would_29 (by decide) ?_
      obtain ⟨b12, gb12, hf⟩ := ob hf
      obtain ⟨q13, eq13, hf⟩ := ob hf
      refine r_callV (pc := 30) (As := [DI 2]) (rest := []) (stk' := [DI q13.1]) (k1_X5_fail eq13) gb12 rfl hC wd_3_150 wd_3_152 wd_s_15 wd_3_153 wd_1_3 md_X5_fail rfl ⟨rfl, rfl, Nat.le_of_ble_eq_true rfl, Nat.le_of_ble_eq_true rfl, Nat.le_of_ble_eq_true rfl, Nat.le_of_ble_eq_true rfl⟩ dX5_would_30 rfl (Nat.le_of_ble_eq_true rfl) rfl ?_
      exact r_iret (pc := 33) hE hC (f1xI hf) ⟨Nat.le_of_ble_eq_true rfl, Nat.le_of_ble_eq_true rfl⟩ dX5_would_33
  · replace hf := oi_t c17 hf
    refine r_aload_n (pc := 13) hC dX5_would_13 rfl 0 rfl ?_
    refine r_iconst (pc := 14) (v := 1) hC dX5_would_14 (by decide) ?_
    obtain ⟨b15, gb15, hf⟩ := ob hf
    obtain ⟨q16, eq16, hf⟩ := ob hf
    refine r_callV (pc := 15) (As := [DI 1]) (rest := []) (stk' := [DI q16.1]) (k1_X5_fail eq16) gb15 rfl hC wd_3_150 wd_3_152 wd_s_15 wd_3_153 wd_1_3 md_X5_fail rfl ⟨rfl, rfl, Nat.le_of_ble_eq_true rfl, Nat.le_of_ble_eq_true rfl, Nat.le_of_ble_eq_true rfl, Nat.le_of_ble_eq_true rfl⟩ dX5_would_15 rfl (Nat.le_of_ble_eq_true rfl) rfl ?_
    exact r_iret (pc := 18) hE hC (f1xI hf) ⟨Nat.le_of_ble_eq_true rfl, Nat.le_of_ble_eq_true rfl⟩ dX5_would_18
abbrev rmK1_X5_best : Room := { frames := 3, cells := 0, slots := 0, locals := 67 }
set_option maxRecDepth 100000 in
set_option maxHeartbeats 4000000 in
theorem k1_X5_best {st : DSt} {x : Nat} {a0 : Int32} {a1 : Int32} {a2 : Int32} {v : Int32} {st1 : DSt} (hf : fX5_best st x a0 a1 a2 = some (v, st1)) : dm_K1 yX5_best cX5_best 9 (some .int) rmK1_X5_best 0 0 [DR (some x), DI a0, DI a1, DI a2] st (some (DI v)) st1 := by
  refine dm_k1 (by decide) rfl (Nat.le_of_ble_eq_true rfl) fun Y hC hN hI hE => ?_
  unfold fX5_best at hf
  refine dm_sub (lv' := [(0, DR (some x)), (1, DI a0), (2, DI a1), (3, DI a2)]) ([0, 1, 2, 3]) rfl ?_
  refine r_aload_n (pc := 0) hC dX5_best_0 rfl 0 rfl ?_
  refine r_iconst (pc := 1) (v := 0) hC dX5_best_1 (by decide) ?_
  obtain ⟨s1, es1, hf⟩ := ob hf
  refine r_put (pc := 2) CF5 (k := 0) hC (by decide) wd_3_102 rfl ⟨rfl, rfl⟩ dX5_best_2 es1 ?_
  refine r_aload_n (pc := 5) hC dX5_best_5 rfl 0 rfl ?_
  refine r_iload_n (pc := 6) hC dX5_best_6 rfl 1 rfl ?_
  obtain ⟨b2, gb2, hf⟩ := ob hf
  obtain ⟨q3, eq3, hf⟩ := ob hf
  refine r_callV (pc := 7) (As := [DI a0]) (rest := []) (stk' := [DI q3]) (k1_X5_isBowl eq3) gb2 rfl hC wd_3_162 wd_3_164 wd_s_17 wd_3_165 wd_1_3 md_X5_isBowl rfl ⟨rfl, rfl, Nat.le_of_ble_eq_true rfl, Nat.le_of_ble_eq_true rfl, Nat.le_of_ble_eq_true rfl, Nat.le_of_ble_eq_true rfl⟩ dX5_best_7 rfl (Nat.le_of_ble_eq_true rfl) rfl ?_
  refine r_if_eq (pc := 10) (tgt := 22) hC dX5_best_10 (by decide) (fun c41 => ?_) (fun c41 => ?_)
  · replace hf := oi_t c41 hf
    refine r_aload_n (pc := 22) hC dX5_best_22 rfl 0 rfl ?_
    refine r_iconst (pc := 23) (v := 1) hC dX5_best_23 (by decide) ?_
    obtain ⟨b4, gb4, hf⟩ := ob hf
    obtain ⟨q5, eq5, hf⟩ := ob hf
    refine r_callV (pc := 24) (As := [DI 1]) (rest := []) (stk' := [DI q5.1]) (k1_X5_fail eq5) gb4 rfl hC wd_3_150 wd_3_152 wd_s_15 wd_3_153 wd_1_3 md_X5_fail rfl ⟨rfl, rfl, Nat.le_of_ble_eq_true rfl, Nat.le_of_ble_eq_true rfl, Nat.le_of_ble_eq_true rfl, Nat.le_of_ble_eq_true rfl⟩ dX5_best_24 rfl (Nat.le_of_ble_eq_true rfl) rfl ?_
    exact r_iret (pc := 27) hE hC (f1xI hf) ⟨Nat.le_of_ble_eq_true rfl, Nat.le_of_ble_eq_true rfl⟩ dX5_best_27
  · replace hf := oi_f c41 hf
    refine r_iload_n (pc := 13) hC dX5_best_13 rfl 3 rfl ?_
    refine r_iconst (pc := 14) (v := 0) hC dX5_best_14 (by decide) ?_
    refine r_iconst (pc := 15) (v := 2) hC dX5_best_15 (by decide) ?_
    obtain ⟨q6, eq6, hf⟩ := ob hf
    refine r_callS (pc := 16) (As := [DI a2, DI 0, DI 2]) (rest := []) (stk' := [DI q6]) (k1_X5_isIn eq6) hC wd_3_147 wd_3_148 wd_3_149 wd_1_3 md_X5_isIn rfl ⟨rfl, rfl, Nat.le_of_ble_eq_true rfl, Nat.le_of_ble_eq_true rfl, Nat.le_of_ble_eq_true rfl, Nat.le_of_ble_eq_true rfl⟩ dX5_best_16 rfl (Nat.le_of_ble_eq_true rfl) rfl ?_
    refine r_if_ne (pc := 19) (tgt := 28) hC dX5_best_19 (by decide) (fun c40 => ?_) (fun c40 => ?_)
    · replace hf := oi_f c40 hf
      refine r_iload_n (pc := 28) hC dX5_best_28 rfl 2 rfl ?_
      refine r_iconst (pc := 29) (v := 1) hC dX5_best_29 (by decide) ?_
      refine r_bipush (pc := 30) (v := 10) hC dX5_best_30 (by decide) ?_
      obtain ⟨q7, eq7, hf⟩ := ob hf
      refine r_callS (pc := 32) (As := [DI a1, DI 1, DI 10]) (rest := []) (stk' := [DI q7]) (k1_X5_isIn eq7) hC wd_3_147 wd_3_148 wd_3_149 wd_1_3 md_X5_isIn rfl ⟨rfl, rfl, Nat.le_of_ble_eq_true rfl, Nat.le_of_ble_eq_true rfl, Nat.le_of_ble_eq_true rfl, Nat.le_of_ble_eq_true rfl⟩ dX5_best_32 rfl (Nat.le_of_ble_eq_true rfl) rfl ?_
      refine r_if_ne (pc := 35) (tgt := 44) hC dX5_best_35 (by decide) (fun c37 => ?_) (fun c37 => ?_)
      · replace hf := oi_f c37 hf
        refine r_iconst (pc := 44) (v := (-1)) hC dX5_best_44 (by decide) ?_
        refine r_istore (pc := 45) (lv' := [(4, DI (-1)), (0, DR (some x)), (1, DI a0), (2, DI a1), (3, DI a2)]) hC hN dX5_best_45 (by decide) rfl ?_
        refine r_iconst (pc := 47) (v := 0) hC dX5_best_47 (by decide) ?_
        refine r_istore (pc := 48) (lv' := [(5, DI 0), (4, DI (-1)), (0, DR (some x)), (1, DI a0), (2, DI a1), (3, DI a2)]) hC hN dX5_best_48 (by decide) rfl ?_
        refine r_iconst (pc := 50) (v := 0) hC dX5_best_50 (by decide) ?_
        refine r_istore (pc := 51) (lv' := [(6, DI 0), (5, DI 0), (4, DI (-1)), (0, DR (some x)), (1, DI a0), (2, DI a1), (3, DI a2)]) hC hN dX5_best_51 (by decide) rfl ?_
        refine r_bipush (pc := 53) (v := 15) hC dX5_best_53 (by decide) ?_
        refine r_istore (pc := 55) (lv' := [(7, DI 15), (6, DI 0), (5, DI 0), (4, DI (-1)), (0, DR (some x)), (1, DI a0), (2, DI a1), (3, DI a2)]) hC hN dX5_best_55 (by decide) rfl ?_
        obtain ⟨b8, eb8, hf⟩ := ob hf
        refine dm_sub (lv' := [(0, DR (some x)), (1, DI a0), (2, DI a1), (3, DI a2), (4, DI (-1)), (5, DI 0), (6, DI 0), (7, DI 15)]) [4, 5, 6, 7, 3, 2, 1, 0] rfl ?_
        refine dlp_W _ (fun (z8 : DSt × Int32 × Int32 × Int32 × Int32) => dm_W Y 0 0 z8.1 57 [(0, DR (some x)), (1, DI a0), (2, DI a1), (3, DI a2), (4, DI z8.2.1), (5, DI z8.2.2.1), (6, DI z8.2.2.2.1), (7, DI z8.2.2.2.2)] []) (fun (b8 : DSt × Int32 × Int32 × Int32 × Int32) => dm_W Y 0 0 b8.1 180 [(0, DR (some x)), (1, DI a0), (2, DI a1), (3, DI a2), (4, DI b8.2.1), (5, DI b8.2.2.1), (6, DI b8.2.2.2.1), (7, DI b8.2.2.2.2)] []) ?_ eb8 ?_
        · intro z8 r hf hk
          unfold fX5_best_L57 at hf
          refine r_iload (pc := 57) hC dX5_best_57 7 rfl ?_
          refine r_bipush (pc := 59) (v := 50) hC dX5_best_59 (by decide) ?_
          refine r_icmp_gt (pc := 61) (tgt := 180) hC dX5_best_61 (by decide) (fun c32 => ?_) (fun c32 => ?_)
          · replace hf := oi_t c32 hf
            cases hf
            exact dm_sub [0, 1, 2, 3, 4, 5, 6, 7] rfl hk
          · replace hf := oi_f c32 hf
            refine r_aload_n (pc := 64) hC dX5_best_64 rfl 0 rfl ?_
            refine r_iload_n (pc := 65) hC dX5_best_65 rfl 1 rfl ?_
            obtain ⟨b9, gb9, hf⟩ := ob hf
            obtain ⟨q10, eq10, hf⟩ := ob hf
            refine r_callV (pc := 66) (As := [DI a0]) (rest := []) (stk' := []) (k1_X5_look eq10) gb9 rfl hC wd_3_170 wd_3_172 wd_s_19 wd_3_173 wd_1_3 md_X5_look rfl ⟨rfl, rfl, Nat.le_of_ble_eq_true rfl, Nat.le_of_ble_eq_true rfl, Nat.le_of_ble_eq_true rfl, Nat.le_of_ble_eq_true rfl⟩ dX5_best_66 rfl (Nat.le_of_ble_eq_true rfl) rfl ?_
            refine r_aload_n (pc := 69) hC dX5_best_69 rfl 0 rfl ?_
            obtain ⟨v11, ev11, hf⟩ := ob hf
            refine r_getR (pc := 70) CF5 (k := 10) hC (by decide) wd_3_112 dX5_best_70 ev11 ?_
            refine r_iload (pc := 73) hC dX5_best_73 7 rfl ?_
            refine r_iload_n (pc := 75) hC dX5_best_75 rfl 2 rfl ?_
            obtain ⟨q12, eq12, hf⟩ := ob hf
            refine r_callS (pc := 76) (As := [DR v11, DI z8.2.2.2.2, DI a1]) (rest := []) (stk' := []) (k1_X5_turns eq12) hC wd_3_178 wd_3_179 wd_3_180 wd_1_3 md_X5_turns rfl ⟨rfl, rfl, Nat.le_of_ble_eq_true rfl, Nat.le_of_ble_eq_true rfl, Nat.le_of_ble_eq_true rfl, Nat.le_of_ble_eq_true rfl⟩ dX5_best_76 rfl (Nat.le_of_ble_eq_true rfl) rfl ?_
            refine r_aload_n (pc := 79) hC dX5_best_79 rfl 0 rfl ?_
            obtain ⟨v13, ev13, hf⟩ := ob hf
            refine r_getR (pc := 80) CF5 (k := 10) hC (by decide) wd_3_112 dX5_best_80 ev13 ?_
            refine r_iconst (pc := 83) (v := 0) hC dX5_best_83 (by decide) ?_
            refine r_aload_n (pc := 84) hC dX5_best_84 rfl 0 rfl ?_
            obtain ⟨v14, ev14, hf⟩ := ob hf
            refine r_getR (pc := 85) CF5 (k := 11) hC (by decide) wd_3_113 dX5_best_85 ev14 ?_
            refine r_iconst (pc := 88) (v := 0) hC dX5_best_88 (by decide) ?_
            refine r_aload_n (pc := 89) hC dX5_best_89 rfl 0 rfl ?_
            obtain ⟨v15, ev15, hf⟩ := ob hf
            refine r_getR (pc := 90) CF5 (k := 10) hC (by decide) wd_3_112 dX5_best_90 ev15 ?_
            obtain ⟨v16, ev16, hf⟩ := ob hf
            refine r_alen (pc := 93) (kd := 0) (fun _ => rfl) hC dX5_best_93 ev16 ?_
            obtain ⟨s17, es17, hf⟩ := ob hf
            refine r_copy (pc := 94) hC wd_3_235 wd_3_237 wd_3_236 wd_1_13 dX5_best_94 ⟨Nat.le_of_ble_eq_true rfl, Nat.le_of_ble_eq_true rfl⟩ es17 ?_
            refine r_bipush (pc := 97) (v := 15) hC dX5_best_97 (by decide) ?_
            refine r_istore (pc := 99) (lv' := [(8, DI 15), (0, DR (some x)), (1, DI a0), (2, DI a1), (3, DI a2), (4, DI z8.2.1), (5, DI z8.2.2.1), (6, DI z8.2.2.2.1), (7, DI z8.2.2.2.2)]) hC hN dX5_best_99 (by decide) rfl ?_
            obtain ⟨b18, eb18, hf⟩ := ob hf
            refine dm_sub (lv' := [(0, DR (some x)), (1, DI a0), (2, DI a1), (3, DI a2), (4, DI z8.2.1), (5, DI z8.2.2.1), (6, DI z8.2.2.2.1), (7, DI z8.2.2.2.2), (8, DI 15)]) [1, 2, 3, 4, 5, 6, 7, 8, 0] rfl ?_
            refine dlp_W _ (fun (z18 : DSt × Int32 × Int32 × Int32 × Int32) => dm_W Y 0 0 z18.1 101 [(0, DR (some x)), (1, DI a0), (2, DI a1), (3, DI a2), (4, DI z18.2.1), (5, DI z18.2.2.1), (6, DI z18.2.2.2.1), (7, DI z8.2.2.2.2), (8, DI z18.2.2.2.2)] []) (fun (b18 : DSt × Int32 × Int32 × Int32 × Int32) => dm_W Y 0 0 b18.1 174 [(0, DR (some x)), (1, DI a0), (2, DI a1), (3, DI a2), (4, DI b18.2.1), (5, DI b18.2.2.1), (6, DI b18.2.2.2.1), (7, DI z8.2.2.2.2), (8, DI b18.2.2.2.2)] []) ?_ eb18 ?_
            · intro z18 r hf hk
              unfold fX5_best_L101 at hf
              refine r_iload (pc := 101) hC dX5_best_101 8 rfl ?_
              refine r_bipush (pc := 103) (v := 50) hC dX5_best_103 (by decide) ?_
              refine r_icmp_gt (pc := 105) (tgt := 174) hC dX5_best_105 (by decide) (fun c31 => ?_) (fun c31 => ?_)
              · replace hf := oi_t c31 hf
                cases hf
                exact dm_sub [0, 1, 2, 3, 4, 5, 6, 7, 8] rfl hk
              · replace hf := oi_f c31 hf
                refine r_aload_n (pc := 108) hC dX5_best_108 rfl 0 rfl ?_
                obtain ⟨v19, ev19, hf⟩ := ob hf
                refine r_getR (pc := 109) CF5 (k := 11) hC (by decide) wd_3_113 dX5_best_109 ev19 ?_
                refine r_iconst (pc := 112) (v := 0) hC dX5_best_112 (by decide) ?_
                refine r_aload_n (pc := 113) hC dX5_best_113 rfl 0 rfl ?_
                obtain ⟨v20, ev20, hf⟩ := ob hf
                refine r_getR (pc := 114) CF5 (k := 10) hC (by decide) wd_3_112 dX5_best_114 ev20 ?_
                refine r_iconst (pc := 117) (v := 0) hC dX5_best_117 (by decide) ?_
                refine r_aload_n (pc := 118) hC dX5_best_118 rfl 0 rfl ?_
                obtain ⟨v21, ev21, hf⟩ := ob hf
                refine r_getR (pc := 119) CF5 (k := 10) hC (by decide) wd_3_112 dX5_best_119 ev21 ?_
                obtain ⟨v22, ev22, hf⟩ := ob hf
                refine r_alen (pc := 122) (kd := 0) (fun _ => rfl) hC dX5_best_122 ev22 ?_
                obtain ⟨s23, es23, hf⟩ := ob hf
                refine r_copy (pc := 123) hC wd_3_235 wd_3_237 wd_3_236 wd_1_13 dX5_best_123 ⟨Nat.le_of_ble_eq_true rfl, Nat.le_of_ble_eq_true rfl⟩ es23 ?_
                refine r_aload_n (pc := 126) hC dX5_best_126 rfl 0 rfl ?_
                obtain ⟨v24, ev24, hf⟩ := ob hf
                refine r_getR (pc := 127) CF5 (k := 10) hC (by decide) wd_3_112 dX5_best_127 ev24 ?_
                refine r_iload (pc := 130) hC dX5_best_130 8 rfl ?_
                refine r_iload_n (pc := 132) hC dX5_best_132 rfl 2 rfl ?_
                obtain ⟨q25, eq25, hf⟩ := ob hf
                refine r_callS (pc := 133) (As := [DR v24, DI z18.2.2.2.2, DI a1]) (rest := []) (stk' := []) (k1_X5_turns eq25) hC wd_3_178 wd_3_179 wd_3_180 wd_1_3 md_X5_turns rfl ⟨rfl, rfl, Nat.le_of_ble_eq_true rfl, Nat.le_of_ble_eq_true rfl, Nat.le_of_ble_eq_true rfl, Nat.le_of_ble_eq_true rfl⟩ dX5_best_133 rfl (Nat.le_of_ble_eq_true rfl) rfl ?_
                refine r_aload_n (pc := 136) hC dX5_best_136 rfl 0 rfl ?_
                obtain ⟨v26, ev26, hf⟩ := ob hf
                refine r_getR (pc := 137) CF5 (k := 10) hC (by decide) wd_3_112 dX5_best_137 ev26 ?_
                obtain ⟨q27, eq27, hf⟩ := ob hf
                refine r_callS (pc := 140) (As := [DR v26]) (rest := []) (stk' := [DI q27]) (k1_X5_temper eq27) hC wd_3_191 wd_3_192 wd_3_193 wd_1_3 md_X5_temper rfl ⟨rfl, rfl, Nat.le_of_ble_eq_true rfl, Nat.le_of_ble_eq_true rfl, Nat.le_of_ble_eq_true rfl, Nat.le_of_ble_eq_true rfl⟩ dX5_best_140 rfl (Nat.le_of_ble_eq_true rfl) rfl ?_
                refine r_iload (pc := 143) hC dX5_best_143 4 rfl ?_
                refine r_icmp_gt (pc := 145) (tgt := 151) hC dX5_best_145 (by decide) (fun c30 => ?_) (fun c30 => ?_)
                · replace hf := oi_t c30 hf
                  refine r_aload_n (pc := 151) hC dX5_best_151 rfl 0 rfl ?_
                  obtain ⟨v28, ev28, hf⟩ := ob hf
                  refine r_getR (pc := 152) CF5 (k := 10) hC (by decide) wd_3_112 dX5_best_152 ev28 ?_
                  obtain ⟨q29, eq29, hf⟩ := ob hf
                  refine r_callS (pc := 155) (As := [DR v28]) (rest := []) (stk' := [DI q29]) (k1_X5_temper eq29) hC wd_3_191 wd_3_192 wd_3_193 wd_1_3 md_X5_temper rfl ⟨rfl, rfl, Nat.le_of_ble_eq_true rfl, Nat.le_of_ble_eq_true rfl, Nat.le_of_ble_eq_true rfl, Nat.le_of_ble_eq_true rfl⟩ dX5_best_155 rfl (Nat.le_of_ble_eq_true rfl) rfl ?_
                  refine r_istore (pc := 158) (lv' := [(4, DI q29), (0, DR (some x)), (1, DI a0), (2, DI a1), (3, DI a2), (5, DI z18.2.2.1), (6, DI z18.2.2.2.1), (7, DI z8.2.2.2.2), (8, DI z18.2.2.2.2)]) hC hN dX5_best_158 (by decide) rfl ?_
                  refine r_iload (pc := 160) hC dX5_best_160 7 rfl ?_
                  refine r_istore (pc := 162) (lv' := [(5, DI z8.2.2.2.2), (4, DI q29), (0, DR (some x)), (1, DI a0), (2, DI a1), (3, DI a2), (6, DI z18.2.2.2.1), (7, DI z8.2.2.2.2), (8, DI z18.2.2.2.2)]) hC hN dX5_best_162 (by decide) rfl ?_
                  refine r_iload (pc := 164) hC dX5_best_164 8 rfl ?_
                  refine r_istore (pc := 166) (lv' := [(6, DI z18.2.2.2.2), (5, DI z8.2.2.2.2), (4, DI q29), (0, DR (some x)), (1, DI a0), (2, DI a1), (3, DI a2), (7, DI z8.2.2.2.2), (8, DI z18.2.2.2.2)]) hC hN dX5_best_166 (by decide) rfl ?_
                  refine r_iinc (pc := 168) (pos := 8) (v := (z18.2.2.2.2 + 1)) (lv' := [(8, DI (z18.2.2.2.2 + 1)), (6, DI z18.2.2.2.2), (5, DI z8.2.2.2.2), (4, DI q29), (0, DR (some x)), (1, DI a0), (2, DI a1), (3, DI a2), (7, DI z8.2.2.2.2)]) hC hN dX5_best_168 rfl rfl (by decide) rfl ?_
                  refine r_goto (pc := 171) (tgt := 101) hC dX5_best_171 (by decide) ?_
                  cases hf
                  exact dm_sub [4, 5, 6, 7, 3, 2, 1, 8, 0] rfl hk
                · replace hf := oi_f c30 hf
                  refine r_goto (pc := 148) (tgt := 168) hC dX5_best_148 (by decide) ?_
                  refine r_iinc (pc := 168) (pos := 8) (v := (z18.2.2.2.2 + 1)) (lv' := [(8, DI (z18.2.2.2.2 + 1)), (0, DR (some x)), (1, DI a0), (2, DI a1), (3, DI a2), (4, DI z18.2.1), (5, DI z18.2.2.1), (6, DI z18.2.2.2.1), (7, DI z8.2.2.2.2)]) hC hN dX5_best_168 rfl rfl (by decide) rfl ?_
                  refine r_goto (pc := 171) (tgt := 101) hC dX5_best_171 (by decide) ?_
                  cases hf
                  exact dm_sub [1, 2, 3, 4, 5, 6, 7, 8, 0] rfl hk
            · refine r_iinc (pc := 174) (pos := 7) (v := (z8.2.2.2.2 + 1)) (lv' := [(7, DI (z8.2.2.2.2 + 1)), (0, DR (some x)), (1, DI a0), (2, DI a1), (3, DI a2), (4, DI b18.2.1), (5, DI b18.2.2.1), (6, DI b18.2.2.2.1), (8, DI b18.2.2.2.2)]) hC hN dX5_best_174 rfl rfl (by decide) rfl ?_
              refine r_goto (pc := 177) (tgt := 57) hC dX5_best_177 (by decide) ?_
              cases hf
              exact dm_sub [1, 2, 3, 4, 5, 6, 7, 0] rfl hk
        · refine r_iload_n (pc := 180) hC dX5_best_180 rfl 3 rfl ?_
          refine r_if_ne (pc := 181) (tgt := 189) hC dX5_best_181 (by decide) (fun c34 => ?_) (fun c34 => ?_)
          · replace hf := oi_f c34 hf
            refine r_iload_n (pc := 189) hC dX5_best_189 rfl 3 rfl ?_
            refine r_iconst (pc := 190) (v := 1) hC dX5_best_190 (by decide) ?_
            refine r_icmp_ne (pc := 191) (tgt := 199) hC dX5_best_191 (by decide) (fun c33 => ?_) (fun c33 => ?_)
            · replace hf := oi_f c33 hf
              refine r_iload (pc := 199) hC dX5_best_199 4 rfl ?_
              exact r_iret (pc := 201) hE hC (f1xI hf) ⟨Nat.le_of_ble_eq_true rfl, Nat.le_of_ble_eq_true rfl⟩ dX5_best_201
            · replace hf := oi_t c33 hf
              refine r_iload (pc := 194) hC dX5_best_194 6 rfl ?_
              refine r_goto (pc := 196) (tgt := 201) hC dX5_best_196 (by decide) ?_
              exact r_iret (pc := 201) hE hC (f1xI hf) ⟨Nat.le_of_ble_eq_true rfl, Nat.le_of_ble_eq_true rfl⟩ dX5_best_201
          · replace hf := oi_t c34 hf
            refine r_iload (pc := 184) hC dX5_best_184 5 rfl ?_
            refine r_goto (pc := 186) (tgt := 201) hC dX5_best_186 (by decide) ?_
            exact r_iret (pc := 201) hE hC (f1xI hf) ⟨Nat.le_of_ble_eq_true rfl, Nat.le_of_ble_eq_true rfl⟩ dX5_best_201
      · replace hf := oi_t c37 hf
        refine r_aload_n (pc := 38) hC dX5_best_38 rfl 0 rfl ?_
        refine r_iconst (pc := 39) (v := 2) hC dX5_best_39 (by decide) ?_
        obtain ⟨b35, gb35, hf⟩ := ob hf
        obtain ⟨q36, eq36, hf⟩ := ob hf
        refine r_callV (pc := 40) (As := [DI 2]) (rest := []) (stk' := [DI q36.1]) (k1_X5_fail eq36) gb35 rfl hC wd_3_150 wd_3_152 wd_s_15 wd_3_153 wd_1_3 md_X5_fail rfl ⟨rfl, rfl, Nat.le_of_ble_eq_true rfl, Nat.le_of_ble_eq_true rfl, Nat.le_of_ble_eq_true rfl, Nat.le_of_ble_eq_true rfl⟩ dX5_best_40 rfl (Nat.le_of_ble_eq_true rfl) rfl ?_
        exact r_iret (pc := 43) hE hC (f1xI hf) ⟨Nat.le_of_ble_eq_true rfl, Nat.le_of_ble_eq_true rfl⟩ dX5_best_43
    · replace hf := oi_t c40 hf
      refine r_aload_n (pc := 22) hC dX5_best_22 rfl 0 rfl ?_
      refine r_iconst (pc := 23) (v := 1) hC dX5_best_23 (by decide) ?_
      obtain ⟨b38, gb38, hf⟩ := ob hf
      obtain ⟨q39, eq39, hf⟩ := ob hf
      refine r_callV (pc := 24) (As := [DI 1]) (rest := []) (stk' := [DI q39.1]) (k1_X5_fail eq39) gb38 rfl hC wd_3_150 wd_3_152 wd_s_15 wd_3_153 wd_1_3 md_X5_fail rfl ⟨rfl, rfl, Nat.le_of_ble_eq_true rfl, Nat.le_of_ble_eq_true rfl, Nat.le_of_ble_eq_true rfl, Nat.le_of_ble_eq_true rfl⟩ dX5_best_24 rfl (Nat.le_of_ble_eq_true rfl) rfl ?_
      exact r_iret (pc := 27) hE hC (f1xI hf) ⟨Nat.le_of_ble_eq_true rfl, Nat.le_of_ble_eq_true rfl⟩ dX5_best_27
abbrev rmK1_X5_until : Room := { frames := 2, cells := 0, slots := 0, locals := 44 }
set_option maxRecDepth 100000 in
set_option maxHeartbeats 4000000 in
theorem k1_X5_until {st : DSt} {x : Nat} {a0 : Int32} {a1 : Int32} {v : Int32} {st1 : DSt} (hf : fX5_until st x a0 a1 = some (v, st1)) : dm_K1 yX5_until cX5_until 5 (some .int) rmK1_X5_until 0 0 [DR (some x), DI a0, DI a1] st (some (DI v)) st1 := by
  refine dm_k1 (by decide) rfl (Nat.le_of_ble_eq_true rfl) fun Y hC hN hI hE => ?_
  unfold fX5_until at hf
  refine dm_sub (lv' := [(0, DR (some x)), (1, DI a0), (2, DI a1)]) ([0, 1, 2]) rfl ?_
  refine r_aload_n (pc := 0) hC dX5_until_0 rfl 0 rfl ?_
  refine r_iconst (pc := 1) (v := 0) hC dX5_until_1 (by decide) ?_
  obtain ⟨s1, es1, hf⟩ := ob hf
  refine r_put (pc := 2) CF5 (k := 0) hC (by decide) wd_3_102 rfl ⟨rfl, rfl⟩ dX5_until_2 es1 ?_
  refine r_aload_n (pc := 5) hC dX5_until_5 rfl 0 rfl ?_
  refine r_iload_n (pc := 6) hC dX5_until_6 rfl 1 rfl ?_
  obtain ⟨b2, gb2, hf⟩ := ob hf
  obtain ⟨q3, eq3, hf⟩ := ob hf
  refine r_callV (pc := 7) (As := [DI a0]) (rest := []) (stk' := [DI q3]) (k1_X5_isSlab eq3) gb2 rfl hC wd_3_223 wd_3_225 wd_s_24 wd_3_226 wd_1_3 md_X5_isSlab rfl ⟨rfl, rfl, Nat.le_of_ble_eq_true rfl, Nat.le_of_ble_eq_true rfl, Nat.le_of_ble_eq_true rfl, Nat.le_of_ble_eq_true rfl⟩ dX5_until_7 rfl (Nat.le_of_ble_eq_true rfl) rfl ?_
  refine r_if_ne (pc := 10) (tgt := 19) hC dX5_until_10 (by decide) (fun c17 => ?_) (fun c17 => ?_)
  · replace hf := oi_f c17 hf
    refine r_iload_n (pc := 19) hC dX5_until_19 rfl 2 rfl ?_
    refine r_bipush (pc := 20) (v := 10) hC dX5_until_20 (by decide) ?_
    refine r_bipush (pc := 22) (v := 40) hC dX5_until_22 (by decide) ?_
    obtain ⟨q4, eq4, hf⟩ := ob hf
    refine r_callS (pc := 24) (As := [DI a1, DI 10, DI 40]) (rest := []) (stk' := [DI q4]) (k1_X5_isIn eq4) hC wd_3_147 wd_3_148 wd_3_149 wd_1_3 md_X5_isIn rfl ⟨rfl, rfl, Nat.le_of_ble_eq_true rfl, Nat.le_of_ble_eq_true rfl, Nat.le_of_ble_eq_true rfl, Nat.le_of_ble_eq_true rfl⟩ dX5_until_24 rfl (Nat.le_of_ble_eq_true rfl) rfl ?_
    refine r_if_ne (pc := 27) (tgt := 36) hC dX5_until_27 (by decide) (fun c14 => ?_) (fun c14 => ?_)
    · replace hf := oi_f c14 hf
      refine r_bipush (pc := 36) (v := 21) hC dX5_until_36 (by decide) ?_
      refine r_aload_n (pc := 38) hC dX5_until_38 rfl 0 rfl ?_
      refine r_iload_n (pc := 39) hC dX5_until_39 rfl 1 rfl ?_
      refine r_iconst (pc := 40) (v := 3) hC dX5_until_40 (by decide) ?_
      obtain ⟨b5, gb5, hf⟩ := ob hf
      obtain ⟨q6, eq6, hf⟩ := ob hf
      refine r_callV (pc := 41) (As := [DI a0, DI 3]) (rest := [DI 21]) (stk' := [DI q6, DI 21]) (k1_X5_sl eq6) gb5 rfl hC wd_3_227 wd_3_229 wd_s_25 wd_3_230 wd_1_3 md_X5_sl rfl ⟨rfl, rfl, Nat.le_of_ble_eq_true rfl, Nat.le_of_ble_eq_true rfl, Nat.le_of_ble_eq_true rfl, Nat.le_of_ble_eq_true rfl⟩ dX5_until_41 rfl (Nat.le_of_ble_eq_true rfl) rfl ?_
      refine r_isub (pc := 44) hC dX5_until_44 ?_
      refine r_istore_n (pc := 45) (lv' := [(3, DI (21 - q6)), (0, DR (some x)), (1, DI a0), (2, DI a1)]) hC hN dX5_until_45 rfl (by decide) rfl ?_
      refine r_aload_n (pc := 46) hC dX5_until_46 rfl 1 rfl ?_
      refine r_iload_n (pc := 47) hC dX5_until_47 rfl 2 rfl ?_
      refine r_iload_n (pc := 48) hC dX5_until_48 rfl 3 rfl ?_
      obtain ⟨b7, gb7, hf⟩ := ob hf
      obtain ⟨q8, eq8, hf⟩ := ob hf
      refine r_callV (pc := 49) (As := [DI a0, DI a1]) (rest := []) (stk' := [DI q8]) (k1_X5_more eq8) gb7 rfl hC wd_4_38 wd_4_40 wd_s_32 wd_4_41 wd_1_3 md_X5_more rfl ⟨rfl, rfl, Nat.le_of_ble_eq_true rfl, Nat.le_of_ble_eq_true rfl, Nat.le_of_ble_eq_true rfl, Nat.le_of_ble_eq_true rfl⟩ dX5_until_49 rfl (Nat.le_of_ble_eq_true rfl) rfl ?_
      refine r_istore (pc := 52) (lv' := [(4, DI q8), (3, DI (21 - q6)), (0, DR (some x)), (1, DI a0), (2, DI a1)]) hC hN dX5_until_52 (by decide) rfl ?_
      refine r_iload_n (pc := 54) hC dX5_until_54 rfl 1 rfl ?_
      refine r_if_gt (pc := 55) (tgt := 62) hC dX5_until_55 (by decide) (fun c11 => ?_) (fun c11 => ?_)
      · replace hf := oi_t c11 hf
        refine r_iload (pc := 62) hC dX5_until_62 0 rfl ?_
        refine r_if_ne (pc := 64) (tgt := 71) hC dX5_until_64 (by decide) (fun c10 => ?_) (fun c10 => ?_)
        · replace hf := oi_f c10 hf
          refine r_iload_n (pc := 71) hC dX5_until_71 rfl 1 rfl ?_
          refine r_iload (pc := 72) hC dX5_until_72 0 rfl ?_
          refine r_iadd (pc := 74) hC dX5_until_74 ?_
          refine r_iconst (pc := 75) (v := 1) hC dX5_until_75 (by decide) ?_
          refine r_isub (pc := 76) hC dX5_until_76 ?_
          refine r_iload (pc := 77) hC dX5_until_77 0 rfl ?_
          obtain ⟨v9, ev9, hf⟩ := ob hf
          refine r_idiv (pc := 79) hC dX5_until_79 ev9 ?_
          exact r_iret (pc := 80) hE hC (f1xI hf) ⟨Nat.le_of_ble_eq_true rfl, Nat.le_of_ble_eq_true rfl⟩ dX5_until_80
        · replace hf := oi_t c10 hf
          refine r_iconst (pc := 67) (v := (-1)) hC dX5_until_67 (by decide) ?_
          refine r_goto (pc := 68) (tgt := 80) hC dX5_until_68 (by decide) ?_
          exact r_iret (pc := 80) hE hC (f1xI hf) ⟨Nat.le_of_ble_eq_true rfl, Nat.le_of_ble_eq_true rfl⟩ dX5_until_80
      · replace hf := oi_f c11 hf
        refine r_iconst (pc := 58) (v := 0) hC dX5_until_58 (by decide) ?_
        refine r_goto (pc := 59) (tgt := 80) hC dX5_until_59 (by decide) ?_
        exact r_iret (pc := 80) hE hC (f1xI hf) ⟨Nat.le_of_ble_eq_true rfl, Nat.le_of_ble_eq_true rfl⟩ dX5_until_80
    · replace hf := oi_t c14 hf
      refine r_aload_n (pc := 30) hC dX5_until_30 rfl 0 rfl ?_
      refine r_iconst (pc := 31) (v := 2) hC dX5_until_31 (by decide) ?_
      obtain ⟨b12, gb12, hf⟩ := ob hf
      obtain ⟨q13, eq13, hf⟩ := ob hf
      refine r_callV (pc := 32) (As := [DI 2]) (rest := []) (stk' := [DI q13.1]) (k1_X5_fail eq13) gb12 rfl hC wd_3_150 wd_3_152 wd_s_15 wd_3_153 wd_1_3 md_X5_fail rfl ⟨rfl, rfl, Nat.le_of_ble_eq_true rfl, Nat.le_of_ble_eq_true rfl, Nat.le_of_ble_eq_true rfl, Nat.le_of_ble_eq_true rfl⟩ dX5_until_32 rfl (Nat.le_of_ble_eq_true rfl) rfl ?_
      exact r_iret (pc := 35) hE hC (f1xI hf) ⟨Nat.le_of_ble_eq_true rfl, Nat.le_of_ble_eq_true rfl⟩ dX5_until_35
  · replace hf := oi_t c17 hf
    refine r_aload_n (pc := 13) hC dX5_until_13 rfl 0 rfl ?_
    refine r_iconst (pc := 14) (v := 1) hC dX5_until_14 (by decide) ?_
    obtain ⟨b15, gb15, hf⟩ := ob hf
    obtain ⟨q16, eq16, hf⟩ := ob hf
    refine r_callV (pc := 15) (As := [DI 1]) (rest := []) (stk' := [DI q16.1]) (k1_X5_fail eq16) gb15 rfl hC wd_3_150 wd_3_152 wd_s_15 wd_3_153 wd_1_3 md_X5_fail rfl ⟨rfl, rfl, Nat.le_of_ble_eq_true rfl, Nat.le_of_ble_eq_true rfl, Nat.le_of_ble_eq_true rfl, Nat.le_of_ble_eq_true rfl⟩ dX5_until_15 rfl (Nat.le_of_ble_eq_true rfl) rfl ?_
    exact r_iret (pc := 18) hE hC (f1xI hf) ⟨Nat.le_of_ble_eq_true rfl, Nat.le_of_ble_eq_true rfl⟩ dX5_until_18
abbrev rmK1_X5_filledBy : Room := { frames := 5, cells := 0, slots := 0, locals := 116 }
set_option maxRecDepth 100000 in
set_option maxHeartbeats 4000000 in
theorem k1_X5_filledBy {st : DSt} {x : Nat} {a0 : Int32} {v : Int32} {st1 : DSt} (hf : fX5_filledBy st x a0 = some (v, st1)) : dm_K1 yX5_filledBy cX5_filledBy 4 (some .int) rmK1_X5_filledBy 0 0 [DR (some x), DI a0] st (some (DI v)) st1 := by
  refine dm_k1 (by decide) rfl (Nat.le_of_ble_eq_true rfl) fun Y hC hN hI hE => ?_
  unfold fX5_filledBy at hf
  refine dm_sub (lv' := [(0, DR (some x)), (1, DI a0)]) ([0, 1]) rfl ?_
  refine r_aload_n (pc := 0) hC dX5_filledBy_0 rfl 0 rfl ?_
  obtain ⟨v1, ev1, hf⟩ := ob hf
  refine r_getI (pc := 1) CF5 (k := 3) hC (by decide) wd_3_105 dX5_filledBy_1 ev1 ?_
  refine r_istore_n (pc := 4) (lv' := [(2, DI v1), (0, DR (some x)), (1, DI a0)]) hC hN dX5_filledBy_4 rfl (by decide) rfl ?_
  refine r_aload_n (pc := 5) hC dX5_filledBy_5 rfl 1 rfl ?_
  obtain ⟨v2, ev2, hf⟩ := ob hf
  refine r_getR (pc := 6) CF5 (k := 6) hC (by decide) wd_3_108 dX5_filledBy_6 ev2 ?_
  refine r_iconst (pc := 9) (v := 0) hC dX5_filledBy_9 (by decide) ?_
  refine r_aload_n (pc := 10) hC dX5_filledBy_10 rfl 1 rfl ?_
  obtain ⟨v3, ev3, hf⟩ := ob hf
  refine r_getR (pc := 11) CF5 (k := 8) hC (by decide) wd_3_110 dX5_filledBy_11 ev3 ?_
  refine r_iconst (pc := 14) (v := 0) hC dX5_filledBy_14 (by decide) ?_
  refine r_aload_n (pc := 15) hC dX5_filledBy_15 rfl 1 rfl ?_
  obtain ⟨v4, ev4, hf⟩ := ob hf
  refine r_getR (pc := 16) CF5 (k := 6) hC (by decide) wd_3_108 dX5_filledBy_16 ev4 ?_
  obtain ⟨v5, ev5, hf⟩ := ob hf
  refine r_alen (pc := 19) (kd := 0) (fun _ => rfl) hC dX5_filledBy_19 ev5 ?_
  obtain ⟨s6, es6, hf⟩ := ob hf
  refine r_copy (pc := 20) hC wd_3_235 wd_3_237 wd_3_236 wd_1_13 dX5_filledBy_20 ⟨Nat.le_of_ble_eq_true rfl, Nat.le_of_ble_eq_true rfl⟩ es6 ?_
  refine r_aload_n (pc := 23) hC dX5_filledBy_23 rfl 1 rfl ?_
  obtain ⟨v7, ev7, hf⟩ := ob hf
  refine r_getR (pc := 24) CF5 (k := 7) hC (by decide) wd_3_109 dX5_filledBy_24 ev7 ?_
  refine r_iconst (pc := 27) (v := 0) hC dX5_filledBy_27 (by decide) ?_
  refine r_aload_n (pc := 28) hC dX5_filledBy_28 rfl 1 rfl ?_
  obtain ⟨v8, ev8, hf⟩ := ob hf
  refine r_getR (pc := 29) CF5 (k := 9) hC (by decide) wd_3_111 dX5_filledBy_29 ev8 ?_
  refine r_iconst (pc := 32) (v := 0) hC dX5_filledBy_32 (by decide) ?_
  refine r_aload_n (pc := 33) hC dX5_filledBy_33 rfl 1 rfl ?_
  obtain ⟨v9, ev9, hf⟩ := ob hf
  refine r_getR (pc := 34) CF5 (k := 7) hC (by decide) wd_3_109 dX5_filledBy_34 ev9 ?_
  obtain ⟨v10, ev10, hf⟩ := ob hf
  refine r_alen (pc := 37) (kd := 0) (fun _ => rfl) hC dX5_filledBy_37 ev10 ?_
  obtain ⟨s11, es11, hf⟩ := ob hf
  refine r_copy (pc := 38) hC wd_3_235 wd_3_237 wd_3_236 wd_1_13 dX5_filledBy_38 ⟨Nat.le_of_ble_eq_true rfl, Nat.le_of_ble_eq_true rfl⟩ es11 ?_
  refine r_iload_n (pc := 41) hC dX5_filledBy_41 rfl 2 rfl ?_
  refine r_iconst (pc := 42) (v := (-1)) hC dX5_filledBy_42 (by decide) ?_
  refine r_icmp_eq (pc := 43) (tgt := 65) hC dX5_filledBy_43 (by decide) (fun c42 => ?_) (fun c42 => ?_)
  · replace hf := oi_t c42 hf
    refine r_aload_n (pc := 65) hC dX5_filledBy_65 rfl 1 rfl ?_
    obtain ⟨b12, gb12, hf⟩ := ob hf
    obtain ⟨q13, eq13, hf⟩ := ob hf
    refine r_callV (pc := 66) (As := []) (rest := []) (stk' := [DI q13.1]) (k1_X5_fillAll eq13) gb12 rfl hC wd_4_18 wd_4_20 wd_s_28 wd_4_21 wd_1_3 md_X5_fillAll rfl ⟨rfl, rfl, Nat.le_of_ble_eq_true rfl, Nat.le_of_ble_eq_true rfl, Nat.le_of_ble_eq_true rfl, Nat.le_of_ble_eq_true rfl⟩ dX5_filledBy_66 rfl (Nat.le_of_ble_eq_true rfl) rfl ?_
    refine r_istore_n (pc := 69) (lv' := [(3, DI q13.1), (2, DI v1), (0, DR (some x)), (1, DI a0)]) hC hN dX5_filledBy_69 rfl (by decide) rfl ?_
    refine r_aload_n (pc := 70) hC dX5_filledBy_70 rfl 2 rfl ?_
    refine r_iload_n (pc := 71) hC dX5_filledBy_71 rfl 1 rfl ?_
    obtain ⟨s14, es14, hf⟩ := ob hf
    refine r_put (pc := 72) CF5 (k := 3) hC (by decide) wd_3_105 rfl ⟨rfl, rfl⟩ dX5_filledBy_72 es14 ?_
    refine r_aload_n (pc := 75) hC dX5_filledBy_75 rfl 2 rfl ?_
    obtain ⟨v15, ev15, hf⟩ := ob hf
    refine r_getR (pc := 76) CF5 (k := 8) hC (by decide) wd_3_110 dX5_filledBy_76 ev15 ?_
    refine r_iconst (pc := 79) (v := 0) hC dX5_filledBy_79 (by decide) ?_
    refine r_aload_n (pc := 80) hC dX5_filledBy_80 rfl 2 rfl ?_
    obtain ⟨v16, ev16, hf⟩ := ob hf
    refine r_getR (pc := 81) CF5 (k := 6) hC (by decide) wd_3_108 dX5_filledBy_81 ev16 ?_
    refine r_iconst (pc := 84) (v := 0) hC dX5_filledBy_84 (by decide) ?_
    refine r_aload_n (pc := 85) hC dX5_filledBy_85 rfl 2 rfl ?_
    obtain ⟨v17, ev17, hf⟩ := ob hf
    refine r_getR (pc := 86) CF5 (k := 6) hC (by decide) wd_3_108 dX5_filledBy_86 ev17 ?_
    obtain ⟨v18, ev18, hf⟩ := ob hf
    refine r_alen (pc := 89) (kd := 0) (fun _ => rfl) hC dX5_filledBy_89 ev18 ?_
    obtain ⟨s19, es19, hf⟩ := ob hf
    refine r_copy (pc := 90) hC wd_3_235 wd_3_237 wd_3_236 wd_1_13 dX5_filledBy_90 ⟨Nat.le_of_ble_eq_true rfl, Nat.le_of_ble_eq_true rfl⟩ es19 ?_
    refine r_aload_n (pc := 93) hC dX5_filledBy_93 rfl 2 rfl ?_
    obtain ⟨v20, ev20, hf⟩ := ob hf
    refine r_getR (pc := 94) CF5 (k := 9) hC (by decide) wd_3_111 dX5_filledBy_94 ev20 ?_
    refine r_iconst (pc := 97) (v := 0) hC dX5_filledBy_97 (by decide) ?_
    refine r_aload_n (pc := 98) hC dX5_filledBy_98 rfl 2 rfl ?_
    obtain ⟨v21, ev21, hf⟩ := ob hf
    refine r_getR (pc := 99) CF5 (k := 7) hC (by decide) wd_3_109 dX5_filledBy_99 ev21 ?_
    refine r_iconst (pc := 102) (v := 0) hC dX5_filledBy_102 (by decide) ?_
    refine r_aload_n (pc := 103) hC dX5_filledBy_103 rfl 2 rfl ?_
    obtain ⟨v22, ev22, hf⟩ := ob hf
    refine r_getR (pc := 104) CF5 (k := 7) hC (by decide) wd_3_109 dX5_filledBy_104 ev22 ?_
    obtain ⟨v23, ev23, hf⟩ := ob hf
    refine r_alen (pc := 107) (kd := 0) (fun _ => rfl) hC dX5_filledBy_107 ev23 ?_
    obtain ⟨s24, es24, hf⟩ := ob hf
    refine r_copy (pc := 108) hC wd_3_235 wd_3_237 wd_3_236 wd_1_13 dX5_filledBy_108 ⟨Nat.le_of_ble_eq_true rfl, Nat.le_of_ble_eq_true rfl⟩ es24 ?_
    refine r_iload_n (pc := 111) hC dX5_filledBy_111 rfl 0 rfl ?_
    exact r_iret (pc := 112) hE hC (f1xI hf) ⟨Nat.le_of_ble_eq_true rfl, Nat.le_of_ble_eq_true rfl⟩ dX5_filledBy_112
  · replace hf := oi_f c42 hf
    refine r_aload_n (pc := 46) hC dX5_filledBy_46 rfl 1 rfl ?_
    refine r_iload_n (pc := 47) hC dX5_filledBy_47 rfl 2 rfl ?_
    refine r_iconst (pc := 48) (v := 3) hC dX5_filledBy_48 (by decide) ?_
    refine r_iconst (pc := 49) (v := 0) hC dX5_filledBy_49 (by decide) ?_
    refine r_aload_n (pc := 50) hC dX5_filledBy_50 rfl 1 rfl ?_
    refine r_iload_n (pc := 51) hC dX5_filledBy_51 rfl 2 rfl ?_
    refine r_iconst (pc := 52) (v := 3) hC dX5_filledBy_52 (by decide) ?_
    obtain ⟨b25, gb25, hf⟩ := ob hf
    obtain ⟨q26, eq26, hf⟩ := ob hf
    refine r_callV (pc := 53) (As := [DI a0, DI 3]) (rest := [DI 0, DI 3, DI a0, DR (some x)]) (stk' := [DI q26, DI 0, DI 3, DI a0, DR (some x)]) (k1_X5_sl eq26) gb25 rfl hC wd_3_227 wd_3_229 wd_s_25 wd_3_230 wd_1_3 md_X5_sl rfl ⟨rfl, rfl, Nat.le_of_ble_eq_true rfl, Nat.le_of_ble_eq_true rfl, Nat.le_of_ble_eq_true rfl, Nat.le_of_ble_eq_true rfl⟩ dX5_filledBy_53 rfl (Nat.le_of_ble_eq_true rfl) rfl ?_
    refine r_bipush (pc := 56) (v := 15) hC dX5_filledBy_56 (by decide) ?_
    refine r_isub (pc := 58) hC dX5_filledBy_58 ?_
    refine r_max (pc := 59) hC wd_3_194 wd_1_94 wd_1_11 (wd_1_95) dX5_filledBy_59 ⟨Nat.le_of_ble_eq_true rfl, Nat.le_of_ble_eq_true rfl, Nat.le_of_ble_eq_true rfl, Nat.le_of_ble_eq_true rfl⟩ ?_
    obtain ⟨b27, gb27, hf⟩ := ob hf
    obtain ⟨q28, eq28, hf⟩ := ob hf
    refine r_callV (pc := 62) (As := [DI a0, DI 3, DI (jmax 0 (q26 - 15))]) (rest := []) (stk' := []) (k1_X5_letSlab eq28) gb27 rfl hC wd_3_215 wd_3_217 wd_s_23 wd_3_218 wd_1_3 md_X5_letSlab rfl ⟨rfl, rfl, Nat.le_of_ble_eq_true rfl, Nat.le_of_ble_eq_true rfl, Nat.le_of_ble_eq_true rfl, Nat.le_of_ble_eq_true rfl⟩ dX5_filledBy_62 rfl (Nat.le_of_ble_eq_true rfl) rfl ?_
    refine r_aload_n (pc := 65) hC dX5_filledBy_65 rfl 1 rfl ?_
    obtain ⟨b29, gb29, hf⟩ := ob hf
    obtain ⟨q30, eq30, hf⟩ := ob hf
    refine r_callV (pc := 66) (As := []) (rest := []) (stk' := [DI q30.1]) (k1_X5_fillAll eq30) gb29 rfl hC wd_4_18 wd_4_20 wd_s_28 wd_4_21 wd_1_3 md_X5_fillAll rfl ⟨rfl, rfl, Nat.le_of_ble_eq_true rfl, Nat.le_of_ble_eq_true rfl, Nat.le_of_ble_eq_true rfl, Nat.le_of_ble_eq_true rfl⟩ dX5_filledBy_66 rfl (Nat.le_of_ble_eq_true rfl) rfl ?_
    refine r_istore_n (pc := 69) (lv' := [(3, DI q30.1), (2, DI v1), (0, DR (some x)), (1, DI a0)]) hC hN dX5_filledBy_69 rfl (by decide) rfl ?_
    refine r_aload_n (pc := 70) hC dX5_filledBy_70 rfl 2 rfl ?_
    refine r_iload_n (pc := 71) hC dX5_filledBy_71 rfl 1 rfl ?_
    obtain ⟨s31, es31, hf⟩ := ob hf
    refine r_put (pc := 72) CF5 (k := 3) hC (by decide) wd_3_105 rfl ⟨rfl, rfl⟩ dX5_filledBy_72 es31 ?_
    refine r_aload_n (pc := 75) hC dX5_filledBy_75 rfl 2 rfl ?_
    obtain ⟨v32, ev32, hf⟩ := ob hf
    refine r_getR (pc := 76) CF5 (k := 8) hC (by decide) wd_3_110 dX5_filledBy_76 ev32 ?_
    refine r_iconst (pc := 79) (v := 0) hC dX5_filledBy_79 (by decide) ?_
    refine r_aload_n (pc := 80) hC dX5_filledBy_80 rfl 2 rfl ?_
    obtain ⟨v33, ev33, hf⟩ := ob hf
    refine r_getR (pc := 81) CF5 (k := 6) hC (by decide) wd_3_108 dX5_filledBy_81 ev33 ?_
    refine r_iconst (pc := 84) (v := 0) hC dX5_filledBy_84 (by decide) ?_
    refine r_aload_n (pc := 85) hC dX5_filledBy_85 rfl 2 rfl ?_
    obtain ⟨v34, ev34, hf⟩ := ob hf
    refine r_getR (pc := 86) CF5 (k := 6) hC (by decide) wd_3_108 dX5_filledBy_86 ev34 ?_
    obtain ⟨v35, ev35, hf⟩ := ob hf
    refine r_alen (pc := 89) (kd := 0) (fun _ => rfl) hC dX5_filledBy_89 ev35 ?_
    obtain ⟨s36, es36, hf⟩ := ob hf
    refine r_copy (pc := 90) hC wd_3_235 wd_3_237 wd_3_236 wd_1_13 dX5_filledBy_90 ⟨Nat.le_of_ble_eq_true rfl, Nat.le_of_ble_eq_true rfl⟩ es36 ?_
    refine r_aload_n (pc := 93) hC dX5_filledBy_93 rfl 2 rfl ?_
    obtain ⟨v37, ev37, hf⟩ := ob hf
    refine r_getR (pc := 94) CF5 (k := 9) hC (by decide) wd_3_111 dX5_filledBy_94 ev37 ?_
    refine r_iconst (pc := 97) (v := 0) hC dX5_filledBy_97 (by decide) ?_
    refine r_aload_n (pc := 98) hC dX5_filledBy_98 rfl 2 rfl ?_
    obtain ⟨v38, ev38, hf⟩ := ob hf
    refine r_getR (pc := 99) CF5 (k := 7) hC (by decide) wd_3_109 dX5_filledBy_99 ev38 ?_
    refine r_iconst (pc := 102) (v := 0) hC dX5_filledBy_102 (by decide) ?_
    refine r_aload_n (pc := 103) hC dX5_filledBy_103 rfl 2 rfl ?_
    obtain ⟨v39, ev39, hf⟩ := ob hf
    refine r_getR (pc := 104) CF5 (k := 7) hC (by decide) wd_3_109 dX5_filledBy_104 ev39 ?_
    obtain ⟨v40, ev40, hf⟩ := ob hf
    refine r_alen (pc := 107) (kd := 0) (fun _ => rfl) hC dX5_filledBy_107 ev40 ?_
    obtain ⟨s41, es41, hf⟩ := ob hf
    refine r_copy (pc := 108) hC wd_3_235 wd_3_237 wd_3_236 wd_1_13 dX5_filledBy_108 ⟨Nat.le_of_ble_eq_true rfl, Nat.le_of_ble_eq_true rfl⟩ es41 ?_
    refine r_iload_n (pc := 111) hC dX5_filledBy_111 rfl 0 rfl ?_
    exact r_iret (pc := 112) hE hC (f1xI hf) ⟨Nat.le_of_ble_eq_true rfl, Nat.le_of_ble_eq_true rfl⟩ dX5_filledBy_112
abbrev rmK1_X5_advise : Room := { frames := 6, cells := 0, slots := 0, locals := 139 }
set_option maxRecDepth 100000 in
set_option maxHeartbeats 4000000 in
theorem k1_X5_advise {st : DSt} {x : Nat} {v : Int32} {st1 : DSt} (hf : fX5_advise st x = some (v, st1)) : dm_K1 yX5_advise cX5_advise 5 (some .int) rmK1_X5_advise 0 0 [DR (some x)] st (some (DI v)) st1 := by
  refine dm_k1 (by decide) rfl (Nat.le_of_ble_eq_true rfl) fun Y hC hN hI hE => ?_
  unfold fX5_advise at hf
  refine dm_sub (lv' := [(0, DR (some x))]) ([0]) rfl ?_
  refine r_aload_n (pc := 0) hC dX5_advise_0 rfl 0 rfl ?_
  refine r_iconst (pc := 1) (v := 0) hC dX5_advise_1 (by decide) ?_
  obtain ⟨s1, es1, hf⟩ := ob hf
  refine r_put (pc := 2) CF5 (k := 0) hC (by decide) wd_3_102 rfl ⟨rfl, rfl⟩ dX5_advise_2 es1 ?_
  refine r_iconst (pc := 5) (v := (-1)) hC dX5_advise_5 (by decide) ?_
  refine r_istore_n (pc := 6) (lv' := [(1, DI (-1)), (0, DR (some x))]) hC hN dX5_advise_6 rfl (by decide) rfl ?_
  refine r_aload_n (pc := 7) hC dX5_advise_7 rfl 1 rfl ?_
  refine r_iconst (pc := 8) (v := (-1)) hC dX5_advise_8 (by decide) ?_
  obtain ⟨b2, gb2, hf⟩ := ob hf
  obtain ⟨q3, eq3, hf⟩ := ob hf
  refine r_callV (pc := 9) (As := [DI (-1)]) (rest := []) (stk' := [DI q3.1]) (k1_X5_filledBy eq3) gb2 rfl hC wd_4_90 wd_4_92 wd_s_37 wd_4_93 wd_1_3 md_X5_filledBy rfl ⟨rfl, rfl, Nat.le_of_ble_eq_true rfl, Nat.le_of_ble_eq_true rfl, Nat.le_of_ble_eq_true rfl, Nat.le_of_ble_eq_true rfl⟩ dX5_advise_9 rfl (Nat.le_of_ble_eq_true rfl) rfl ?_
  refine r_istore_n (pc := 12) (lv' := [(2, DI q3.1), (1, DI (-1)), (0, DR (some x))]) hC hN dX5_advise_12 rfl (by decide) rfl ?_
  refine r_iconst (pc := 13) (v := 0) hC dX5_advise_13 (by decide) ?_
  refine r_istore_n (pc := 14) (lv' := [(3, DI 0), (2, DI q3.1), (1, DI (-1)), (0, DR (some x))]) hC hN dX5_advise_14 rfl (by decide) rfl ?_
  obtain ⟨b4, eb4, hf⟩ := ob hf
  refine dm_sub (lv' := [(0, DR (some x)), (1, DI (-1)), (2, DI q3.1), (3, DI 0)]) [3, 2, 1, 0] rfl ?_
  refine dlp_W _ (fun (z4 : DSt × Int32 × Int32 × Int32) => dm_W Y 0 0 z4.1 15 [(0, DR (some x)), (1, DI z4.2.1), (2, DI z4.2.2.1), (3, DI z4.2.2.2)] []) (fun (b4 : DSt × Int32 × Int32 × Int32) => dm_W Y 0 0 b4.1 50 [(0, DR (some x)), (1, DI b4.2.1), (2, DI b4.2.2.1), (3, DI b4.2.2.2)] []) ?_ eb4 ?_
  · intro z4 r hf hk
    unfold fX5_advise_L15 at hf
    refine r_iload_n (pc := 15) hC dX5_advise_15 rfl 3 rfl ?_
    refine r_aload_n (pc := 16) hC dX5_advise_16 rfl 0 rfl ?_
    obtain ⟨v5, ev5, hf⟩ := ob hf
    refine r_getI (pc := 17) CF5 (k := 3) hC (by decide) wd_3_105 dX5_advise_17 ev5 ?_
    refine r_icmp_ge (pc := 20) (tgt := 50) hC dX5_advise_20 (by decide) (fun c9 => ?_) (fun c9 => ?_)
    · replace hf := oi_t c9 hf
      cases hf
      exact dm_sub [0, 1, 2, 3] rfl hk
    · replace hf := oi_f c9 hf
      refine r_aload_n (pc := 23) hC dX5_advise_23 rfl 0 rfl ?_
      refine r_iload_n (pc := 24) hC dX5_advise_24 rfl 3 rfl ?_
      obtain ⟨b6, gb6, hf⟩ := ob hf
      obtain ⟨q7, eq7, hf⟩ := ob hf
      refine r_callV (pc := 25) (As := [DI z4.2.2.2]) (rest := []) (stk' := [DI q7.1]) (k1_X5_filledBy eq7) gb6 rfl hC wd_4_90 wd_4_92 wd_s_37 wd_4_93 wd_1_3 md_X5_filledBy rfl ⟨rfl, rfl, Nat.le_of_ble_eq_true rfl, Nat.le_of_ble_eq_true rfl, Nat.le_of_ble_eq_true rfl, Nat.le_of_ble_eq_true rfl⟩ dX5_advise_25 rfl (Nat.le_of_ble_eq_true rfl) rfl ?_
      refine r_istore (pc := 28) (lv' := [(4, DI q7.1), (0, DR (some x)), (1, DI z4.2.1), (2, DI z4.2.2.1), (3, DI z4.2.2.2)]) hC hN dX5_advise_28 (by decide) rfl ?_
      refine r_iload (pc := 30) hC dX5_advise_30 0 rfl ?_
      refine r_iload_n (pc := 32) hC dX5_advise_32 rfl 3 rfl ?_
      refine r_icmp_gt (pc := 33) (tgt := 39) hC dX5_advise_33 (by decide) (fun c8 => ?_) (fun c8 => ?_)
      · replace hf := oi_t c8 hf
        refine r_iload_n (pc := 39) hC dX5_advise_39 rfl 4 rfl ?_
        refine r_istore_n (pc := 40) (lv' := [(1, DI z4.2.2.2), (4, DI q7.1), (0, DR (some x)), (2, DI z4.2.2.1), (3, DI z4.2.2.2)]) hC hN dX5_advise_40 rfl (by decide) rfl ?_
        refine r_iload (pc := 41) hC dX5_advise_41 1 rfl ?_
        refine r_istore_n (pc := 43) (lv' := [(2, DI q7.1), (1, DI z4.2.2.2), (4, DI q7.1), (0, DR (some x)), (3, DI z4.2.2.2)]) hC hN dX5_advise_43 rfl (by decide) rfl ?_
        refine r_iinc (pc := 44) (pos := 4) (v := (z4.2.2.2 + 1)) (lv' := [(3, DI (z4.2.2.2 + 1)), (2, DI q7.1), (1, DI z4.2.2.2), (4, DI q7.1), (0, DR (some x))]) hC hN dX5_advise_44 rfl rfl (by decide) rfl ?_
        refine r_goto (pc := 47) (tgt := 15) hC dX5_advise_47 (by decide) ?_
        cases hf
        exact dm_sub [4, 2, 1, 0] rfl hk
      · replace hf := oi_f c8 hf
        refine r_goto (pc := 36) (tgt := 44) hC dX5_advise_36 (by decide) ?_
        refine r_iinc (pc := 44) (pos := 4) (v := (z4.2.2.2 + 1)) (lv' := [(3, DI (z4.2.2.2 + 1)), (4, DI q7.1), (0, DR (some x)), (1, DI z4.2.1), (2, DI z4.2.2.1)]) hC hN dX5_advise_44 rfl rfl (by decide) rfl ?_
        refine r_goto (pc := 47) (tgt := 15) hC dX5_advise_47 (by decide) ?_
        cases hf
        exact dm_sub [2, 3, 4, 0] rfl hk
  · refine r_iload_n (pc := 50) hC dX5_advise_50 rfl 1 rfl ?_
    exact r_iret (pc := 51) hE hC (f1xI hf) ⟨Nat.le_of_ble_eq_true rfl, Nat.le_of_ble_eq_true rfl⟩ dX5_advise_51
abbrev rmK1_X5_mean : Room := { frames := 1, cells := 0, slots := 0, locals := 22 }
set_option maxRecDepth 100000 in
set_option maxHeartbeats 4000000 in
theorem k1_X5_mean {st : DSt} {x : Nat} {v : UInt64} {st1 : DSt} (hf : fX5_mean st x = some (v, st1)) : dm_K1 yX5_mean cX5_mean 3 (some .double) rmK1_X5_mean 0 0 [DR (some x)] st (some (DD v)) st1 := by
  refine dm_k1 (by decide) rfl (Nat.le_of_ble_eq_true rfl) fun Y hC hN hI hE => ?_
  unfold fX5_mean at hf
  refine dm_sub (lv' := [(0, DR (some x))]) ([0]) rfl ?_
  refine r_aload_n (pc := 0) hC dX5_mean_0 rfl 0 rfl ?_
  refine r_iconst (pc := 1) (v := 0) hC dX5_mean_1 (by decide) ?_
  obtain ⟨s1, es1, hf⟩ := ob hf
  refine r_put (pc := 2) CF5 (k := 0) hC (by decide) wd_3_102 rfl ⟨rfl, rfl⟩ dX5_mean_2 es1 ?_
  refine r_iconst (pc := 5) (v := 0) hC dX5_mean_5 (by decide) ?_
  refine r_istore_n (pc := 6) (lv' := [(1, DI 0), (0, DR (some x))]) hC hN dX5_mean_6 rfl (by decide) rfl ?_
  refine r_iconst (pc := 7) (v := 0) hC dX5_mean_7 (by decide) ?_
  refine r_istore_n (pc := 8) (lv' := [(2, DI 0), (1, DI 0), (0, DR (some x))]) hC hN dX5_mean_8 rfl (by decide) rfl ?_
  obtain ⟨b2, eb2, hf⟩ := ob hf
  refine dm_sub (lv' := [(0, DR (some x)), (1, DI 0), (2, DI 0)]) [2, 1, 0] rfl ?_
  refine dlp_W _ (fun (z2 : Int32 × Int32) => dm_W Y 0 0 s1 9 [(0, DR (some x)), (1, DI z2.1), (2, DI z2.2)] []) (fun (b2 : Int32 × Int32) => dm_W Y 0 0 s1 32 [(0, DR (some x)), (1, DI b2.1), (2, DI b2.2)] []) ?_ eb2 ?_
  · intro z2 r hf hk
    unfold fX5_mean_L9 at hf
    refine r_iload_n (pc := 9) hC dX5_mean_9 rfl 2 rfl ?_
    refine r_aload_n (pc := 10) hC dX5_mean_10 rfl 0 rfl ?_
    obtain ⟨v3, ev3, hf⟩ := ob hf
    refine r_getI (pc := 11) CF5 (k := 3) hC (by decide) wd_3_105 dX5_mean_11 ev3 ?_
    refine r_icmp_ge (pc := 14) (tgt := 32) hC dX5_mean_14 (by decide) (fun c6 => ?_) (fun c6 => ?_)
    · replace hf := oi_t c6 hf
      cases hf
      exact dm_sub [0, 1, 2] rfl hk
    · replace hf := oi_f c6 hf
      refine r_iload_n (pc := 17) hC dX5_mean_17 rfl 1 rfl ?_
      refine r_aload_n (pc := 18) hC dX5_mean_18 rfl 0 rfl ?_
      refine r_iload_n (pc := 19) hC dX5_mean_19 rfl 2 rfl ?_
      refine r_iconst (pc := 20) (v := 3) hC dX5_mean_20 (by decide) ?_
      obtain ⟨b4, gb4, hf⟩ := ob hf
      obtain ⟨q5, eq5, hf⟩ := ob hf
      refine r_callV (pc := 21) (As := [DI z2.2, DI 3]) (rest := [DI z2.1]) (stk' := [DI q5, DI z2.1]) (k1_X5_sl eq5) gb4 rfl hC wd_3_227 wd_3_229 wd_s_25 wd_3_230 wd_1_3 md_X5_sl rfl ⟨rfl, rfl, Nat.le_of_ble_eq_true rfl, Nat.le_of_ble_eq_true rfl, Nat.le_of_ble_eq_true rfl, Nat.le_of_ble_eq_true rfl⟩ dX5_mean_21 rfl (Nat.le_of_ble_eq_true rfl) rfl ?_
      refine r_iadd (pc := 24) hC dX5_mean_24 ?_
      refine r_istore_n (pc := 25) (lv' := [(1, DI (z2.1 + q5)), (0, DR (some x)), (2, DI z2.2)]) hC hN dX5_mean_25 rfl (by decide) rfl ?_
      refine r_iinc (pc := 26) (pos := 2) (v := (z2.2 + 1)) (lv' := [(2, DI (z2.2 + 1)), (1, DI (z2.1 + q5)), (0, DR (some x))]) hC hN dX5_mean_26 rfl rfl (by decide) rfl ?_
      refine r_goto (pc := 29) (tgt := 9) hC dX5_mean_29 (by decide) ?_
      cases hf
      exact dm_sub [2, 1, 0] rfl hk
  · refine r_aload_n (pc := 32) hC dX5_mean_32 rfl 0 rfl ?_
    obtain ⟨v7, ev7, hf⟩ := ob hf
    refine r_getI (pc := 33) CF5 (k := 3) hC (by decide) wd_3_105 dX5_mean_33 ev7 ?_
    refine r_if_ne (pc := 36) (tgt := 43) hC dX5_mean_36 (by decide) (fun c10 => ?_) (fun c10 => ?_)
    · replace hf := oi_f c10 hf
      refine r_iload_n (pc := 43) hC dX5_mean_43 rfl 1 rfl ?_
      refine r_i2d (pc := 44) hC dX5_mean_44 ?_
      refine r_aload_n (pc := 45) hC dX5_mean_45 rfl 0 rfl ?_
      obtain ⟨v8, ev8, hf⟩ := ob hf
      refine r_getI (pc := 46) CF5 (k := 3) hC (by decide) wd_3_105 dX5_mean_46 ev8 ?_
      refine r_i2d (pc := 49) hC dX5_mean_49 ?_
      obtain ⟨v9, ev9, hf⟩ := ob hf
      refine r_ddivO (pc := 50) hC dX5_mean_50 ev9 ?_
      exact r_dret (pc := 51) hE hC (f1xD hf) ⟨Nat.le_of_ble_eq_true rfl, Nat.le_of_ble_eq_true rfl⟩ dX5_mean_51
    · replace hf := oi_t c10 hf
      refine r_dconst0 (pc := 39) hC dX5_mean_39 ?_
      refine r_goto (pc := 40) (tgt := 51) hC dX5_mean_40 (by decide) ?_
      exact r_dret (pc := 51) hE hC (f1xD hf) ⟨Nat.le_of_ble_eq_true rfl, Nat.le_of_ble_eq_true rfl⟩ dX5_mean_51
abbrev rmK1_X5_digest : Room := { frames := 4, cells := 0, slots := 0, locals := 88 }
set_option maxRecDepth 100000 in
set_option maxHeartbeats 4000000 in
theorem k1_X5_digest {st : DSt} {x : Nat} {v : Int64} {st1 : DSt} (hf : fX5_digest st x = some (v, st1)) : dm_K1 yX5_digest cX5_digest 5 (some .long) rmK1_X5_digest 0 0 [DR (some x)] st (some (DL v)) st1 := by
  refine dm_k1 (by decide) rfl (Nat.le_of_ble_eq_true rfl) fun Y hC hN hI hE => ?_
  unfold fX5_digest at hf
  refine dm_sub (lv' := [(0, DR (some x))]) ([0]) rfl ?_
  refine r_aload_n (pc := 0) hC dX5_digest_0 rfl 0 rfl ?_
  refine r_iconst (pc := 1) (v := 0) hC dX5_digest_1 (by decide) ?_
  obtain ⟨s1, es1, hf⟩ := ob hf
  refine r_put (pc := 2) CF5 (k := 0) hC (by decide) wd_3_102 rfl ⟨rfl, rfl⟩ dX5_digest_2 es1 ?_
  refine r_ldc2 (pc := 5) (v := 1789) hC wd_4_102 dX5_digest_5 ?_
  refine r_lstore_n (pc := 8) (lv' := [(1, DL 1789), (0, DR (some x))]) hC hN dX5_digest_8 rfl (by decide) rfl ?_
  refine r_iconst (pc := 9) (v := 0) hC dX5_digest_9 (by decide) ?_
  refine r_istore_n (pc := 10) (lv' := [(3, DI 0), (1, DL 1789), (0, DR (some x))]) hC hN dX5_digest_10 rfl (by decide) rfl ?_
  obtain ⟨b2, eb2, hf⟩ := ob hf
  refine dm_sub (lv' := [(0, DR (some x)), (1, DL 1789), (3, DI 0)]) [2, 1, 0] rfl ?_
  refine dlp_W _ (fun (z2 : Int64 × Int32) => dm_W Y 0 0 s1 11 [(0, DR (some x)), (1, DL z2.1), (3, DI z2.2)] []) (fun (b2 : Int64 × Int32) => dm_W Y 0 0 s1 36 [(0, DR (some x)), (1, DL b2.1), (3, DI b2.2)] []) ?_ eb2 ?_
  · intro z2 r hf hk
    unfold fX5_digest_L11 at hf
    refine r_iload_n (pc := 11) hC dX5_digest_11 rfl 2 rfl ?_
    refine r_bipush (pc := 12) (v := 8) hC dX5_digest_12 (by decide) ?_
    refine r_icmp_ge (pc := 14) (tgt := 36) hC dX5_digest_14 (by decide) (fun c5 => ?_) (fun c5 => ?_)
    · replace hf := oi_t c5 hf
      cases hf
      exact dm_sub [0, 1, 2] rfl hk
    · replace hf := oi_f c5 hf
      refine r_lload_n (pc := 17) hC dX5_digest_17 rfl 1 rfl ?_
      refine r_ldc2 (pc := 18) (v := 31) hC wd_4_103 dX5_digest_18 ?_
      refine r_lmul (pc := 21) hC dX5_digest_21 ?_
      refine r_aload_n (pc := 22) hC dX5_digest_22 rfl 0 rfl ?_
      refine r_iload_n (pc := 23) hC dX5_digest_23 rfl 2 rfl ?_
      obtain ⟨b3, gb3, hf⟩ := ob hf
      obtain ⟨q4, eq4, hf⟩ := ob hf
      refine r_callV (pc := 24) (As := [DI z2.2]) (rest := [DL (z2.1 * 31)]) (stk' := [DI q4, DL (z2.1 * 31)]) (k1_X5_counted eq4) gb3 rfl hC wd_4_70 wd_4_72 wd_s_36 wd_4_73 wd_1_3 md_X5_counted rfl ⟨rfl, rfl, Nat.le_of_ble_eq_true rfl, Nat.le_of_ble_eq_true rfl, Nat.le_of_ble_eq_true rfl, Nat.le_of_ble_eq_true rfl⟩ dX5_digest_24 rfl (Nat.le_of_ble_eq_true rfl) rfl ?_
      refine r_i2l (pc := 27) hC dX5_digest_27 ?_
      refine r_ladd (pc := 28) hC dX5_digest_28 ?_
      refine r_lstore_n (pc := 29) (lv' := [(1, DL ((z2.1 * 31) + (q4).toInt64)), (0, DR (some x)), (3, DI z2.2)]) hC hN dX5_digest_29 rfl (by decide) rfl ?_
      refine r_iinc (pc := 30) (pos := 2) (v := (z2.2 + 1)) (lv' := [(3, DI (z2.2 + 1)), (1, DL ((z2.1 * 31) + (q4).toInt64)), (0, DR (some x))]) hC hN dX5_digest_30 rfl rfl (by decide) rfl ?_
      refine r_goto (pc := 33) (tgt := 11) hC dX5_digest_33 (by decide) ?_
      cases hf
      exact dm_sub [2, 1, 0] rfl hk
  · refine r_iconst (pc := 36) (v := 0) hC dX5_digest_36 (by decide) ?_
    refine r_istore_n (pc := 37) (lv' := [(3, DI 0), (0, DR (some x)), (1, DL b2.1)]) hC hN dX5_digest_37 rfl (by decide) rfl ?_
    obtain ⟨b6, eb6, hf⟩ := ob hf
    refine dm_sub (lv' := [(0, DR (some x)), (1, DL b2.1), (3, DI 0)]) [1, 2, 0] rfl ?_
    refine dlp_W _ (fun (z6 : DSt × Int64 × Int32) => dm_W Y 0 0 z6.1 38 [(0, DR (some x)), (1, DL z6.2.1), (3, DI z6.2.2)] []) (fun (b6 : DSt × Int64 × Int32) => dm_W Y 0 0 b6.1 83 [(0, DR (some x)), (1, DL b6.2.1), (3, DI b6.2.2)] []) ?_ eb6 ?_
    · intro z6 r hf hk
      unfold fX5_digest_L38 at hf
      refine r_iload_n (pc := 38) hC dX5_digest_38 rfl 2 rfl ?_
      refine r_aload_n (pc := 39) hC dX5_digest_39 rfl 0 rfl ?_
      obtain ⟨v7, ev7, hf⟩ := ob hf
      refine r_getI (pc := 40) CF5 (k := 2) hC (by decide) wd_3_104 dX5_digest_40 ev7 ?_
      refine r_icmp_ge (pc := 43) (tgt := 83) hC dX5_digest_43 (by decide) (fun c12 => ?_) (fun c12 => ?_)
      · replace hf := oi_t c12 hf
        cases hf
        exact dm_sub [0, 1, 2] rfl hk
      · replace hf := oi_f c12 hf
        refine r_iconst (pc := 46) (v := 0) hC dX5_digest_46 (by decide) ?_
        refine r_istore (pc := 47) (lv' := [(4, DI 0), (0, DR (some x)), (1, DL z6.2.1), (3, DI z6.2.2)]) hC hN dX5_digest_47 (by decide) rfl ?_
        obtain ⟨b8, eb8, hf⟩ := ob hf
        refine dm_sub (lv' := [(0, DR (some x)), (1, DL z6.2.1), (3, DI z6.2.2), (4, DI 0)]) [1, 2, 3, 0] rfl ?_
        refine dlp_W _ (fun (z8 : DSt × Int64 × Int32) => dm_W Y 0 0 z8.1 49 [(0, DR (some x)), (1, DL z8.2.1), (3, DI z6.2.2), (4, DI z8.2.2)] []) (fun (b8 : DSt × Int64 × Int32) => dm_W Y 0 0 b8.1 77 [(0, DR (some x)), (1, DL b8.2.1), (3, DI z6.2.2), (4, DI b8.2.2)] []) ?_ eb8 ?_
        · intro z8 r hf hk
          unfold fX5_digest_L49 at hf
          refine r_iload (pc := 49) hC dX5_digest_49 3 rfl ?_
          refine r_bipush (pc := 51) (v := 8) hC dX5_digest_51 (by decide) ?_
          refine r_icmp_ge (pc := 53) (tgt := 77) hC dX5_digest_53 (by decide) (fun c11 => ?_) (fun c11 => ?_)
          · replace hf := oi_t c11 hf
            cases hf
            exact dm_sub [0, 1, 2, 3] rfl hk
          · replace hf := oi_f c11 hf
            refine r_lload_n (pc := 56) hC dX5_digest_56 rfl 1 rfl ?_
            refine r_ldc2 (pc := 57) (v := 31) hC wd_4_103 dX5_digest_57 ?_
            refine r_lmul (pc := 60) hC dX5_digest_60 ?_
            refine r_aload_n (pc := 61) hC dX5_digest_61 rfl 0 rfl ?_
            refine r_iload_n (pc := 62) hC dX5_digest_62 rfl 2 rfl ?_
            refine r_iload (pc := 63) hC dX5_digest_63 3 rfl ?_
            obtain ⟨b9, gb9, hf⟩ := ob hf
            obtain ⟨q10, eq10, hf⟩ := ob hf
            refine r_callV (pc := 65) (As := [DI z6.2.2, DI z8.2.2]) (rest := [DL (z8.2.1 * 31)]) (stk' := [DI q10.1, DL (z8.2.1 * 31)]) (k1_X5_bowlTold eq10) gb9 rfl hC wd_4_50 wd_4_52 wd_s_34 wd_4_53 wd_1_3 md_X5_bowlTold rfl ⟨rfl, rfl, Nat.le_of_ble_eq_true rfl, Nat.le_of_ble_eq_true rfl, Nat.le_of_ble_eq_true rfl, Nat.le_of_ble_eq_true rfl⟩ dX5_digest_65 rfl (Nat.le_of_ble_eq_true rfl) rfl ?_
            refine r_i2l (pc := 68) hC dX5_digest_68 ?_
            refine r_ladd (pc := 69) hC dX5_digest_69 ?_
            refine r_lstore_n (pc := 70) (lv' := [(1, DL ((z8.2.1 * 31) + (q10.1).toInt64)), (0, DR (some x)), (3, DI z6.2.2), (4, DI z8.2.2)]) hC hN dX5_digest_70 rfl (by decide) rfl ?_
            refine r_iinc (pc := 71) (pos := 3) (v := (z8.2.2 + 1)) (lv' := [(4, DI (z8.2.2 + 1)), (1, DL ((z8.2.1 * 31) + (q10.1).toInt64)), (0, DR (some x)), (3, DI z6.2.2)]) hC hN dX5_digest_71 rfl rfl (by decide) rfl ?_
            refine r_goto (pc := 74) (tgt := 49) hC dX5_digest_74 (by decide) ?_
            cases hf
            exact dm_sub [2, 1, 3, 0] rfl hk
        · refine r_iinc (pc := 77) (pos := 2) (v := (z6.2.2 + 1)) (lv' := [(3, DI (z6.2.2 + 1)), (0, DR (some x)), (1, DL b8.2.1), (4, DI b8.2.2)]) hC hN dX5_digest_77 rfl rfl (by decide) rfl ?_
          refine r_goto (pc := 80) (tgt := 38) hC dX5_digest_80 (by decide) ?_
          cases hf
          exact dm_sub [1, 2, 0] rfl hk
    · refine r_iconst (pc := 83) (v := 0) hC dX5_digest_83 (by decide) ?_
      refine r_istore_n (pc := 84) (lv' := [(3, DI 0), (0, DR (some x)), (1, DL b6.2.1)]) hC hN dX5_digest_84 rfl (by decide) rfl ?_
      obtain ⟨b13, eb13, hf⟩ := ob hf
      refine dm_sub (lv' := [(0, DR (some x)), (1, DL b6.2.1), (3, DI 0)]) [1, 2, 0] rfl ?_
      refine dlp_W _ (fun (z13 : Int64 × Int32) => dm_W Y 0 0 b6.1 85 [(0, DR (some x)), (1, DL z13.1), (3, DI z13.2)] []) (fun (b13 : Int64 × Int32) => dm_W Y 0 0 b6.1 130 [(0, DR (some x)), (1, DL b13.1), (3, DI b13.2)] []) ?_ eb13 ?_
      · intro z13 r hf hk
        unfold fX5_digest_L85 at hf
        refine r_iload_n (pc := 85) hC dX5_digest_85 rfl 2 rfl ?_
        refine r_aload_n (pc := 86) hC dX5_digest_86 rfl 0 rfl ?_
        obtain ⟨v14, ev14, hf⟩ := ob hf
        refine r_getI (pc := 87) CF5 (k := 3) hC (by decide) wd_3_105 dX5_digest_87 ev14 ?_
        refine r_icmp_ge (pc := 90) (tgt := 130) hC dX5_digest_90 (by decide) (fun c19 => ?_) (fun c19 => ?_)
        · replace hf := oi_t c19 hf
          cases hf
          exact dm_sub [0, 1, 2] rfl hk
        · replace hf := oi_f c19 hf
          refine r_iconst (pc := 93) (v := 0) hC dX5_digest_93 (by decide) ?_
          refine r_istore (pc := 94) (lv' := [(4, DI 0), (0, DR (some x)), (1, DL z13.1), (3, DI z13.2)]) hC hN dX5_digest_94 (by decide) rfl ?_
          obtain ⟨b15, eb15, hf⟩ := ob hf
          refine dm_sub (lv' := [(0, DR (some x)), (1, DL z13.1), (3, DI z13.2), (4, DI 0)]) [1, 2, 3, 0] rfl ?_
          refine dlp_W _ (fun (z15 : Int64 × Int32) => dm_W Y 0 0 b6.1 96 [(0, DR (some x)), (1, DL z15.1), (3, DI z13.2), (4, DI z15.2)] []) (fun (b15 : Int64 × Int32) => dm_W Y 0 0 b6.1 124 [(0, DR (some x)), (1, DL b15.1), (3, DI z13.2), (4, DI b15.2)] []) ?_ eb15 ?_
          · intro z15 r hf hk
            unfold fX5_digest_L96 at hf
            refine r_iload (pc := 96) hC dX5_digest_96 3 rfl ?_
            refine r_bipush (pc := 98) (v := 7) hC dX5_digest_98 (by decide) ?_
            refine r_icmp_ge (pc := 100) (tgt := 124) hC dX5_digest_100 (by decide) (fun c18 => ?_) (fun c18 => ?_)
            · replace hf := oi_t c18 hf
              cases hf
              exact dm_sub [0, 1, 2, 3] rfl hk
            · replace hf := oi_f c18 hf
              refine r_lload_n (pc := 103) hC dX5_digest_103 rfl 1 rfl ?_
              refine r_ldc2 (pc := 104) (v := 31) hC wd_4_103 dX5_digest_104 ?_
              refine r_lmul (pc := 107) hC dX5_digest_107 ?_
              refine r_aload_n (pc := 108) hC dX5_digest_108 rfl 0 rfl ?_
              refine r_iload_n (pc := 109) hC dX5_digest_109 rfl 2 rfl ?_
              refine r_iload (pc := 110) hC dX5_digest_110 3 rfl ?_
              obtain ⟨b16, gb16, hf⟩ := ob hf
              obtain ⟨q17, eq17, hf⟩ := ob hf
              refine r_callV (pc := 112) (As := [DI z13.2, DI z15.2]) (rest := [DL (z15.1 * 31)]) (stk' := [DI q17, DL (z15.1 * 31)]) (k1_X5_slabTold eq17) gb16 rfl hC wd_4_58 wd_4_60 wd_s_35 wd_4_61 wd_1_3 md_X5_slabTold rfl ⟨rfl, rfl, Nat.le_of_ble_eq_true rfl, Nat.le_of_ble_eq_true rfl, Nat.le_of_ble_eq_true rfl, Nat.le_of_ble_eq_true rfl⟩ dX5_digest_112 rfl (Nat.le_of_ble_eq_true rfl) rfl ?_
              refine r_i2l (pc := 115) hC dX5_digest_115 ?_
              refine r_ladd (pc := 116) hC dX5_digest_116 ?_
              refine r_lstore_n (pc := 117) (lv' := [(1, DL ((z15.1 * 31) + (q17).toInt64)), (0, DR (some x)), (3, DI z13.2), (4, DI z15.2)]) hC hN dX5_digest_117 rfl (by decide) rfl ?_
              refine r_iinc (pc := 118) (pos := 3) (v := (z15.2 + 1)) (lv' := [(4, DI (z15.2 + 1)), (1, DL ((z15.1 * 31) + (q17).toInt64)), (0, DR (some x)), (3, DI z13.2)]) hC hN dX5_digest_118 rfl rfl (by decide) rfl ?_
              refine r_goto (pc := 121) (tgt := 96) hC dX5_digest_121 (by decide) ?_
              cases hf
              exact dm_sub [2, 1, 3, 0] rfl hk
          · refine r_iinc (pc := 124) (pos := 2) (v := (z13.2 + 1)) (lv' := [(3, DI (z13.2 + 1)), (0, DR (some x)), (1, DL b15.1), (4, DI b15.2)]) hC hN dX5_digest_124 rfl rfl (by decide) rfl ?_
            refine r_goto (pc := 127) (tgt := 85) hC dX5_digest_127 (by decide) ?_
            cases hf
            exact dm_sub [1, 2, 0] rfl hk
      · refine r_iconst (pc := 130) (v := 0) hC dX5_digest_130 (by decide) ?_
        refine r_istore_n (pc := 131) (lv' := [(3, DI 0), (0, DR (some x)), (1, DL b13.1)]) hC hN dX5_digest_131 rfl (by decide) rfl ?_
        obtain ⟨b20, eb20, hf⟩ := ob hf
        refine dm_sub (lv' := [(0, DR (some x)), (1, DL b13.1), (3, DI 0)]) [1, 2, 0] rfl ?_
        refine dlp_W _ (fun (z20 : Int64 × Int32) => dm_W Y 0 0 b6.1 132 [(0, DR (some x)), (1, DL z20.1), (3, DI z20.2)] []) (fun (b20 : Int64 × Int32) => dm_W Y 0 0 b6.1 176 [(0, DR (some x)), (1, DL b20.1), (3, DI b20.2)] []) ?_ eb20 ?_
        · intro z20 r hf hk
          unfold fX5_digest_L132 at hf
          refine r_iload_n (pc := 132) hC dX5_digest_132 rfl 2 rfl ?_
          refine r_aload_n (pc := 133) hC dX5_digest_133 rfl 0 rfl ?_
          obtain ⟨v21, ev21, hf⟩ := ob hf
          refine r_getI (pc := 134) CF5 (k := 4) hC (by decide) wd_3_106 dX5_digest_134 ev21 ?_
          refine r_icmp_ge (pc := 137) (tgt := 176) hC dX5_digest_137 (by decide) (fun c26 => ?_) (fun c26 => ?_)
          · replace hf := oi_t c26 hf
            cases hf
            exact dm_sub [0, 1, 2] rfl hk
          · replace hf := oi_f c26 hf
            refine r_iconst (pc := 140) (v := 0) hC dX5_digest_140 (by decide) ?_
            refine r_istore (pc := 141) (lv' := [(4, DI 0), (0, DR (some x)), (1, DL z20.1), (3, DI z20.2)]) hC hN dX5_digest_141 (by decide) rfl ?_
            obtain ⟨b22, eb22, hf⟩ := ob hf
            refine dm_sub (lv' := [(0, DR (some x)), (1, DL z20.1), (3, DI z20.2), (4, DI 0)]) [1, 2, 3, 0] rfl ?_
            refine dlp_W _ (fun (z22 : Int64 × Int32) => dm_W Y 0 0 b6.1 143 [(0, DR (some x)), (1, DL z22.1), (3, DI z20.2), (4, DI z22.2)] []) (fun (b22 : Int64 × Int32) => dm_W Y 0 0 b6.1 170 [(0, DR (some x)), (1, DL b22.1), (3, DI z20.2), (4, DI b22.2)] []) ?_ eb22 ?_
            · intro z22 r hf hk
              unfold fX5_digest_L143 at hf
              refine r_iload (pc := 143) hC dX5_digest_143 3 rfl ?_
              refine r_iconst (pc := 145) (v := 5) hC dX5_digest_145 (by decide) ?_
              refine r_icmp_ge (pc := 146) (tgt := 170) hC dX5_digest_146 (by decide) (fun c25 => ?_) (fun c25 => ?_)
              · replace hf := oi_t c25 hf
                cases hf
                exact dm_sub [0, 1, 2, 3] rfl hk
              · replace hf := oi_f c25 hf
                refine r_lload_n (pc := 149) hC dX5_digest_149 rfl 1 rfl ?_
                refine r_ldc2 (pc := 150) (v := 31) hC wd_4_103 dX5_digest_150 ?_
                refine r_lmul (pc := 153) hC dX5_digest_153 ?_
                refine r_aload_n (pc := 154) hC dX5_digest_154 rfl 0 rfl ?_
                refine r_iload_n (pc := 155) hC dX5_digest_155 rfl 2 rfl ?_
                refine r_iload (pc := 156) hC dX5_digest_156 3 rfl ?_
                obtain ⟨b23, gb23, hf⟩ := ob hf
                obtain ⟨q24, eq24, hf⟩ := ob hf
                refine r_callV (pc := 158) (As := [DI z20.2, DI z22.2]) (rest := [DL (z22.1 * 31)]) (stk' := [DI q24, DL (z22.1 * 31)]) (k1_X5_bx eq24) gb23 rfl hC wd_4_30 wd_4_32 wd_s_31 wd_4_33 wd_1_3 md_X5_bx rfl ⟨rfl, rfl, Nat.le_of_ble_eq_true rfl, Nat.le_of_ble_eq_true rfl, Nat.le_of_ble_eq_true rfl, Nat.le_of_ble_eq_true rfl⟩ dX5_digest_158 rfl (Nat.le_of_ble_eq_true rfl) rfl ?_
                refine r_i2l (pc := 161) hC dX5_digest_161 ?_
                refine r_ladd (pc := 162) hC dX5_digest_162 ?_
                refine r_lstore_n (pc := 163) (lv' := [(1, DL ((z22.1 * 31) + (q24).toInt64)), (0, DR (some x)), (3, DI z20.2), (4, DI z22.2)]) hC hN dX5_digest_163 rfl (by decide) rfl ?_
                refine r_iinc (pc := 164) (pos := 3) (v := (z22.2 + 1)) (lv' := [(4, DI (z22.2 + 1)), (1, DL ((z22.1 * 31) + (q24).toInt64)), (0, DR (some x)), (3, DI z20.2)]) hC hN dX5_digest_164 rfl rfl (by decide) rfl ?_
                refine r_goto (pc := 167) (tgt := 143) hC dX5_digest_167 (by decide) ?_
                cases hf
                exact dm_sub [2, 1, 3, 0] rfl hk
            · refine r_iinc (pc := 170) (pos := 2) (v := (z20.2 + 1)) (lv' := [(3, DI (z20.2 + 1)), (0, DR (some x)), (1, DL b22.1), (4, DI b22.2)]) hC hN dX5_digest_170 rfl rfl (by decide) rfl ?_
              refine r_goto (pc := 173) (tgt := 132) hC dX5_digest_173 (by decide) ?_
              cases hf
              exact dm_sub [1, 2, 0] rfl hk
        · refine r_lload_n (pc := 176) hC dX5_digest_176 rfl 1 rfl ?_
          exact r_lret (pc := 177) hE hC (f1xL hf) ⟨Nat.le_of_ble_eq_true rfl, Nat.le_of_ble_eq_true rfl⟩ dX5_digest_177
