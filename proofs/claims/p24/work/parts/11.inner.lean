abbrev rmK1_X2_init : Room := { frames := 1, cells := 1, slots := 6, locals := 12 }
set_option maxRecDepth 100000 in
set_option maxHeartbeats 4000000 in
theorem k1_X2_init {st : DSt} {x : Nat} {st1 : DSt} (hf : fX2_init st x = some st1) : dm_K1 yX2_init cX2_init 1 none rmK1_X2_init 1 6 [DR (some x)] st none st1 := by
  refine dm_k1 (by decide) rfl (Nat.le_of_ble_eq_true rfl) fun Y hC hN hI hE => ?_
  replace hI := hI rfl
  unfold fX2_init at hf
  refine dm_sub (lv' := [(0, DR (some x))]) ([0]) rfl ?_
  refine r_aload_n (pc := 0) hC dX2_init_0 rfl 0 rfl ?_
  refine r_objInit (pc := 1) (nL := 0) hC wd_1_34 wd_1_21 (wd_1_22) ⟨_, rfl⟩ dX2_init_1 ⟨Nat.le_of_ble_eq_true rfl, Nat.le_of_ble_eq_true rfl⟩ ?_
  refine r_aload_n (pc := 4) hC dX2_init_4 rfl 0 rfl ?_
  refine r_bipush (pc := 5) (v := 6) hC dX2_init_5 (by decide) ?_
  obtain ⟨s1, es1, hf⟩ := ob hf
  refine r_newa (pc := 7) (atype := .int) (t := .int) (kd := 0) (N := 6) (x := nI0 6) rfl (fun _ => rfl) (fun _ h => nomatch h) (fun _ => rfl) hC wd_1_41 (by decide) rfl (Nat.le_of_ble_eq_true rfl) ⟨Nat.le_of_ble_eq_true rfl, Nat.le_of_ble_eq_true rfl⟩ dX2_init_7 ?_
  rw [Option.some.inj es1]
  obtain ⟨s2, es2, hf⟩ := ob hf
  refine r_putF (pc := 9) CF2 (k := 0) hC hI rfl (by decide) wd_1_35 rfl (dm_fr (by exact Or.inr ⟨_, rfl⟩) _) dX2_init_9 es2 ?_
  exact r_vret (pc := 12) hE hC (f1xV hf) ⟨Nat.le_of_ble_eq_true rfl, Nat.le_of_ble_eq_true rfl⟩ dX2_init_12
abbrev rmK1_X0_init : Room := { frames := 2, cells := 2, slots := 7, locals := 32 }
set_option maxRecDepth 100000 in
set_option maxHeartbeats 4000000 in
theorem k1_X0_init {st : DSt} {x : Nat} {a0 : Int32} {st1 : DSt} (hf : fX0_init st x a0 = some st1) : dm_K1 yX0_init cX0_init 2 none rmK1_X0_init 2 7 [DR (some x), DI a0] st none st1 := by
  refine dm_k1 (by decide) rfl (Nat.le_of_ble_eq_true rfl) fun Y hC hN hI hE => ?_
  replace hI := hI rfl
  unfold fX0_init at hf
  refine dm_sub (lv' := [(0, DR (some x)), (1, DI a0)]) ([0, 1]) rfl ?_
  refine r_aload_n (pc := 0) hC dX0_init_0 rfl 0 rfl ?_
  refine r_objInit (pc := 1) (nL := 0) hC wd_2_91 wd_1_21 (wd_1_22) ⟨_, rfl⟩ dX0_init_1 ⟨Nat.le_of_ble_eq_true rfl, Nat.le_of_ble_eq_true rfl⟩ ?_
  refine r_aload_n (pc := 4) hC dX0_init_4 rfl 0 rfl ?_
  obtain ⟨s1, es1, hf⟩ := ob hf
  refine r_new (pc := 5) CF2 (fs := [DR none]) hC wd_2_92 wd_1_30 wd_1_2 (fun j hj => by rcases (show j = 0 by omega) with rfl <;> rfl) ⟨Nat.le_of_ble_eq_true rfl, Nat.le_of_ble_eq_true rfl⟩ dX0_init_5 ?_
  rw [Option.some.inj es1]
  refine r_dup (pc := 8) hC dX0_init_8 rfl ?_
  obtain ⟨q2, eq2, hf⟩ := ob hf
  refine r_callI (pc := 9) (As := []) (rest := [DR (some st.1), DR (some x)]) (stk' := [DR (some st.1), DR (some x)]) (k1_X2_init eq2) hC wd_2_93 wd_1_32 rfl wd_1_33 wd_1_2 md_X2_init rfl ⟨rfl, rfl, Nat.le_of_ble_eq_true rfl, Nat.le_of_ble_eq_true rfl, Nat.le_of_ble_eq_true rfl, Nat.le_of_ble_eq_true rfl⟩ dX0_init_9 rfl (Nat.le_of_ble_eq_true rfl) rfl ?_
  obtain ⟨s3, es3, hf⟩ := ob hf
  refine r_putF (pc := 12) CF0 (k := 0) hC hI rfl (by decide) wd_2_94 rfl (dm_fr (by exact Or.inl ⟨_, rfl⟩) _) dX0_init_12 es3 ?_
  refine r_aload_n (pc := 15) hC dX0_init_15 rfl 0 rfl ?_
  refine r_iload_n (pc := 16) hC dX0_init_16 rfl 1 rfl ?_
  obtain ⟨s4, es4, hf⟩ := ob hf
  refine r_put (pc := 17) CF0 (k := 1) hC (by decide) wd_2_96 rfl ⟨rfl, rfl⟩ dX0_init_17 es4 ?_
  refine r_aload_n (pc := 20) hC dX0_init_20 rfl 0 rfl ?_
  refine r_bipush (pc := 21) (v := 20) hC dX0_init_21 (by decide) ?_
  obtain ⟨s5, es5, hf⟩ := ob hf
  refine r_put (pc := 23) CF0 (k := 2) hC (by decide) wd_2_98 rfl ⟨rfl, rfl⟩ dX0_init_23 es5 ?_
  exact r_vret (pc := 26) hE hC (f1xV hf) ⟨Nat.le_of_ble_eq_true rfl, Nat.le_of_ble_eq_true rfl⟩ dX0_init_26
abbrev rmK1_X0_mixed : Room := { frames := 0, cells := 0, slots := 0, locals := 0 }
set_option maxRecDepth 100000 in
set_option maxHeartbeats 4000000 in
theorem k1_X0_mixed {st : DSt} {x : Nat} {a0 : Int32} {a1 : Int32} {a2 : Int32} {v : Int32} (hf : fX0_mixed st x a0 a1 a2 = some v) : dm_K1 yX0_mixed cX0_mixed 5 (some .int) rmK1_X0_mixed 0 0 [DR (some x), DI a0, DI a1, DI a2] st (some (DI v)) st := by
  refine dm_k1 (by decide) rfl (Nat.le_of_ble_eq_true rfl) fun Y hC hN hI hE => ?_
  unfold fX0_mixed at hf
  refine dm_sub (lv' := [(0, DR (some x)), (1, DI a0), (2, DI a1), (3, DI a2)]) ([0, 1, 2, 3]) rfl ?_
  refine r_aload_n (pc := 0) hC dX0_mixed_0 rfl 0 rfl ?_
  obtain ⟨v1, ev1, hf⟩ := ob hf
  refine r_getI (pc := 1) CF0 (k := 1) hC (by decide) wd_2_96 dX0_mixed_1 ev1 ?_
  refine r_iload_n (pc := 4) hC dX0_mixed_4 rfl 3 rfl ?_
  refine r_iadd (pc := 5) hC dX0_mixed_5 ?_
  refine r_istore (pc := 6) (lv' := [(4, DI (v1 + a2)), (0, DR (some x)), (1, DI a0), (2, DI a1), (3, DI a2)]) hC hN dX0_mixed_6 (by decide) rfl ?_
  refine r_iload (pc := 8) hC dX0_mixed_8 0 rfl ?_
  refine r_if_gt (pc := 10) (tgt := 17) hC dX0_mixed_10 (by decide) (fun c4 => ?_) (fun c4 => ?_)
  · replace hf := oi_t c4 hf
    refine r_iload_n (pc := 17) hC dX0_mixed_17 rfl 2 rfl ?_
    refine r_aload_n (pc := 18) hC dX0_mixed_18 rfl 1 rfl ?_
    obtain ⟨v2, ev2, hf⟩ := ob hf
    refine r_getI (pc := 19) CF0 (k := 1) hC (by decide) wd_2_96 dX0_mixed_19 ev2 ?_
    refine r_imul (pc := 22) hC dX0_mixed_22 ?_
    refine r_iload_n (pc := 23) hC dX0_mixed_23 rfl 3 rfl ?_
    refine r_iload_n (pc := 24) hC dX0_mixed_24 rfl 4 rfl ?_
    refine r_imul (pc := 25) hC dX0_mixed_25 ?_
    refine r_iadd (pc := 26) hC dX0_mixed_26 ?_
    refine r_iload (pc := 27) hC dX0_mixed_27 0 rfl ?_
    obtain ⟨v3, ev3, hf⟩ := ob hf
    refine r_idiv (pc := 29) hC dX0_mixed_29 ev3 ?_
    exact r_iret (pc := 30) hE hC (f1pI hf) ⟨Nat.le_of_ble_eq_true rfl, Nat.le_of_ble_eq_true rfl⟩ dX0_mixed_30
  · replace hf := oi_f c4 hf
    refine r_iload_n (pc := 13) hC dX0_mixed_13 rfl 2 rfl ?_
    refine r_goto (pc := 14) (tgt := 30) hC dX0_mixed_14 (by decide) ?_
    exact r_iret (pc := 30) hE hC (f1pI hf) ⟨Nat.le_of_ble_eq_true rfl, Nat.le_of_ble_eq_true rfl⟩ dX0_mixed_30
abbrev rmK1_X2_vanish : Room := { frames := 0, cells := 0, slots := 0, locals := 0 }
set_option maxRecDepth 100000 in
set_option maxHeartbeats 4000000 in
theorem k1_X2_vanish {st : DSt} {x : Nat} {st1 : DSt} (hf : fX2_vanish st x = some st1) : dm_K1 yX2_vanish cX2_vanish 2 none rmK1_X2_vanish 0 0 [DR (some x)] st none st1 := by
  refine dm_k1 (by decide) rfl (Nat.le_of_ble_eq_true rfl) fun Y hC hN hI hE => ?_
  unfold fX2_vanish at hf
  refine dm_sub (lv' := [(0, DR (some x))]) ([0]) rfl ?_
  refine r_iconst (pc := 0) (v := 1) hC dX2_vanish_0 (by decide) ?_
  refine r_istore_n (pc := 1) (lv' := [(1, DI 1), (0, DR (some x))]) hC hN dX2_vanish_1 rfl (by decide) rfl ?_
  obtain ⟨b1, eb1, hf⟩ := ob hf
  refine dm_sub (lv' := [(0, DR (some x)), (1, DI 1)]) [1, 0] rfl ?_
  refine dlp_W _ (fun (z1 : DSt × Int32) => dm_W Y 0 0 z1.1 2 [(0, DR (some x)), (1, DI z1.2)] []) (fun (b1 : DSt × Int32) => dm_W Y 0 0 b1.1 20 [(0, DR (some x)), (1, DI b1.2)] []) ?_ eb1 ?_
  · intro z1 r hf hk
    unfold fX2_vanish_L2 at hf
    refine r_iload_n (pc := 2) hC dX2_vanish_2 rfl 1 rfl ?_
    refine r_iconst (pc := 3) (v := 5) hC dX2_vanish_3 (by decide) ?_
    refine r_icmp_gt (pc := 4) (tgt := 20) hC dX2_vanish_4 (by decide) (fun c4 => ?_) (fun c4 => ?_)
    · replace hf := oi_t c4 hf
      cases hf
      exact dm_sub [0, 1] rfl hk
    · replace hf := oi_f c4 hf
      refine r_aload_n (pc := 7) hC dX2_vanish_7 rfl 0 rfl ?_
      obtain ⟨v2, ev2, hf⟩ := ob hf
      refine r_getR (pc := 8) CF2 (k := 0) hC (by decide) wd_1_35 dX2_vanish_8 ev2 ?_
      refine r_iload_n (pc := 11) hC dX2_vanish_11 rfl 1 rfl ?_
      refine r_iconst (pc := 12) (v := 0) hC dX2_vanish_12 (by decide) ?_
      obtain ⟨s3, es3, hf⟩ := ob hf
      refine r_iastore (pc := 13) hC dX2_vanish_13 es3 ?_
      refine r_iinc (pc := 14) (pos := 1) (v := (z1.2 + 1)) (lv' := [(1, DI (z1.2 + 1)), (0, DR (some x))]) hC hN dX2_vanish_14 rfl rfl (by decide) rfl ?_
      refine r_goto (pc := 17) (tgt := 2) hC dX2_vanish_17 (by decide) ?_
      cases hf
      exact dm_sub [1, 0] rfl hk
  · exact r_vret (pc := 20) hE hC (f1xV hf) ⟨Nat.le_of_ble_eq_true rfl, Nat.le_of_ble_eq_true rfl⟩ dX2_vanish_20
abbrev rmK1_X0_takeIn : Room := { frames := 1, cells := 0, slots := 0, locals := 24 }
set_option maxRecDepth 100000 in
set_option maxHeartbeats 4000000 in
theorem k1_X0_takeIn {st : DSt} {x : Nat} {a0 : Option Nat} {st1 : DSt} (hf : fX0_takeIn st x a0 = some st1) : dm_K1 yX0_takeIn cX0_takeIn 3 none rmK1_X0_takeIn 0 0 [DR (some x), DR a0] st none st1 := by
  refine dm_k1 (by decide) rfl (Nat.le_of_ble_eq_true rfl) fun Y hC hN hI hE => ?_
  unfold fX0_takeIn at hf
  refine dm_sub (lv' := [(0, DR (some x)), (1, DR a0)]) ([0, 1]) rfl ?_
  refine r_iconst (pc := 0) (v := 1) hC dX0_takeIn_0 (by decide) ?_
  refine r_istore_n (pc := 1) (lv' := [(2, DI 1), (0, DR (some x)), (1, DR a0)]) hC hN dX0_takeIn_1 rfl (by decide) rfl ?_
  obtain ⟨b1, eb1, hf⟩ := ob hf
  refine dm_sub (lv' := [(0, DR (some x)), (1, DR a0), (2, DI 1)]) [1, 2, 0] rfl ?_
  refine dlp_W _ (fun (z1 : DSt × Int32) => dm_W Y 0 0 z1.1 2 [(0, DR (some x)), (1, DR a0), (2, DI z1.2)] []) (fun (b1 : DSt × Int32) => dm_W Y 0 0 b1.1 48 [(0, DR (some x)), (1, DR a0), (2, DI b1.2)] []) ?_ eb1 ?_
  · intro z1 r hf hk
    unfold fX0_takeIn_L2 at hf
    refine r_iload_n (pc := 2) hC dX0_takeIn_2 rfl 2 rfl ?_
    refine r_iconst (pc := 3) (v := 5) hC dX0_takeIn_3 (by decide) ?_
    refine r_icmp_gt (pc := 4) (tgt := 48) hC dX0_takeIn_4 (by decide) (fun c14 => ?_) (fun c14 => ?_)
    · replace hf := oi_t c14 hf
      cases hf
      exact dm_sub [0, 1, 2] rfl hk
    · replace hf := oi_f c14 hf
      refine r_aload_n (pc := 7) hC dX0_takeIn_7 rfl 0 rfl ?_
      obtain ⟨v2, ev2, hf⟩ := ob hf
      refine r_getR (pc := 8) CF0 (k := 0) hC (by decide) wd_2_94 dX0_takeIn_8 ev2 ?_
      obtain ⟨v3, ev3, hf⟩ := ob hf
      refine r_getR (pc := 11) CF2 (k := 0) hC (by decide) wd_1_36 dX0_takeIn_11 ev3 ?_
      refine r_iload_n (pc := 14) hC dX0_takeIn_14 rfl 2 rfl ?_
      refine r_aload_n (pc := 15) hC dX0_takeIn_15 rfl 0 rfl ?_
      refine r_aload_n (pc := 16) hC dX0_takeIn_16 rfl 0 rfl ?_
      obtain ⟨v4, ev4, hf⟩ := ob hf
      refine r_getR (pc := 17) CF0 (k := 0) hC (by decide) wd_2_94 dX0_takeIn_17 ev4 ?_
      obtain ⟨v5, ev5, hf⟩ := ob hf
      refine r_getR (pc := 20) CF2 (k := 0) hC (by decide) wd_1_36 dX0_takeIn_20 ev5 ?_
      refine r_iload_n (pc := 23) hC dX0_takeIn_23 rfl 2 rfl ?_
      obtain ⟨v6, ev6, hf⟩ := ob hf
      refine r_iaload (pc := 24) hC dX0_takeIn_24 ev6 ?_
      refine r_aload_n (pc := 25) hC dX0_takeIn_25 rfl 1 rfl ?_
      obtain ⟨v7, ev7, hf⟩ := ob hf
      refine r_getR (pc := 26) CF0 (k := 0) hC (by decide) wd_2_94 dX0_takeIn_26 ev7 ?_
      obtain ⟨v8, ev8, hf⟩ := ob hf
      refine r_getR (pc := 29) CF2 (k := 0) hC (by decide) wd_1_36 dX0_takeIn_29 ev8 ?_
      refine r_iload_n (pc := 32) hC dX0_takeIn_32 rfl 2 rfl ?_
      obtain ⟨v9, ev9, hf⟩ := ob hf
      refine r_iaload (pc := 33) hC dX0_takeIn_33 ev9 ?_
      refine r_aload_n (pc := 34) hC dX0_takeIn_34 rfl 1 rfl ?_
      obtain ⟨v10, ev10, hf⟩ := ob hf
      refine r_getI (pc := 35) CF0 (k := 1) hC (by decide) wd_2_96 dX0_takeIn_35 ev10 ?_
      obtain ⟨b11, gb11, hf⟩ := ob hf
      obtain ⟨q12, eq12, hf⟩ := ob hf
      refine r_callV (pc := 38) (As := [DI v6, DI v9, DI v10]) (rest := [DI z1.2, DR v3]) (stk' := [DI q12, DI z1.2, DR v3]) (k1_X0_mixed eq12) gb11 rfl hC wd_2_169 wd_2_170 wd_2_171 wd_2_172 wd_1_10 md_X0_mixed rfl ⟨rfl, rfl, Nat.le_of_ble_eq_true rfl, Nat.le_of_ble_eq_true rfl, Nat.le_of_ble_eq_true rfl, Nat.le_of_ble_eq_true rfl⟩ dX0_takeIn_38 rfl (Nat.le_of_ble_eq_true rfl) rfl ?_
      obtain ⟨s13, es13, hf⟩ := ob hf
      refine r_iastore (pc := 41) hC dX0_takeIn_41 es13 ?_
      refine r_iinc (pc := 42) (pos := 2) (v := (z1.2 + 1)) (lv' := [(2, DI (z1.2 + 1)), (0, DR (some x)), (1, DR a0)]) hC hN dX0_takeIn_42 rfl rfl (by decide) rfl ?_
      refine r_goto (pc := 45) (tgt := 2) hC dX0_takeIn_45 (by decide) ?_
      cases hf
      exact dm_sub [1, 2, 0] rfl hk
  · refine r_aload_n (pc := 48) hC dX0_takeIn_48 rfl 0 rfl ?_
    refine r_aload_n (pc := 49) hC dX0_takeIn_49 rfl 0 rfl ?_
    refine r_aload_n (pc := 50) hC dX0_takeIn_50 rfl 0 rfl ?_
    obtain ⟨v15, ev15, hf⟩ := ob hf
    refine r_getI (pc := 51) CF0 (k := 2) hC (by decide) wd_2_98 dX0_takeIn_51 ev15 ?_
    refine r_aload_n (pc := 54) hC dX0_takeIn_54 rfl 1 rfl ?_
    obtain ⟨v16, ev16, hf⟩ := ob hf
    refine r_getI (pc := 55) CF0 (k := 2) hC (by decide) wd_2_98 dX0_takeIn_55 ev16 ?_
    refine r_aload_n (pc := 58) hC dX0_takeIn_58 rfl 1 rfl ?_
    obtain ⟨v17, ev17, hf⟩ := ob hf
    refine r_getI (pc := 59) CF0 (k := 1) hC (by decide) wd_2_96 dX0_takeIn_59 ev17 ?_
    obtain ⟨b18, gb18, hf⟩ := ob hf
    obtain ⟨q19, eq19, hf⟩ := ob hf
    refine r_callV (pc := 62) (As := [DI v15, DI v16, DI v17]) (rest := [DR (some x)]) (stk' := [DI q19, DR (some x)]) (k1_X0_mixed eq19) gb18 rfl hC wd_2_169 wd_2_170 wd_2_171 wd_2_172 wd_1_10 md_X0_mixed rfl ⟨rfl, rfl, Nat.le_of_ble_eq_true rfl, Nat.le_of_ble_eq_true rfl, Nat.le_of_ble_eq_true rfl, Nat.le_of_ble_eq_true rfl⟩ dX0_takeIn_62 rfl (Nat.le_of_ble_eq_true rfl) rfl ?_
    obtain ⟨s20, es20, hf⟩ := ob hf
    refine r_put (pc := 65) CF0 (k := 2) hC (by decide) wd_2_98 rfl ⟨rfl, rfl⟩ dX0_takeIn_65 es20 ?_
    refine r_aload_n (pc := 68) hC dX0_takeIn_68 rfl 0 rfl ?_
    refine r_dup (pc := 69) hC dX0_takeIn_69 rfl ?_
    obtain ⟨v21, ev21, hf⟩ := ob hf
    refine r_getI (pc := 70) CF0 (k := 1) hC (by decide) wd_2_96 dX0_takeIn_70 ev21 ?_
    refine r_aload_n (pc := 73) hC dX0_takeIn_73 rfl 1 rfl ?_
    obtain ⟨v22, ev22, hf⟩ := ob hf
    refine r_getI (pc := 74) CF0 (k := 1) hC (by decide) wd_2_96 dX0_takeIn_74 ev22 ?_
    refine r_iadd (pc := 77) hC dX0_takeIn_77 ?_
    obtain ⟨s23, es23, hf⟩ := ob hf
    refine r_put (pc := 78) CF0 (k := 1) hC (by decide) wd_2_96 rfl ⟨rfl, rfl⟩ dX0_takeIn_78 es23 ?_
    refine r_aload_n (pc := 81) hC dX0_takeIn_81 rfl 1 rfl ?_
    refine r_iconst (pc := 82) (v := 0) hC dX0_takeIn_82 (by decide) ?_
    obtain ⟨s24, es24, hf⟩ := ob hf
    refine r_put (pc := 83) CF0 (k := 1) hC (by decide) wd_2_96 rfl ⟨rfl, rfl⟩ dX0_takeIn_83 es24 ?_
    refine r_aload_n (pc := 86) hC dX0_takeIn_86 rfl 1 rfl ?_
    obtain ⟨v25, ev25, hf⟩ := ob hf
    refine r_getR (pc := 87) CF0 (k := 0) hC (by decide) wd_2_94 dX0_takeIn_87 ev25 ?_
    obtain ⟨b26, gb26, hf⟩ := ob hf
    obtain ⟨q27, eq27, hf⟩ := ob hf
    refine r_callV (pc := 90) (As := []) (rest := []) (stk' := []) (k1_X2_vanish eq27) gb26 rfl hC wd_2_173 wd_2_174 wd_2_175 wd_2_176 wd_1_2 md_X2_vanish rfl ⟨rfl, rfl, Nat.le_of_ble_eq_true rfl, Nat.le_of_ble_eq_true rfl, Nat.le_of_ble_eq_true rfl, Nat.le_of_ble_eq_true rfl⟩ dX0_takeIn_90 rfl (Nat.le_of_ble_eq_true rfl) rfl ?_
    exact r_vret (pc := 93) hE hC (f1xV hf) ⟨Nat.le_of_ble_eq_true rfl, Nat.le_of_ble_eq_true rfl⟩ dX0_takeIn_93
abbrev rmK1_X1_init : Room := { frames := 1, cells := 0, slots := 0, locals := 12 }
set_option maxRecDepth 100000 in
set_option maxHeartbeats 4000000 in
theorem k1_X1_init {st : DSt} {x : Nat} {a0 : Int32} {a1 : Int32} {st1 : DSt} (hf : fX1_init st x a0 a1 = some st1) : dm_K1 yX1_init cX1_init 3 none rmK1_X1_init 0 0 [DR (some x), DI a0, DI a1] st none st1 := by
  refine dm_k1 (by decide) rfl (Nat.le_of_ble_eq_true rfl) fun Y hC hN hI hE => ?_
  replace hI := hI rfl
  unfold fX1_init at hf
  refine dm_sub (lv' := [(0, DR (some x)), (1, DI a0), (2, DI a1)]) ([0, 1, 2]) rfl ?_
  refine r_aload_n (pc := 0) hC dX1_init_0 rfl 0 rfl ?_
  refine r_objInit (pc := 1) (nL := 0) hC wd_2_236 wd_1_21 (wd_1_22) ⟨_, rfl⟩ dX1_init_1 ⟨Nat.le_of_ble_eq_true rfl, Nat.le_of_ble_eq_true rfl⟩ ?_
  refine r_aload_n (pc := 4) hC dX1_init_4 rfl 0 rfl ?_
  refine r_iload_n (pc := 5) hC dX1_init_5 rfl 1 rfl ?_
  obtain ⟨s1, es1, hf⟩ := ob hf
  refine r_putF (pc := 6) CF1 (k := 0) hC hI rfl (by decide) wd_2_237 rfl ⟨rfl, rfl⟩ dX1_init_6 es1 ?_
  refine r_aload_n (pc := 9) hC dX1_init_9 rfl 0 rfl ?_
  refine r_iload_n (pc := 10) hC dX1_init_10 rfl 2 rfl ?_
  obtain ⟨s2, es2, hf⟩ := ob hf
  refine r_putF (pc := 11) CF1 (k := 1) hC hI rfl (by decide) wd_2_239 rfl ⟨rfl, rfl⟩ dX1_init_11 es2 ?_
  refine r_aload_n (pc := 14) hC dX1_init_14 rfl 0 rfl ?_
  refine r_iconst (pc := 15) (v := (-1)) hC dX1_init_15 (by decide) ?_
  obtain ⟨s3, es3, hf⟩ := ob hf
  refine r_put (pc := 16) CF1 (k := 3) hC (by decide) wd_3_3 rfl ⟨rfl, rfl⟩ dX1_init_16 es3 ?_
  refine r_aload_n (pc := 19) hC dX1_init_19 rfl 0 rfl ?_
  refine r_iconst (pc := 20) (v := (-1)) hC dX1_init_20 (by decide) ?_
  obtain ⟨s4, es4, hf⟩ := ob hf
  refine r_put (pc := 21) CF1 (k := 4) hC (by decide) wd_3_5 rfl ⟨rfl, rfl⟩ dX1_init_21 es4 ?_
  exact r_vret (pc := 24) hE hC (f1xV hf) ⟨Nat.le_of_ble_eq_true rfl, Nat.le_of_ble_eq_true rfl⟩ dX1_init_24
abbrev rmK1_X3_squares : Room := { frames := 0, cells := 0, slots := 0, locals := 0 }
set_option maxRecDepth 100000 in
set_option maxHeartbeats 4000000 in
theorem k1_X3_squares {st : DSt} {x : Nat} {v : Int32} (hf : fX3_squares st x = some v) : dm_K1 yX3_squares cX3_squares 1 (some .int) rmK1_X3_squares 0 0 [DR (some x)] st (some (DI v)) st := by
  refine dm_k1 (by decide) rfl (Nat.le_of_ble_eq_true rfl) fun Y hC hN hI hE => ?_
  unfold fX3_squares at hf
  refine dm_sub (lv' := [(0, DR (some x))]) ([0]) rfl ?_
  refine r_aload_n (pc := 0) hC dX3_squares_0 rfl 0 rfl ?_
  obtain ⟨v1, ev1, hf⟩ := ob hf
  refine r_getI (pc := 1) CF3 (k := 1) hC (by decide) wd_2_195 dX3_squares_1 ev1 ?_
  refine r_aload_n (pc := 4) hC dX3_squares_4 rfl 0 rfl ?_
  obtain ⟨v2, ev2, hf⟩ := ob hf
  refine r_getI (pc := 5) CF3 (k := 2) hC (by decide) wd_2_197 dX3_squares_5 ev2 ?_
  refine r_imul (pc := 8) hC dX3_squares_8 ?_
  exact r_iret (pc := 9) hE hC (f1pI hf) ⟨Nat.le_of_ble_eq_true rfl, Nat.le_of_ble_eq_true rfl⟩ dX3_squares_9
abbrev rmK1_X1_suits : Room := { frames := 1, cells := 0, slots := 0, locals := 20 }
set_option maxRecDepth 100000 in
set_option maxHeartbeats 4000000 in
theorem k1_X1_suits {st : DSt} {x : Nat} {a0 : Option Nat} {a1 : Int32} {v : Int32} (hf : fX1_suits st x a0 a1 = some v) : dm_K1 yX1_suits cX1_suits 3 (some .boolean) rmK1_X1_suits 0 0 [DR (some x), DR a0, DI a1] st (some (DI v)) st := by
  refine dm_k1 (by decide) rfl (Nat.le_of_ble_eq_true rfl) fun Y hC hN hI hE => ?_
  unfold fX1_suits at hf
  refine dm_sub (lv' := [(0, DR (some x)), (1, DR a0), (2, DI a1)]) ([0, 1, 2]) rfl ?_
  refine r_aload_n (pc := 0) hC dX1_suits_0 rfl 1 rfl ?_
  obtain ⟨b1, gb1, hf⟩ := ob hf
  obtain ⟨q2, eq2, hf⟩ := ob hf
  refine r_callV (pc := 1) (As := []) (rest := []) (stk' := [DI q2]) (k1_X3_squares eq2) gb1 rfl hC wd_1_201 wd_1_190 wd_1_191 wd_1_192 wd_1_13 md_X3_squares rfl ⟨rfl, rfl, Nat.le_of_ble_eq_true rfl, Nat.le_of_ble_eq_true rfl, Nat.le_of_ble_eq_true rfl, Nat.le_of_ble_eq_true rfl⟩ dX1_suits_1 rfl (Nat.le_of_ble_eq_true rfl) rfl ?_
  refine r_aload_n (pc := 4) hC dX1_suits_4 rfl 0 rfl ?_
  obtain ⟨v3, ev3, hf⟩ := ob hf
  refine r_getI (pc := 5) CF1 (k := 0) hC (by decide) wd_2_237 dX1_suits_5 ev3 ?_
  refine r_icmp_ne (pc := 8) (tgt := 32) hC dX1_suits_8 (by decide) (fun c12 => ?_) (fun c12 => ?_)
  · replace hf := oi_f c12 hf
    refine r_iconst (pc := 32) (v := 0) hC dX1_suits_32 (by decide) ?_
    obtain ⟨v4, ev4, hf⟩ := ob hf
    exact r_zret (pc := 33) hE hC ev4 (f1pI hf) ⟨Nat.le_of_ble_eq_true rfl, Nat.le_of_ble_eq_true rfl⟩ dX1_suits_33
  · replace hf := oi_t c12 hf
    refine r_aload_n (pc := 11) hC dX1_suits_11 rfl 1 rfl ?_
    obtain ⟨v5, ev5, hf⟩ := ob hf
    refine r_getI (pc := 12) CF3 (k := 0) hC (by decide) wd_2_193 dX1_suits_12 ev5 ?_
    refine r_aload_n (pc := 15) hC dX1_suits_15 rfl 0 rfl ?_
    obtain ⟨v6, ev6, hf⟩ := ob hf
    refine r_getI (pc := 16) CF1 (k := 1) hC (by decide) wd_2_239 dX1_suits_16 ev6 ?_
    refine r_icmp_lt (pc := 19) (tgt := 32) hC dX1_suits_19 (by decide) (fun c11 => ?_) (fun c11 => ?_)
    · replace hf := oi_t c11 hf
      refine r_iconst (pc := 32) (v := 0) hC dX1_suits_32 (by decide) ?_
      obtain ⟨v7, ev7, hf⟩ := ob hf
      exact r_zret (pc := 33) hE hC ev7 (f1pI hf) ⟨Nat.le_of_ble_eq_true rfl, Nat.le_of_ble_eq_true rfl⟩ dX1_suits_33
    · replace hf := oi_f c11 hf
      refine r_iload_n (pc := 22) hC dX1_suits_22 rfl 2 rfl ?_
      refine r_bipush (pc := 23) (v := 20) hC dX1_suits_23 (by decide) ?_
      refine r_icmp_gt (pc := 25) (tgt := 32) hC dX1_suits_25 (by decide) (fun c10 => ?_) (fun c10 => ?_)
      · replace hf := oi_t c10 hf
        refine r_iconst (pc := 32) (v := 0) hC dX1_suits_32 (by decide) ?_
        obtain ⟨v8, ev8, hf⟩ := ob hf
        exact r_zret (pc := 33) hE hC ev8 (f1pI hf) ⟨Nat.le_of_ble_eq_true rfl, Nat.le_of_ble_eq_true rfl⟩ dX1_suits_33
      · replace hf := oi_f c10 hf
        refine r_iconst (pc := 28) (v := 1) hC dX1_suits_28 (by decide) ?_
        refine r_goto (pc := 29) (tgt := 33) hC dX1_suits_29 (by decide) ?_
        obtain ⟨v9, ev9, hf⟩ := ob hf
        exact r_zret (pc := 33) hE hC ev9 (f1pI hf) ⟨Nat.le_of_ble_eq_true rfl, Nat.le_of_ble_eq_true rfl⟩ dX1_suits_33
abbrev rmK1_X1_take : Room := { frames := 0, cells := 0, slots := 0, locals := 0 }
set_option maxRecDepth 100000 in
set_option maxHeartbeats 4000000 in
theorem k1_X1_take {st : DSt} {x : Nat} {a0 : Option Nat} {st1 : DSt} (hf : fX1_take st x a0 = some st1) : dm_K1 yX1_take cX1_take 2 none rmK1_X1_take 0 0 [DR (some x), DR a0] st none st1 := by
  refine dm_k1 (by decide) rfl (Nat.le_of_ble_eq_true rfl) fun Y hC hN hI hE => ?_
  unfold fX1_take at hf
  refine dm_sub (lv' := [(0, DR (some x)), (1, DR a0)]) ([0, 1]) rfl ?_
  refine r_aload_n (pc := 0) hC dX1_take_0 rfl 0 rfl ?_
  refine r_iconst (pc := 1) (v := 1) hC dX1_take_1 (by decide) ?_
  obtain ⟨s1, es1, hf⟩ := ob hf
  refine r_put (pc := 2) CF1 (k := 2) hC (by decide) wd_3_1 rfl ⟨rfl, rfl⟩ dX1_take_2 es1 ?_
  refine r_aload_n (pc := 5) hC dX1_take_5 rfl 0 rfl ?_
  refine r_aload_n (pc := 6) hC dX1_take_6 rfl 1 rfl ?_
  obtain ⟨v2, ev2, hf⟩ := ob hf
  refine r_getI (pc := 7) CF3 (k := 0) hC (by decide) wd_2_193 dX1_take_7 ev2 ?_
  obtain ⟨s3, es3, hf⟩ := ob hf
  refine r_put (pc := 10) CF1 (k := 3) hC (by decide) wd_3_3 rfl ⟨rfl, rfl⟩ dX1_take_10 es3 ?_
  refine r_aload_n (pc := 13) hC dX1_take_13 rfl 0 rfl ?_
  refine r_aload_n (pc := 14) hC dX1_take_14 rfl 1 rfl ?_
  obtain ⟨v4, ev4, hf⟩ := ob hf
  refine r_getI (pc := 15) CF3 (k := 3) hC (by decide) wd_2_199 dX1_take_15 ev4 ?_
  obtain ⟨s5, es5, hf⟩ := ob hf
  refine r_put (pc := 18) CF1 (k := 4) hC (by decide) wd_3_5 rfl ⟨rfl, rfl⟩ dX1_take_18 es5 ?_
  exact r_vret (pc := 21) hE hC (f1xV hf) ⟨Nat.le_of_ble_eq_true rfl, Nat.le_of_ble_eq_true rfl⟩ dX1_take_21
abbrev rmK1_X2_meltingPoint : Room := { frames := 0, cells := 0, slots := 0, locals := 0 }
set_option maxRecDepth 100000 in
set_option maxHeartbeats 4000000 in
theorem k1_X2_meltingPoint {st : DSt} {a0 : Int32} {v : Int32} (hf : fX2_meltingPoint st a0 = some v) : dm_K1 yX2_meltingPoint cX2_meltingPoint 1 (some .int) rmK1_X2_meltingPoint 0 0 [DI a0] st (some (DI v)) st := by
  refine dm_k1 (by decide) rfl (Nat.le_of_ble_eq_true rfl) fun Y hC hN hI hE => ?_
  unfold fX2_meltingPoint at hf
  refine dm_sub (lv' := [(0, DI a0)]) ([0]) rfl ?_
  refine r_bipush (pc := 0) (v := 15) hC dX2_meltingPoint_0 (by decide) ?_
  refine r_iconst (pc := 2) (v := 4) hC dX2_meltingPoint_2 (by decide) ?_
  refine r_iload_n (pc := 3) hC dX2_meltingPoint_3 rfl 0 rfl ?_
  refine r_imul (pc := 4) hC dX2_meltingPoint_4 ?_
  refine r_iadd (pc := 5) hC dX2_meltingPoint_5 ?_
  exact r_iret (pc := 6) hE hC (f1pI hf) ⟨Nat.le_of_ble_eq_true rfl, Nat.le_of_ble_eq_true rfl⟩ dX2_meltingPoint_6
abbrev rmK1_X2_halveWhatMelts : Room := { frames := 1, cells := 0, slots := 0, locals := 20 }
set_option maxRecDepth 100000 in
set_option maxHeartbeats 4000000 in
theorem k1_X2_halveWhatMelts {st : DSt} {x : Nat} {a0 : Int32} {st1 : DSt} (hf : fX2_halveWhatMelts st x a0 = some st1) : dm_K1 yX2_halveWhatMelts cX2_halveWhatMelts 3 none rmK1_X2_halveWhatMelts 0 0 [DR (some x), DI a0] st none st1 := by
  refine dm_k1 (by decide) rfl (Nat.le_of_ble_eq_true rfl) fun Y hC hN hI hE => ?_
  unfold fX2_halveWhatMelts at hf
  refine dm_sub (lv' := [(0, DR (some x)), (1, DI a0)]) ([0, 1]) rfl ?_
  refine r_iconst (pc := 0) (v := 1) hC dX2_halveWhatMelts_0 (by decide) ?_
  refine r_istore_n (pc := 1) (lv' := [(2, DI 1), (0, DR (some x)), (1, DI a0)]) hC hN dX2_halveWhatMelts_1 rfl (by decide) rfl ?_
  obtain ⟨b1, eb1, hf⟩ := ob hf
  refine dm_sub (lv' := [(0, DR (some x)), (1, DI a0), (2, DI 1)]) [1, 2, 0] rfl ?_
  refine dlp_W _ (fun (z1 : DSt × Int32) => dm_W Y 0 0 z1.1 2 [(0, DR (some x)), (1, DI a0), (2, DI z1.2)] []) (fun (b1 : DSt × Int32) => dm_W Y 0 0 b1.1 31 [(0, DR (some x)), (1, DI a0), (2, DI b1.2)] []) ?_ eb1 ?_
  · intro z1 r hf hk
    unfold fX2_halveWhatMelts_L2 at hf
    refine r_iload_n (pc := 2) hC dX2_halveWhatMelts_2 rfl 2 rfl ?_
    refine r_iconst (pc := 3) (v := 5) hC dX2_halveWhatMelts_3 (by decide) ?_
    refine r_icmp_gt (pc := 4) (tgt := 31) hC dX2_halveWhatMelts_4 (by decide) (fun c8 => ?_) (fun c8 => ?_)
    · replace hf := oi_t c8 hf
      cases hf
      exact dm_sub [0, 1, 2] rfl hk
    · replace hf := oi_f c8 hf
      refine r_iload_n (pc := 7) hC dX2_halveWhatMelts_7 rfl 1 rfl ?_
      refine r_iload_n (pc := 8) hC dX2_halveWhatMelts_8 rfl 2 rfl ?_
      obtain ⟨q2, eq2, hf⟩ := ob hf
      refine r_callS (pc := 9) (As := [DI z1.2]) (rest := [DI a0]) (stk' := [DI q2, DI a0]) (k1_X2_meltingPoint eq2) hC wd_2_123 wd_2_124 wd_2_125 wd_1_2 md_X2_meltingPoint rfl ⟨rfl, rfl, Nat.le_of_ble_eq_true rfl, Nat.le_of_ble_eq_true rfl, Nat.le_of_ble_eq_true rfl, Nat.le_of_ble_eq_true rfl⟩ dX2_halveWhatMelts_9 rfl (Nat.le_of_ble_eq_true rfl) rfl ?_
      refine r_icmp_lt (pc := 12) (tgt := 25) hC dX2_halveWhatMelts_12 (by decide) (fun c7 => ?_) (fun c7 => ?_)
      · replace hf := oi_t c7 hf
        refine r_iinc (pc := 25) (pos := 2) (v := (z1.2 + 1)) (lv' := [(2, DI (z1.2 + 1)), (0, DR (some x)), (1, DI a0)]) hC hN dX2_halveWhatMelts_25 rfl rfl (by decide) rfl ?_
        refine r_goto (pc := 28) (tgt := 2) hC dX2_halveWhatMelts_28 (by decide) ?_
        cases hf
        exact dm_sub [1, 2, 0] rfl hk
      · replace hf := oi_f c7 hf
        refine r_aload_n (pc := 15) hC dX2_halveWhatMelts_15 rfl 0 rfl ?_
        obtain ⟨v3, ev3, hf⟩ := ob hf
        refine r_getR (pc := 16) CF2 (k := 0) hC (by decide) wd_1_35 dX2_halveWhatMelts_16 ev3 ?_
        refine r_iload_n (pc := 19) hC dX2_halveWhatMelts_19 rfl 2 rfl ?_
        refine r_dup2 (pc := 20) hC dX2_halveWhatMelts_20 rfl rfl ?_
        obtain ⟨v4, ev4, hf⟩ := ob hf
        refine r_iaload (pc := 21) hC dX2_halveWhatMelts_21 ev4 ?_
        refine r_iconst (pc := 22) (v := 2) hC dX2_halveWhatMelts_22 (by decide) ?_
        obtain ⟨v5, ev5, hf⟩ := ob hf
        refine r_idiv (pc := 23) hC dX2_halveWhatMelts_23 ev5 ?_
        obtain ⟨s6, es6, hf⟩ := ob hf
        refine r_iastore (pc := 24) hC dX2_halveWhatMelts_24 es6 ?_
        refine r_iinc (pc := 25) (pos := 2) (v := (z1.2 + 1)) (lv' := [(2, DI (z1.2 + 1)), (0, DR (some x)), (1, DI a0)]) hC hN dX2_halveWhatMelts_25 rfl rfl (by decide) rfl ?_
        refine r_goto (pc := 28) (tgt := 2) hC dX2_halveWhatMelts_28 (by decide) ?_
        cases hf
        exact dm_sub [1, 2, 0] rfl hk
  · exact r_vret (pc := 31) hE hC (f1xV hf) ⟨Nat.le_of_ble_eq_true rfl, Nat.le_of_ble_eq_true rfl⟩ dX2_halveWhatMelts_31
abbrev rmK1_X2_growingSort : Room := { frames := 1, cells := 0, slots := 0, locals := 20 }
set_option maxRecDepth 100000 in
set_option maxHeartbeats 4000000 in
theorem k1_X2_growingSort {st : DSt} {a0 : Int32} {v : Int32} (hf : fX2_growingSort st a0 = some v) : dm_K1 yX2_growingSort cX2_growingSort 2 (some .int) rmK1_X2_growingSort 0 0 [DI a0] st (some (DI v)) st := by
  refine dm_k1 (by decide) rfl (Nat.le_of_ble_eq_true rfl) fun Y hC hN hI hE => ?_
  unfold fX2_growingSort at hf
  refine dm_sub (lv' := [(0, DI a0)]) ([0]) rfl ?_
  refine r_iconst (pc := 0) (v := 1) hC dX2_growingSort_0 (by decide) ?_
  refine r_istore_n (pc := 1) (lv' := [(1, DI 1), (0, DI a0)]) hC hN dX2_growingSort_1 rfl (by decide) rfl ?_
  obtain ⟨b1, eb1, hf⟩ := ob hf
  refine dm_sub (lv' := [(0, DI a0), (1, DI 1)]) [1, 0] rfl ?_
  refine dlp_W _ (fun (z1 : Int32) => dm_W Y 0 0 st 2 [(0, DI a0), (1, DI z1)] []) (fun (b1 : (Int32) ⊕ (Int32)) => match b1 with | .inl yb1 => dm_W Y 0 0 st 25 [(0, DI a0), (1, DI yb1)] [] | .inr r9 => some r9 = some v) ?_ eb1 ?_
  · intro z1 r hf hk
    unfold fX2_growingSort_L2 at hf
    refine r_iload_n (pc := 2) hC dX2_growingSort_2 rfl 1 rfl ?_
    refine r_iconst (pc := 3) (v := 5) hC dX2_growingSort_3 (by decide) ?_
    refine r_icmp_gt (pc := 4) (tgt := 25) hC dX2_growingSort_4 (by decide) (fun c4 => ?_) (fun c4 => ?_)
    · replace hf := oi_t c4 hf
      cases hf
      exact dm_sub [0, 1] rfl hk
    · replace hf := oi_f c4 hf
      refine r_iload_n (pc := 7) hC dX2_growingSort_7 rfl 1 rfl ?_
      obtain ⟨q2, eq2, hf⟩ := ob hf
      refine r_callS (pc := 8) (As := [DI z1]) (rest := []) (stk' := [DI q2]) (k1_X2_meltingPoint eq2) hC wd_2_123 wd_2_124 wd_2_125 wd_1_2 md_X2_meltingPoint rfl ⟨rfl, rfl, Nat.le_of_ble_eq_true rfl, Nat.le_of_ble_eq_true rfl, Nat.le_of_ble_eq_true rfl, Nat.le_of_ble_eq_true rfl⟩ dX2_growingSort_8 rfl (Nat.le_of_ble_eq_true rfl) rfl ?_
      refine r_iload_n (pc := 11) hC dX2_growingSort_11 rfl 0 rfl ?_
      refine r_iconst (pc := 12) (v := 3) hC dX2_growingSort_12 (by decide) ?_
      refine r_iadd (pc := 13) hC dX2_growingSort_13 ?_
      refine r_icmp_le (pc := 14) (tgt := 19) hC dX2_growingSort_14 (by decide) (fun c3 => ?_) (fun c3 => ?_)
      · replace hf := oi_t c3 hf
        refine r_iinc (pc := 19) (pos := 1) (v := (z1 + 1)) (lv' := [(1, DI (z1 + 1)), (0, DI a0)]) hC hN dX2_growingSort_19 rfl rfl (by decide) rfl ?_
        refine r_goto (pc := 22) (tgt := 2) hC dX2_growingSort_22 (by decide) ?_
        cases hf
        exact dm_sub [1, 0] rfl hk
      · replace hf := oi_f c3 hf
        refine r_iload_n (pc := 17) hC dX2_growingSort_17 rfl 1 rfl ?_
        cases hf
        exact r_iret (pc := 18) hE hC (f1pI hk) ⟨Nat.le_of_ble_eq_true rfl, Nat.le_of_ble_eq_true rfl⟩ dX2_growingSort_18
  · rcases b1 with yb1 | r9
    · refine r_iconst (pc := 25) (v := 5) hC dX2_growingSort_25 (by decide) ?_
      exact r_iret (pc := 26) hE hC (f1pI hf) ⟨Nat.le_of_ble_eq_true rfl, Nat.le_of_ble_eq_true rfl⟩ dX2_growingSort_26
    · exact hf
abbrev rmK1_X2_total : Room := { frames := 0, cells := 0, slots := 0, locals := 0 }
set_option maxRecDepth 100000 in
set_option maxHeartbeats 4000000 in
theorem k1_X2_total {st : DSt} {x : Nat} {v : Int32} (hf : fX2_total st x = some v) : dm_K1 yX2_total cX2_total 3 (some .int) rmK1_X2_total 0 0 [DR (some x)] st (some (DI v)) st := by
  refine dm_k1 (by decide) rfl (Nat.le_of_ble_eq_true rfl) fun Y hC hN hI hE => ?_
  unfold fX2_total at hf
  refine dm_sub (lv' := [(0, DR (some x))]) ([0]) rfl ?_
  refine r_iconst (pc := 0) (v := 0) hC dX2_total_0 (by decide) ?_
  refine r_istore_n (pc := 1) (lv' := [(1, DI 0), (0, DR (some x))]) hC hN dX2_total_1 rfl (by decide) rfl ?_
  refine r_iconst (pc := 2) (v := 1) hC dX2_total_2 (by decide) ?_
  refine r_istore_n (pc := 3) (lv' := [(2, DI 1), (1, DI 0), (0, DR (some x))]) hC hN dX2_total_3 rfl (by decide) rfl ?_
  obtain ⟨b1, eb1, hf⟩ := ob hf
  refine dm_sub (lv' := [(0, DR (some x)), (1, DI 0), (2, DI 1)]) [2, 1, 0] rfl ?_
  refine dlp_W _ (fun (z1 : Int32 × Int32) => dm_W Y 0 0 st 4 [(0, DR (some x)), (1, DI z1.1), (2, DI z1.2)] []) (fun (b1 : Int32 × Int32) => dm_W Y 0 0 st 24 [(0, DR (some x)), (1, DI b1.1), (2, DI b1.2)] []) ?_ eb1 ?_
  · intro z1 r hf hk
    unfold fX2_total_L4 at hf
    refine r_iload_n (pc := 4) hC dX2_total_4 rfl 2 rfl ?_
    refine r_iconst (pc := 5) (v := 5) hC dX2_total_5 (by decide) ?_
    refine r_icmp_gt (pc := 6) (tgt := 24) hC dX2_total_6 (by decide) (fun c4 => ?_) (fun c4 => ?_)
    · replace hf := oi_t c4 hf
      cases hf
      exact dm_sub [0, 1, 2] rfl hk
    · replace hf := oi_f c4 hf
      refine r_iload_n (pc := 9) hC dX2_total_9 rfl 1 rfl ?_
      refine r_aload_n (pc := 10) hC dX2_total_10 rfl 0 rfl ?_
      obtain ⟨v2, ev2, hf⟩ := ob hf
      refine r_getR (pc := 11) CF2 (k := 0) hC (by decide) wd_1_35 dX2_total_11 ev2 ?_
      refine r_iload_n (pc := 14) hC dX2_total_14 rfl 2 rfl ?_
      obtain ⟨v3, ev3, hf⟩ := ob hf
      refine r_iaload (pc := 15) hC dX2_total_15 ev3 ?_
      refine r_iadd (pc := 16) hC dX2_total_16 ?_
      refine r_istore_n (pc := 17) (lv' := [(1, DI (z1.1 + v3)), (0, DR (some x)), (2, DI z1.2)]) hC hN dX2_total_17 rfl (by decide) rfl ?_
      refine r_iinc (pc := 18) (pos := 2) (v := (z1.2 + 1)) (lv' := [(2, DI (z1.2 + 1)), (1, DI (z1.1 + v3)), (0, DR (some x))]) hC hN dX2_total_18 rfl rfl (by decide) rfl ?_
      refine r_goto (pc := 21) (tgt := 4) hC dX2_total_21 (by decide) ?_
      cases hf
      exact dm_sub [2, 1, 0] rfl hk
  · refine r_iload_n (pc := 24) hC dX2_total_24 rfl 1 rfl ?_
    exact r_iret (pc := 25) hE hC (f1pI hf) ⟨Nat.le_of_ble_eq_true rfl, Nat.le_of_ble_eq_true rfl⟩ dX2_total_25
abbrev rmK1_X2_increase : Room := { frames := 1, cells := 0, slots := 0, locals := 22 }
set_option maxRecDepth 100000 in
set_option maxHeartbeats 4000000 in
theorem k1_X2_increase {st : DSt} {x : Nat} {a0 : Int32} {a1 : Int32} {st1 : DSt} (hf : fX2_increase st x a0 a1 = some st1) : dm_K1 yX2_increase cX2_increase 3 none rmK1_X2_increase 0 0 [DR (some x), DI a0, DI a1] st none st1 := by
  refine dm_k1 (by decide) rfl (Nat.le_of_ble_eq_true rfl) fun Y hC hN hI hE => ?_
  unfold fX2_increase at hf
  refine dm_sub (lv' := [(0, DR (some x)), (1, DI a0), (2, DI a1)]) ([0, 1, 2]) rfl ?_
  refine r_aload_n (pc := 0) hC dX2_increase_0 rfl 0 rfl ?_
  obtain ⟨v1, ev1, hf⟩ := ob hf
  refine r_getR (pc := 1) CF2 (k := 0) hC (by decide) wd_1_35 dX2_increase_1 ev1 ?_
  refine r_iload_n (pc := 4) hC dX2_increase_4 rfl 1 rfl ?_
  refine r_dup2 (pc := 5) hC dX2_increase_5 rfl rfl ?_
  obtain ⟨v2, ev2, hf⟩ := ob hf
  refine r_iaload (pc := 6) hC dX2_increase_6 ev2 ?_
  refine r_iconst (pc := 7) (v := 0) hC dX2_increase_7 (by decide) ?_
  refine r_iload_n (pc := 8) hC dX2_increase_8 rfl 2 rfl ?_
  refine r_bipush (pc := 9) (v := 100) hC dX2_increase_9 (by decide) ?_
  refine r_aload_n (pc := 11) hC dX2_increase_11 rfl 0 rfl ?_
  obtain ⟨b3, gb3, hf⟩ := ob hf
  obtain ⟨q4, eq4, hf⟩ := ob hf
  refine r_callV (pc := 12) (As := []) (rest := [DI 100, DI a1, DI 0, DI v2, DI a0, DR v1]) (stk' := [DI q4, DI 100, DI a1, DI 0, DI v2, DI a0, DR v1]) (k1_X2_total eq4) gb3 rfl hC wd_2_137 wd_2_138 wd_2_139 wd_2_140 wd_1_2 md_X2_total rfl ⟨rfl, rfl, Nat.le_of_ble_eq_true rfl, Nat.le_of_ble_eq_true rfl, Nat.le_of_ble_eq_true rfl, Nat.le_of_ble_eq_true rfl⟩ dX2_increase_12 rfl (Nat.le_of_ble_eq_true rfl) rfl ?_
  refine r_isub (pc := 15) hC dX2_increase_15 ?_
  refine r_min (pc := 16) hC wd_1_181 wd_1_182 wd_1_12 (wd_1_183) dX2_increase_16 ⟨Nat.le_of_ble_eq_true rfl, Nat.le_of_ble_eq_true rfl, Nat.le_of_ble_eq_true rfl, Nat.le_of_ble_eq_true rfl⟩ ?_
  refine r_max (pc := 19) hC wd_1_184 wd_1_162 wd_1_12 (wd_1_163) dX2_increase_19 ⟨Nat.le_of_ble_eq_true rfl, Nat.le_of_ble_eq_true rfl, Nat.le_of_ble_eq_true rfl, Nat.le_of_ble_eq_true rfl⟩ ?_
  refine r_iadd (pc := 22) hC dX2_increase_22 ?_
  obtain ⟨s5, es5, hf⟩ := ob hf
  refine r_iastore (pc := 23) hC dX2_increase_23 es5 ?_
  exact r_vret (pc := 24) hE hC (f1xV hf) ⟨Nat.le_of_ble_eq_true rfl, Nat.le_of_ble_eq_true rfl⟩ dX2_increase_24
abbrev rmK1_X2_letGrow : Room := { frames := 2, cells := 0, slots := 0, locals := 44 }
set_option maxRecDepth 100000 in
set_option maxHeartbeats 4000000 in
theorem k1_X2_letGrow {st : DSt} {x : Nat} {a0 : Int32} {st1 : DSt} (hf : fX2_letGrow st x a0 = some st1) : dm_K1 yX2_letGrow cX2_letGrow 3 none rmK1_X2_letGrow 0 0 [DR (some x), DI a0] st none st1 := by
  refine dm_k1 (by decide) rfl (Nat.le_of_ble_eq_true rfl) fun Y hC hN hI hE => ?_
  unfold fX2_letGrow at hf
  refine dm_sub (lv' := [(0, DR (some x)), (1, DI a0)]) ([0, 1]) rfl ?_
  refine r_iload_n (pc := 0) hC dX2_letGrow_0 rfl 1 rfl ?_
  refine r_bipush (pc := 1) (v := 34) hC dX2_letGrow_1 (by decide) ?_
  refine r_icmp_ge (pc := 3) (tgt := 27) hC dX2_letGrow_3 (by decide) (fun c7 => ?_) (fun c7 => ?_)
  · replace hf := oi_t c7 hf
    exact r_vret (pc := 27) hE hC (f1xV hf) ⟨Nat.le_of_ble_eq_true rfl, Nat.le_of_ble_eq_true rfl⟩ dX2_letGrow_27
  · replace hf := oi_f c7 hf
    refine r_iload_n (pc := 6) hC dX2_letGrow_6 rfl 1 rfl ?_
    obtain ⟨q1, eq1, hf⟩ := ob hf
    refine r_callS (pc := 7) (As := [DI a0]) (rest := []) (stk' := [DI q1]) (k1_X2_growingSort eq1) hC wd_2_130 wd_2_131 wd_2_132 wd_1_2 md_X2_growingSort rfl ⟨rfl, rfl, Nat.le_of_ble_eq_true rfl, Nat.le_of_ble_eq_true rfl, Nat.le_of_ble_eq_true rfl, Nat.le_of_ble_eq_true rfl⟩ dX2_letGrow_7 rfl (Nat.le_of_ble_eq_true rfl) rfl ?_
    refine r_istore_n (pc := 10) (lv' := [(2, DI q1), (0, DR (some x)), (1, DI a0)]) hC hN dX2_letGrow_10 rfl (by decide) rfl ?_
    refine r_aload_n (pc := 11) hC dX2_letGrow_11 rfl 1 rfl ?_
    refine r_iload_n (pc := 12) hC dX2_letGrow_12 rfl 0 rfl ?_
    refine r_bipush (pc := 13) (v := 8) hC dX2_letGrow_13 (by decide) ?_
    refine r_aload_n (pc := 15) hC dX2_letGrow_15 rfl 1 rfl ?_
    obtain ⟨v2, ev2, hf⟩ := ob hf
    refine r_getR (pc := 16) CF2 (k := 0) hC (by decide) wd_1_35 dX2_letGrow_16 ev2 ?_
    refine r_iload_n (pc := 19) hC dX2_letGrow_19 rfl 0 rfl ?_
    obtain ⟨v3, ev3, hf⟩ := ob hf
    refine r_iaload (pc := 20) hC dX2_letGrow_20 ev3 ?_
    refine r_iconst (pc := 21) (v := 4) hC dX2_letGrow_21 (by decide) ?_
    obtain ⟨v4, ev4, hf⟩ := ob hf
    refine r_idiv (pc := 22) hC dX2_letGrow_22 ev4 ?_
    refine r_iadd (pc := 23) hC dX2_letGrow_23 ?_
    obtain ⟨b5, gb5, hf⟩ := ob hf
    obtain ⟨q6, eq6, hf⟩ := ob hf
    refine r_callV (pc := 24) (As := [DI q1, DI (8 + v4)]) (rest := []) (stk' := []) (k1_X2_increase eq6) gb5 rfl hC wd_2_133 wd_2_134 wd_2_135 wd_2_136 wd_1_2 md_X2_increase rfl ⟨rfl, rfl, Nat.le_of_ble_eq_true rfl, Nat.le_of_ble_eq_true rfl, Nat.le_of_ble_eq_true rfl, Nat.le_of_ble_eq_true rfl⟩ dX2_letGrow_24 rfl (Nat.le_of_ble_eq_true rfl) rfl ?_
    exact r_vret (pc := 27) hE hC (f1xV hf) ⟨Nat.le_of_ble_eq_true rfl, Nat.le_of_ble_eq_true rfl⟩ dX2_letGrow_27
abbrev rmK1_X2_keepAt : Room := { frames := 3, cells := 0, slots := 0, locals := 66 }
set_option maxRecDepth 100000 in
set_option maxHeartbeats 4000000 in
theorem k1_X2_keepAt {st : DSt} {x : Nat} {a0 : Int32} {a1 : Int32} {st1 : DSt} (hf : fX2_keepAt st x a0 a1 = some st1) : dm_K1 yX2_keepAt cX2_keepAt 4 none rmK1_X2_keepAt 0 0 [DR (some x), DI a0, DI a1] st none st1 := by
  refine dm_k1 (by decide) rfl (Nat.le_of_ble_eq_true rfl) fun Y hC hN hI hE => ?_
  unfold fX2_keepAt at hf
  refine dm_sub (lv' := [(0, DR (some x)), (1, DI a0), (2, DI a1)]) ([0, 1, 2]) rfl ?_
  refine r_iconst (pc := 0) (v := 0) hC dX2_keepAt_0 (by decide) ?_
  refine r_istore_n (pc := 1) (lv' := [(3, DI 0), (0, DR (some x)), (1, DI a0), (2, DI a1)]) hC hN dX2_keepAt_1 rfl (by decide) rfl ?_
  obtain ⟨b1, eb1, hf⟩ := ob hf
  refine dm_sub (lv' := [(0, DR (some x)), (1, DI a0), (2, DI a1), (3, DI 0)]) [1, 2, 3, 0] rfl ?_
  refine dlp_W _ (fun (z1 : DSt × Int32) => dm_W Y 0 0 z1.1 2 [(0, DR (some x)), (1, DI a0), (2, DI a1), (3, DI z1.2)] []) (fun (b1 : DSt × Int32) => dm_W Y 0 0 b1.1 23 [(0, DR (some x)), (1, DI a0), (2, DI a1), (3, DI b1.2)] []) ?_ eb1 ?_
  · intro z1 r hf hk
    unfold fX2_keepAt_L2 at hf
    refine r_iload_n (pc := 2) hC dX2_keepAt_2 rfl 3 rfl ?_
    refine r_iload_n (pc := 3) hC dX2_keepAt_3 rfl 2 rfl ?_
    refine r_icmp_ge (pc := 4) (tgt := 23) hC dX2_keepAt_4 (by decide) (fun c6 => ?_) (fun c6 => ?_)
    · replace hf := oi_t c6 hf
      cases hf
      exact dm_sub [0, 1, 2, 3] rfl hk
    · replace hf := oi_f c6 hf
      refine r_aload_n (pc := 7) hC dX2_keepAt_7 rfl 0 rfl ?_
      refine r_iload_n (pc := 8) hC dX2_keepAt_8 rfl 1 rfl ?_
      obtain ⟨b2, gb2, hf⟩ := ob hf
      obtain ⟨q3, eq3, hf⟩ := ob hf
      refine r_callV (pc := 9) (As := [DI a0]) (rest := []) (stk' := []) (k1_X2_halveWhatMelts eq3) gb2 rfl hC wd_2_119 wd_2_120 wd_2_121 wd_2_122 wd_1_2 md_X2_halveWhatMelts rfl ⟨rfl, rfl, Nat.le_of_ble_eq_true rfl, Nat.le_of_ble_eq_true rfl, Nat.le_of_ble_eq_true rfl, Nat.le_of_ble_eq_true rfl⟩ dX2_keepAt_9 rfl (Nat.le_of_ble_eq_true rfl) rfl ?_
      refine r_aload_n (pc := 12) hC dX2_keepAt_12 rfl 0 rfl ?_
      refine r_iload_n (pc := 13) hC dX2_keepAt_13 rfl 1 rfl ?_
      obtain ⟨b4, gb4, hf⟩ := ob hf
      obtain ⟨q5, eq5, hf⟩ := ob hf
      refine r_callV (pc := 14) (As := [DI a0]) (rest := []) (stk' := []) (k1_X2_letGrow eq5) gb4 rfl hC wd_2_126 wd_2_127 wd_2_128 wd_2_129 wd_1_2 md_X2_letGrow rfl ⟨rfl, rfl, Nat.le_of_ble_eq_true rfl, Nat.le_of_ble_eq_true rfl, Nat.le_of_ble_eq_true rfl, Nat.le_of_ble_eq_true rfl⟩ dX2_keepAt_14 rfl (Nat.le_of_ble_eq_true rfl) rfl ?_
      refine r_iinc (pc := 17) (pos := 3) (v := (z1.2 + 1)) (lv' := [(3, DI (z1.2 + 1)), (0, DR (some x)), (1, DI a0), (2, DI a1)]) hC hN dX2_keepAt_17 rfl rfl (by decide) rfl ?_
      refine r_goto (pc := 20) (tgt := 2) hC dX2_keepAt_20 (by decide) ?_
      cases hf
      exact dm_sub [1, 2, 3, 0] rfl hk
  · exact r_vret (pc := 23) hE hC (f1xV hf) ⟨Nat.le_of_ble_eq_true rfl, Nat.le_of_ble_eq_true rfl⟩ dX2_keepAt_23
abbrev rmK1_X2_temper : Room := { frames := 1, cells := 0, slots := 0, locals := 14 }
set_option maxRecDepth 100000 in
set_option maxHeartbeats 4000000 in
theorem k1_X2_temper {st : DSt} {x : Nat} {v : Int32} (hf : fX2_temper st x = some v) : dm_K1 yX2_temper cX2_temper 2 (some .int) rmK1_X2_temper 0 0 [DR (some x)] st (some (DI v)) st := by
  refine dm_k1 (by decide) rfl (Nat.le_of_ble_eq_true rfl) fun Y hC hN hI hE => ?_
  unfold fX2_temper at hf
  refine dm_sub (lv' := [(0, DR (some x))]) ([0]) rfl ?_
  refine r_iconst (pc := 0) (v := 2) hC dX2_temper_0 (by decide) ?_
  refine r_aload_n (pc := 1) hC dX2_temper_1 rfl 0 rfl ?_
  obtain ⟨v1, ev1, hf⟩ := ob hf
  refine r_getR (pc := 2) CF2 (k := 0) hC (by decide) wd_1_35 dX2_temper_2 ev1 ?_
  refine r_iconst (pc := 5) (v := 5) hC dX2_temper_5 (by decide) ?_
  obtain ⟨v2, ev2, hf⟩ := ob hf
  refine r_iaload (pc := 6) hC dX2_temper_6 ev2 ?_
  refine r_imul (pc := 7) hC dX2_temper_7 ?_
  refine r_aload_n (pc := 8) hC dX2_temper_8 rfl 0 rfl ?_
  obtain ⟨v3, ev3, hf⟩ := ob hf
  refine r_getR (pc := 9) CF2 (k := 0) hC (by decide) wd_1_35 dX2_temper_9 ev3 ?_
  refine r_iconst (pc := 12) (v := 4) hC dX2_temper_12 (by decide) ?_
  obtain ⟨v4, ev4, hf⟩ := ob hf
  refine r_iaload (pc := 13) hC dX2_temper_13 ev4 ?_
  refine r_iadd (pc := 14) hC dX2_temper_14 ?_
  refine r_aload_n (pc := 15) hC dX2_temper_15 rfl 0 rfl ?_
  obtain ⟨v5, ev5, hf⟩ := ob hf
  refine r_getR (pc := 16) CF2 (k := 0) hC (by decide) wd_1_35 dX2_temper_16 ev5 ?_
  refine r_iconst (pc := 19) (v := 1) hC dX2_temper_19 (by decide) ?_
  obtain ⟨v6, ev6, hf⟩ := ob hf
  refine r_iaload (pc := 20) hC dX2_temper_20 ev6 ?_
  refine r_isub (pc := 21) hC dX2_temper_21 ?_
  refine r_aload_n (pc := 22) hC dX2_temper_22 rfl 0 rfl ?_
  obtain ⟨v7, ev7, hf⟩ := ob hf
  refine r_getR (pc := 23) CF2 (k := 0) hC (by decide) wd_1_35 dX2_temper_23 ev7 ?_
  refine r_iconst (pc := 26) (v := 2) hC dX2_temper_26 (by decide) ?_
  obtain ⟨v8, ev8, hf⟩ := ob hf
  refine r_iaload (pc := 27) hC dX2_temper_27 ev8 ?_
  refine r_isub (pc := 28) hC dX2_temper_28 ?_
  refine r_aload_n (pc := 29) hC dX2_temper_29 rfl 0 rfl ?_
  obtain ⟨v9, ev9, hf⟩ := ob hf
  refine r_getR (pc := 30) CF2 (k := 0) hC (by decide) wd_1_35 dX2_temper_30 ev9 ?_
  refine r_iconst (pc := 33) (v := 3) hC dX2_temper_33 (by decide) ?_
  obtain ⟨v10, ev10, hf⟩ := ob hf
  refine r_iaload (pc := 34) hC dX2_temper_34 ev10 ?_
  refine r_isub (pc := 35) hC dX2_temper_35 ?_
  refine r_istore_n (pc := 36) (lv' := [(1, DI (((((2 * v2) + v4) - v6) - v8) - v10)), (0, DR (some x))]) hC hN dX2_temper_36 rfl (by decide) rfl ?_
  refine r_iconst (pc := 37) (v := 0) hC dX2_temper_37 (by decide) ?_
  refine r_iload_n (pc := 38) hC dX2_temper_38 rfl 0 rfl ?_
  refine r_bipush (pc := 39) (v := 100) hC dX2_temper_39 (by decide) ?_
  refine r_min (pc := 41) hC wd_1_181 wd_1_182 wd_1_12 (wd_1_183) dX2_temper_41 ⟨Nat.le_of_ble_eq_true rfl, Nat.le_of_ble_eq_true rfl, Nat.le_of_ble_eq_true rfl, Nat.le_of_ble_eq_true rfl⟩ ?_
  refine r_max (pc := 44) hC wd_1_184 wd_1_162 wd_1_12 (wd_1_163) dX2_temper_44 ⟨Nat.le_of_ble_eq_true rfl, Nat.le_of_ble_eq_true rfl, Nat.le_of_ble_eq_true rfl, Nat.le_of_ble_eq_true rfl⟩ ?_
  exact r_iret (pc := 47) hE hC (f1pI hf) ⟨Nat.le_of_ble_eq_true rfl, Nat.le_of_ble_eq_true rfl⟩ dX2_temper_47
abbrev rmK1_X3_init : Room := { frames := 1, cells := 0, slots := 0, locals := 12 }
set_option maxRecDepth 100000 in
set_option maxHeartbeats 4000000 in
theorem k1_X3_init {st : DSt} {x : Nat} {a0 : Int32} {a1 : Int32} {a2 : Int32} {st1 : DSt} (hf : fX3_init st x a0 a1 a2 = some st1) : dm_K1 yX3_init cX3_init 4 none rmK1_X3_init 0 0 [DR (some x), DI a0, DI a1, DI a2] st none st1 := by
  refine dm_k1 (by decide) rfl (Nat.le_of_ble_eq_true rfl) fun Y hC hN hI hE => ?_
  replace hI := hI rfl
  unfold fX3_init at hf
  refine dm_sub (lv' := [(0, DR (some x)), (1, DI a0), (2, DI a1), (3, DI a2)]) ([0, 1, 2, 3]) rfl ?_
  refine r_aload_n (pc := 0) hC dX3_init_0 rfl 0 rfl ?_
  refine r_objInit (pc := 1) (nL := 0) hC wd_2_191 wd_1_21 (wd_1_22) ⟨_, rfl⟩ dX3_init_1 ⟨Nat.le_of_ble_eq_true rfl, Nat.le_of_ble_eq_true rfl⟩ ?_
  refine r_aload_n (pc := 4) hC dX3_init_4 rfl 0 rfl ?_
  refine r_iload_n (pc := 5) hC dX3_init_5 rfl 1 rfl ?_
  obtain ⟨s1, es1, hf⟩ := ob hf
  refine r_put (pc := 6) CF3 (k := 1) hC (by decide) wd_2_195 rfl ⟨rfl, rfl⟩ dX3_init_6 es1 ?_
  refine r_aload_n (pc := 9) hC dX3_init_9 rfl 0 rfl ?_
  refine r_iload_n (pc := 10) hC dX3_init_10 rfl 2 rfl ?_
  obtain ⟨s2, es2, hf⟩ := ob hf
  refine r_put (pc := 11) CF3 (k := 2) hC (by decide) wd_2_197 rfl ⟨rfl, rfl⟩ dX3_init_11 es2 ?_
  refine r_aload_n (pc := 14) hC dX3_init_14 rfl 0 rfl ?_
  refine r_iload_n (pc := 15) hC dX3_init_15 rfl 3 rfl ?_
  obtain ⟨s3, es3, hf⟩ := ob hf
  refine r_putF (pc := 16) CF3 (k := 0) hC hI rfl (by decide) wd_2_192 rfl ⟨rfl, rfl⟩ dX3_init_16 es3 ?_
  exact r_vret (pc := 19) hE hC (f1xV hf) ⟨Nat.le_of_ble_eq_true rfl, Nat.le_of_ble_eq_true rfl⟩ dX3_init_19
abbrev rmK1_X3_grams : Room := { frames := 1, cells := 0, slots := 0, locals := 20 }
set_option maxRecDepth 100000 in
set_option maxHeartbeats 4000000 in
theorem k1_X3_grams {st : DSt} {x : Nat} {v : Int32} (hf : fX3_grams st x = some v) : dm_K1 yX3_grams cX3_grams 1 (some .int) rmK1_X3_grams 0 0 [DR (some x)] st (some (DI v)) st := by
  refine dm_k1 (by decide) rfl (Nat.le_of_ble_eq_true rfl) fun Y hC hN hI hE => ?_
  unfold fX3_grams at hf
  refine dm_sub (lv' := [(0, DR (some x))]) ([0]) rfl ?_
  refine r_aload_n (pc := 0) hC dX3_grams_0 rfl 0 rfl ?_
  obtain ⟨b1, gb1, hf⟩ := ob hf
  obtain ⟨q2, eq2, hf⟩ := ob hf
  refine r_callV (pc := 1) (As := []) (rest := []) (stk' := [DI q2]) (k1_X3_squares eq2) gb1 rfl hC wd_2_219 wd_1_190 wd_1_191 wd_1_192 wd_1_13 md_X3_squares rfl ⟨rfl, rfl, Nat.le_of_ble_eq_true rfl, Nat.le_of_ble_eq_true rfl, Nat.le_of_ble_eq_true rfl, Nat.le_of_ble_eq_true rfl⟩ dX3_grams_1 rfl (Nat.le_of_ble_eq_true rfl) rfl ?_
  refine r_bipush (pc := 4) (v := 10) hC dX3_grams_4 (by decide) ?_
  refine r_imul (pc := 6) hC dX3_grams_6 ?_
  exact r_iret (pc := 7) hE hC (f1pI hf) ⟨Nat.le_of_ble_eq_true rfl, Nat.le_of_ble_eq_true rfl⟩ dX3_grams_7
abbrev rmK1_X3_isBloomed : Room := { frames := 0, cells := 0, slots := 0, locals := 0 }
set_option maxRecDepth 100000 in
set_option maxHeartbeats 4000000 in
theorem k1_X3_isBloomed {st : DSt} {x : Nat} {v : Int32} (hf : fX3_isBloomed st x = some v) : dm_K1 yX3_isBloomed cX3_isBloomed 1 (some .boolean) rmK1_X3_isBloomed 0 0 [DR (some x)] st (some (DI v)) st := by
  refine dm_k1 (by decide) rfl (Nat.le_of_ble_eq_true rfl) fun Y hC hN hI hE => ?_
  unfold fX3_isBloomed at hf
  refine dm_sub (lv' := [(0, DR (some x))]) ([0]) rfl ?_
  refine r_aload_n (pc := 0) hC dX3_isBloomed_0 rfl 0 rfl ?_
  obtain ⟨v1, ev1, hf⟩ := ob hf
  refine r_getI (pc := 1) CF3 (k := 3) hC (by decide) wd_2_200 dX3_isBloomed_1 ev1 ?_
  refine r_bipush (pc := 4) (v := 20) hC dX3_isBloomed_4 (by decide) ?_
  refine r_icmp_le (pc := 6) (tgt := 13) hC dX3_isBloomed_6 (by decide) (fun c4 => ?_) (fun c4 => ?_)
  · replace hf := oi_t c4 hf
    refine r_iconst (pc := 13) (v := 0) hC dX3_isBloomed_13 (by decide) ?_
    obtain ⟨v2, ev2, hf⟩ := ob hf
    exact r_zret (pc := 14) hE hC ev2 (f1pI hf) ⟨Nat.le_of_ble_eq_true rfl, Nat.le_of_ble_eq_true rfl⟩ dX3_isBloomed_14
  · replace hf := oi_f c4 hf
    refine r_iconst (pc := 9) (v := 1) hC dX3_isBloomed_9 (by decide) ?_
    refine r_goto (pc := 10) (tgt := 14) hC dX3_isBloomed_10 (by decide) ?_
    obtain ⟨v3, ev3, hf⟩ := ob hf
    exact r_zret (pc := 14) hE hC ev3 (f1pI hf) ⟨Nat.le_of_ble_eq_true rfl, Nat.le_of_ble_eq_true rfl⟩ dX3_isBloomed_14
abbrev rmK1_X3_bloomBehindPolish : Room := { frames := 1, cells := 0, slots := 0, locals := 13 }
set_option maxRecDepth 100000 in
set_option maxHeartbeats 4000000 in
theorem k1_X3_bloomBehindPolish {st : DSt} {x : Nat} {v : Int32} (hf : fX3_bloomBehindPolish st x = some v) : dm_K1 yX3_bloomBehindPolish cX3_bloomBehindPolish 1 (some .int) rmK1_X3_bloomBehindPolish 0 0 [DR (some x)] st (some (DI v)) st := by
  refine dm_k1 (by decide) rfl (Nat.le_of_ble_eq_true rfl) fun Y hC hN hI hE => ?_
  unfold fX3_bloomBehindPolish at hf
  refine dm_sub (lv' := [(0, DR (some x))]) ([0]) rfl ?_
  refine r_iconst (pc := 0) (v := 0) hC dX3_bloomBehindPolish_0 (by decide) ?_
  refine r_aload_n (pc := 1) hC dX3_bloomBehindPolish_1 rfl 0 rfl ?_
  obtain ⟨v1, ev1, hf⟩ := ob hf
  refine r_getI (pc := 2) CF3 (k := 3) hC (by decide) wd_2_200 dX3_bloomBehindPolish_2 ev1 ?_
  refine r_bipush (pc := 5) (v := 15) hC dX3_bloomBehindPolish_5 (by decide) ?_
  refine r_isub (pc := 7) hC dX3_bloomBehindPolish_7 ?_
  refine r_max (pc := 8) hC wd_1_161 wd_1_162 wd_1_12 (wd_1_163) dX3_bloomBehindPolish_8 ⟨Nat.le_of_ble_eq_true rfl, Nat.le_of_ble_eq_true rfl, Nat.le_of_ble_eq_true rfl, Nat.le_of_ble_eq_true rfl⟩ ?_
  exact r_iret (pc := 11) hE hC (f1pI hf) ⟨Nat.le_of_ble_eq_true rfl, Nat.le_of_ble_eq_true rfl⟩ dX3_bloomBehindPolish_11
abbrev rmK1_X3_bloomOfADay : Room := { frames := 1, cells := 0, slots := 0, locals := 15 }
set_option maxRecDepth 100000 in
set_option maxHeartbeats 4000000 in
theorem k1_X3_bloomOfADay {st : DSt} {x : Nat} {a0 : Int32} {v : Int32} (hf : fX3_bloomOfADay st x a0 = some v) : dm_K1 yX3_bloomOfADay cX3_bloomOfADay 2 (some .int) rmK1_X3_bloomOfADay 0 0 [DR (some x), DI a0] st (some (DI v)) st := by
  refine dm_k1 (by decide) rfl (Nat.le_of_ble_eq_true rfl) fun Y hC hN hI hE => ?_
  unfold fX3_bloomOfADay at hf
  refine dm_sub (lv' := [(0, DR (some x)), (1, DI a0)]) ([0, 1]) rfl ?_
  refine r_bipush (pc := 0) (v := 100) hC dX3_bloomOfADay_0 (by decide) ?_
  refine r_aload_n (pc := 2) hC dX3_bloomOfADay_2 rfl 0 rfl ?_
  obtain ⟨v1, ev1, hf⟩ := ob hf
  refine r_getI (pc := 3) CF3 (k := 0) hC (by decide) wd_2_192 dX3_bloomOfADay_3 ev1 ?_
  refine r_isub (pc := 6) hC dX3_bloomOfADay_6 ?_
  refine r_bipush (pc := 7) (v := 10) hC dX3_bloomOfADay_7 (by decide) ?_
  obtain ⟨v2, ev2, hf⟩ := ob hf
  refine r_idiv (pc := 9) hC dX3_bloomOfADay_9 ev2 ?_
  refine r_iconst (pc := 10) (v := 2) hC dX3_bloomOfADay_10 (by decide) ?_
  refine r_iconst (pc := 11) (v := 0) hC dX3_bloomOfADay_11 (by decide) ?_
  refine r_iload_n (pc := 12) hC dX3_bloomOfADay_12 rfl 1 rfl ?_
  refine r_bipush (pc := 13) (v := 24) hC dX3_bloomOfADay_13 (by decide) ?_
  refine r_isub (pc := 15) hC dX3_bloomOfADay_15 ?_
  refine r_max (pc := 16) hC wd_1_161 wd_1_162 wd_1_12 (wd_1_163) dX3_bloomOfADay_16 ⟨Nat.le_of_ble_eq_true rfl, Nat.le_of_ble_eq_true rfl, Nat.le_of_ble_eq_true rfl, Nat.le_of_ble_eq_true rfl⟩ ?_
  refine r_imul (pc := 19) hC dX3_bloomOfADay_19 ?_
  refine r_iadd (pc := 20) hC dX3_bloomOfADay_20 ?_
  exact r_iret (pc := 21) hE hC (f1pI hf) ⟨Nat.le_of_ble_eq_true rfl, Nat.le_of_ble_eq_true rfl⟩ dX3_bloomOfADay_21
abbrev rmK1_X3_standFor : Room := { frames := 2, cells := 0, slots := 0, locals := 36 }
set_option maxRecDepth 100000 in
set_option maxHeartbeats 4000000 in
theorem k1_X3_standFor {st : DSt} {x : Nat} {a0 : Int32} {a1 : Int32} {st1 : DSt} (hf : fX3_standFor st x a0 a1 = some st1) : dm_K1 yX3_standFor cX3_standFor 3 none rmK1_X3_standFor 0 0 [DR (some x), DI a0, DI a1] st none st1 := by
  refine dm_k1 (by decide) rfl (Nat.le_of_ble_eq_true rfl) fun Y hC hN hI hE => ?_
  unfold fX3_standFor at hf
  refine dm_sub (lv' := [(0, DR (some x)), (1, DI a0), (2, DI a1)]) ([0, 1, 2]) rfl ?_
  refine r_aload_n (pc := 0) hC dX3_standFor_0 rfl 0 rfl ?_
  refine r_bipush (pc := 1) (v := 100) hC dX3_standFor_1 (by decide) ?_
  refine r_aload_n (pc := 3) hC dX3_standFor_3 rfl 0 rfl ?_
  obtain ⟨v1, ev1, hf⟩ := ob hf
  refine r_getI (pc := 4) CF3 (k := 3) hC (by decide) wd_2_200 dX3_standFor_4 ev1 ?_
  refine r_iload_n (pc := 7) hC dX3_standFor_7 rfl 1 rfl ?_
  refine r_aload_n (pc := 8) hC dX3_standFor_8 rfl 0 rfl ?_
  refine r_iload_n (pc := 9) hC dX3_standFor_9 rfl 2 rfl ?_
  obtain ⟨b2, gb2, hf⟩ := ob hf
  obtain ⟨q3, eq3, hf⟩ := ob hf
  refine r_callV (pc := 10) (As := [DI a1]) (rest := [DI a0, DI v1, DI 100, DR (some x)]) (stk' := [DI q3, DI a0, DI v1, DI 100, DR (some x)]) (k1_X3_bloomOfADay eq3) gb2 rfl hC wd_3_66 wd_3_67 wd_3_68 wd_3_69 wd_1_13 md_X3_bloomOfADay rfl ⟨rfl, rfl, Nat.le_of_ble_eq_true rfl, Nat.le_of_ble_eq_true rfl, Nat.le_of_ble_eq_true rfl, Nat.le_of_ble_eq_true rfl⟩ dX3_standFor_10 rfl (Nat.le_of_ble_eq_true rfl) rfl ?_
  refine r_imul (pc := 13) hC dX3_standFor_13 ?_
  refine r_iadd (pc := 14) hC dX3_standFor_14 ?_
  refine r_min (pc := 15) hC wd_3_70 wd_1_182 wd_1_12 (wd_1_183) dX3_standFor_15 ⟨Nat.le_of_ble_eq_true rfl, Nat.le_of_ble_eq_true rfl, Nat.le_of_ble_eq_true rfl, Nat.le_of_ble_eq_true rfl⟩ ?_
  obtain ⟨s4, es4, hf⟩ := ob hf
  refine r_put (pc := 18) CF3 (k := 3) hC (by decide) wd_2_200 rfl ⟨rfl, rfl⟩ dX3_standFor_18 es4 ?_
  refine r_aload_n (pc := 21) hC dX3_standFor_21 rfl 0 rfl ?_
  refine r_dup (pc := 22) hC dX3_standFor_22 rfl ?_
  obtain ⟨v5, ev5, hf⟩ := ob hf
  refine r_getI (pc := 23) CF3 (k := 4) hC (by decide) wd_2_202 dX3_standFor_23 ev5 ?_
  refine r_iload_n (pc := 26) hC dX3_standFor_26 rfl 1 rfl ?_
  refine r_iadd (pc := 27) hC dX3_standFor_27 ?_
  obtain ⟨s6, es6, hf⟩ := ob hf
  refine r_put (pc := 28) CF3 (k := 4) hC (by decide) wd_2_202 rfl ⟨rfl, rfl⟩ dX3_standFor_28 es6 ?_
  exact r_vret (pc := 31) hE hC (f1xV hf) ⟨Nat.le_of_ble_eq_true rfl, Nat.le_of_ble_eq_true rfl⟩ dX3_standFor_31
abbrev rmK1_X3_partBehind : Room := { frames := 2, cells := 1, slots := 5, locals := 35 }
set_option maxRecDepth 100000 in
set_option maxHeartbeats 4000000 in
theorem k1_X3_partBehind {st : DSt} {x : Nat} {a0 : Int32} {a1 : Int32} {v : Option Nat} {st1 : DSt} (hf : fX3_partBehind st x a0 a1 = some (v, st1)) : dm_K1 yX3_partBehind cX3_partBehind 4 (some (.object "ChocolateMoulds$Slab")) rmK1_X3_partBehind 1 5 [DR (some x), DI a0, DI a1] st (some (DR v)) st1 := by
  refine dm_k1 (by decide) rfl (Nat.le_of_ble_eq_true rfl) fun Y hC hN hI hE => ?_
  unfold fX3_partBehind at hf
  refine dm_sub (lv' := [(0, DR (some x)), (1, DI a0), (2, DI a1)]) ([0, 1, 2]) rfl ?_
  refine r_iload_n (pc := 0) hC dX3_partBehind_0 rfl 2 rfl ?_
  refine r_if_eq (pc := 1) (tgt := 28) hC dX3_partBehind_1 (by decide) (fun c19 => ?_) (fun c19 => ?_)
  · replace hf := oi_t c19 hf
    obtain ⟨s1, es1, hf⟩ := ob hf
    refine r_new (pc := 28) CF3 (fs := [DI 0, DI 0, DI 0, DI 0, DI 0]) hC wd_3_94 wd_2_187 wd_1_13 (fun j hj => by rcases (show j = 0 ∨ j = 1 ∨ j = 2 ∨ j = 3 ∨ j = 4 by omega) with rfl | rfl | rfl | rfl | rfl <;> rfl) ⟨Nat.le_of_ble_eq_true rfl, Nat.le_of_ble_eq_true rfl⟩ dX3_partBehind_28 ?_
    rw [Option.some.inj es1]
    refine r_dup (pc := 31) hC dX3_partBehind_31 rfl ?_
    refine r_aload_n (pc := 32) hC dX3_partBehind_32 rfl 0 rfl ?_
    obtain ⟨v2, ev2, hf⟩ := ob hf
    refine r_getI (pc := 33) CF3 (k := 1) hC (by decide) wd_2_195 dX3_partBehind_33 ev2 ?_
    refine r_iload_n (pc := 36) hC dX3_partBehind_36 rfl 1 rfl ?_
    refine r_isub (pc := 37) hC dX3_partBehind_37 ?_
    refine r_aload_n (pc := 38) hC dX3_partBehind_38 rfl 0 rfl ?_
    obtain ⟨v3, ev3, hf⟩ := ob hf
    refine r_getI (pc := 39) CF3 (k := 2) hC (by decide) wd_2_197 dX3_partBehind_39 ev3 ?_
    refine r_aload_n (pc := 42) hC dX3_partBehind_42 rfl 0 rfl ?_
    obtain ⟨v4, ev4, hf⟩ := ob hf
    refine r_getI (pc := 43) CF3 (k := 0) hC (by decide) wd_2_192 dX3_partBehind_43 ev4 ?_
    obtain ⟨q5, eq5, hf⟩ := ob hf
    refine r_callI (pc := 46) (As := [DI (v2 - a0), DI v3, DI v4]) (rest := [DR (some st.1)]) (stk' := [DR (some st.1)]) (k1_X3_init eq5) hC wd_3_95 wd_2_189 rfl wd_2_190 wd_1_13 md_X3_init rfl ⟨rfl, rfl, Nat.le_of_ble_eq_true rfl, Nat.le_of_ble_eq_true rfl, Nat.le_of_ble_eq_true rfl, Nat.le_of_ble_eq_true rfl⟩ dX3_partBehind_46 rfl (Nat.le_of_ble_eq_true rfl) rfl ?_
    refine r_astore_n (pc := 49) (lv' := [(3, DR (some st.1)), (0, DR (some x)), (1, DI a0), (2, DI a1)]) hC hN dX3_partBehind_49 rfl (by decide) rfl ?_
    refine r_aload_n (pc := 50) hC dX3_partBehind_50 rfl 0 rfl ?_
    refine r_aload_n (pc := 51) hC dX3_partBehind_51 rfl 1 rfl ?_
    obtain ⟨v6, ev6, hf⟩ := ob hf
    refine r_getI (pc := 52) CF3 (k := 3) hC (by decide) wd_2_200 dX3_partBehind_52 ev6 ?_
    obtain ⟨s7, es7, hf⟩ := ob hf
    refine r_put (pc := 55) CF3 (k := 3) hC (by decide) wd_2_200 rfl ⟨rfl, rfl⟩ dX3_partBehind_55 es7 ?_
    refine r_aload_n (pc := 58) hC dX3_partBehind_58 rfl 0 rfl ?_
    refine r_aload_n (pc := 59) hC dX3_partBehind_59 rfl 1 rfl ?_
    obtain ⟨v8, ev8, hf⟩ := ob hf
    refine r_getI (pc := 60) CF3 (k := 4) hC (by decide) wd_2_202 dX3_partBehind_60 ev8 ?_
    obtain ⟨s9, es9, hf⟩ := ob hf
    refine r_put (pc := 63) CF3 (k := 4) hC (by decide) wd_2_202 rfl ⟨rfl, rfl⟩ dX3_partBehind_63 es9 ?_
    refine r_aload_n (pc := 66) hC dX3_partBehind_66 rfl 0 rfl ?_
    exact r_aret (pc := 67) (by exact Or.inl ⟨_, rfl⟩) hE hC (f1xR hf) ⟨Nat.le_of_ble_eq_true rfl, Nat.le_of_ble_eq_true rfl⟩ dX3_partBehind_67
  · replace hf := oi_f c19 hf
    obtain ⟨s10, es10, hf⟩ := ob hf
    refine r_new (pc := 4) CF3 (fs := [DI 0, DI 0, DI 0, DI 0, DI 0]) hC wd_3_94 wd_2_187 wd_1_13 (fun j hj => by rcases (show j = 0 ∨ j = 1 ∨ j = 2 ∨ j = 3 ∨ j = 4 by omega) with rfl | rfl | rfl | rfl | rfl <;> rfl) ⟨Nat.le_of_ble_eq_true rfl, Nat.le_of_ble_eq_true rfl⟩ dX3_partBehind_4 ?_
    rw [Option.some.inj es10]
    refine r_dup (pc := 7) hC dX3_partBehind_7 rfl ?_
    refine r_aload_n (pc := 8) hC dX3_partBehind_8 rfl 0 rfl ?_
    obtain ⟨v11, ev11, hf⟩ := ob hf
    refine r_getI (pc := 9) CF3 (k := 1) hC (by decide) wd_2_195 dX3_partBehind_9 ev11 ?_
    refine r_aload_n (pc := 12) hC dX3_partBehind_12 rfl 0 rfl ?_
    obtain ⟨v12, ev12, hf⟩ := ob hf
    refine r_getI (pc := 13) CF3 (k := 2) hC (by decide) wd_2_197 dX3_partBehind_13 ev12 ?_
    refine r_iload_n (pc := 16) hC dX3_partBehind_16 rfl 1 rfl ?_
    refine r_isub (pc := 17) hC dX3_partBehind_17 ?_
    refine r_aload_n (pc := 18) hC dX3_partBehind_18 rfl 0 rfl ?_
    obtain ⟨v13, ev13, hf⟩ := ob hf
    refine r_getI (pc := 19) CF3 (k := 0) hC (by decide) wd_2_192 dX3_partBehind_19 ev13 ?_
    obtain ⟨q14, eq14, hf⟩ := ob hf
    refine r_callI (pc := 22) (As := [DI v11, DI (v12 - a0), DI v13]) (rest := [DR (some st.1)]) (stk' := [DR (some st.1)]) (k1_X3_init eq14) hC wd_3_95 wd_2_189 rfl wd_2_190 wd_1_13 md_X3_init rfl ⟨rfl, rfl, Nat.le_of_ble_eq_true rfl, Nat.le_of_ble_eq_true rfl, Nat.le_of_ble_eq_true rfl, Nat.le_of_ble_eq_true rfl⟩ dX3_partBehind_22 rfl (Nat.le_of_ble_eq_true rfl) rfl ?_
    refine r_goto (pc := 25) (tgt := 49) hC dX3_partBehind_25 (by decide) ?_
    refine r_astore_n (pc := 49) (lv' := [(3, DR (some st.1)), (0, DR (some x)), (1, DI a0), (2, DI a1)]) hC hN dX3_partBehind_49 rfl (by decide) rfl ?_
    refine r_aload_n (pc := 50) hC dX3_partBehind_50 rfl 0 rfl ?_
    refine r_aload_n (pc := 51) hC dX3_partBehind_51 rfl 1 rfl ?_
    obtain ⟨v15, ev15, hf⟩ := ob hf
    refine r_getI (pc := 52) CF3 (k := 3) hC (by decide) wd_2_200 dX3_partBehind_52 ev15 ?_
    obtain ⟨s16, es16, hf⟩ := ob hf
    refine r_put (pc := 55) CF3 (k := 3) hC (by decide) wd_2_200 rfl ⟨rfl, rfl⟩ dX3_partBehind_55 es16 ?_
    refine r_aload_n (pc := 58) hC dX3_partBehind_58 rfl 0 rfl ?_
    refine r_aload_n (pc := 59) hC dX3_partBehind_59 rfl 1 rfl ?_
    obtain ⟨v17, ev17, hf⟩ := ob hf
    refine r_getI (pc := 60) CF3 (k := 4) hC (by decide) wd_2_202 dX3_partBehind_60 ev17 ?_
    obtain ⟨s18, es18, hf⟩ := ob hf
    refine r_put (pc := 63) CF3 (k := 4) hC (by decide) wd_2_202 rfl ⟨rfl, rfl⟩ dX3_partBehind_63 es18 ?_
    refine r_aload_n (pc := 66) hC dX3_partBehind_66 rfl 0 rfl ?_
    exact r_aret (pc := 67) (by exact Or.inl ⟨_, rfl⟩) hE hC (f1xR hf) ⟨Nat.le_of_ble_eq_true rfl, Nat.le_of_ble_eq_true rfl⟩ dX3_partBehind_67
abbrev rmK1_X3_cutDownTo : Room := { frames := 0, cells := 0, slots := 0, locals := 0 }
set_option maxRecDepth 100000 in
set_option maxHeartbeats 4000000 in
theorem k1_X3_cutDownTo {st : DSt} {x : Nat} {a0 : Int32} {a1 : Int32} {st1 : DSt} (hf : fX3_cutDownTo st x a0 a1 = some st1) : dm_K1 yX3_cutDownTo cX3_cutDownTo 3 none rmK1_X3_cutDownTo 0 0 [DR (some x), DI a0, DI a1] st none st1 := by
  refine dm_k1 (by decide) rfl (Nat.le_of_ble_eq_true rfl) fun Y hC hN hI hE => ?_
  unfold fX3_cutDownTo at hf
  refine dm_sub (lv' := [(0, DR (some x)), (1, DI a0), (2, DI a1)]) ([0, 1, 2]) rfl ?_
  refine r_iload_n (pc := 0) hC dX3_cutDownTo_0 rfl 2 rfl ?_
  refine r_if_eq (pc := 1) (tgt := 12) hC dX3_cutDownTo_1 (by decide) (fun c3 => ?_) (fun c3 => ?_)
  · replace hf := oi_t c3 hf
    refine r_aload_n (pc := 12) hC dX3_cutDownTo_12 rfl 0 rfl ?_
    refine r_iload_n (pc := 13) hC dX3_cutDownTo_13 rfl 1 rfl ?_
    obtain ⟨s1, es1, hf⟩ := ob hf
    refine r_put (pc := 14) CF3 (k := 1) hC (by decide) wd_2_195 rfl ⟨rfl, rfl⟩ dX3_cutDownTo_14 es1 ?_
    exact r_vret (pc := 17) hE hC (f1xV hf) ⟨Nat.le_of_ble_eq_true rfl, Nat.le_of_ble_eq_true rfl⟩ dX3_cutDownTo_17
  · replace hf := oi_f c3 hf
    refine r_aload_n (pc := 4) hC dX3_cutDownTo_4 rfl 0 rfl ?_
    refine r_iload_n (pc := 5) hC dX3_cutDownTo_5 rfl 1 rfl ?_
    obtain ⟨s2, es2, hf⟩ := ob hf
    refine r_put (pc := 6) CF3 (k := 2) hC (by decide) wd_2_197 rfl ⟨rfl, rfl⟩ dX3_cutDownTo_6 es2 ?_
    refine r_goto (pc := 9) (tgt := 17) hC dX3_cutDownTo_9 (by decide) ?_
    exact r_vret (pc := 17) hE hC (f1xV hf) ⟨Nat.le_of_ble_eq_true rfl, Nat.le_of_ble_eq_true rfl⟩ dX3_cutDownTo_17
