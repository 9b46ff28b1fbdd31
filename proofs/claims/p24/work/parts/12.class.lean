abbrev rmK1_X4_init : Room := { frames := 2, cells := 9, slots := 47, locals := 32 }
set_option maxRecDepth 100000 in
set_option maxHeartbeats 4000000 in
theorem k1_X4_init {st : DSt} {x : Nat} {st1 : DSt} (hf : fX4_init st x = some st1) : dm_K1 yX4_init cX4_init 1 none rmK1_X4_init 9 47 [DR (some x)] st none st1 := by
  refine dm_k1 (by decide) rfl (Nat.le_of_ble_eq_true rfl) fun Y hC hN hI hE => ?_
  replace hI := hI rfl
  unfold fX4_init at hf
  refine dm_sub (lv' := [(0, DR (some x))]) ([0]) rfl ?_
  refine r_aload_n (pc := 0) hC dX4_init_0 rfl 0 rfl ?_
  refine r_objInit (pc := 1) (nL := 0) hC wd_1_20 wd_1_21 (wd_1_22) ⟨_, rfl⟩ dX4_init_1 ⟨Nat.le_of_ble_eq_true rfl, Nat.le_of_ble_eq_true rfl⟩ ?_
  refine r_aload_n (pc := 4) hC dX4_init_4 rfl 0 rfl ?_
  refine r_iconst (pc := 5) (v := 5) hC dX4_init_5 (by decide) ?_
  obtain ⟨s1, es1, hf⟩ := ob hf
  refine r_newq (pc := 6) (E := "ChocolateMoulds$Bowl") (kd := 2) (N := 5) (fun _ => rfl) hC (by decide) wd_1_23 (by decide) rfl (Nat.le_of_ble_eq_true rfl) ⟨Nat.le_of_ble_eq_true rfl, Nat.le_of_ble_eq_true rfl⟩ dX4_init_6 ?_
  rw [Option.some.inj es1]
  obtain ⟨s2, es2, hf⟩ := ob hf
  refine r_putF (pc := 9) CF4 (k := 0) hC hI rfl (by decide) wd_1_42 rfl (dm_fr (by exact Or.inr ⟨_, rfl⟩) _) dX4_init_9 es2 ?_
  refine r_aload_n (pc := 12) hC dX4_init_12 rfl 0 rfl ?_
  refine r_bipush (pc := 13) (v := 8) hC dX4_init_13 (by decide) ?_
  obtain ⟨s3, es3, hf⟩ := ob hf
  refine r_newq (pc := 15) (E := "ChocolateMoulds$Slab") (kd := 3) (N := 8) (fun _ => rfl) hC (by decide) wd_1_25 (by decide) rfl (Nat.le_of_ble_eq_true rfl) ⟨Nat.le_of_ble_eq_true rfl, Nat.le_of_ble_eq_true rfl⟩ dX4_init_15 ?_
  rw [Option.some.inj es3]
  obtain ⟨s4, es4, hf⟩ := ob hf
  refine r_putF (pc := 18) CF4 (k := 1) hC hI rfl (by decide) wd_1_43 rfl (dm_fr (by exact Or.inr ⟨_, rfl⟩) _) dX4_init_18 es4 ?_
  refine r_aload_n (pc := 21) hC dX4_init_21 rfl 0 rfl ?_
  refine r_bipush (pc := 22) (v := 6) hC dX4_init_22 (by decide) ?_
  obtain ⟨s5, es5, hf⟩ := ob hf
  refine r_newq (pc := 24) (E := "ChocolateMoulds$Box") (kd := 4) (N := 6) (fun _ => rfl) hC (by decide) wd_1_27 (by decide) rfl (Nat.le_of_ble_eq_true rfl) ⟨Nat.le_of_ble_eq_true rfl, Nat.le_of_ble_eq_true rfl⟩ dX4_init_24 ?_
  rw [Option.some.inj es5]
  obtain ⟨s6, es6, hf⟩ := ob hf
  refine r_putF (pc := 27) CF4 (k := 2) hC hI rfl (by decide) wd_1_44 rfl (dm_fr (by exact Or.inr ⟨_, rfl⟩) _) dX4_init_27 es6 ?_
  refine r_aload_n (pc := 30) hC dX4_init_30 rfl 0 rfl ?_
  obtain ⟨s7, es7, hf⟩ := ob hf
  refine r_new (pc := 31) CF2 (fs := [DR none]) hC wd_1_29 wd_1_30 wd_1_2 (fun j hj => by rcases (show j = 0 by omega) with rfl <;> rfl) ⟨Nat.le_of_ble_eq_true rfl, Nat.le_of_ble_eq_true rfl⟩ dX4_init_31 ?_
  rw [Option.some.inj es7]
  refine r_dup (pc := 34) hC dX4_init_34 rfl ?_
  obtain ⟨q8, eq8, hf⟩ := ob hf
  refine r_callI (pc := 35) (As := []) (rest := [DR (some s6.1), DR (some x)]) (stk' := [DR (some s6.1), DR (some x)]) (k1_X2_init eq8) hC wd_1_31 wd_1_32 rfl wd_1_33 wd_1_2 md_X2_init rfl ⟨rfl, rfl, Nat.le_of_ble_eq_true rfl, Nat.le_of_ble_eq_true rfl, Nat.le_of_ble_eq_true rfl, Nat.le_of_ble_eq_true rfl⟩ dX4_init_35 rfl (Nat.le_of_ble_eq_true rfl) rfl ?_
  obtain ⟨s9, es9, hf⟩ := ob hf
  refine r_putF (pc := 38) CF4 (k := 7) hC hI rfl (by decide) wd_1_49 rfl (dm_fr (by exact Or.inl ⟨_, rfl⟩) _) dX4_init_38 es9 ?_
  refine r_aload_n (pc := 41) hC dX4_init_41 rfl 0 rfl ?_
  obtain ⟨s10, es10, hf⟩ := ob hf
  refine r_new (pc := 42) CF2 (fs := [DR none]) hC wd_1_29 wd_1_30 wd_1_2 (fun j hj => by rcases (show j = 0 by omega) with rfl <;> rfl) ⟨Nat.le_of_ble_eq_true rfl, Nat.le_of_ble_eq_true rfl⟩ dX4_init_42 ?_
  rw [Option.some.inj es10]
  refine r_dup (pc := 45) hC dX4_init_45 rfl ?_
  obtain ⟨q11, eq11, hf⟩ := ob hf
  refine r_callI (pc := 46) (As := []) (rest := [DR (some s9.1), DR (some x)]) (stk' := [DR (some s9.1), DR (some x)]) (k1_X2_init eq11) hC wd_1_31 wd_1_32 rfl wd_1_33 wd_1_2 md_X2_init rfl ⟨rfl, rfl, Nat.le_of_ble_eq_true rfl, Nat.le_of_ble_eq_true rfl, Nat.le_of_ble_eq_true rfl, Nat.le_of_ble_eq_true rfl⟩ dX4_init_46 rfl (Nat.le_of_ble_eq_true rfl) rfl ?_
  obtain ⟨s12, es12, hf⟩ := ob hf
  refine r_putF (pc := 49) CF4 (k := 8) hC hI rfl (by decide) wd_1_50 rfl (dm_fr (by exact Or.inl ⟨_, rfl⟩) _) dX4_init_49 es12 ?_
  refine r_aload_n (pc := 52) hC dX4_init_52 rfl 0 rfl ?_
  refine r_bipush (pc := 53) (v := 6) hC dX4_init_53 (by decide) ?_
  obtain ⟨s13, es13, hf⟩ := ob hf
  refine r_newa (pc := 55) (atype := .int) (t := .int) (kd := 0) (N := 6) (x := nI0 6) rfl (fun _ => rfl) (fun _ h => nomatch h) (fun _ => rfl) hC wd_1_41 (by decide) rfl (Nat.le_of_ble_eq_true rfl) ⟨Nat.le_of_ble_eq_true rfl, Nat.le_of_ble_eq_true rfl⟩ dX4_init_55 ?_
  rw [Option.some.inj es13]
  obtain ⟨s14, es14, hf⟩ := ob hf
  refine r_putF (pc := 57) CF4 (k := 9) hC hI rfl (by decide) wd_1_51 rfl (dm_fr (by exact Or.inr ⟨_, rfl⟩) _) dX4_init_57 es14 ?_
  refine r_aload_n (pc := 60) hC dX4_init_60 rfl 0 rfl ?_
  refine r_bipush (pc := 61) (v := 8) hC dX4_init_61 (by decide) ?_
  obtain ⟨s15, es15, hf⟩ := ob hf
  refine r_newa (pc := 63) (atype := .boolean) (t := .boolean) (kd := 1) (N := 8) (x := nI0 8) rfl (fun _ => rfl) (fun _ h => nomatch h) (fun _ => rfl) hC wd_1_76 (by decide) rfl (Nat.le_of_ble_eq_true rfl) ⟨Nat.le_of_ble_eq_true rfl, Nat.le_of_ble_eq_true rfl⟩ dX4_init_63 ?_
  rw [Option.some.inj es15]
  obtain ⟨s16, es16, hf⟩ := ob hf
  refine r_putF (pc := 65) CF4 (k := 10) hC hI rfl (by decide) wd_1_52 rfl (dm_fr (by exact Or.inr ⟨_, rfl⟩) _) dX4_init_65 es16 ?_
  exact r_vret (pc := 68) hE hC (f1xV hf) ⟨Nat.le_of_ble_eq_true rfl, Nat.le_of_ble_eq_true rfl⟩ dX4_init_68
abbrev rmK0_X4_bowl : Room := { frames := 3, cells := 3, slots := 10, locals := 53 }
set_option maxRecDepth 100000 in
set_option maxHeartbeats 4000000 in
theorem k0_X4_bowl {st : DSt} {x : Nat} {a0 : Int32} {v : Int32} {st1 : DSt} (hf : fX4_bowl st x a0 = some (.inr (v, st1))) : dm_K1 yX4_bowl cX4_bowl 3 (some .int) rmK0_X4_bowl 3 10 [DR (some x), DI a0] st (some (DI v)) st1 := by
  refine dm_k1 (by decide) rfl (Nat.le_of_ble_eq_true rfl) fun Y hC hN hI hE => ?_
  unfold fX4_bowl at hf
  refine dm_sub (lv' := [(0, DR (some x)), (1, DI a0)]) ([0, 1]) rfl ?_
  refine r_iload_n (pc := 0) hC dX4_bowl_0 rfl 1 rfl ?_
  refine r_if_lt (pc := 1) (tgt := 11) hC dX4_bowl_1 (by decide) (fun c9 => ?_) (fun c9 => ?_)
  · replace hf := oi_t c9 hf
    cases hf
  · replace hf := oi_f c9 hf
    refine r_iload_n (pc := 4) hC dX4_bowl_4 rfl 1 rfl ?_
    refine r_sipush (pc := 5) (v := 2000) hC dX4_bowl_5 (by decide) ?_
    refine r_icmp_le (pc := 8) (tgt := 21) hC dX4_bowl_8 (by decide) (fun c8 => ?_) (fun c8 => ?_)
    · replace hf := oi_t c8 hf
      refine r_aload_n (pc := 21) hC dX4_bowl_21 rfl 0 rfl ?_
      obtain ⟨v1, ev1, hf⟩ := ob hf
      refine r_getI (pc := 22) CF4 (k := 3) hC (by decide) wd_1_45 dX4_bowl_22 ev1 ?_
      refine r_istore_n (pc := 25) (lv' := [(2, DI v1), (0, DR (some x)), (1, DI a0)]) hC hN dX4_bowl_25 rfl (by decide) rfl ?_
      refine r_iload_n (pc := 26) hC dX4_bowl_26 rfl 0 rfl ?_
      refine r_iconst (pc := 27) (v := 5) hC dX4_bowl_27 (by decide) ?_
      refine r_icmp_lt (pc := 28) (tgt := 41) hC dX4_bowl_28 (by decide) (fun c7 => ?_) (fun c7 => ?_)
      · replace hf := oi_t c7 hf
        refine r_aload_n (pc := 41) hC dX4_bowl_41 rfl 1 rfl ?_
        obtain ⟨v2, ev2, hf⟩ := ob hf
        refine r_getR (pc := 42) CF4 (k := 0) hC (by decide) wd_1_42 dX4_bowl_42 ev2 ?_
        refine r_iload_n (pc := 45) hC dX4_bowl_45 rfl 0 rfl ?_
        obtain ⟨s3, es3, hf⟩ := ob hf
        refine r_new (pc := 46) CF0 (fs := [DR none, DI 0, DI 0]) hC wd_1_23 wd_2_87 wd_1_10 (fun j hj => by rcases (show j = 0 ∨ j = 1 ∨ j = 2 by omega) with rfl | rfl | rfl <;> rfl) ⟨Nat.le_of_ble_eq_true rfl, Nat.le_of_ble_eq_true rfl⟩ dX4_bowl_46 ?_
        rw [Option.some.inj es3]
        refine r_dup (pc := 49) hC dX4_bowl_49 rfl ?_
        refine r_iload_n (pc := 50) hC dX4_bowl_50 rfl 2 rfl ?_
        obtain ⟨q4, eq4, hf⟩ := ob hf
        refine r_callI (pc := 51) (As := [DI a0]) (rest := [DR (some st.1), DI v1, DR v2]) (stk' := [DR (some st.1), DI v1, DR v2]) (k1_X0_init eq4) hC wd_2_88 wd_2_89 rfl wd_2_90 wd_1_10 md_X0_init rfl ⟨rfl, rfl, Nat.le_of_ble_eq_true rfl, Nat.le_of_ble_eq_true rfl, Nat.le_of_ble_eq_true rfl, Nat.le_of_ble_eq_true rfl⟩ dX4_bowl_51 rfl (Nat.le_of_ble_eq_true rfl) rfl ?_
        obtain ⟨s5, es5, hf⟩ := ob hf
        refine r_aastore (pc := 54) (kd := 2) (ci := 0) (fun _ => rfl) rfl hC dX4_bowl_54 es5 ?_
        refine r_aload_n (pc := 55) hC dX4_bowl_55 rfl 1 rfl ?_
        refine r_iload_n (pc := 56) hC dX4_bowl_56 rfl 0 rfl ?_
        refine r_iconst (pc := 57) (v := 1) hC dX4_bowl_57 (by decide) ?_
        refine r_iadd (pc := 58) hC dX4_bowl_58 ?_
        obtain ⟨s6, es6, hf⟩ := ob hf
        refine r_put (pc := 59) CF4 (k := 3) hC (by decide) wd_1_45 rfl ⟨rfl, rfl⟩ dX4_bowl_59 es6 ?_
        refine r_iload_n (pc := 62) hC dX4_bowl_62 rfl 0 rfl ?_
        exact r_iret (pc := 63) hE hC (f0xI hf) ⟨Nat.le_of_ble_eq_true rfl, Nat.le_of_ble_eq_true rfl⟩ dX4_bowl_63
      · replace hf := oi_f c7 hf
        cases hf
    · replace hf := oi_f c8 hf
      cases hf
abbrev rmK0_X4_bowlAt : Room := { frames := 0, cells := 0, slots := 0, locals := 0 }
set_option maxRecDepth 100000 in
set_option maxHeartbeats 4000000 in
theorem k0_X4_bowlAt {st : DSt} {x : Nat} {a0 : Int32} {v : Option Nat} (hf : fX4_bowlAt st x a0 = some (.inr v)) : dm_K1 yX4_bowlAt cX4_bowlAt 3 (some (.object "ChocolateMoulds$Bowl")) rmK0_X4_bowlAt 0 0 [DR (some x), DI a0] st (some (DR v)) st := by
  refine dm_k1 (by decide) rfl (Nat.le_of_ble_eq_true rfl) fun Y hC hN hI hE => ?_
  unfold fX4_bowlAt at hf
  refine dm_sub (lv' := [(0, DR (some x)), (1, DI a0)]) ([0, 1]) rfl ?_
  refine r_iload_n (pc := 0) hC dX4_bowlAt_0 rfl 1 rfl ?_
  refine r_if_lt (pc := 1) (tgt := 9) hC dX4_bowlAt_1 (by decide) (fun c8 => ?_) (fun c8 => ?_)
  · replace hf := oi_t c8 hf
    refine r_null (pc := 9) hC dX4_bowlAt_9 ?_
    refine r_goto (pc := 10) (tgt := 19) hC dX4_bowlAt_10 (by decide) ?_
    refine r_astore_n (pc := 19) (lv' := [(2, DR none), (0, DR (some x)), (1, DI a0)]) hC hN dX4_bowlAt_19 rfl (by decide) rfl ?_
    refine r_aload_n (pc := 20) hC dX4_bowlAt_20 rfl 0 rfl ?_
    refine r_ifnonnull (pc := 21) (tgt := 35) hC dX4_bowlAt_21 (by decide) (fun _ c => nomatch c) (fun _ => ?_)
    cases hf
  · replace hf := oi_f c8 hf
    refine r_iload_n (pc := 4) hC dX4_bowlAt_4 rfl 1 rfl ?_
    refine r_iconst (pc := 5) (v := 5) hC dX4_bowlAt_5 (by decide) ?_
    refine r_icmp_lt (pc := 6) (tgt := 13) hC dX4_bowlAt_6 (by decide) (fun c7 => ?_) (fun c7 => ?_)
    · replace hf := oi_t c7 hf
      refine r_aload_n (pc := 13) hC dX4_bowlAt_13 rfl 0 rfl ?_
      obtain ⟨v2, ev2, hf⟩ := ob hf
      refine r_getR (pc := 14) CF4 (k := 0) hC (by decide) wd_1_42 dX4_bowlAt_14 ev2 ?_
      refine r_iload_n (pc := 17) hC dX4_bowlAt_17 rfl 1 rfl ?_
      obtain ⟨v3, ev3, hf⟩ := ob hf
      refine r_aaload (pc := 18) (kd := 2) (fun _ => rfl) hC dX4_bowlAt_18 ev3 ?_
      refine r_astore_n (pc := 19) (lv' := [(2, DR v3), (0, DR (some x)), (1, DI a0)]) hC hN dX4_bowlAt_19 rfl (by decide) rfl ?_
      refine r_aload_n (pc := 20) hC dX4_bowlAt_20 rfl 0 rfl ?_
      refine r_ifnonnull (pc := 21) (tgt := 35) hC dX4_bowlAt_21 (by decide) (fun n5 c4 => ?_) (fun c4 => ?_)
      · subst c4
        refine r_aload_n (pc := 35) hC dX4_bowlAt_35 rfl 0 rfl ?_
        exact r_aret (pc := 36) (by exact Or.inl ⟨_, rfl⟩) hE hC (f0pR hf) ⟨Nat.le_of_ble_eq_true rfl, Nat.le_of_ble_eq_true rfl⟩ dX4_bowlAt_36
      · subst c4
        cases hf
    · replace hf := oi_f c7 hf
      refine r_null (pc := 9) hC dX4_bowlAt_9 ?_
      refine r_goto (pc := 10) (tgt := 19) hC dX4_bowlAt_10 (by decide) ?_
      refine r_astore_n (pc := 19) (lv' := [(2, DR none), (0, DR (some x)), (1, DI a0)]) hC hN dX4_bowlAt_19 rfl (by decide) rfl ?_
      refine r_aload_n (pc := 20) hC dX4_bowlAt_20 rfl 0 rfl ?_
      refine r_ifnonnull (pc := 21) (tgt := 35) hC dX4_bowlAt_21 (by decide) (fun _ c => nomatch c) (fun _ => ?_)
      cases hf
abbrev rmK0_X4_checkWarming : Room := { frames := 0, cells := 0, slots := 0, locals := 0 }
set_option maxRecDepth 100000 in
set_option maxHeartbeats 4000000 in
theorem k0_X4_checkWarming {st : DSt} {a0 : Int32} {a1 : Int32} (hf : fX4_checkWarming st a0 a1 = some (.inr ())) : dm_K1 yX4_checkWarming cX4_checkWarming 2 none rmK0_X4_checkWarming 0 0 [DI a0, DI a1] st none st := by
  refine dm_k1 (by decide) rfl (Nat.le_of_ble_eq_true rfl) fun Y hC hN hI hE => ?_
  unfold fX4_checkWarming at hf
  refine dm_sub (lv' := [(0, DI a0), (1, DI a1)]) ([0, 1]) rfl ?_
  refine r_iload_n (pc := 0) hC dX4_checkWarming_0 rfl 0 rfl ?_
  refine r_bipush (pc := 1) (v := 15) hC dX4_checkWarming_1 (by decide) ?_
  refine r_icmp_lt (pc := 3) (tgt := 23) hC dX4_checkWarming_3 (by decide) (fun c4 => ?_) (fun c4 => ?_)
  · replace hf := oi_t c4 hf
    cases hf
  · replace hf := oi_f c4 hf
    refine r_iload_n (pc := 6) hC dX4_checkWarming_6 rfl 0 rfl ?_
    refine r_bipush (pc := 7) (v := 50) hC dX4_checkWarming_7 (by decide) ?_
    refine r_icmp_gt (pc := 9) (tgt := 23) hC dX4_checkWarming_9 (by decide) (fun c3 => ?_) (fun c3 => ?_)
    · replace hf := oi_t c3 hf
      cases hf
    · replace hf := oi_f c3 hf
      refine r_iload_n (pc := 12) hC dX4_checkWarming_12 rfl 1 rfl ?_
      refine r_iconst (pc := 13) (v := 1) hC dX4_checkWarming_13 (by decide) ?_
      refine r_icmp_lt (pc := 14) (tgt := 23) hC dX4_checkWarming_14 (by decide) (fun c2 => ?_) (fun c2 => ?_)
      · replace hf := oi_t c2 hf
        cases hf
      · replace hf := oi_f c2 hf
        refine r_iload_n (pc := 17) hC dX4_checkWarming_17 rfl 1 rfl ?_
        refine r_bipush (pc := 18) (v := 40) hC dX4_checkWarming_18 (by decide) ?_
        refine r_icmp_le (pc := 20) (tgt := 33) hC dX4_checkWarming_20 (by decide) (fun c1 => ?_) (fun c1 => ?_)
        · replace hf := oi_t c1 hf
          exact r_vret (pc := 33) hE hC f1pV ⟨Nat.le_of_ble_eq_true rfl, Nat.le_of_ble_eq_true rfl⟩ dX4_checkWarming_33
        · replace hf := oi_f c1 hf
          cases hf
abbrev rmK0_X4_warm : Room := { frames := 4, cells := 0, slots := 0, locals := 89 }
set_option maxRecDepth 100000 in
set_option maxHeartbeats 4000000 in
theorem k0_X4_warm {st : DSt} {x : Nat} {a0 : Int32} {a1 : Int32} {a2 : Int32} {v : Int32} {st1 : DSt} (hf : fX4_warm st x a0 a1 a2 = some (.inr (v, st1))) : dm_K1 yX4_warm cX4_warm 5 (some .int) rmK0_X4_warm 0 0 [DR (some x), DI a0, DI a1, DI a2] st (some (DI v)) st1 := by
  refine dm_k1 (by decide) rfl (Nat.le_of_ble_eq_true rfl) fun Y hC hN hI hE => ?_
  unfold fX4_warm at hf
  refine dm_sub (lv' := [(0, DR (some x)), (1, DI a0), (2, DI a1), (3, DI a2)]) ([0, 1, 2, 3]) rfl ?_
  refine r_aload_n (pc := 0) hC dX4_warm_0 rfl 0 rfl ?_
  refine r_iload_n (pc := 1) hC dX4_warm_1 rfl 1 rfl ?_
  obtain ⟨b1, gb1, hf⟩ := ob hf
  rcases xb hf with ⟨eq2, _, hrq2⟩ | ⟨q2, eq2, hf⟩
  · cases hrq2
  refine r_callV (pc := 2) (As := [DI a0]) (rest := []) (stk' := [DR q2]) (k0_X4_bowlAt eq2) gb1 rfl hC wd_1_168 wd_1_170 wd_s_3 wd_1_171 wd_1_1 md_X4_bowlAt rfl ⟨rfl, rfl, Nat.le_of_ble_eq_true rfl, Nat.le_of_ble_eq_true rfl, Nat.le_of_ble_eq_true rfl, Nat.le_of_ble_eq_true rfl⟩ dX4_warm_2 rfl (Nat.le_of_ble_eq_true rfl) rfl ?_
  refine r_astore (pc := 5) (lv' := [(4, DR q2), (0, DR (some x)), (1, DI a0), (2, DI a1), (3, DI a2)]) hC hN dX4_warm_5 (by decide) rfl ?_
  refine r_iload_n (pc := 7) hC dX4_warm_7 rfl 3 rfl ?_
  refine r_iload_n (pc := 8) hC dX4_warm_8 rfl 4 rfl ?_
  rcases xb hf with ⟨eq3, _, hrq3⟩ | ⟨q3, eq3, hf⟩
  · cases hrq3
  refine r_callS (pc := 9) (As := [DI a1, DI a2]) (rest := []) (stk' := []) (k0_X4_checkWarming eq3) hC wd_2_111 wd_2_112 wd_2_113 wd_1_1 md_X4_checkWarming rfl ⟨rfl, rfl, Nat.le_of_ble_eq_true rfl, Nat.le_of_ble_eq_true rfl, Nat.le_of_ble_eq_true rfl, Nat.le_of_ble_eq_true rfl⟩ dX4_warm_9 rfl (Nat.le_of_ble_eq_true rfl) rfl ?_
  refine r_aload (pc := 12) hC dX4_warm_12 0 rfl ?_
  refine r_iload_n (pc := 14) hC dX4_warm_14 rfl 3 rfl ?_
  obtain ⟨s4, es4, hf⟩ := ob hf
  refine r_put (pc := 15) CF0 (k := 2) hC (by decide) wd_2_99 rfl ⟨rfl, rfl⟩ dX4_warm_15 es4 ?_
  refine r_aload (pc := 18) hC dX4_warm_18 0 rfl ?_
  obtain ⟨v5, ev5, hf⟩ := ob hf
  refine r_getR (pc := 20) CF0 (k := 0) hC (by decide) wd_2_95 dX4_warm_20 ev5 ?_
  refine r_iload_n (pc := 23) hC dX4_warm_23 rfl 3 rfl ?_
  refine r_iload_n (pc := 24) hC dX4_warm_24 rfl 4 rfl ?_
  obtain ⟨b6, gb6, hf⟩ := ob hf
  obtain ⟨q7, eq7, hf⟩ := ob hf
  refine r_callV (pc := 25) (As := [DI a1, DI a2]) (rest := []) (stk' := []) (k1_X2_keepAt eq7) gb6 rfl hC wd_2_115 wd_2_116 wd_2_117 wd_2_118 wd_1_2 md_X2_keepAt rfl ⟨rfl, rfl, Nat.le_of_ble_eq_true rfl, Nat.le_of_ble_eq_true rfl, Nat.le_of_ble_eq_true rfl, Nat.le_of_ble_eq_true rfl⟩ dX4_warm_25 rfl (Nat.le_of_ble_eq_true rfl) rfl ?_
  refine r_aload (pc := 28) hC dX4_warm_28 0 rfl ?_
  obtain ⟨v8, ev8, hf⟩ := ob hf
  refine r_getR (pc := 30) CF0 (k := 0) hC (by decide) wd_2_95 dX4_warm_30 ev8 ?_
  obtain ⟨b9, gb9, hf⟩ := ob hf
  obtain ⟨q10, eq10, hf⟩ := ob hf
  refine r_callV (pc := 33) (As := []) (rest := []) (stk' := [DI q10]) (k1_X2_temper eq10) gb9 rfl hC wd_1_177 wd_1_178 wd_1_179 wd_1_180 wd_1_2 md_X2_temper rfl ⟨rfl, rfl, Nat.le_of_ble_eq_true rfl, Nat.le_of_ble_eq_true rfl, Nat.le_of_ble_eq_true rfl, Nat.le_of_ble_eq_true rfl⟩ dX4_warm_33 rfl (Nat.le_of_ble_eq_true rfl) rfl ?_
  exact r_iret (pc := 36) hE hC (f0xI hf) ⟨Nat.le_of_ble_eq_true rfl, Nat.le_of_ble_eq_true rfl⟩ dX4_warm_36
abbrev rmK0_X4_seed : Room := { frames := 2, cells := 0, slots := 0, locals := 44 }
set_option maxRecDepth 100000 in
set_option maxHeartbeats 4000000 in
theorem k0_X4_seed {st : DSt} {x : Nat} {a0 : Int32} {a1 : Int32} {v : Int32} {st1 : DSt} (hf : fX4_seed st x a0 a1 = some (.inr (v, st1))) : dm_K1 yX4_seed cX4_seed 4 (some .int) rmK0_X4_seed 0 0 [DR (some x), DI a0, DI a1] st (some (DI v)) st1 := by
  refine dm_k1 (by decide) rfl (Nat.le_of_ble_eq_true rfl) fun Y hC hN hI hE => ?_
  unfold fX4_seed at hf
  refine dm_sub (lv' := [(0, DR (some x)), (1, DI a0), (2, DI a1)]) ([0, 1, 2]) rfl ?_
  refine r_aload_n (pc := 0) hC dX4_seed_0 rfl 0 rfl ?_
  refine r_iload_n (pc := 1) hC dX4_seed_1 rfl 1 rfl ?_
  obtain ⟨b1, gb1, hf⟩ := ob hf
  rcases xb hf with ⟨eq2, _, hrq2⟩ | ⟨q2, eq2, hf⟩
  · cases hrq2
  refine r_callV (pc := 2) (As := [DI a0]) (rest := []) (stk' := [DR q2]) (k0_X4_bowlAt eq2) gb1 rfl hC wd_1_168 wd_1_170 wd_s_3 wd_1_171 wd_1_1 md_X4_bowlAt rfl ⟨rfl, rfl, Nat.le_of_ble_eq_true rfl, Nat.le_of_ble_eq_true rfl, Nat.le_of_ble_eq_true rfl, Nat.le_of_ble_eq_true rfl⟩ dX4_seed_2 rfl (Nat.le_of_ble_eq_true rfl) rfl ?_
  refine r_astore_n (pc := 5) (lv' := [(3, DR q2), (0, DR (some x)), (1, DI a0), (2, DI a1)]) hC hN dX4_seed_5 rfl (by decide) rfl ?_
  refine r_iload_n (pc := 6) hC dX4_seed_6 rfl 3 rfl ?_
  refine r_iconst (pc := 7) (v := 1) hC dX4_seed_7 (by decide) ?_
  refine r_icmp_lt (pc := 8) (tgt := 17) hC dX4_seed_8 (by decide) (fun c10 => ?_) (fun c10 => ?_)
  · replace hf := oi_t c10 hf
    cases hf
  · replace hf := oi_f c10 hf
    refine r_iload_n (pc := 11) hC dX4_seed_11 rfl 3 rfl ?_
    refine r_bipush (pc := 12) (v := 30) hC dX4_seed_12 (by decide) ?_
    refine r_icmp_le (pc := 14) (tgt := 27) hC dX4_seed_14 (by decide) (fun c9 => ?_) (fun c9 => ?_)
    · replace hf := oi_t c9 hf
      refine r_aload_n (pc := 27) hC dX4_seed_27 rfl 0 rfl ?_
      obtain ⟨v3, ev3, hf⟩ := ob hf
      refine r_getR (pc := 28) CF0 (k := 0) hC (by decide) wd_2_95 dX4_seed_28 ev3 ?_
      refine r_iconst (pc := 31) (v := 5) hC dX4_seed_31 (by decide) ?_
      refine r_iload_n (pc := 32) hC dX4_seed_32 rfl 3 rfl ?_
      obtain ⟨b4, gb4, hf⟩ := ob hf
      obtain ⟨q5, eq5, hf⟩ := ob hf
      refine r_callV (pc := 33) (As := [DI 5, DI a1]) (rest := []) (stk' := []) (k1_X2_increase eq5) gb4 rfl hC wd_2_159 wd_2_134 wd_2_135 wd_2_136 wd_1_2 md_X2_increase rfl ⟨rfl, rfl, Nat.le_of_ble_eq_true rfl, Nat.le_of_ble_eq_true rfl, Nat.le_of_ble_eq_true rfl, Nat.le_of_ble_eq_true rfl⟩ dX4_seed_33 rfl (Nat.le_of_ble_eq_true rfl) rfl ?_
      refine r_aload_n (pc := 36) hC dX4_seed_36 rfl 0 rfl ?_
      obtain ⟨v6, ev6, hf⟩ := ob hf
      refine r_getR (pc := 37) CF0 (k := 0) hC (by decide) wd_2_95 dX4_seed_37 ev6 ?_
      obtain ⟨v7, ev7, hf⟩ := ob hf
      refine r_getR (pc := 40) CF2 (k := 0) hC (by decide) wd_1_37 dX4_seed_40 ev7 ?_
      refine r_iconst (pc := 43) (v := 5) hC dX4_seed_43 (by decide) ?_
      obtain ⟨v8, ev8, hf⟩ := ob hf
      refine r_iaload (pc := 44) hC dX4_seed_44 ev8 ?_
      exact r_iret (pc := 45) hE hC (f0xI hf) ⟨Nat.le_of_ble_eq_true rfl, Nat.le_of_ble_eq_true rfl⟩ dX4_seed_45
    · replace hf := oi_f c9 hf
      cases hf
abbrev rmK0_X4_pour : Room := { frames := 2, cells := 0, slots := 0, locals := 46 }
set_option maxRecDepth 100000 in
set_option maxHeartbeats 4000000 in
theorem k0_X4_pour {st : DSt} {x : Nat} {a0 : Int32} {a1 : Int32} {v : Int32} {st1 : DSt} (hf : fX4_pour st x a0 a1 = some (.inr (v, st1))) : dm_K1 yX4_pour cX4_pour 6 (some .int) rmK0_X4_pour 0 0 [DR (some x), DI a0, DI a1] st (some (DI v)) st1 := by
  refine dm_k1 (by decide) rfl (Nat.le_of_ble_eq_true rfl) fun Y hC hN hI hE => ?_
  unfold fX4_pour at hf
  refine dm_sub (lv' := [(0, DR (some x)), (1, DI a0), (2, DI a1)]) ([0, 1, 2]) rfl ?_
  refine r_aload_n (pc := 0) hC dX4_pour_0 rfl 0 rfl ?_
  refine r_iload_n (pc := 1) hC dX4_pour_1 rfl 1 rfl ?_
  obtain ⟨b1, gb1, hf⟩ := ob hf
  rcases xb hf with ⟨eq2, _, hrq2⟩ | ⟨q2, eq2, hf⟩
  · cases hrq2
  refine r_callV (pc := 2) (As := [DI a0]) (rest := []) (stk' := [DR q2]) (k0_X4_bowlAt eq2) gb1 rfl hC wd_1_168 wd_1_170 wd_s_3 wd_1_171 wd_1_1 md_X4_bowlAt rfl ⟨rfl, rfl, Nat.le_of_ble_eq_true rfl, Nat.le_of_ble_eq_true rfl, Nat.le_of_ble_eq_true rfl, Nat.le_of_ble_eq_true rfl⟩ dX4_pour_2 rfl (Nat.le_of_ble_eq_true rfl) rfl ?_
  refine r_astore_n (pc := 5) (lv' := [(3, DR q2), (0, DR (some x)), (1, DI a0), (2, DI a1)]) hC hN dX4_pour_5 rfl (by decide) rfl ?_
  refine r_aload_n (pc := 6) hC dX4_pour_6 rfl 1 rfl ?_
  refine r_iload_n (pc := 7) hC dX4_pour_7 rfl 3 rfl ?_
  obtain ⟨b3, gb3, hf⟩ := ob hf
  rcases xb hf with ⟨eq4, _, hrq4⟩ | ⟨q4, eq4, hf⟩
  · cases hrq4
  refine r_callV (pc := 8) (As := [DI a1]) (rest := []) (stk' := [DR q4]) (k0_X4_bowlAt eq4) gb3 rfl hC wd_1_168 wd_1_170 wd_s_3 wd_1_171 wd_1_1 md_X4_bowlAt rfl ⟨rfl, rfl, Nat.le_of_ble_eq_true rfl, Nat.le_of_ble_eq_true rfl, Nat.le_of_ble_eq_true rfl, Nat.le_of_ble_eq_true rfl⟩ dX4_pour_8 rfl (Nat.le_of_ble_eq_true rfl) rfl ?_
  refine r_astore (pc := 11) (lv' := [(4, DR q4), (3, DR q2), (0, DR (some x)), (1, DI a0), (2, DI a1)]) hC hN dX4_pour_11 (by decide) rfl ?_
  refine r_aload_n (pc := 13) hC dX4_pour_13 rfl 1 rfl ?_
  obtain ⟨v5, ev5, hf⟩ := ob hf
  refine r_getI (pc := 14) CF0 (k := 1) hC (by decide) wd_2_97 dX4_pour_14 ev5 ?_
  refine r_aload (pc := 17) hC dX4_pour_17 0 rfl ?_
  obtain ⟨v6, ev6, hf⟩ := ob hf
  refine r_getI (pc := 19) CF0 (k := 1) hC (by decide) wd_2_97 dX4_pour_19 ev6 ?_
  refine r_iadd (pc := 22) hC dX4_pour_22 ?_
  refine r_istore (pc := 23) (lv' := [(5, DI (v5 + v6)), (4, DR q4), (3, DR q2), (0, DR (some x)), (1, DI a0), (2, DI a1)]) hC hN dX4_pour_23 (by decide) rfl ?_
  refine r_iload_n (pc := 25) hC dX4_pour_25 rfl 4 rfl ?_
  refine r_iload_n (pc := 26) hC dX4_pour_26 rfl 5 rfl ?_
  refine r_icmp_eq (pc := 27) (tgt := 43) hC dX4_pour_27 (by decide) (fun c12 => ?_) (fun c12 => ?_)
  · replace hf := oi_t c12 hf
    cases hf
  · replace hf := oi_f c12 hf
    refine r_iload (pc := 30) hC dX4_pour_30 0 rfl ?_
    refine r_if_eq (pc := 32) (tgt := 43) hC dX4_pour_32 (by decide) (fun c11 => ?_) (fun c11 => ?_)
    · replace hf := oi_t c11 hf
      cases hf
    · replace hf := oi_f c11 hf
      refine r_iload (pc := 35) hC dX4_pour_35 0 rfl ?_
      refine r_sipush (pc := 37) (v := 2000) hC dX4_pour_37 (by decide) ?_
      refine r_icmp_le (pc := 40) (tgt := 53) hC dX4_pour_40 (by decide) (fun c10 => ?_) (fun c10 => ?_)
      · replace hf := oi_t c10 hf
        refine r_aload (pc := 53) hC dX4_pour_53 1 rfl ?_
        refine r_aload_n (pc := 55) hC dX4_pour_55 rfl 2 rfl ?_
        obtain ⟨b7, gb7, hf⟩ := ob hf
        obtain ⟨q8, eq8, hf⟩ := ob hf
        refine r_callV (pc := 56) (As := [DR q2]) (rest := []) (stk' := []) (k1_X0_takeIn eq8) gb7 rfl hC wd_2_165 wd_2_166 wd_2_167 wd_2_168 wd_1_10 md_X0_takeIn rfl ⟨rfl, rfl, Nat.le_of_ble_eq_true rfl, Nat.le_of_ble_eq_true rfl, Nat.le_of_ble_eq_true rfl, Nat.le_of_ble_eq_true rfl⟩ dX4_pour_56 rfl (Nat.le_of_ble_eq_true rfl) rfl ?_
        refine r_aload (pc := 59) hC dX4_pour_59 1 rfl ?_
        obtain ⟨v9, ev9, hf⟩ := ob hf
        refine r_getI (pc := 61) CF0 (k := 1) hC (by decide) wd_2_97 dX4_pour_61 ev9 ?_
        exact r_iret (pc := 64) hE hC (f0xI hf) ⟨Nat.le_of_ble_eq_true rfl, Nat.le_of_ble_eq_true rfl⟩ dX4_pour_64
      · replace hf := oi_f c10 hf
        cases hf
abbrev rmK0_X4_addSlab : Room := { frames := 0, cells := 0, slots := 0, locals := 0 }
set_option maxRecDepth 100000 in
set_option maxHeartbeats 4000000 in
theorem k0_X4_addSlab {st : DSt} {x : Nat} {a0 : Option Nat} {v : Int32} {st1 : DSt} (hf : fX4_addSlab st x a0 = some (.inr (v, st1))) : dm_K1 yX4_addSlab cX4_addSlab 3 (some .int) rmK0_X4_addSlab 0 0 [DR (some x), DR a0] st (some (DI v)) st1 := by
  refine dm_k1 (by decide) rfl (Nat.le_of_ble_eq_true rfl) fun Y hC hN hI hE => ?_
  unfold fX4_addSlab at hf
  refine dm_sub (lv' := [(0, DR (some x)), (1, DR a0)]) ([0, 1]) rfl ?_
  refine r_aload_n (pc := 0) hC dX4_addSlab_0 rfl 0 rfl ?_
  obtain ⟨v1, ev1, hf⟩ := ob hf
  refine r_getI (pc := 1) CF4 (k := 4) hC (by decide) wd_1_46 dX4_addSlab_1 ev1 ?_
  refine r_istore_n (pc := 4) (lv' := [(2, DI v1), (0, DR (some x)), (1, DR a0)]) hC hN dX4_addSlab_4 rfl (by decide) rfl ?_
  refine r_iload_n (pc := 5) hC dX4_addSlab_5 rfl 0 rfl ?_
  refine r_bipush (pc := 6) (v := 8) hC dX4_addSlab_6 (by decide) ?_
  refine r_icmp_lt (pc := 8) (tgt := 22) hC dX4_addSlab_8 (by decide) (fun c5 => ?_) (fun c5 => ?_)
  · replace hf := oi_t c5 hf
    refine r_aload_n (pc := 22) hC dX4_addSlab_22 rfl 1 rfl ?_
    obtain ⟨v2, ev2, hf⟩ := ob hf
    refine r_getR (pc := 23) CF4 (k := 1) hC (by decide) wd_1_43 dX4_addSlab_23 ev2 ?_
    refine r_iload_n (pc := 26) hC dX4_addSlab_26 rfl 0 rfl ?_
    refine r_aload_n (pc := 27) hC dX4_addSlab_27 rfl 2 rfl ?_
    obtain ⟨s3, es3, hf⟩ := ob hf
    refine r_aastore (pc := 28) (kd := 3) (ci := 3) (fun _ => rfl) rfl hC dX4_addSlab_28 es3 ?_
    refine r_aload_n (pc := 29) hC dX4_addSlab_29 rfl 1 rfl ?_
    refine r_iload_n (pc := 30) hC dX4_addSlab_30 rfl 0 rfl ?_
    refine r_iconst (pc := 31) (v := 1) hC dX4_addSlab_31 (by decide) ?_
    refine r_iadd (pc := 32) hC dX4_addSlab_32 ?_
    obtain ⟨s4, es4, hf⟩ := ob hf
    refine r_put (pc := 33) CF4 (k := 4) hC (by decide) wd_1_46 rfl ⟨rfl, rfl⟩ dX4_addSlab_33 es4 ?_
    refine r_iload_n (pc := 36) hC dX4_addSlab_36 rfl 0 rfl ?_
    exact r_iret (pc := 37) hE hC (f0xI hf) ⟨Nat.le_of_ble_eq_true rfl, Nat.le_of_ble_eq_true rfl⟩ dX4_addSlab_37
  · replace hf := oi_f c5 hf
    cases hf
abbrev rmK0_X4_cast : Room := { frames := 2, cells := 1, slots := 5, locals := 40 }
set_option maxRecDepth 100000 in
set_option maxHeartbeats 4000000 in
theorem k0_X4_cast {st : DSt} {x : Nat} {a0 : Int32} {a1 : Int32} {a2 : Int32} {v : Int32} {st1 : DSt} (hf : fX4_cast st x a0 a1 a2 = some (.inr (v, st1))) : dm_K1 yX4_cast cX4_cast 7 (some .int) rmK0_X4_cast 1 5 [DR (some x), DI a0, DI a1, DI a2] st (some (DI v)) st1 := by
  refine dm_k1 (by decide) rfl (Nat.le_of_ble_eq_true rfl) fun Y hC hN hI hE => ?_
  unfold fX4_cast at hf
  refine dm_sub (lv' := [(0, DR (some x)), (1, DI a0), (2, DI a1), (3, DI a2)]) ([0, 1, 2, 3]) rfl ?_
  refine r_aload_n (pc := 0) hC dX4_cast_0 rfl 0 rfl ?_
  refine r_iload_n (pc := 1) hC dX4_cast_1 rfl 1 rfl ?_
  obtain ⟨b1, gb1, hf⟩ := ob hf
  rcases xb hf with ⟨eq2, _, hrq2⟩ | ⟨q2, eq2, hf⟩
  · cases hrq2
  refine r_callV (pc := 2) (As := [DI a0]) (rest := []) (stk' := [DR q2]) (k0_X4_bowlAt eq2) gb1 rfl hC wd_1_168 wd_1_170 wd_s_3 wd_1_171 wd_1_1 md_X4_bowlAt rfl ⟨rfl, rfl, Nat.le_of_ble_eq_true rfl, Nat.le_of_ble_eq_true rfl, Nat.le_of_ble_eq_true rfl, Nat.le_of_ble_eq_true rfl⟩ dX4_cast_2 rfl (Nat.le_of_ble_eq_true rfl) rfl ?_
  refine r_astore (pc := 5) (lv' := [(4, DR q2), (0, DR (some x)), (1, DI a0), (2, DI a1), (3, DI a2)]) hC hN dX4_cast_5 (by decide) rfl ?_
  refine r_iload_n (pc := 7) hC dX4_cast_7 rfl 3 rfl ?_
  refine r_iconst (pc := 8) (v := 1) hC dX4_cast_8 (by decide) ?_
  refine r_icmp_lt (pc := 9) (tgt := 29) hC dX4_cast_9 (by decide) (fun c21 => ?_) (fun c21 => ?_)
  · replace hf := oi_t c21 hf
    cases hf
  · replace hf := oi_f c21 hf
    refine r_iload_n (pc := 12) hC dX4_cast_12 rfl 3 rfl ?_
    refine r_bipush (pc := 13) (v := 6) hC dX4_cast_13 (by decide) ?_
    refine r_icmp_gt (pc := 15) (tgt := 29) hC dX4_cast_15 (by decide) (fun c20 => ?_) (fun c20 => ?_)
    · replace hf := oi_t c20 hf
      cases hf
    · replace hf := oi_f c20 hf
      refine r_iload_n (pc := 18) hC dX4_cast_18 rfl 4 rfl ?_
      refine r_iconst (pc := 19) (v := 1) hC dX4_cast_19 (by decide) ?_
      refine r_icmp_lt (pc := 20) (tgt := 29) hC dX4_cast_20 (by decide) (fun c19 => ?_) (fun c19 => ?_)
      · replace hf := oi_t c19 hf
        cases hf
      · replace hf := oi_f c19 hf
        refine r_iload_n (pc := 23) hC dX4_cast_23 rfl 4 rfl ?_
        refine r_bipush (pc := 24) (v := 6) hC dX4_cast_24 (by decide) ?_
        refine r_icmp_le (pc := 26) (tgt := 39) hC dX4_cast_26 (by decide) (fun c18 => ?_) (fun c18 => ?_)
        · replace hf := oi_t c18 hf
          obtain ⟨s3, es3, hf⟩ := ob hf
          refine r_new (pc := 39) CF3 (fs := [DI 0, DI 0, DI 0, DI 0, DI 0]) hC wd_1_25 wd_2_187 wd_1_13 (fun j hj => by rcases (show j = 0 ∨ j = 1 ∨ j = 2 ∨ j = 3 ∨ j = 4 by omega) with rfl | rfl | rfl | rfl | rfl <;> rfl) ⟨Nat.le_of_ble_eq_true rfl, Nat.le_of_ble_eq_true rfl⟩ dX4_cast_39 ?_
          rw [Option.some.inj es3]
          refine r_dup (pc := 42) hC dX4_cast_42 rfl ?_
          refine r_iload_n (pc := 43) hC dX4_cast_43 rfl 3 rfl ?_
          refine r_iload_n (pc := 44) hC dX4_cast_44 rfl 4 rfl ?_
          refine r_aload (pc := 45) hC dX4_cast_45 0 rfl ?_
          obtain ⟨v4, ev4, hf⟩ := ob hf
          refine r_getR (pc := 47) CF0 (k := 0) hC (by decide) wd_2_95 dX4_cast_47 ev4 ?_
          obtain ⟨b5, gb5, hf⟩ := ob hf
          obtain ⟨q6, eq6, hf⟩ := ob hf
          refine r_callV (pc := 50) (As := []) (rest := [DI a2, DI a1, DR (some st.1), DR (some st.1)]) (stk' := [DI q6, DI a2, DI a1, DR (some st.1), DR (some st.1)]) (k1_X2_temper eq6) gb5 rfl hC wd_1_177 wd_1_178 wd_1_179 wd_1_180 wd_1_2 md_X2_temper rfl ⟨rfl, rfl, Nat.le_of_ble_eq_true rfl, Nat.le_of_ble_eq_true rfl, Nat.le_of_ble_eq_true rfl, Nat.le_of_ble_eq_true rfl⟩ dX4_cast_50 rfl (Nat.le_of_ble_eq_true rfl) rfl ?_
          obtain ⟨q7, eq7, hf⟩ := ob hf
          refine r_callI (pc := 53) (As := [DI a1, DI a2, DI q6]) (rest := [DR (some st.1)]) (stk' := [DR (some st.1)]) (k1_X3_init eq7) hC wd_2_188 wd_2_189 rfl wd_2_190 wd_1_13 md_X3_init rfl ⟨rfl, rfl, Nat.le_of_ble_eq_true rfl, Nat.le_of_ble_eq_true rfl, Nat.le_of_ble_eq_true rfl, Nat.le_of_ble_eq_true rfl⟩ dX4_cast_53 rfl (Nat.le_of_ble_eq_true rfl) rfl ?_
          refine r_astore (pc := 56) (lv' := [(5, DR (some st.1)), (4, DR q2), (0, DR (some x)), (1, DI a0), (2, DI a1), (3, DI a2)]) hC hN dX4_cast_56 (by decide) rfl ?_
          refine r_aload (pc := 58) hC dX4_cast_58 1 rfl ?_
          obtain ⟨v8, ev8, hf⟩ := ob hf
          refine r_getI (pc := 60) CF0 (k := 1) hC (by decide) wd_2_97 dX4_cast_60 ev8 ?_
          refine r_aload (pc := 63) hC dX4_cast_63 0 rfl ?_
          obtain ⟨b9, gb9, hf⟩ := ob hf
          obtain ⟨q10, eq10, hf⟩ := ob hf
          refine r_callV (pc := 65) (As := []) (rest := [DI v8]) (stk' := [DI q10, DI v8]) (k1_X3_grams eq10) gb9 rfl hC wd_2_215 wd_2_216 wd_2_217 wd_2_218 wd_1_13 md_X3_grams rfl ⟨rfl, rfl, Nat.le_of_ble_eq_true rfl, Nat.le_of_ble_eq_true rfl, Nat.le_of_ble_eq_true rfl, Nat.le_of_ble_eq_true rfl⟩ dX4_cast_65 rfl (Nat.le_of_ble_eq_true rfl) rfl ?_
          refine r_icmp_ge (pc := 68) (tgt := 81) hC dX4_cast_68 (by decide) (fun c17 => ?_) (fun c17 => ?_)
          · replace hf := oi_t c17 hf
            refine r_aload_n (pc := 81) hC dX4_cast_81 rfl 2 rfl ?_
            refine r_aload (pc := 82) hC dX4_cast_82 0 rfl ?_
            obtain ⟨b11, gb11, hf⟩ := ob hf
            rcases xb hf with ⟨eq12, _, hrq12⟩ | ⟨q12, eq12, hf⟩
            · cases hrq12
            refine r_callV (pc := 84) (As := [DR (some st.1)]) (rest := []) (stk' := [DI q12.1]) (k0_X4_addSlab eq12) gb11 rfl hC wd_2_221 wd_2_223 wd_s_10 wd_2_224 wd_1_1 md_X4_addSlab rfl ⟨rfl, rfl, Nat.le_of_ble_eq_true rfl, Nat.le_of_ble_eq_true rfl, Nat.le_of_ble_eq_true rfl, Nat.le_of_ble_eq_true rfl⟩ dX4_cast_84 rfl (Nat.le_of_ble_eq_true rfl) rfl ?_
            refine r_istore (pc := 87) (lv' := [(6, DI q12.1), (5, DR (some st.1)), (4, DR q2), (0, DR (some x)), (1, DI a0), (2, DI a1), (3, DI a2)]) hC hN dX4_cast_87 (by decide) rfl ?_
            refine r_aload (pc := 89) hC dX4_cast_89 2 rfl ?_
            refine r_dup (pc := 91) hC dX4_cast_91 rfl ?_
            obtain ⟨v13, ev13, hf⟩ := ob hf
            refine r_getI (pc := 92) CF0 (k := 1) hC (by decide) wd_2_97 dX4_cast_92 ev13 ?_
            refine r_aload (pc := 95) hC dX4_cast_95 1 rfl ?_
            obtain ⟨b14, gb14, hf⟩ := ob hf
            obtain ⟨q15, eq15, hf⟩ := ob hf
            refine r_callV (pc := 97) (As := []) (rest := [DI v13, DR q2]) (stk' := [DI q15, DI v13, DR q2]) (k1_X3_grams eq15) gb14 rfl hC wd_2_215 wd_2_216 wd_2_217 wd_2_218 wd_1_13 md_X3_grams rfl ⟨rfl, rfl, Nat.le_of_ble_eq_true rfl, Nat.le_of_ble_eq_true rfl, Nat.le_of_ble_eq_true rfl, Nat.le_of_ble_eq_true rfl⟩ dX4_cast_97 rfl (Nat.le_of_ble_eq_true rfl) rfl ?_
            refine r_isub (pc := 100) hC dX4_cast_100 ?_
            obtain ⟨s16, es16, hf⟩ := ob hf
            refine r_put (pc := 101) CF0 (k := 1) hC (by decide) wd_2_97 rfl ⟨rfl, rfl⟩ dX4_cast_101 es16 ?_
            refine r_iload (pc := 104) hC dX4_cast_104 0 rfl ?_
            exact r_iret (pc := 106) hE hC (f0xI hf) ⟨Nat.le_of_ble_eq_true rfl, Nat.le_of_ble_eq_true rfl⟩ dX4_cast_106
          · replace hf := oi_f c17 hf
            cases hf
        · replace hf := oi_f c18 hf
          cases hf
abbrev rmK1_X4_findSlab : Room := { frames := 0, cells := 0, slots := 0, locals := 0 }
set_option maxRecDepth 100000 in
set_option maxHeartbeats 4000000 in
theorem k1_X4_findSlab {st : DSt} {x : Nat} {a0 : Int32} {v : Option Nat} (hf : fX4_findSlab st x a0 = some v) : dm_K1 yX4_findSlab cX4_findSlab 2 (some (.object "ChocolateMoulds$Slab")) rmK1_X4_findSlab 0 0 [DR (some x), DI a0] st (some (DR v)) st := by
  refine dm_k1 (by decide) rfl (Nat.le_of_ble_eq_true rfl) fun Y hC hN hI hE => ?_
  unfold fX4_findSlab at hf
  refine dm_sub (lv' := [(0, DR (some x)), (1, DI a0)]) ([0, 1]) rfl ?_
  refine r_iload_n (pc := 0) hC dX4_findSlab_0 rfl 1 rfl ?_
  refine r_if_lt (pc := 1) (tgt := 10) hC dX4_findSlab_1 (by decide) (fun c4 => ?_) (fun c4 => ?_)
  · replace hf := oi_t c4 hf
    refine r_null (pc := 10) hC dX4_findSlab_10 ?_
    refine r_goto (pc := 11) (tgt := 20) hC dX4_findSlab_11 (by decide) ?_
    exact r_aret (pc := 20) (by exact Or.inl ⟨_, rfl⟩) hE hC (f1pR hf) ⟨Nat.le_of_ble_eq_true rfl, Nat.le_of_ble_eq_true rfl⟩ dX4_findSlab_20
  · replace hf := oi_f c4 hf
    refine r_iload_n (pc := 4) hC dX4_findSlab_4 rfl 1 rfl ?_
    refine r_bipush (pc := 5) (v := 8) hC dX4_findSlab_5 (by decide) ?_
    refine r_icmp_lt (pc := 7) (tgt := 14) hC dX4_findSlab_7 (by decide) (fun c3 => ?_) (fun c3 => ?_)
    · replace hf := oi_t c3 hf
      refine r_aload_n (pc := 14) hC dX4_findSlab_14 rfl 0 rfl ?_
      obtain ⟨v1, ev1, hf⟩ := ob hf
      refine r_getR (pc := 15) CF4 (k := 1) hC (by decide) wd_1_43 dX4_findSlab_15 ev1 ?_
      refine r_iload_n (pc := 18) hC dX4_findSlab_18 rfl 1 rfl ?_
      obtain ⟨v2, ev2, hf⟩ := ob hf
      refine r_aaload (pc := 19) (kd := 3) (fun _ => rfl) hC dX4_findSlab_19 ev2 ?_
      exact r_aret (pc := 20) (by exact Or.inl ⟨_, rfl⟩) hE hC (f1pR hf) ⟨Nat.le_of_ble_eq_true rfl, Nat.le_of_ble_eq_true rfl⟩ dX4_findSlab_20
    · replace hf := oi_f c3 hf
      refine r_null (pc := 10) hC dX4_findSlab_10 ?_
      refine r_goto (pc := 11) (tgt := 20) hC dX4_findSlab_11 (by decide) ?_
      exact r_aret (pc := 20) (by exact Or.inl ⟨_, rfl⟩) hE hC (f1pR hf) ⟨Nat.le_of_ble_eq_true rfl, Nat.le_of_ble_eq_true rfl⟩ dX4_findSlab_20
abbrev rmK0_X4_slabAt : Room := { frames := 1, cells := 0, slots := 0, locals := 21 }
set_option maxRecDepth 100000 in
set_option maxHeartbeats 4000000 in
theorem k0_X4_slabAt {st : DSt} {x : Nat} {a0 : Int32} {v : Option Nat} (hf : fX4_slabAt st x a0 = some (.inr v)) : dm_K1 yX4_slabAt cX4_slabAt 3 (some (.object "ChocolateMoulds$Slab")) rmK0_X4_slabAt 0 0 [DR (some x), DI a0] st (some (DR v)) st := by
  refine dm_k1 (by decide) rfl (Nat.le_of_ble_eq_true rfl) fun Y hC hN hI hE => ?_
  unfold fX4_slabAt at hf
  refine dm_sub (lv' := [(0, DR (some x)), (1, DI a0)]) ([0, 1]) rfl ?_
  refine r_aload_n (pc := 0) hC dX4_slabAt_0 rfl 0 rfl ?_
  refine r_iload_n (pc := 1) hC dX4_slabAt_1 rfl 1 rfl ?_
  obtain ⟨b1, gb1, hf⟩ := ob hf
  obtain ⟨q2, eq2, hf⟩ := ob hf
  refine r_callV (pc := 2) (As := [DI a0]) (rest := []) (stk' := [DR q2]) (k1_X4_findSlab eq2) gb1 rfl hC wd_1_85 wd_1_87 wd_s_1 wd_1_88 wd_1_1 md_X4_findSlab rfl ⟨rfl, rfl, Nat.le_of_ble_eq_true rfl, Nat.le_of_ble_eq_true rfl, Nat.le_of_ble_eq_true rfl, Nat.le_of_ble_eq_true rfl⟩ dX4_slabAt_2 rfl (Nat.le_of_ble_eq_true rfl) rfl ?_
  refine r_astore_n (pc := 5) (lv' := [(2, DR q2), (0, DR (some x)), (1, DI a0)]) hC hN dX4_slabAt_5 rfl (by decide) rfl ?_
  refine r_aload_n (pc := 6) hC dX4_slabAt_6 rfl 0 rfl ?_
  refine r_ifnonnull (pc := 7) (tgt := 21) hC dX4_slabAt_7 (by decide) (fun n4 c3 => ?_) (fun c3 => ?_)
  · subst c3
    refine r_aload_n (pc := 21) hC dX4_slabAt_21 rfl 0 rfl ?_
    exact r_aret (pc := 22) (by exact Or.inl ⟨_, rfl⟩) hE hC (f0pR hf) ⟨Nat.le_of_ble_eq_true rfl, Nat.le_of_ble_eq_true rfl⟩ dX4_slabAt_22
  · subst c3
    cases hf
abbrev rmK0_X4_polish : Room := { frames := 2, cells := 0, slots := 0, locals := 43 }
set_option maxRecDepth 100000 in
set_option maxHeartbeats 4000000 in
theorem k0_X4_polish {st : DSt} {x : Nat} {a0 : Int32} {v : Int32} {st1 : DSt} (hf : fX4_polish st x a0 = some (.inr (v, st1))) : dm_K1 yX4_polish cX4_polish 3 (some .int) rmK0_X4_polish 0 0 [DR (some x), DI a0] st (some (DI v)) st1 := by
  refine dm_k1 (by decide) rfl (Nat.le_of_ble_eq_true rfl) fun Y hC hN hI hE => ?_
  unfold fX4_polish at hf
  refine dm_sub (lv' := [(0, DR (some x)), (1, DI a0)]) ([0, 1]) rfl ?_
  refine r_aload_n (pc := 0) hC dX4_polish_0 rfl 0 rfl ?_
  refine r_iload_n (pc := 1) hC dX4_polish_1 rfl 1 rfl ?_
  obtain ⟨b1, gb1, hf⟩ := ob hf
  rcases xb hf with ⟨eq2, _, hrq2⟩ | ⟨q2, eq2, hf⟩
  · cases hrq2
  refine r_callV (pc := 2) (As := [DI a0]) (rest := []) (stk' := [DR q2]) (k0_X4_slabAt eq2) gb1 rfl hC wd_1_81 wd_1_83 wd_s_0 wd_1_84 wd_1_1 md_X4_slabAt rfl ⟨rfl, rfl, Nat.le_of_ble_eq_true rfl, Nat.le_of_ble_eq_true rfl, Nat.le_of_ble_eq_true rfl, Nat.le_of_ble_eq_true rfl⟩ dX4_polish_2 rfl (Nat.le_of_ble_eq_true rfl) rfl ?_
  refine r_astore_n (pc := 5) (lv' := [(2, DR q2), (0, DR (some x)), (1, DI a0)]) hC hN dX4_polish_5 rfl (by decide) rfl ?_
  refine r_aload_n (pc := 6) hC dX4_polish_6 rfl 0 rfl ?_
  refine r_aload_n (pc := 7) hC dX4_polish_7 rfl 0 rfl ?_
  obtain ⟨b3, gb3, hf⟩ := ob hf
  obtain ⟨q4, eq4, hf⟩ := ob hf
  refine r_callV (pc := 8) (As := []) (rest := [DR q2]) (stk' := [DI q4, DR q2]) (k1_X3_bloomBehindPolish eq4) gb3 rfl hC wd_1_157 wd_1_158 wd_1_159 wd_1_160 wd_1_13 md_X3_bloomBehindPolish rfl ⟨rfl, rfl, Nat.le_of_ble_eq_true rfl, Nat.le_of_ble_eq_true rfl, Nat.le_of_ble_eq_true rfl, Nat.le_of_ble_eq_true rfl⟩ dX4_polish_8 rfl (Nat.le_of_ble_eq_true rfl) rfl ?_
  obtain ⟨s5, es5, hf⟩ := ob hf
  refine r_put (pc := 11) CF3 (k := 3) hC (by decide) wd_2_201 rfl ⟨rfl, rfl⟩ dX4_polish_11 es5 ?_
  refine r_aload_n (pc := 14) hC dX4_polish_14 rfl 0 rfl ?_
  obtain ⟨v6, ev6, hf⟩ := ob hf
  refine r_getI (pc := 15) CF3 (k := 3) hC (by decide) wd_2_201 dX4_polish_15 ev6 ?_
  exact r_iret (pc := 18) hE hC (f0xI hf) ⟨Nat.le_of_ble_eq_true rfl, Nat.le_of_ble_eq_true rfl⟩ dX4_polish_18
abbrev rmK0_X4_split : Room := { frames := 3, cells := 1, slots := 5, locals := 58 }
set_option maxRecDepth 100000 in
set_option maxHeartbeats 4000000 in
theorem k0_X4_split {st : DSt} {x : Nat} {a0 : Int32} {a1 : Int32} {a2 : Int32} {v : Int32} {st1 : DSt} (hf : fX4_split st x a0 a1 a2 = some (.inr (v, st1))) : dm_K1 yX4_split cX4_split 7 (some .int) rmK0_X4_split 1 5 [DR (some x), DI a0, DI a1, DI a2] st (some (DI v)) st1 := by
  refine dm_k1 (by decide) rfl (Nat.le_of_ble_eq_true rfl) fun Y hC hN hI hE => ?_
  unfold fX4_split at hf
  refine dm_sub (lv' := [(0, DR (some x)), (1, DI a0), (2, DI a1), (3, DI a2)]) ([0, 1, 2, 3]) rfl ?_
  refine r_aload_n (pc := 0) hC dX4_split_0 rfl 0 rfl ?_
  refine r_iload_n (pc := 1) hC dX4_split_1 rfl 1 rfl ?_
  obtain ⟨b1, gb1, hf⟩ := ob hf
  rcases xb hf with ⟨eq2, _, hrq2⟩ | ⟨q2, eq2, hf⟩
  · cases hrq2
  refine r_callV (pc := 2) (As := [DI a0]) (rest := []) (stk' := [DR q2]) (k0_X4_slabAt eq2) gb1 rfl hC wd_1_81 wd_1_83 wd_s_0 wd_1_84 wd_1_1 md_X4_slabAt rfl ⟨rfl, rfl, Nat.le_of_ble_eq_true rfl, Nat.le_of_ble_eq_true rfl, Nat.le_of_ble_eq_true rfl, Nat.le_of_ble_eq_true rfl⟩ dX4_split_2 rfl (Nat.le_of_ble_eq_true rfl) rfl ?_
  refine r_astore (pc := 5) (lv' := [(4, DR q2), (0, DR (some x)), (1, DI a0), (2, DI a1), (3, DI a2)]) hC hN dX4_split_5 (by decide) rfl ?_
  refine r_iload_n (pc := 7) hC dX4_split_7 rfl 4 rfl ?_
  refine r_if_eq (pc := 8) (tgt := 19) hC dX4_split_8 (by decide) (fun c21 => ?_) (fun c21 => ?_)
  · replace hf := oi_t c21 hf
    refine r_aload (pc := 19) hC dX4_split_19 0 rfl ?_
    obtain ⟨v3, ev3, hf⟩ := ob hf
    refine r_getI (pc := 21) CF3 (k := 1) hC (by decide) wd_2_196 dX4_split_21 ev3 ?_
    refine r_istore (pc := 24) (lv' := [(5, DI v3), (4, DR q2), (0, DR (some x)), (1, DI a0), (2, DI a1), (3, DI a2)]) hC hN dX4_split_24 (by decide) rfl ?_
    refine r_iload_n (pc := 26) hC dX4_split_26 rfl 4 rfl ?_
    refine r_iconst (pc := 27) (v := 1) hC dX4_split_27 (by decide) ?_
    refine r_icmp_lt (pc := 28) (tgt := 37) hC dX4_split_28 (by decide) (fun c11 => ?_) (fun c11 => ?_)
    · replace hf := oi_t c11 hf
      cases hf
    · replace hf := oi_f c11 hf
      refine r_iload_n (pc := 31) hC dX4_split_31 rfl 4 rfl ?_
      refine r_iload (pc := 32) hC dX4_split_32 0 rfl ?_
      refine r_icmp_lt (pc := 34) (tgt := 47) hC dX4_split_34 (by decide) (fun c10 => ?_) (fun c10 => ?_)
      · replace hf := oi_t c10 hf
        refine r_aload_n (pc := 47) hC dX4_split_47 rfl 2 rfl ?_
        refine r_aload (pc := 48) hC dX4_split_48 1 rfl ?_
        refine r_iload_n (pc := 50) hC dX4_split_50 rfl 4 rfl ?_
        refine r_iload_n (pc := 51) hC dX4_split_51 rfl 5 rfl ?_
        obtain ⟨b4, gb4, hf⟩ := ob hf
        obtain ⟨q5, eq5, hf⟩ := ob hf
        refine r_callV (pc := 52) (As := [DI a1, DI a2]) (rest := [DR (some x)]) (stk' := [DR q5.1, DR (some x)]) (k1_X3_partBehind eq5) gb4 rfl hC wd_3_90 wd_3_91 wd_3_92 wd_3_93 wd_1_13 md_X3_partBehind rfl ⟨rfl, rfl, Nat.le_of_ble_eq_true rfl, Nat.le_of_ble_eq_true rfl, Nat.le_of_ble_eq_true rfl, Nat.le_of_ble_eq_true rfl⟩ dX4_split_52 rfl (Nat.le_of_ble_eq_true rfl) rfl ?_
        obtain ⟨b6, gb6, hf⟩ := ob hf
        rcases xb hf with ⟨eq7, _, hrq7⟩ | ⟨q7, eq7, hf⟩
        · cases hrq7
        refine r_callV (pc := 55) (As := [DR q5.1]) (rest := []) (stk' := [DI q7.1]) (k0_X4_addSlab eq7) gb6 rfl hC wd_2_221 wd_2_223 wd_s_10 wd_2_224 wd_1_1 md_X4_addSlab rfl ⟨rfl, rfl, Nat.le_of_ble_eq_true rfl, Nat.le_of_ble_eq_true rfl, Nat.le_of_ble_eq_true rfl, Nat.le_of_ble_eq_true rfl⟩ dX4_split_55 rfl (Nat.le_of_ble_eq_true rfl) rfl ?_
        refine r_istore (pc := 58) (lv' := [(6, DI q7.1), (5, DI v3), (4, DR q2), (0, DR (some x)), (1, DI a0), (2, DI a1), (3, DI a2)]) hC hN dX4_split_58 (by decide) rfl ?_
        refine r_aload (pc := 60) hC dX4_split_60 2 rfl ?_
        refine r_iload_n (pc := 62) hC dX4_split_62 rfl 5 rfl ?_
        refine r_iload_n (pc := 63) hC dX4_split_63 rfl 6 rfl ?_
        obtain ⟨b8, gb8, hf⟩ := ob hf
        obtain ⟨q9, eq9, hf⟩ := ob hf
        refine r_callV (pc := 64) (As := [DI a1, DI a2]) (rest := []) (stk' := []) (k1_X3_cutDownTo eq9) gb8 rfl hC wd_3_96 wd_3_97 wd_3_98 wd_3_99 wd_1_13 md_X3_cutDownTo rfl ⟨rfl, rfl, Nat.le_of_ble_eq_true rfl, Nat.le_of_ble_eq_true rfl, Nat.le_of_ble_eq_true rfl, Nat.le_of_ble_eq_true rfl⟩ dX4_split_64 rfl (Nat.le_of_ble_eq_true rfl) rfl ?_
        refine r_iload (pc := 67) hC dX4_split_67 0 rfl ?_
        exact r_iret (pc := 69) hE hC (f0xI hf) ⟨Nat.le_of_ble_eq_true rfl, Nat.le_of_ble_eq_true rfl⟩ dX4_split_69
      · replace hf := oi_f c10 hf
        cases hf
  · replace hf := oi_f c21 hf
    refine r_aload (pc := 11) hC dX4_split_11 0 rfl ?_
    obtain ⟨v12, ev12, hf⟩ := ob hf
    refine r_getI (pc := 13) CF3 (k := 2) hC (by decide) wd_2_198 dX4_split_13 ev12 ?_
    refine r_goto (pc := 16) (tgt := 24) hC dX4_split_16 (by decide) ?_
    refine r_istore (pc := 24) (lv' := [(5, DI v12), (4, DR q2), (0, DR (some x)), (1, DI a0), (2, DI a1), (3, DI a2)]) hC hN dX4_split_24 (by decide) rfl ?_
    refine r_iload_n (pc := 26) hC dX4_split_26 rfl 4 rfl ?_
    refine r_iconst (pc := 27) (v := 1) hC dX4_split_27 (by decide) ?_
    refine r_icmp_lt (pc := 28) (tgt := 37) hC dX4_split_28 (by decide) (fun c20 => ?_) (fun c20 => ?_)
    · replace hf := oi_t c20 hf
      cases hf
    · replace hf := oi_f c20 hf
      refine r_iload_n (pc := 31) hC dX4_split_31 rfl 4 rfl ?_
      refine r_iload (pc := 32) hC dX4_split_32 0 rfl ?_
      refine r_icmp_lt (pc := 34) (tgt := 47) hC dX4_split_34 (by decide) (fun c19 => ?_) (fun c19 => ?_)
      · replace hf := oi_t c19 hf
        refine r_aload_n (pc := 47) hC dX4_split_47 rfl 2 rfl ?_
        refine r_aload (pc := 48) hC dX4_split_48 1 rfl ?_
        refine r_iload_n (pc := 50) hC dX4_split_50 rfl 4 rfl ?_
        refine r_iload_n (pc := 51) hC dX4_split_51 rfl 5 rfl ?_
        obtain ⟨b13, gb13, hf⟩ := ob hf
        obtain ⟨q14, eq14, hf⟩ := ob hf
        refine r_callV (pc := 52) (As := [DI a1, DI a2]) (rest := [DR (some x)]) (stk' := [DR q14.1, DR (some x)]) (k1_X3_partBehind eq14) gb13 rfl hC wd_3_90 wd_3_91 wd_3_92 wd_3_93 wd_1_13 md_X3_partBehind rfl ⟨rfl, rfl, Nat.le_of_ble_eq_true rfl, Nat.le_of_ble_eq_true rfl, Nat.le_of_ble_eq_true rfl, Nat.le_of_ble_eq_true rfl⟩ dX4_split_52 rfl (Nat.le_of_ble_eq_true rfl) rfl ?_
        obtain ⟨b15, gb15, hf⟩ := ob hf
        rcases xb hf with ⟨eq16, _, hrq16⟩ | ⟨q16, eq16, hf⟩
        · cases hrq16
        refine r_callV (pc := 55) (As := [DR q14.1]) (rest := []) (stk' := [DI q16.1]) (k0_X4_addSlab eq16) gb15 rfl hC wd_2_221 wd_2_223 wd_s_10 wd_2_224 wd_1_1 md_X4_addSlab rfl ⟨rfl, rfl, Nat.le_of_ble_eq_true rfl, Nat.le_of_ble_eq_true rfl, Nat.le_of_ble_eq_true rfl, Nat.le_of_ble_eq_true rfl⟩ dX4_split_55 rfl (Nat.le_of_ble_eq_true rfl) rfl ?_
        refine r_istore (pc := 58) (lv' := [(6, DI q16.1), (5, DI v12), (4, DR q2), (0, DR (some x)), (1, DI a0), (2, DI a1), (3, DI a2)]) hC hN dX4_split_58 (by decide) rfl ?_
        refine r_aload (pc := 60) hC dX4_split_60 2 rfl ?_
        refine r_iload_n (pc := 62) hC dX4_split_62 rfl 5 rfl ?_
        refine r_iload_n (pc := 63) hC dX4_split_63 rfl 6 rfl ?_
        obtain ⟨b17, gb17, hf⟩ := ob hf
        obtain ⟨q18, eq18, hf⟩ := ob hf
        refine r_callV (pc := 64) (As := [DI a1, DI a2]) (rest := []) (stk' := []) (k1_X3_cutDownTo eq18) gb17 rfl hC wd_3_96 wd_3_97 wd_3_98 wd_3_99 wd_1_13 md_X3_cutDownTo rfl ⟨rfl, rfl, Nat.le_of_ble_eq_true rfl, Nat.le_of_ble_eq_true rfl, Nat.le_of_ble_eq_true rfl, Nat.le_of_ble_eq_true rfl⟩ dX4_split_64 rfl (Nat.le_of_ble_eq_true rfl) rfl ?_
        refine r_iload (pc := 67) hC dX4_split_67 0 rfl ?_
        exact r_iret (pc := 69) hE hC (f0xI hf) ⟨Nat.le_of_ble_eq_true rfl, Nat.le_of_ble_eq_true rfl⟩ dX4_split_69
      · replace hf := oi_f c19 hf
        cases hf
abbrev rmK1_X4_closeGaps : Room := { frames := 0, cells := 0, slots := 0, locals := 0 }
set_option maxRecDepth 100000 in
set_option maxHeartbeats 4000000 in
theorem k1_X4_closeGaps {st : DSt} {x : Nat} {st1 : DSt} (hf : fX4_closeGaps st x = some st1) : dm_K1 yX4_closeGaps cX4_closeGaps 4 none rmK1_X4_closeGaps 0 0 [DR (some x)] st none st1 := by
  refine dm_k1 (by decide) rfl (Nat.le_of_ble_eq_true rfl) fun Y hC hN hI hE => ?_
  unfold fX4_closeGaps at hf
  refine dm_sub (lv' := [(0, DR (some x))]) ([0]) rfl ?_
  refine r_iconst (pc := 0) (v := 0) hC dX4_closeGaps_0 (by decide) ?_
  refine r_istore_n (pc := 1) (lv' := [(1, DI 0), (0, DR (some x))]) hC hN dX4_closeGaps_1 rfl (by decide) rfl ?_
  refine r_iconst (pc := 2) (v := 0) hC dX4_closeGaps_2 (by decide) ?_
  refine r_istore_n (pc := 3) (lv' := [(2, DI 0), (1, DI 0), (0, DR (some x))]) hC hN dX4_closeGaps_3 rfl (by decide) rfl ?_
  obtain ⟨b1, eb1, hf⟩ := ob hf
  refine dm_sub (lv' := [(0, DR (some x)), (1, DI 0), (2, DI 0)]) [2, 1, 0] rfl ?_
  refine dlp_W _ (fun (z1 : DSt × Int32 × Int32) => dm_W Y 0 0 z1.1 4 [(0, DR (some x)), (1, DI z1.2.1), (2, DI z1.2.2)] []) (fun (b1 : DSt × Int32 × Int32) => dm_W Y 0 0 b1.1 44 [(0, DR (some x)), (1, DI b1.2.1), (2, DI b1.2.2)] []) ?_ eb1 ?_
  · intro z1 r hf hk
    unfold fX4_closeGaps_L4 at hf
    refine r_iload_n (pc := 4) hC dX4_closeGaps_4 rfl 2 rfl ?_
    refine r_bipush (pc := 5) (v := 8) hC dX4_closeGaps_5 (by decide) ?_
    refine r_icmp_ge (pc := 7) (tgt := 44) hC dX4_closeGaps_7 (by decide) (fun c10 => ?_) (fun c10 => ?_)
    · replace hf := oi_t c10 hf
      cases hf
      exact dm_sub [0, 1, 2] rfl hk
    · replace hf := oi_f c10 hf
      refine r_aload_n (pc := 10) hC dX4_closeGaps_10 rfl 0 rfl ?_
      obtain ⟨v2, ev2, hf⟩ := ob hf
      refine r_getR (pc := 11) CF4 (k := 1) hC (by decide) wd_1_43 dX4_closeGaps_11 ev2 ?_
      refine r_iload_n (pc := 14) hC dX4_closeGaps_14 rfl 2 rfl ?_
      obtain ⟨v3, ev3, hf⟩ := ob hf
      refine r_aaload (pc := 15) (kd := 3) (fun _ => rfl) hC dX4_closeGaps_15 ev3 ?_
      refine r_astore_n (pc := 16) (lv' := [(3, DR v3), (0, DR (some x)), (1, DI z1.2.1), (2, DI z1.2.2)]) hC hN dX4_closeGaps_16 rfl (by decide) rfl ?_
      refine r_aload_n (pc := 17) hC dX4_closeGaps_17 rfl 1 rfl ?_
      obtain ⟨v4, ev4, hf⟩ := ob hf
      refine r_getR (pc := 18) CF4 (k := 1) hC (by decide) wd_1_43 dX4_closeGaps_18 ev4 ?_
      refine r_iload_n (pc := 21) hC dX4_closeGaps_21 rfl 3 rfl ?_
      refine r_null (pc := 22) hC dX4_closeGaps_22 ?_
      obtain ⟨s5, es5, hf⟩ := ob hf
      refine r_aastore (pc := 23) (kd := 3) (ci := 3) (fun _ => rfl) rfl hC dX4_closeGaps_23 es5 ?_
      refine r_aload_n (pc := 24) hC dX4_closeGaps_24 rfl 0 rfl ?_
      refine r_ifnull (pc := 25) (tgt := 38) hC dX4_closeGaps_25 (by decide) (fun c6 => ?_) (fun n7 c6 => ?_)
      · subst c6
        refine r_iinc (pc := 38) (pos := 3) (v := (z1.2.2 + 1)) (lv' := [(2, DI (z1.2.2 + 1)), (3, DR none), (0, DR (some x)), (1, DI z1.2.1)]) hC hN dX4_closeGaps_38 rfl rfl (by decide) rfl ?_
        refine r_goto (pc := 41) (tgt := 4) hC dX4_closeGaps_41 (by decide) ?_
        cases hf
        exact dm_sub [2, 3, 0] rfl hk
      · subst c6
        refine r_aload_n (pc := 28) hC dX4_closeGaps_28 rfl 1 rfl ?_
        obtain ⟨v8, ev8, hf⟩ := ob hf
        refine r_getR (pc := 29) CF4 (k := 1) hC (by decide) wd_1_43 dX4_closeGaps_29 ev8 ?_
        refine r_iload_n (pc := 32) hC dX4_closeGaps_32 rfl 2 rfl ?_
        refine r_aload_n (pc := 33) hC dX4_closeGaps_33 rfl 0 rfl ?_
        obtain ⟨s9, es9, hf⟩ := ob hf
        refine r_aastore (pc := 34) (kd := 3) (ci := 3) (fun _ => rfl) rfl hC dX4_closeGaps_34 es9 ?_
        refine r_iinc (pc := 35) (pos := 2) (v := (z1.2.1 + 1)) (lv' := [(1, DI (z1.2.1 + 1)), (3, DR (some n7)), (0, DR (some x)), (2, DI z1.2.2)]) hC hN dX4_closeGaps_35 rfl rfl (by decide) rfl ?_
        refine r_iinc (pc := 38) (pos := 3) (v := (z1.2.2 + 1)) (lv' := [(2, DI (z1.2.2 + 1)), (1, DI (z1.2.1 + 1)), (3, DR (some n7)), (0, DR (some x))]) hC hN dX4_closeGaps_38 rfl rfl (by decide) rfl ?_
        refine r_goto (pc := 41) (tgt := 4) hC dX4_closeGaps_41 (by decide) ?_
        cases hf
        exact dm_sub [3, 1, 0] rfl hk
  · refine r_aload_n (pc := 44) hC dX4_closeGaps_44 rfl 0 rfl ?_
    refine r_iload_n (pc := 45) hC dX4_closeGaps_45 rfl 1 rfl ?_
    obtain ⟨s11, es11, hf⟩ := ob hf
    refine r_put (pc := 46) CF4 (k := 4) hC (by decide) wd_1_46 rfl ⟨rfl, rfl⟩ dX4_closeGaps_46 es11 ?_
    exact r_vret (pc := 49) hE hC (f1xV hf) ⟨Nat.le_of_ble_eq_true rfl, Nat.le_of_ble_eq_true rfl⟩ dX4_closeGaps_49
abbrev rmK0_X4_melt : Room := { frames := 2, cells := 0, slots := 0, locals := 43 }
set_option maxRecDepth 100000 in
set_option maxHeartbeats 4000000 in
theorem k0_X4_melt {st : DSt} {x : Nat} {a0 : Int32} {a1 : Int32} {v : Int32} {st1 : DSt} (hf : fX4_melt st x a0 a1 = some (.inr (v, st1))) : dm_K1 yX4_melt cX4_melt 5 (some .int) rmK0_X4_melt 0 0 [DR (some x), DI a0, DI a1] st (some (DI v)) st1 := by
  refine dm_k1 (by decide) rfl (Nat.le_of_ble_eq_true rfl) fun Y hC hN hI hE => ?_
  unfold fX4_melt at hf
  refine dm_sub (lv' := [(0, DR (some x)), (1, DI a0), (2, DI a1)]) ([0, 1, 2]) rfl ?_
  refine r_aload_n (pc := 0) hC dX4_melt_0 rfl 0 rfl ?_
  refine r_iload_n (pc := 1) hC dX4_melt_1 rfl 1 rfl ?_
  obtain ⟨b1, gb1, hf⟩ := ob hf
  rcases xb hf with ⟨eq2, _, hrq2⟩ | ⟨q2, eq2, hf⟩
  · cases hrq2
  refine r_callV (pc := 2) (As := [DI a0]) (rest := []) (stk' := [DR q2]) (k0_X4_slabAt eq2) gb1 rfl hC wd_1_81 wd_1_83 wd_s_0 wd_1_84 wd_1_1 md_X4_slabAt rfl ⟨rfl, rfl, Nat.le_of_ble_eq_true rfl, Nat.le_of_ble_eq_true rfl, Nat.le_of_ble_eq_true rfl, Nat.le_of_ble_eq_true rfl⟩ dX4_melt_2 rfl (Nat.le_of_ble_eq_true rfl) rfl ?_
  obtain ⟨b3, gb3, hf⟩ := ob hf
  obtain ⟨q4, eq4, hf⟩ := ob hf
  refine r_callV (pc := 5) (As := []) (rest := []) (stk' := [DI q4]) (k1_X3_grams eq4) gb3 rfl hC wd_2_215 wd_2_216 wd_2_217 wd_2_218 wd_1_13 md_X3_grams rfl ⟨rfl, rfl, Nat.le_of_ble_eq_true rfl, Nat.le_of_ble_eq_true rfl, Nat.le_of_ble_eq_true rfl, Nat.le_of_ble_eq_true rfl⟩ dX4_melt_5 rfl (Nat.le_of_ble_eq_true rfl) rfl ?_
  refine r_istore_n (pc := 8) (lv' := [(3, DI q4), (0, DR (some x)), (1, DI a0), (2, DI a1)]) hC hN dX4_melt_8 rfl (by decide) rfl ?_
  refine r_aload_n (pc := 9) hC dX4_melt_9 rfl 1 rfl ?_
  refine r_iload_n (pc := 10) hC dX4_melt_10 rfl 3 rfl ?_
  obtain ⟨b5, gb5, hf⟩ := ob hf
  rcases xb hf with ⟨eq6, _, hrq6⟩ | ⟨q6, eq6, hf⟩
  · cases hrq6
  refine r_callV (pc := 11) (As := [DI a1]) (rest := []) (stk' := [DR q6]) (k0_X4_bowlAt eq6) gb5 rfl hC wd_1_168 wd_1_170 wd_s_3 wd_1_171 wd_1_1 md_X4_bowlAt rfl ⟨rfl, rfl, Nat.le_of_ble_eq_true rfl, Nat.le_of_ble_eq_true rfl, Nat.le_of_ble_eq_true rfl, Nat.le_of_ble_eq_true rfl⟩ dX4_melt_11 rfl (Nat.le_of_ble_eq_true rfl) rfl ?_
  refine r_astore (pc := 14) (lv' := [(4, DR q6), (3, DI q4), (0, DR (some x)), (1, DI a0), (2, DI a1)]) hC hN dX4_melt_14 (by decide) rfl ?_
  refine r_aload (pc := 16) hC dX4_melt_16 0 rfl ?_
  obtain ⟨v7, ev7, hf⟩ := ob hf
  refine r_getI (pc := 18) CF0 (k := 1) hC (by decide) wd_2_97 dX4_melt_18 ev7 ?_
  refine r_iload_n (pc := 21) hC dX4_melt_21 rfl 1 rfl ?_
  refine r_iadd (pc := 22) hC dX4_melt_22 ?_
  refine r_sipush (pc := 23) (v := 2000) hC dX4_melt_23 (by decide) ?_
  refine r_icmp_le (pc := 26) (tgt := 39) hC dX4_melt_26 (by decide) (fun c15 => ?_) (fun c15 => ?_)
  · replace hf := oi_t c15 hf
    refine r_aload (pc := 39) hC dX4_melt_39 0 rfl ?_
    refine r_dup (pc := 41) hC dX4_melt_41 rfl ?_
    obtain ⟨v8, ev8, hf⟩ := ob hf
    refine r_getI (pc := 42) CF0 (k := 1) hC (by decide) wd_2_97 dX4_melt_42 ev8 ?_
    refine r_iload_n (pc := 45) hC dX4_melt_45 rfl 1 rfl ?_
    refine r_iadd (pc := 46) hC dX4_melt_46 ?_
    obtain ⟨s9, es9, hf⟩ := ob hf
    refine r_put (pc := 47) CF0 (k := 1) hC (by decide) wd_2_97 rfl ⟨rfl, rfl⟩ dX4_melt_47 es9 ?_
    refine r_aload_n (pc := 50) hC dX4_melt_50 rfl 2 rfl ?_
    obtain ⟨v10, ev10, hf⟩ := ob hf
    refine r_getR (pc := 51) CF4 (k := 1) hC (by decide) wd_1_43 dX4_melt_51 ev10 ?_
    refine r_iload_n (pc := 54) hC dX4_melt_54 rfl 3 rfl ?_
    refine r_null (pc := 55) hC dX4_melt_55 ?_
    obtain ⟨s11, es11, hf⟩ := ob hf
    refine r_aastore (pc := 56) (kd := 3) (ci := 3) (fun _ => rfl) rfl hC dX4_melt_56 es11 ?_
    refine r_aload_n (pc := 57) hC dX4_melt_57 rfl 2 rfl ?_
    obtain ⟨b12, gb12, hf⟩ := ob hf
    obtain ⟨q13, eq13, hf⟩ := ob hf
    refine r_callV (pc := 58) (As := []) (rest := []) (stk' := []) (k1_X4_closeGaps eq13) gb12 rfl hC wd_3_38 wd_3_40 wd_s_14 wd_3_41 wd_1_1 md_X4_closeGaps rfl ⟨rfl, rfl, Nat.le_of_ble_eq_true rfl, Nat.le_of_ble_eq_true rfl, Nat.le_of_ble_eq_true rfl, Nat.le_of_ble_eq_true rfl⟩ dX4_melt_58 rfl (Nat.le_of_ble_eq_true rfl) rfl ?_
    refine r_aload (pc := 61) hC dX4_melt_61 0 rfl ?_
    obtain ⟨v14, ev14, hf⟩ := ob hf
    refine r_getI (pc := 63) CF0 (k := 1) hC (by decide) wd_2_97 dX4_melt_63 ev14 ?_
    exact r_iret (pc := 66) hE hC (f0xI hf) ⟨Nat.le_of_ble_eq_true rfl, Nat.le_of_ble_eq_true rfl⟩ dX4_melt_66
  · replace hf := oi_f c15 hf
    cases hf
abbrev rmK0_X4_box : Room := { frames := 2, cells := 1, slots := 5, locals := 34 }
set_option maxRecDepth 100000 in
set_option maxHeartbeats 4000000 in
theorem k0_X4_box {st : DSt} {x : Nat} {a0 : Int32} {a1 : Int32} {v : Int32} {st1 : DSt} (hf : fX4_box st x a0 a1 = some (.inr (v, st1))) : dm_K1 yX4_box cX4_box 4 (some .int) rmK0_X4_box 1 5 [DR (some x), DI a0, DI a1] st (some (DI v)) st1 := by
  refine dm_k1 (by decide) rfl (Nat.le_of_ble_eq_true rfl) fun Y hC hN hI hE => ?_
  unfold fX4_box at hf
  refine dm_sub (lv' := [(0, DR (some x)), (1, DI a0), (2, DI a1)]) ([0, 1, 2]) rfl ?_
  refine r_iload_n (pc := 0) hC dX4_box_0 rfl 1 rfl ?_
  refine r_iconst (pc := 1) (v := 1) hC dX4_box_1 (by decide) ?_
  refine r_icmp_lt (pc := 2) (tgt := 21) hC dX4_box_2 (by decide) (fun c11 => ?_) (fun c11 => ?_)
  · replace hf := oi_t c11 hf
    cases hf
  · replace hf := oi_f c11 hf
    refine r_iload_n (pc := 5) hC dX4_box_5 rfl 1 rfl ?_
    refine r_bipush (pc := 6) (v := 36) hC dX4_box_6 (by decide) ?_
    refine r_icmp_gt (pc := 8) (tgt := 21) hC dX4_box_8 (by decide) (fun c10 => ?_) (fun c10 => ?_)
    · replace hf := oi_t c10 hf
      cases hf
    · replace hf := oi_f c10 hf
      refine r_iload_n (pc := 11) hC dX4_box_11 rfl 2 rfl ?_
      refine r_if_lt (pc := 12) (tgt := 21) hC dX4_box_12 (by decide) (fun c9 => ?_) (fun c9 => ?_)
      · replace hf := oi_t c9 hf
        cases hf
      · replace hf := oi_f c9 hf
        refine r_iload_n (pc := 15) hC dX4_box_15 rfl 2 rfl ?_
        refine r_bipush (pc := 16) (v := 100) hC dX4_box_16 (by decide) ?_
        refine r_icmp_le (pc := 18) (tgt := 31) hC dX4_box_18 (by decide) (fun c8 => ?_) (fun c8 => ?_)
        · replace hf := oi_t c8 hf
          refine r_aload_n (pc := 31) hC dX4_box_31 rfl 0 rfl ?_
          obtain ⟨v1, ev1, hf⟩ := ob hf
          refine r_getI (pc := 32) CF4 (k := 5) hC (by decide) wd_1_47 dX4_box_32 ev1 ?_
          refine r_istore_n (pc := 35) (lv' := [(3, DI v1), (0, DR (some x)), (1, DI a0), (2, DI a1)]) hC hN dX4_box_35 rfl (by decide) rfl ?_
          refine r_iload_n (pc := 36) hC dX4_box_36 rfl 0 rfl ?_
          refine r_bipush (pc := 37) (v := 6) hC dX4_box_37 (by decide) ?_
          refine r_icmp_lt (pc := 39) (tgt := 52) hC dX4_box_39 (by decide) (fun c7 => ?_) (fun c7 => ?_)
          · replace hf := oi_t c7 hf
            refine r_aload_n (pc := 52) hC dX4_box_52 rfl 1 rfl ?_
            obtain ⟨v2, ev2, hf⟩ := ob hf
            refine r_getR (pc := 53) CF4 (k := 2) hC (by decide) wd_1_44 dX4_box_53 ev2 ?_
            refine r_iload_n (pc := 56) hC dX4_box_56 rfl 0 rfl ?_
            obtain ⟨s3, es3, hf⟩ := ob hf
            refine r_new (pc := 57) CF1 (fs := [DI 0, DI 0, DI 0, DI 0, DI 0]) hC wd_1_27 wd_2_232 wd_1_14 (fun j hj => by rcases (show j = 0 ∨ j = 1 ∨ j = 2 ∨ j = 3 ∨ j = 4 by omega) with rfl | rfl | rfl | rfl | rfl <;> rfl) ⟨Nat.le_of_ble_eq_true rfl, Nat.le_of_ble_eq_true rfl⟩ dX4_box_57 ?_
            rw [Option.some.inj es3]
            refine r_dup (pc := 60) hC dX4_box_60 rfl ?_
            refine r_iload_n (pc := 61) hC dX4_box_61 rfl 2 rfl ?_
            refine r_iload_n (pc := 62) hC dX4_box_62 rfl 3 rfl ?_
            obtain ⟨q4, eq4, hf⟩ := ob hf
            refine r_callI (pc := 63) (As := [DI a0, DI a1]) (rest := [DR (some st.1), DI v1, DR v2]) (stk' := [DR (some st.1), DI v1, DR v2]) (k1_X1_init eq4) hC wd_2_233 wd_2_234 rfl wd_2_235 wd_1_14 md_X1_init rfl ⟨rfl, rfl, Nat.le_of_ble_eq_true rfl, Nat.le_of_ble_eq_true rfl, Nat.le_of_ble_eq_true rfl, Nat.le_of_ble_eq_true rfl⟩ dX4_box_63 rfl (Nat.le_of_ble_eq_true rfl) rfl ?_
            obtain ⟨s5, es5, hf⟩ := ob hf
            refine r_aastore (pc := 66) (kd := 4) (ci := 1) (fun _ => rfl) rfl hC dX4_box_66 es5 ?_
            refine r_aload_n (pc := 67) hC dX4_box_67 rfl 1 rfl ?_
            refine r_iload_n (pc := 68) hC dX4_box_68 rfl 0 rfl ?_
            refine r_iconst (pc := 69) (v := 1) hC dX4_box_69 (by decide) ?_
            refine r_iadd (pc := 70) hC dX4_box_70 ?_
            obtain ⟨s6, es6, hf⟩ := ob hf
            refine r_put (pc := 71) CF4 (k := 5) hC (by decide) wd_1_47 rfl ⟨rfl, rfl⟩ dX4_box_71 es6 ?_
            refine r_iload_n (pc := 74) hC dX4_box_74 rfl 0 rfl ?_
            exact r_iret (pc := 75) hE hC (f0xI hf) ⟨Nat.le_of_ble_eq_true rfl, Nat.le_of_ble_eq_true rfl⟩ dX4_box_75
          · replace hf := oi_f c7 hf
            cases hf
        · replace hf := oi_f c8 hf
          cases hf
abbrev rmK1_X4_planSlab : Room := { frames := 2, cells := 0, slots := 0, locals := 42 }
set_option maxRecDepth 100000 in
set_option maxHeartbeats 4000000 in
theorem k1_X4_planSlab {st : DSt} {x : Nat} {a0 : Option Nat} {a1 : Int32} {v : Int32} {st1 : DSt} (hf : fX4_planSlab st x a0 a1 = some (v, st1)) : dm_K1 yX4_planSlab cX4_planSlab 6 (some .int) rmK1_X4_planSlab 0 0 [DR (some x), DR a0, DI a1] st (some (DI v)) st1 := by
  refine dm_k1 (by decide) rfl (Nat.le_of_ble_eq_true rfl) fun Y hC hN hI hE => ?_
  unfold fX4_planSlab at hf
  refine dm_sub (lv' := [(0, DR (some x)), (1, DR a0), (2, DI a1)]) ([0, 1, 2]) rfl ?_
  refine r_iconst (pc := 0) (v := 0) hC dX4_planSlab_0 (by decide) ?_
  refine r_istore_n (pc := 1) (lv' := [(3, DI 0), (0, DR (some x)), (1, DR a0), (2, DI a1)]) hC hN dX4_planSlab_1 rfl (by decide) rfl ?_
  obtain ⟨b1, eb1, hf⟩ := ob hf
  refine dm_sub (lv' := [(0, DR (some x)), (1, DR a0), (2, DI a1), (3, DI 0)]) [1, 2, 3, 0] rfl ?_
  refine dlp_W _ (fun (z1 : DSt × Int32) => dm_W Y 0 0 z1.1 2 [(0, DR (some x)), (1, DR a0), (2, DI a1), (3, DI z1.2)] []) (fun (b1 : (DSt × Int32) ⊕ (Int32 × DSt)) => match b1 with | .inl yb1 => dm_W Y 0 0 yb1.1 76 [(0, DR (some x)), (1, DR a0), (2, DI a1), (3, DI yb1.2)] [] | .inr r9 => some r9 = some (v, st1)) ?_ eb1 ?_
  · intro z1 r hf hk
    unfold fX4_planSlab_L2 at hf
    refine r_iload_n (pc := 2) hC dX4_planSlab_2 rfl 3 rfl ?_
    refine r_bipush (pc := 3) (v := 8) hC dX4_planSlab_3 (by decide) ?_
    refine r_icmp_ge (pc := 5) (tgt := 76) hC dX4_planSlab_5 (by decide) (fun c23 => ?_) (fun c23 => ?_)
    · replace hf := oi_t c23 hf
      cases hf
      exact dm_sub [0, 1, 2, 3] rfl hk
    · replace hf := oi_f c23 hf
      refine r_aload_n (pc := 8) hC dX4_planSlab_8 rfl 0 rfl ?_
      obtain ⟨v2, ev2, hf⟩ := ob hf
      refine r_getR (pc := 9) CF4 (k := 1) hC (by decide) wd_1_43 dX4_planSlab_9 ev2 ?_
      refine r_iload_n (pc := 12) hC dX4_planSlab_12 rfl 3 rfl ?_
      obtain ⟨v3, ev3, hf⟩ := ob hf
      refine r_aaload (pc := 13) (kd := 3) (fun _ => rfl) hC dX4_planSlab_13 ev3 ?_
      refine r_astore (pc := 14) (lv' := [(4, DR v3), (0, DR (some x)), (1, DR a0), (2, DI a1), (3, DI z1.2)]) hC hN dX4_planSlab_14 (by decide) rfl ?_
      refine r_aload (pc := 16) hC dX4_planSlab_16 0 rfl ?_
      refine r_ifnull (pc := 18) (tgt := 70) hC dX4_planSlab_18 (by decide) (fun c4 => ?_) (fun n5 c4 => ?_)
      · subst c4
        refine r_iinc (pc := 70) (pos := 4) (v := (z1.2 + 1)) (lv' := [(3, DI (z1.2 + 1)), (4, DR none), (0, DR (some x)), (1, DR a0), (2, DI a1)]) hC hN dX4_planSlab_70 rfl rfl (by decide) rfl ?_
        refine r_goto (pc := 73) (tgt := 2) hC dX4_planSlab_73 (by decide) ?_
        cases hf
        exact dm_sub [2, 3, 4, 0] rfl hk
      · subst c4
        refine r_aload_n (pc := 21) hC dX4_planSlab_21 rfl 1 rfl ?_
        obtain ⟨v6, ev6, hf⟩ := ob hf
        refine r_getR (pc := 22) CF4 (k := 10) hC (by decide) wd_1_52 dX4_planSlab_22 ev6 ?_
        refine r_iload_n (pc := 25) hC dX4_planSlab_25 rfl 4 rfl ?_
        obtain ⟨v7, ev7, hf⟩ := ob hf
        refine r_zaload (pc := 26) hC dX4_planSlab_26 ev7 ?_
        refine r_if_ne (pc := 27) (tgt := 70) hC dX4_planSlab_27 (by decide) (fun c22 => ?_) (fun c22 => ?_)
        · replace hf := oi_f c22 hf
          refine r_iinc (pc := 70) (pos := 4) (v := (z1.2 + 1)) (lv' := [(3, DI (z1.2 + 1)), (4, DR (some n5)), (0, DR (some x)), (1, DR a0), (2, DI a1)]) hC hN dX4_planSlab_70 rfl rfl (by decide) rfl ?_
          refine r_goto (pc := 73) (tgt := 2) hC dX4_planSlab_73 (by decide) ?_
          cases hf
          exact dm_sub [2, 3, 4, 0] rfl hk
        · replace hf := oi_t c22 hf
          refine r_iload_n (pc := 30) hC dX4_planSlab_30 rfl 4 rfl ?_
          refine r_iload_n (pc := 31) hC dX4_planSlab_31 rfl 3 rfl ?_
          refine r_icmp_ne (pc := 32) (tgt := 43) hC dX4_planSlab_32 (by decide) (fun c21 => ?_) (fun c21 => ?_)
          · replace hf := oi_f c21 hf
            refine r_aload (pc := 43) hC dX4_planSlab_43 0 rfl ?_
            obtain ⟨v8, ev8, hf⟩ := ob hf
            refine r_getI (pc := 45) CF3 (k := 3) hC (by decide) wd_2_201 dX4_planSlab_45 ev8 ?_
            refine r_istore (pc := 48) (lv' := [(5, DI v8), (4, DR (some n5)), (0, DR (some x)), (1, DR a0), (2, DI a1), (3, DI z1.2)]) hC hN dX4_planSlab_48 (by decide) rfl ?_
            refine r_aload_n (pc := 50) hC dX4_planSlab_50 rfl 3 rfl ?_
            refine r_aload (pc := 51) hC dX4_planSlab_51 1 rfl ?_
            refine r_iload (pc := 53) hC dX4_planSlab_53 0 rfl ?_
            obtain ⟨b9, gb9, hf⟩ := ob hf
            obtain ⟨q10, eq10, hf⟩ := ob hf
            refine r_callV (pc := 55) (As := [DR (some n5), DI v8]) (rest := []) (stk' := [DI q10]) (k1_X1_suits eq10) gb9 rfl hC wd_1_197 wd_1_198 wd_1_199 wd_1_200 wd_1_14 md_X1_suits rfl ⟨rfl, rfl, Nat.le_of_ble_eq_true rfl, Nat.le_of_ble_eq_true rfl, Nat.le_of_ble_eq_true rfl, Nat.le_of_ble_eq_true rfl⟩ dX4_planSlab_55 rfl (Nat.le_of_ble_eq_true rfl) rfl ?_
            refine r_if_eq (pc := 58) (tgt := 70) hC dX4_planSlab_58 (by decide) (fun c13 => ?_) (fun c13 => ?_)
            · replace hf := oi_t c13 hf
              refine r_iinc (pc := 70) (pos := 5) (v := (z1.2 + 1)) (lv' := [(3, DI (z1.2 + 1)), (5, DI v8), (4, DR (some n5)), (0, DR (some x)), (1, DR a0), (2, DI a1)]) hC hN dX4_planSlab_70 rfl rfl (by decide) rfl ?_
              refine r_goto (pc := 73) (tgt := 2) hC dX4_planSlab_73 (by decide) ?_
              cases hf
              exact dm_sub [3, 4, 5, 0] rfl hk
            · replace hf := oi_f c13 hf
              refine r_aload_n (pc := 61) hC dX4_planSlab_61 rfl 2 rfl ?_
              obtain ⟨v11, ev11, hf⟩ := ob hf
              refine r_getR (pc := 62) CF4 (k := 10) hC (by decide) wd_1_52 dX4_planSlab_62 ev11 ?_
              refine r_iload_n (pc := 65) hC dX4_planSlab_65 rfl 5 rfl ?_
              refine r_iconst (pc := 66) (v := 1) hC dX4_planSlab_66 (by decide) ?_
              obtain ⟨s12, es12, hf⟩ := ob hf
              refine r_zastore (pc := 67) hC dX4_planSlab_67 es12 ?_
              refine r_iload_n (pc := 68) hC dX4_planSlab_68 rfl 5 rfl ?_
              cases hf
              exact r_iret (pc := 69) hE hC (f1xI hk) ⟨Nat.le_of_ble_eq_true rfl, Nat.le_of_ble_eq_true rfl⟩ dX4_planSlab_69
          · replace hf := oi_t c21 hf
            refine r_aload (pc := 35) hC dX4_planSlab_35 0 rfl ?_
            obtain ⟨b14, gb14, hf⟩ := ob hf
            obtain ⟨q15, eq15, hf⟩ := ob hf
            refine r_callV (pc := 37) (As := []) (rest := []) (stk' := [DI q15]) (k1_X3_bloomBehindPolish eq15) gb14 rfl hC wd_1_157 wd_1_158 wd_1_159 wd_1_160 wd_1_13 md_X3_bloomBehindPolish rfl ⟨rfl, rfl, Nat.le_of_ble_eq_true rfl, Nat.le_of_ble_eq_true rfl, Nat.le_of_ble_eq_true rfl, Nat.le_of_ble_eq_true rfl⟩ dX4_planSlab_37 rfl (Nat.le_of_ble_eq_true rfl) rfl ?_
            refine r_goto (pc := 40) (tgt := 48) hC dX4_planSlab_40 (by decide) ?_
            refine r_istore (pc := 48) (lv' := [(5, DI q15), (4, DR (some n5)), (0, DR (some x)), (1, DR a0), (2, DI a1), (3, DI z1.2)]) hC hN dX4_planSlab_48 (by decide) rfl ?_
            refine r_aload_n (pc := 50) hC dX4_planSlab_50 rfl 3 rfl ?_
            refine r_aload (pc := 51) hC dX4_planSlab_51 1 rfl ?_
            refine r_iload (pc := 53) hC dX4_planSlab_53 0 rfl ?_
            obtain ⟨b16, gb16, hf⟩ := ob hf
            obtain ⟨q17, eq17, hf⟩ := ob hf
            refine r_callV (pc := 55) (As := [DR (some n5), DI q15]) (rest := []) (stk' := [DI q17]) (k1_X1_suits eq17) gb16 rfl hC wd_1_197 wd_1_198 wd_1_199 wd_1_200 wd_1_14 md_X1_suits rfl ⟨rfl, rfl, Nat.le_of_ble_eq_true rfl, Nat.le_of_ble_eq_true rfl, Nat.le_of_ble_eq_true rfl, Nat.le_of_ble_eq_true rfl⟩ dX4_planSlab_55 rfl (Nat.le_of_ble_eq_true rfl) rfl ?_
            refine r_if_eq (pc := 58) (tgt := 70) hC dX4_planSlab_58 (by decide) (fun c20 => ?_) (fun c20 => ?_)
            · replace hf := oi_t c20 hf
              refine r_iinc (pc := 70) (pos := 5) (v := (z1.2 + 1)) (lv' := [(3, DI (z1.2 + 1)), (5, DI q15), (4, DR (some n5)), (0, DR (some x)), (1, DR a0), (2, DI a1)]) hC hN dX4_planSlab_70 rfl rfl (by decide) rfl ?_
              refine r_goto (pc := 73) (tgt := 2) hC dX4_planSlab_73 (by decide) ?_
              cases hf
              exact dm_sub [3, 4, 5, 0] rfl hk
            · replace hf := oi_f c20 hf
              refine r_aload_n (pc := 61) hC dX4_planSlab_61 rfl 2 rfl ?_
              obtain ⟨v18, ev18, hf⟩ := ob hf
              refine r_getR (pc := 62) CF4 (k := 10) hC (by decide) wd_1_52 dX4_planSlab_62 ev18 ?_
              refine r_iload_n (pc := 65) hC dX4_planSlab_65 rfl 5 rfl ?_
              refine r_iconst (pc := 66) (v := 1) hC dX4_planSlab_66 (by decide) ?_
              obtain ⟨s19, es19, hf⟩ := ob hf
              refine r_zastore (pc := 67) hC dX4_planSlab_67 es19 ?_
              refine r_iload_n (pc := 68) hC dX4_planSlab_68 rfl 5 rfl ?_
              cases hf
              exact r_iret (pc := 69) hE hC (f1xI hk) ⟨Nat.le_of_ble_eq_true rfl, Nat.le_of_ble_eq_true rfl⟩ dX4_planSlab_69
  · rcases b1 with yb1 | r9
    · refine r_iconst (pc := 76) (v := (-1)) hC dX4_planSlab_76 (by decide) ?_
      exact r_iret (pc := 77) hE hC (f1xI hf) ⟨Nat.le_of_ble_eq_true rfl, Nat.le_of_ble_eq_true rfl⟩ dX4_planSlab_77
    · exact hf
abbrev rmK1_X4_planFilling : Room := { frames := 3, cells := 0, slots := 0, locals := 67 }
set_option maxRecDepth 100000 in
set_option maxHeartbeats 4000000 in
theorem k1_X4_planFilling {st : DSt} {x : Nat} {a0 : Int32} {v : Int32} {st1 : DSt} (hf : fX4_planFilling st x a0 = some (v, st1)) : dm_K1 yX4_planFilling cX4_planFilling 5 (some .int) rmK1_X4_planFilling 0 0 [DR (some x), DI a0] st (some (DI v)) st1 := by
  refine dm_k1 (by decide) rfl (Nat.le_of_ble_eq_true rfl) fun Y hC hN hI hE => ?_
  unfold fX4_planFilling at hf
  refine dm_sub (lv' := [(0, DR (some x)), (1, DI a0)]) ([0, 1]) rfl ?_
  refine r_iconst (pc := 0) (v := 0) hC dX4_planFilling_0 (by decide) ?_
  refine r_istore_n (pc := 1) (lv' := [(2, DI 0), (0, DR (some x)), (1, DI a0)]) hC hN dX4_planFilling_1 rfl (by decide) rfl ?_
  obtain ⟨b1, eb1, hf⟩ := ob hf
  refine dm_sub (lv' := [(0, DR (some x)), (1, DI a0), (2, DI 0)]) [1, 2, 0] rfl ?_
  refine dlp_W _ (fun (z1 : DSt × Int32) => dm_W Y 0 0 z1.1 2 [(0, DR (some x)), (1, DI a0), (2, DI z1.2)] []) (fun (b1 : DSt × Int32) => dm_W Y 0 0 b1.1 21 [(0, DR (some x)), (1, DI a0), (2, DI b1.2)] []) ?_ eb1 ?_
  · intro z1 r hf hk
    unfold fX4_planFilling_L2 at hf
    refine r_iload_n (pc := 2) hC dX4_planFilling_2 rfl 2 rfl ?_
    refine r_bipush (pc := 3) (v := 8) hC dX4_planFilling_3 (by decide) ?_
    refine r_icmp_ge (pc := 5) (tgt := 21) hC dX4_planFilling_5 (by decide) (fun c4 => ?_) (fun c4 => ?_)
    · replace hf := oi_t c4 hf
      cases hf
      exact dm_sub [0, 1, 2] rfl hk
    · replace hf := oi_f c4 hf
      refine r_aload_n (pc := 8) hC dX4_planFilling_8 rfl 0 rfl ?_
      obtain ⟨v2, ev2, hf⟩ := ob hf
      refine r_getR (pc := 9) CF4 (k := 10) hC (by decide) wd_1_52 dX4_planFilling_9 ev2 ?_
      refine r_iload_n (pc := 12) hC dX4_planFilling_12 rfl 2 rfl ?_
      refine r_iconst (pc := 13) (v := 0) hC dX4_planFilling_13 (by decide) ?_
      obtain ⟨s3, es3, hf⟩ := ob hf
      refine r_zastore (pc := 14) hC dX4_planFilling_14 es3 ?_
      refine r_iinc (pc := 15) (pos := 2) (v := (z1.2 + 1)) (lv' := [(2, DI (z1.2 + 1)), (0, DR (some x)), (1, DI a0)]) hC hN dX4_planFilling_15 rfl rfl (by decide) rfl ?_
      refine r_goto (pc := 18) (tgt := 2) hC dX4_planFilling_18 (by decide) ?_
      cases hf
      exact dm_sub [1, 2, 0] rfl hk
  · refine r_iconst (pc := 21) (v := 0) hC dX4_planFilling_21 (by decide) ?_
    refine r_istore_n (pc := 22) (lv' := [(2, DI 0), (0, DR (some x)), (1, DI a0)]) hC hN dX4_planFilling_22 rfl (by decide) rfl ?_
    refine r_iconst (pc := 23) (v := 0) hC dX4_planFilling_23 (by decide) ?_
    refine r_istore_n (pc := 24) (lv' := [(3, DI 0), (2, DI 0), (0, DR (some x)), (1, DI a0)]) hC hN dX4_planFilling_24 rfl (by decide) rfl ?_
    obtain ⟨b5, eb5, hf⟩ := ob hf
    refine dm_sub (lv' := [(0, DR (some x)), (1, DI a0), (2, DI 0), (3, DI 0)]) [2, 3, 1, 0] rfl ?_
    refine dlp_W _ (fun (z5 : DSt × Int32 × Int32) => dm_W Y 0 0 z5.1 25 [(0, DR (some x)), (1, DI a0), (2, DI z5.2.1), (3, DI z5.2.2)] []) (fun (b5 : DSt × Int32 × Int32) => dm_W Y 0 0 b5.1 88 [(0, DR (some x)), (1, DI a0), (2, DI b5.2.1), (3, DI b5.2.2)] []) ?_ eb5 ?_
    · intro z5 r hf hk
      unfold fX4_planFilling_L25 at hf
      refine r_iload_n (pc := 25) hC dX4_planFilling_25 rfl 3 rfl ?_
      refine r_bipush (pc := 26) (v := 6) hC dX4_planFilling_26 (by decide) ?_
      refine r_icmp_ge (pc := 28) (tgt := 88) hC dX4_planFilling_28 (by decide) (fun c27 => ?_) (fun c27 => ?_)
      · replace hf := oi_t c27 hf
        cases hf
        exact dm_sub [0, 1, 2, 3] rfl hk
      · replace hf := oi_f c27 hf
        refine r_aload_n (pc := 31) hC dX4_planFilling_31 rfl 0 rfl ?_
        obtain ⟨v6, ev6, hf⟩ := ob hf
        refine r_getR (pc := 32) CF4 (k := 2) hC (by decide) wd_1_44 dX4_planFilling_32 ev6 ?_
        refine r_iload_n (pc := 35) hC dX4_planFilling_35 rfl 3 rfl ?_
        obtain ⟨v7, ev7, hf⟩ := ob hf
        refine r_aaload (pc := 36) (kd := 4) (fun _ => rfl) hC dX4_planFilling_36 ev7 ?_
        refine r_astore (pc := 37) (lv' := [(4, DR v7), (0, DR (some x)), (1, DI a0), (2, DI z5.2.1), (3, DI z5.2.2)]) hC hN dX4_planFilling_37 (by decide) rfl ?_
        refine r_aload_n (pc := 39) hC dX4_planFilling_39 rfl 1 rfl ?_
        obtain ⟨v8, ev8, hf⟩ := ob hf
        refine r_getR (pc := 40) CF4 (k := 9) hC (by decide) wd_1_51 dX4_planFilling_40 ev8 ?_
        refine r_iload_n (pc := 43) hC dX4_planFilling_43 rfl 4 rfl ?_
        refine r_aload (pc := 44) hC dX4_planFilling_44 0 rfl ?_
        refine r_ifnull (pc := 46) (tgt := 57) hC dX4_planFilling_46 (by decide) (fun c9 => ?_) (fun n10 c9 => ?_)
        · subst c9
          refine r_iconst (pc := 57) (v := (-1)) hC dX4_planFilling_57 (by decide) ?_
          refine r_goto (pc := 58) (tgt := 68) hC dX4_planFilling_58 (by decide) ?_
          obtain ⟨s11, es11, hf⟩ := ob hf
          refine r_iastore (pc := 68) hC dX4_planFilling_68 es11 ?_
          refine r_aload_n (pc := 69) hC dX4_planFilling_69 rfl 1 rfl ?_
          obtain ⟨v12, ev12, hf⟩ := ob hf
          refine r_getR (pc := 70) CF4 (k := 9) hC (by decide) wd_1_51 dX4_planFilling_70 ev12 ?_
          refine r_iload_n (pc := 73) hC dX4_planFilling_73 rfl 4 rfl ?_
          obtain ⟨v13, ev13, hf⟩ := ob hf
          refine r_iaload (pc := 74) hC dX4_planFilling_74 ev13 ?_
          refine r_iconst (pc := 75) (v := (-1)) hC dX4_planFilling_75 (by decide) ?_
          refine r_icmp_eq (pc := 76) (tgt := 82) hC dX4_planFilling_76 (by decide) (fun c14 => ?_) (fun c14 => ?_)
          · replace hf := oi_t c14 hf
            refine r_iinc (pc := 82) (pos := 4) (v := (z5.2.2 + 1)) (lv' := [(3, DI (z5.2.2 + 1)), (4, DR none), (0, DR (some x)), (1, DI a0), (2, DI z5.2.1)]) hC hN dX4_planFilling_82 rfl rfl (by decide) rfl ?_
            refine r_goto (pc := 85) (tgt := 25) hC dX4_planFilling_85 (by decide) ?_
            cases hf
            exact dm_sub [2, 3, 4, 0] rfl hk
          · replace hf := oi_f c14 hf
            refine r_iinc (pc := 79) (pos := 3) (v := (z5.2.1 + 1)) (lv' := [(2, DI (z5.2.1 + 1)), (4, DR none), (0, DR (some x)), (1, DI a0), (3, DI z5.2.2)]) hC hN dX4_planFilling_79 rfl rfl (by decide) rfl ?_
            refine r_iinc (pc := 82) (pos := 4) (v := (z5.2.2 + 1)) (lv' := [(3, DI (z5.2.2 + 1)), (2, DI (z5.2.1 + 1)), (4, DR none), (0, DR (some x)), (1, DI a0)]) hC hN dX4_planFilling_82 rfl rfl (by decide) rfl ?_
            refine r_goto (pc := 85) (tgt := 25) hC dX4_planFilling_85 (by decide) ?_
            cases hf
            exact dm_sub [3, 4, 1, 0] rfl hk
        · subst c9
          refine r_aload (pc := 49) hC dX4_planFilling_49 0 rfl ?_
          obtain ⟨v15, ev15, hf⟩ := ob hf
          refine r_getI (pc := 51) CF1 (k := 2) hC (by decide) wd_3_2 dX4_planFilling_51 ev15 ?_
          refine r_if_eq (pc := 54) (tgt := 61) hC dX4_planFilling_54 (by decide) (fun c26 => ?_) (fun c26 => ?_)
          · replace hf := oi_t c26 hf
            refine r_aload_n (pc := 61) hC dX4_planFilling_61 rfl 1 rfl ?_
            refine r_aload (pc := 62) hC dX4_planFilling_62 0 rfl ?_
            refine r_iload_n (pc := 64) hC dX4_planFilling_64 rfl 2 rfl ?_
            obtain ⟨b16, gb16, hf⟩ := ob hf
            obtain ⟨q17, eq17, hf⟩ := ob hf
            refine r_callV (pc := 65) (As := [DR (some n10), DI a0]) (rest := [DI z5.2.2, DR v8]) (stk' := [DI q17.1, DI z5.2.2, DR v8]) (k1_X4_planSlab eq17) gb16 rfl hC wd_3_26 wd_3_28 wd_s_12 wd_3_29 wd_1_1 md_X4_planSlab rfl ⟨rfl, rfl, Nat.le_of_ble_eq_true rfl, Nat.le_of_ble_eq_true rfl, Nat.le_of_ble_eq_true rfl, Nat.le_of_ble_eq_true rfl⟩ dX4_planFilling_65 rfl (Nat.le_of_ble_eq_true rfl) rfl ?_
            obtain ⟨s18, es18, hf⟩ := ob hf
            refine r_iastore (pc := 68) hC dX4_planFilling_68 es18 ?_
            refine r_aload_n (pc := 69) hC dX4_planFilling_69 rfl 1 rfl ?_
            obtain ⟨v19, ev19, hf⟩ := ob hf
            refine r_getR (pc := 70) CF4 (k := 9) hC (by decide) wd_1_51 dX4_planFilling_70 ev19 ?_
            refine r_iload_n (pc := 73) hC dX4_planFilling_73 rfl 4 rfl ?_
            obtain ⟨v20, ev20, hf⟩ := ob hf
            refine r_iaload (pc := 74) hC dX4_planFilling_74 ev20 ?_
            refine r_iconst (pc := 75) (v := (-1)) hC dX4_planFilling_75 (by decide) ?_
            refine r_icmp_eq (pc := 76) (tgt := 82) hC dX4_planFilling_76 (by decide) (fun c21 => ?_) (fun c21 => ?_)
            · replace hf := oi_t c21 hf
              refine r_iinc (pc := 82) (pos := 4) (v := (z5.2.2 + 1)) (lv' := [(3, DI (z5.2.2 + 1)), (4, DR (some n10)), (0, DR (some x)), (1, DI a0), (2, DI z5.2.1)]) hC hN dX4_planFilling_82 rfl rfl (by decide) rfl ?_
              refine r_goto (pc := 85) (tgt := 25) hC dX4_planFilling_85 (by decide) ?_
              cases hf
              exact dm_sub [2, 3, 4, 0] rfl hk
            · replace hf := oi_f c21 hf
              refine r_iinc (pc := 79) (pos := 3) (v := (z5.2.1 + 1)) (lv' := [(2, DI (z5.2.1 + 1)), (4, DR (some n10)), (0, DR (some x)), (1, DI a0), (3, DI z5.2.2)]) hC hN dX4_planFilling_79 rfl rfl (by decide) rfl ?_
              refine r_iinc (pc := 82) (pos := 4) (v := (z5.2.2 + 1)) (lv' := [(3, DI (z5.2.2 + 1)), (2, DI (z5.2.1 + 1)), (4, DR (some n10)), (0, DR (some x)), (1, DI a0)]) hC hN dX4_planFilling_82 rfl rfl (by decide) rfl ?_
              refine r_goto (pc := 85) (tgt := 25) hC dX4_planFilling_85 (by decide) ?_
              cases hf
              exact dm_sub [3, 4, 1, 0] rfl hk
          · replace hf := oi_f c26 hf
            refine r_iconst (pc := 57) (v := (-1)) hC dX4_planFilling_57 (by decide) ?_
            refine r_goto (pc := 58) (tgt := 68) hC dX4_planFilling_58 (by decide) ?_
            obtain ⟨s22, es22, hf⟩ := ob hf
            refine r_iastore (pc := 68) hC dX4_planFilling_68 es22 ?_
            refine r_aload_n (pc := 69) hC dX4_planFilling_69 rfl 1 rfl ?_
            obtain ⟨v23, ev23, hf⟩ := ob hf
            refine r_getR (pc := 70) CF4 (k := 9) hC (by decide) wd_1_51 dX4_planFilling_70 ev23 ?_
            refine r_iload_n (pc := 73) hC dX4_planFilling_73 rfl 4 rfl ?_
            obtain ⟨v24, ev24, hf⟩ := ob hf
            refine r_iaload (pc := 74) hC dX4_planFilling_74 ev24 ?_
            refine r_iconst (pc := 75) (v := (-1)) hC dX4_planFilling_75 (by decide) ?_
            refine r_icmp_eq (pc := 76) (tgt := 82) hC dX4_planFilling_76 (by decide) (fun c25 => ?_) (fun c25 => ?_)
            · replace hf := oi_t c25 hf
              refine r_iinc (pc := 82) (pos := 4) (v := (z5.2.2 + 1)) (lv' := [(3, DI (z5.2.2 + 1)), (4, DR (some n10)), (0, DR (some x)), (1, DI a0), (2, DI z5.2.1)]) hC hN dX4_planFilling_82 rfl rfl (by decide) rfl ?_
              refine r_goto (pc := 85) (tgt := 25) hC dX4_planFilling_85 (by decide) ?_
              cases hf
              exact dm_sub [2, 3, 4, 0] rfl hk
            · replace hf := oi_f c25 hf
              refine r_iinc (pc := 79) (pos := 3) (v := (z5.2.1 + 1)) (lv' := [(2, DI (z5.2.1 + 1)), (4, DR (some n10)), (0, DR (some x)), (1, DI a0), (3, DI z5.2.2)]) hC hN dX4_planFilling_79 rfl rfl (by decide) rfl ?_
              refine r_iinc (pc := 82) (pos := 4) (v := (z5.2.2 + 1)) (lv' := [(3, DI (z5.2.2 + 1)), (2, DI (z5.2.1 + 1)), (4, DR (some n10)), (0, DR (some x)), (1, DI a0)]) hC hN dX4_planFilling_82 rfl rfl (by decide) rfl ?_
              refine r_goto (pc := 85) (tgt := 25) hC dX4_planFilling_85 (by decide) ?_
              cases hf
              exact dm_sub [3, 4, 1, 0] rfl hk
    · refine r_iload_n (pc := 88) hC dX4_planFilling_88 rfl 2 rfl ?_
      exact r_iret (pc := 89) hE hC (f1xI hf) ⟨Nat.le_of_ble_eq_true rfl, Nat.le_of_ble_eq_true rfl⟩ dX4_planFilling_89
abbrev rmK1_X4_moveIntoBox : Room := { frames := 1, cells := 0, slots := 0, locals := 21 }
set_option maxRecDepth 100000 in
set_option maxHeartbeats 4000000 in
theorem k1_X4_moveIntoBox {st : DSt} {x : Nat} {a0 : Int32} {a1 : Option Nat} {st1 : DSt} (hf : fX4_moveIntoBox st x a0 a1 = some st1) : dm_K1 yX4_moveIntoBox cX4_moveIntoBox 4 none rmK1_X4_moveIntoBox 0 0 [DR (some x), DI a0, DR a1] st none st1 := by
  refine dm_k1 (by decide) rfl (Nat.le_of_ble_eq_true rfl) fun Y hC hN hI hE => ?_
  unfold fX4_moveIntoBox at hf
  refine dm_sub (lv' := [(0, DR (some x)), (1, DI a0), (2, DR a1)]) ([0, 1, 2]) rfl ?_
  refine r_aload_n (pc := 0) hC dX4_moveIntoBox_0 rfl 0 rfl ?_
  refine r_iload_n (pc := 1) hC dX4_moveIntoBox_1 rfl 1 rfl ?_
  obtain ⟨b1, gb1, hf⟩ := ob hf
  obtain ⟨q2, eq2, hf⟩ := ob hf
  refine r_callV (pc := 2) (As := [DI a0]) (rest := []) (stk' := [DR q2]) (k1_X4_findSlab eq2) gb1 rfl hC wd_1_85 wd_1_87 wd_s_1 wd_1_88 wd_1_1 md_X4_findSlab rfl ⟨rfl, rfl, Nat.le_of_ble_eq_true rfl, Nat.le_of_ble_eq_true rfl, Nat.le_of_ble_eq_true rfl, Nat.le_of_ble_eq_true rfl⟩ dX4_moveIntoBox_2 rfl (Nat.le_of_ble_eq_true rfl) rfl ?_
  refine r_astore_n (pc := 5) (lv' := [(3, DR q2), (0, DR (some x)), (1, DI a0), (2, DR a1)]) hC hN dX4_moveIntoBox_5 rfl (by decide) rfl ?_
  refine r_aload_n (pc := 6) hC dX4_moveIntoBox_6 rfl 0 rfl ?_
  refine r_ifnull (pc := 7) (tgt := 26) hC dX4_moveIntoBox_7 (by decide) (fun c3 => ?_) (fun n4 c3 => ?_)
  · subst c3
    exact r_vret (pc := 26) hE hC (f1xV hf) ⟨Nat.le_of_ble_eq_true rfl, Nat.le_of_ble_eq_true rfl⟩ dX4_moveIntoBox_26
  · subst c3
    refine r_aload_n (pc := 10) hC dX4_moveIntoBox_10 rfl 3 rfl ?_
    refine r_ifnull (pc := 11) (tgt := 26) hC dX4_moveIntoBox_11 (by decide) (fun c5 => ?_) (fun n6 c5 => ?_)
    · subst c5
      exact r_vret (pc := 26) hE hC (f1xV hf) ⟨Nat.le_of_ble_eq_true rfl, Nat.le_of_ble_eq_true rfl⟩ dX4_moveIntoBox_26
    · subst c5
      refine r_aload_n (pc := 14) hC dX4_moveIntoBox_14 rfl 3 rfl ?_
      refine r_aload_n (pc := 15) hC dX4_moveIntoBox_15 rfl 0 rfl ?_
      obtain ⟨b7, gb7, hf⟩ := ob hf
      obtain ⟨q8, eq8, hf⟩ := ob hf
      refine r_callV (pc := 16) (As := [DR (some n4)]) (rest := []) (stk' := []) (k1_X1_take eq8) gb7 rfl hC wd_3_34 wd_3_35 wd_3_36 wd_3_37 wd_1_14 md_X1_take rfl ⟨rfl, rfl, Nat.le_of_ble_eq_true rfl, Nat.le_of_ble_eq_true rfl, Nat.le_of_ble_eq_true rfl, Nat.le_of_ble_eq_true rfl⟩ dX4_moveIntoBox_16 rfl (Nat.le_of_ble_eq_true rfl) rfl ?_
      refine r_aload_n (pc := 19) hC dX4_moveIntoBox_19 rfl 1 rfl ?_
      obtain ⟨v9, ev9, hf⟩ := ob hf
      refine r_getR (pc := 20) CF4 (k := 1) hC (by decide) wd_1_43 dX4_moveIntoBox_20 ev9 ?_
      refine r_iload_n (pc := 23) hC dX4_moveIntoBox_23 rfl 2 rfl ?_
      refine r_null (pc := 24) hC dX4_moveIntoBox_24 ?_
      obtain ⟨s10, es10, hf⟩ := ob hf
      refine r_aastore (pc := 25) (kd := 3) (ci := 3) (fun _ => rfl) rfl hC dX4_moveIntoBox_25 es10 ?_
      exact r_vret (pc := 26) hE hC (f1xV hf) ⟨Nat.le_of_ble_eq_true rfl, Nat.le_of_ble_eq_true rfl⟩ dX4_moveIntoBox_26
abbrev rmK1_X4_fill : Room := { frames := 4, cells := 0, slots := 0, locals := 91 }
set_option maxRecDepth 100000 in
set_option maxHeartbeats 4000000 in
theorem k1_X4_fill {st : DSt} {x : Nat} {v : Int32} {st1 : DSt} (hf : fX4_fill st x = some (v, st1)) : dm_K1 yX4_fill cX4_fill 3 (some .int) rmK1_X4_fill 0 0 [DR (some x)] st (some (DI v)) st1 := by
  refine dm_k1 (by decide) rfl (Nat.le_of_ble_eq_true rfl) fun Y hC hN hI hE => ?_
  unfold fX4_fill at hf
  refine dm_sub (lv' := [(0, DR (some x))]) ([0]) rfl ?_
  refine r_aload_n (pc := 0) hC dX4_fill_0 rfl 0 rfl ?_
  refine r_iconst (pc := 1) (v := (-1)) hC dX4_fill_1 (by decide) ?_
  obtain ⟨b1, gb1, hf⟩ := ob hf
  obtain ⟨q2, eq2, hf⟩ := ob hf
  refine r_callV (pc := 2) (As := [DI (-1)]) (rest := []) (stk' := [DI q2.1]) (k1_X4_planFilling eq2) gb1 rfl hC wd_3_22 wd_3_24 wd_s_11 wd_3_25 wd_1_1 md_X4_planFilling rfl ⟨rfl, rfl, Nat.le_of_ble_eq_true rfl, Nat.le_of_ble_eq_true rfl, Nat.le_of_ble_eq_true rfl, Nat.le_of_ble_eq_true rfl⟩ dX4_fill_2 rfl (Nat.le_of_ble_eq_true rfl) rfl ?_
  refine r_istore_n (pc := 5) (lv' := [(1, DI q2.1), (0, DR (some x))]) hC hN dX4_fill_5 rfl (by decide) rfl ?_
  refine r_iconst (pc := 6) (v := 0) hC dX4_fill_6 (by decide) ?_
  refine r_istore_n (pc := 7) (lv' := [(2, DI 0), (1, DI q2.1), (0, DR (some x))]) hC hN dX4_fill_7 rfl (by decide) rfl ?_
  obtain ⟨b3, eb3, hf⟩ := ob hf
  refine dm_sub (lv' := [(0, DR (some x)), (1, DI q2.1), (2, DI 0)]) [2, 1, 0] rfl ?_
  refine dlp_W _ (fun (z3 : DSt × Int32) => dm_W Y 0 0 z3.1 8 [(0, DR (some x)), (1, DI q2.1), (2, DI z3.2)] []) (fun (b3 : DSt × Int32) => dm_W Y 0 0 b3.1 36 [(0, DR (some x)), (1, DI q2.1), (2, DI b3.2)] []) ?_ eb3 ?_
  · intro z3 r hf hk
    unfold fX4_fill_L8 at hf
    refine r_iload_n (pc := 8) hC dX4_fill_8 rfl 2 rfl ?_
    refine r_bipush (pc := 9) (v := 6) hC dX4_fill_9 (by decide) ?_
    refine r_icmp_ge (pc := 11) (tgt := 36) hC dX4_fill_11 (by decide) (fun c10 => ?_) (fun c10 => ?_)
    · replace hf := oi_t c10 hf
      cases hf
      exact dm_sub [0, 1, 2] rfl hk
    · replace hf := oi_f c10 hf
      refine r_aload_n (pc := 14) hC dX4_fill_14 rfl 0 rfl ?_
      refine r_aload_n (pc := 15) hC dX4_fill_15 rfl 0 rfl ?_
      obtain ⟨v4, ev4, hf⟩ := ob hf
      refine r_getR (pc := 16) CF4 (k := 9) hC (by decide) wd_1_51 dX4_fill_16 ev4 ?_
      refine r_iload_n (pc := 19) hC dX4_fill_19 rfl 2 rfl ?_
      obtain ⟨v5, ev5, hf⟩ := ob hf
      refine r_iaload (pc := 20) hC dX4_fill_20 ev5 ?_
      refine r_aload_n (pc := 21) hC dX4_fill_21 rfl 0 rfl ?_
      obtain ⟨v6, ev6, hf⟩ := ob hf
      refine r_getR (pc := 22) CF4 (k := 2) hC (by decide) wd_1_44 dX4_fill_22 ev6 ?_
      refine r_iload_n (pc := 25) hC dX4_fill_25 rfl 2 rfl ?_
      obtain ⟨v7, ev7, hf⟩ := ob hf
      refine r_aaload (pc := 26) (kd := 4) (fun _ => rfl) hC dX4_fill_26 ev7 ?_
      obtain ⟨b8, gb8, hf⟩ := ob hf
      obtain ⟨q9, eq9, hf⟩ := ob hf
      refine r_callV (pc := 27) (As := [DI v5, DR v7]) (rest := []) (stk' := []) (k1_X4_moveIntoBox eq9) gb8 rfl hC wd_3_30 wd_3_32 wd_s_13 wd_3_33 wd_1_1 md_X4_moveIntoBox rfl ⟨rfl, rfl, Nat.le_of_ble_eq_true rfl, Nat.le_of_ble_eq_true rfl, Nat.le_of_ble_eq_true rfl, Nat.le_of_ble_eq_true rfl⟩ dX4_fill_27 rfl (Nat.le_of_ble_eq_true rfl) rfl ?_
      refine r_iinc (pc := 30) (pos := 2) (v := (z3.2 + 1)) (lv' := [(2, DI (z3.2 + 1)), (0, DR (some x)), (1, DI q2.1)]) hC hN dX4_fill_30 rfl rfl (by decide) rfl ?_
      refine r_goto (pc := 33) (tgt := 8) hC dX4_fill_33 (by decide) ?_
      cases hf
      exact dm_sub [1, 2, 0] rfl hk
  · refine r_aload_n (pc := 36) hC dX4_fill_36 rfl 0 rfl ?_
    obtain ⟨b11, gb11, hf⟩ := ob hf
    obtain ⟨q12, eq12, hf⟩ := ob hf
    refine r_callV (pc := 37) (As := []) (rest := []) (stk' := []) (k1_X4_closeGaps eq12) gb11 rfl hC wd_3_38 wd_3_40 wd_s_14 wd_3_41 wd_1_1 md_X4_closeGaps rfl ⟨rfl, rfl, Nat.le_of_ble_eq_true rfl, Nat.le_of_ble_eq_true rfl, Nat.le_of_ble_eq_true rfl, Nat.le_of_ble_eq_true rfl⟩ dX4_fill_37 rfl (Nat.le_of_ble_eq_true rfl) rfl ?_
    refine r_iload_n (pc := 40) hC dX4_fill_40 rfl 1 rfl ?_
    exact r_iret (pc := 41) hE hC (f1xI hf) ⟨Nat.le_of_ble_eq_true rfl, Nat.le_of_ble_eq_true rfl⟩ dX4_fill_41
abbrev rmK0_X4_checkRoom : Room := { frames := 0, cells := 0, slots := 0, locals := 0 }
set_option maxRecDepth 100000 in
set_option maxHeartbeats 4000000 in
theorem k0_X4_checkRoom {st : DSt} {a0 : Int32} (hf : fX4_checkRoom st a0 = some (.inr ())) : dm_K1 yX4_checkRoom cX4_checkRoom 1 none rmK0_X4_checkRoom 0 0 [DI a0] st none st := by
  refine dm_k1 (by decide) rfl (Nat.le_of_ble_eq_true rfl) fun Y hC hN hI hE => ?_
  unfold fX4_checkRoom at hf
  refine dm_sub (lv' := [(0, DI a0)]) ([0]) rfl ?_
  refine r_iload_n (pc := 0) hC dX4_checkRoom_0 rfl 0 rfl ?_
  refine r_bipush (pc := 1) (v := 10) hC dX4_checkRoom_1 (by decide) ?_
  refine r_icmp_lt (pc := 3) (tgt := 12) hC dX4_checkRoom_3 (by decide) (fun c2 => ?_) (fun c2 => ?_)
  · replace hf := oi_t c2 hf
    cases hf
  · replace hf := oi_f c2 hf
    refine r_iload_n (pc := 6) hC dX4_checkRoom_6 rfl 0 rfl ?_
    refine r_bipush (pc := 7) (v := 40) hC dX4_checkRoom_7 (by decide) ?_
    refine r_icmp_le (pc := 9) (tgt := 22) hC dX4_checkRoom_9 (by decide) (fun c1 => ?_) (fun c1 => ?_)
    · replace hf := oi_t c1 hf
      exact r_vret (pc := 22) hE hC f1pV ⟨Nat.le_of_ble_eq_true rfl, Nat.le_of_ble_eq_true rfl⟩ dX4_checkRoom_22
    · replace hf := oi_f c1 hf
      cases hf
abbrev rmK1_X4_bloomedSlabs : Room := { frames := 1, cells := 0, slots := 0, locals := 20 }
set_option maxRecDepth 100000 in
set_option maxHeartbeats 4000000 in
theorem k1_X4_bloomedSlabs {st : DSt} {x : Nat} {v : Int32} (hf : fX4_bloomedSlabs st x = some v) : dm_K1 yX4_bloomedSlabs cX4_bloomedSlabs 6 (some .int) rmK1_X4_bloomedSlabs 0 0 [DR (some x)] st (some (DI v)) st := by
  refine dm_k1 (by decide) rfl (Nat.le_of_ble_eq_true rfl) fun Y hC hN hI hE => ?_
  unfold fX4_bloomedSlabs at hf
  refine dm_sub (lv' := [(0, DR (some x))]) ([0]) rfl ?_
  refine r_iconst (pc := 0) (v := 0) hC dX4_bloomedSlabs_0 (by decide) ?_
  refine r_istore_n (pc := 1) (lv' := [(1, DI 0), (0, DR (some x))]) hC hN dX4_bloomedSlabs_1 rfl (by decide) rfl ?_
  refine r_aload_n (pc := 2) hC dX4_bloomedSlabs_2 rfl 1 rfl ?_
  obtain ⟨v1, ev1, hf⟩ := ob hf
  refine r_getR (pc := 3) CF4 (k := 1) hC (by decide) wd_1_43 dX4_bloomedSlabs_3 ev1 ?_
  refine r_astore_n (pc := 6) (lv' := [(2, DR v1), (1, DI 0), (0, DR (some x))]) hC hN dX4_bloomedSlabs_6 rfl (by decide) rfl ?_
  refine r_aload_n (pc := 7) hC dX4_bloomedSlabs_7 rfl 0 rfl ?_
  obtain ⟨v2, ev2, hf⟩ := ob hf
  refine r_alen (pc := 8) (kd := 3) (fun _ => rfl) hC dX4_bloomedSlabs_8 ev2 ?_
  refine r_istore_n (pc := 9) (lv' := [(3, DI v2), (2, DR v1), (1, DI 0), (0, DR (some x))]) hC hN dX4_bloomedSlabs_9 rfl (by decide) rfl ?_
  refine r_iconst (pc := 10) (v := 0) hC dX4_bloomedSlabs_10 (by decide) ?_
  refine r_istore (pc := 11) (lv' := [(4, DI 0), (3, DI v2), (2, DR v1), (1, DI 0), (0, DR (some x))]) hC hN dX4_bloomedSlabs_11 (by decide) rfl ?_
  obtain ⟨b3, eb3, hf⟩ := ob hf
  refine dm_sub (lv' := [(1, DI 0), (2, DR v1), (3, DI v2), (4, DI 0)]) [3, 2, 1, 0] rfl ?_
  refine dlp_W _ (fun (z3 : Int32 × Int32) => dm_W Y 0 0 st 13 [(1, DI z3.1), (2, DR v1), (3, DI v2), (4, DI z3.2)] []) (fun (b3 : Int32 × Int32) => dm_W Y 0 0 st 47 [(1, DI b3.1), (2, DR v1), (3, DI v2), (4, DI b3.2)] []) ?_ eb3 ?_
  · intro z3 r hf hk
    unfold fX4_bloomedSlabs_L13 at hf
    refine r_iload (pc := 13) hC dX4_bloomedSlabs_13 3 rfl ?_
    refine r_iload_n (pc := 15) hC dX4_bloomedSlabs_15 rfl 2 rfl ?_
    refine r_icmp_ge (pc := 16) (tgt := 47) hC dX4_bloomedSlabs_16 (by decide) (fun c10 => ?_) (fun c10 => ?_)
    · replace hf := oi_t c10 hf
      cases hf
      exact dm_sub [0, 1, 2, 3] rfl hk
    · replace hf := oi_f c10 hf
      refine r_aload_n (pc := 19) hC dX4_bloomedSlabs_19 rfl 1 rfl ?_
      refine r_iload (pc := 20) hC dX4_bloomedSlabs_20 3 rfl ?_
      obtain ⟨v4, ev4, hf⟩ := ob hf
      refine r_aaload (pc := 22) (kd := 3) (fun _ => rfl) hC dX4_bloomedSlabs_22 ev4 ?_
      refine r_astore (pc := 23) (lv' := [(5, DR v4), (1, DI z3.1), (2, DR v1), (3, DI v2), (4, DI z3.2)]) hC hN dX4_bloomedSlabs_23 (by decide) rfl ?_
      refine r_aload (pc := 25) hC dX4_bloomedSlabs_25 0 rfl ?_
      refine r_ifnull (pc := 27) (tgt := 41) hC dX4_bloomedSlabs_27 (by decide) (fun c5 => ?_) (fun n6 c5 => ?_)
      · subst c5
        refine r_iinc (pc := 41) (pos := 4) (v := (z3.2 + 1)) (lv' := [(4, DI (z3.2 + 1)), (5, DR none), (1, DI z3.1), (2, DR v1), (3, DI v2)]) hC hN dX4_bloomedSlabs_41 rfl rfl (by decide) rfl ?_
        refine r_goto (pc := 44) (tgt := 13) hC dX4_bloomedSlabs_44 (by decide) ?_
        cases hf
        exact dm_sub [2, 3, 4, 0] rfl hk
      · subst c5
        refine r_aload (pc := 30) hC dX4_bloomedSlabs_30 0 rfl ?_
        obtain ⟨b7, gb7, hf⟩ := ob hf
        obtain ⟨q8, eq8, hf⟩ := ob hf
        refine r_callV (pc := 32) (As := []) (rest := []) (stk' := [DI q8]) (k1_X3_isBloomed eq8) gb7 rfl hC wd_1_231 wd_1_232 wd_1_233 wd_1_234 wd_1_13 md_X3_isBloomed rfl ⟨rfl, rfl, Nat.le_of_ble_eq_true rfl, Nat.le_of_ble_eq_true rfl, Nat.le_of_ble_eq_true rfl, Nat.le_of_ble_eq_true rfl⟩ dX4_bloomedSlabs_32 rfl (Nat.le_of_ble_eq_true rfl) rfl ?_
        refine r_if_eq (pc := 35) (tgt := 41) hC dX4_bloomedSlabs_35 (by decide) (fun c9 => ?_) (fun c9 => ?_)
        · replace hf := oi_t c9 hf
          refine r_iinc (pc := 41) (pos := 4) (v := (z3.2 + 1)) (lv' := [(4, DI (z3.2 + 1)), (5, DR (some n6)), (1, DI z3.1), (2, DR v1), (3, DI v2)]) hC hN dX4_bloomedSlabs_41 rfl rfl (by decide) rfl ?_
          refine r_goto (pc := 44) (tgt := 13) hC dX4_bloomedSlabs_44 (by decide) ?_
          cases hf
          exact dm_sub [2, 3, 4, 0] rfl hk
        · replace hf := oi_f c9 hf
          refine r_iinc (pc := 38) (pos := 1) (v := (z3.1 + 1)) (lv' := [(1, DI (z3.1 + 1)), (5, DR (some n6)), (2, DR v1), (3, DI v2), (4, DI z3.2)]) hC hN dX4_bloomedSlabs_38 rfl rfl (by decide) rfl ?_
          refine r_iinc (pc := 41) (pos := 4) (v := (z3.2 + 1)) (lv' := [(4, DI (z3.2 + 1)), (1, DI (z3.1 + 1)), (5, DR (some n6)), (2, DR v1), (3, DI v2)]) hC hN dX4_bloomedSlabs_41 rfl rfl (by decide) rfl ?_
          refine r_goto (pc := 44) (tgt := 13) hC dX4_bloomedSlabs_44 (by decide) ?_
          cases hf
          exact dm_sub [1, 3, 4, 0] rfl hk
  · refine r_iload_n (pc := 47) hC dX4_bloomedSlabs_47 rfl 0 rfl ?_
    exact r_iret (pc := 48) hE hC (f1pI hf) ⟨Nat.le_of_ble_eq_true rfl, Nat.le_of_ble_eq_true rfl⟩ dX4_bloomedSlabs_48
abbrev rmK0_X4_pass : Room := { frames := 3, cells := 0, slots := 0, locals := 58 }
set_option maxRecDepth 100000 in
set_option maxHeartbeats 4000000 in
theorem k0_X4_pass {st : DSt} {x : Nat} {a0 : Int32} {a1 : Int32} {v : Int32} {st1 : DSt} (hf : fX4_pass st x a0 a1 = some (.inr (v, st1))) : dm_K1 yX4_pass cX4_pass 7 (some .int) rmK0_X4_pass 0 0 [DR (some x), DI a0, DI a1] st (some (DI v)) st1 := by
  refine dm_k1 (by decide) rfl (Nat.le_of_ble_eq_true rfl) fun Y hC hN hI hE => ?_
  unfold fX4_pass at hf
  refine dm_sub (lv' := [(0, DR (some x)), (1, DI a0), (2, DI a1)]) ([0, 1, 2]) rfl ?_
  refine r_iload_n (pc := 0) hC dX4_pass_0 rfl 1 rfl ?_
  rcases xb hf with ⟨eq1, _, hrq1⟩ | ⟨q1, eq1, hf⟩
  · cases hrq1
  refine r_callS (pc := 1) (As := [DI a0]) (rest := []) (stk' := []) (k0_X4_checkRoom eq1) hC wd_3_57 wd_3_58 wd_3_59 wd_1_1 md_X4_checkRoom rfl ⟨rfl, rfl, Nat.le_of_ble_eq_true rfl, Nat.le_of_ble_eq_true rfl, Nat.le_of_ble_eq_true rfl, Nat.le_of_ble_eq_true rfl⟩ dX4_pass_1 rfl (Nat.le_of_ble_eq_true rfl) rfl ?_
  refine r_iload_n (pc := 4) hC dX4_pass_4 rfl 2 rfl ?_
  refine r_iconst (pc := 5) (v := 1) hC dX4_pass_5 (by decide) ?_
  refine r_icmp_lt (pc := 6) (tgt := 15) hC dX4_pass_6 (by decide) (fun c16 => ?_) (fun c16 => ?_)
  · replace hf := oi_t c16 hf
    cases hf
  · replace hf := oi_f c16 hf
    refine r_iload_n (pc := 9) hC dX4_pass_9 rfl 2 rfl ?_
    refine r_bipush (pc := 10) (v := 60) hC dX4_pass_10 (by decide) ?_
    refine r_icmp_le (pc := 12) (tgt := 25) hC dX4_pass_12 (by decide) (fun c15 => ?_) (fun c15 => ?_)
    · replace hf := oi_t c15 hf
      refine r_aload_n (pc := 25) hC dX4_pass_25 rfl 0 rfl ?_
      obtain ⟨v2, ev2, hf⟩ := ob hf
      refine r_getR (pc := 26) CF4 (k := 1) hC (by decide) wd_1_43 dX4_pass_26 ev2 ?_
      refine r_astore_n (pc := 29) (lv' := [(3, DR v2), (0, DR (some x)), (1, DI a0), (2, DI a1)]) hC hN dX4_pass_29 rfl (by decide) rfl ?_
      refine r_aload_n (pc := 30) hC dX4_pass_30 rfl 0 rfl ?_
      obtain ⟨v3, ev3, hf⟩ := ob hf
      refine r_alen (pc := 31) (kd := 3) (fun _ => rfl) hC dX4_pass_31 ev3 ?_
      refine r_istore (pc := 32) (lv' := [(4, DI v3), (3, DR v2), (0, DR (some x)), (1, DI a0), (2, DI a1)]) hC hN dX4_pass_32 (by decide) rfl ?_
      refine r_iconst (pc := 34) (v := 0) hC dX4_pass_34 (by decide) ?_
      refine r_istore (pc := 35) (lv' := [(5, DI 0), (4, DI v3), (3, DR v2), (0, DR (some x)), (1, DI a0), (2, DI a1)]) hC hN dX4_pass_35 (by decide) rfl ?_
      obtain ⟨b4, eb4, hf⟩ := ob hf
      refine dm_sub (lv' := [(0, DR (some x)), (1, DI a0), (2, DI a1), (3, DR v2), (4, DI v3), (5, DI 0)]) [3, 4, 5, 2, 1, 0] rfl ?_
      refine dlp_W _ (fun (z4 : DSt × Int32) => dm_W Y 0 0 z4.1 37 [(0, DR (some x)), (1, DI a0), (2, DI a1), (3, DR v2), (4, DI v3), (5, DI z4.2)] []) (fun (b4 : DSt × Int32) => dm_W Y 0 0 b4.1 68 [(0, DR (some x)), (1, DI a0), (2, DI a1), (3, DR v2), (4, DI v3), (5, DI b4.2)] []) ?_ eb4 ?_
      · intro z4 r hf hk
        unfold fX4_pass_L37 at hf
        refine r_iload (pc := 37) hC dX4_pass_37 5 rfl ?_
        refine r_iload (pc := 39) hC dX4_pass_39 4 rfl ?_
        refine r_icmp_ge (pc := 41) (tgt := 68) hC dX4_pass_41 (by decide) (fun c10 => ?_) (fun c10 => ?_)
        · replace hf := oi_t c10 hf
          cases hf
          exact dm_sub [0, 1, 2, 3, 4, 5] rfl hk
        · replace hf := oi_f c10 hf
          refine r_aload_n (pc := 44) hC dX4_pass_44 rfl 3 rfl ?_
          refine r_iload (pc := 45) hC dX4_pass_45 5 rfl ?_
          obtain ⟨v5, ev5, hf⟩ := ob hf
          refine r_aaload (pc := 47) (kd := 3) (fun _ => rfl) hC dX4_pass_47 ev5 ?_
          refine r_astore (pc := 48) (lv' := [(6, DR v5), (0, DR (some x)), (1, DI a0), (2, DI a1), (3, DR v2), (4, DI v3), (5, DI z4.2)]) hC hN dX4_pass_48 (by decide) rfl ?_
          refine r_aload (pc := 50) hC dX4_pass_50 0 rfl ?_
          refine r_ifnull (pc := 52) (tgt := 62) hC dX4_pass_52 (by decide) (fun c6 => ?_) (fun n7 c6 => ?_)
          · subst c6
            refine r_iinc (pc := 62) (pos := 6) (v := (z4.2 + 1)) (lv' := [(5, DI (z4.2 + 1)), (6, DR none), (0, DR (some x)), (1, DI a0), (2, DI a1), (3, DR v2), (4, DI v3)]) hC hN dX4_pass_62 rfl rfl (by decide) rfl ?_
            refine r_goto (pc := 65) (tgt := 37) hC dX4_pass_65 (by decide) ?_
            cases hf
            exact dm_sub [2, 3, 4, 5, 6, 0] rfl hk
          · subst c6
            refine r_aload (pc := 55) hC dX4_pass_55 0 rfl ?_
            refine r_iload_n (pc := 57) hC dX4_pass_57 rfl 3 rfl ?_
            refine r_iload_n (pc := 58) hC dX4_pass_58 rfl 2 rfl ?_
            obtain ⟨b8, gb8, hf⟩ := ob hf
            obtain ⟨q9, eq9, hf⟩ := ob hf
            refine r_callV (pc := 59) (As := [DI a1, DI a0]) (rest := []) (stk' := []) (k1_X3_standFor eq9) gb8 rfl hC wd_3_62 wd_3_63 wd_3_64 wd_3_65 wd_1_13 md_X3_standFor rfl ⟨rfl, rfl, Nat.le_of_ble_eq_true rfl, Nat.le_of_ble_eq_true rfl, Nat.le_of_ble_eq_true rfl, Nat.le_of_ble_eq_true rfl⟩ dX4_pass_59 rfl (Nat.le_of_ble_eq_true rfl) rfl ?_
            refine r_iinc (pc := 62) (pos := 6) (v := (z4.2 + 1)) (lv' := [(5, DI (z4.2 + 1)), (6, DR (some n7)), (0, DR (some x)), (1, DI a0), (2, DI a1), (3, DR v2), (4, DI v3)]) hC hN dX4_pass_62 rfl rfl (by decide) rfl ?_
            refine r_goto (pc := 65) (tgt := 37) hC dX4_pass_65 (by decide) ?_
            cases hf
            exact dm_sub [2, 3, 4, 5, 6, 0] rfl hk
      · refine r_aload_n (pc := 68) hC dX4_pass_68 rfl 0 rfl ?_
        refine r_dup (pc := 69) hC dX4_pass_69 rfl ?_
        obtain ⟨v11, ev11, hf⟩ := ob hf
        refine r_getI (pc := 70) CF4 (k := 6) hC (by decide) wd_1_48 dX4_pass_70 ev11 ?_
        refine r_iload_n (pc := 73) hC dX4_pass_73 rfl 2 rfl ?_
        refine r_iadd (pc := 74) hC dX4_pass_74 ?_
        obtain ⟨s12, es12, hf⟩ := ob hf
        refine r_put (pc := 75) CF4 (k := 6) hC (by decide) wd_1_48 rfl ⟨rfl, rfl⟩ dX4_pass_75 es12 ?_
        refine r_aload_n (pc := 78) hC dX4_pass_78 rfl 0 rfl ?_
        obtain ⟨b13, gb13, hf⟩ := ob hf
        obtain ⟨q14, eq14, hf⟩ := ob hf
        refine r_callV (pc := 79) (As := []) (rest := []) (stk' := [DI q14]) (k1_X4_bloomedSlabs eq14) gb13 rfl hC wd_1_227 wd_1_229 wd_s_9 wd_1_230 wd_1_1 md_X4_bloomedSlabs rfl ⟨rfl, rfl, Nat.le_of_ble_eq_true rfl, Nat.le_of_ble_eq_true rfl, Nat.le_of_ble_eq_true rfl, Nat.le_of_ble_eq_true rfl⟩ dX4_pass_79 rfl (Nat.le_of_ble_eq_true rfl) rfl ?_
        exact r_iret (pc := 82) hE hC (f0xI hf) ⟨Nat.le_of_ble_eq_true rfl, Nat.le_of_ble_eq_true rfl⟩ dX4_pass_82
    · replace hf := oi_f c15 hf
      cases hf
abbrev rmK0_X4_checkWhat : Room := { frames := 0, cells := 0, slots := 0, locals := 0 }
set_option maxRecDepth 100000 in
set_option maxHeartbeats 4000000 in
theorem k0_X4_checkWhat {st : DSt} {a0 : Int32} {a1 : Int32} (hf : fX4_checkWhat st a0 a1 = some (.inr ())) : dm_K1 yX4_checkWhat cX4_checkWhat 2 none rmK0_X4_checkWhat 0 0 [DI a0, DI a1] st none st := by
  refine dm_k1 (by decide) rfl (Nat.le_of_ble_eq_true rfl) fun Y hC hN hI hE => ?_
  unfold fX4_checkWhat at hf
  refine dm_sub (lv' := [(0, DI a0), (1, DI a1)]) ([0, 1]) rfl ?_
  refine r_iload_n (pc := 0) hC dX4_checkWhat_0 rfl 0 rfl ?_
  refine r_if_lt (pc := 1) (tgt := 9) hC dX4_checkWhat_1 (by decide) (fun c2 => ?_) (fun c2 => ?_)
  · replace hf := oi_t c2 hf
    cases hf
  · replace hf := oi_f c2 hf
    refine r_iload_n (pc := 4) hC dX4_checkWhat_4 rfl 0 rfl ?_
    refine r_iload_n (pc := 5) hC dX4_checkWhat_5 rfl 1 rfl ?_
    refine r_icmp_le (pc := 6) (tgt := 20) hC dX4_checkWhat_6 (by decide) (fun c1 => ?_) (fun c1 => ?_)
    · replace hf := oi_t c1 hf
      exact r_vret (pc := 20) hE hC f1pV ⟨Nat.le_of_ble_eq_true rfl, Nat.le_of_ble_eq_true rfl⟩ dX4_checkWhat_20
    · replace hf := oi_f c1 hf
      cases hf
abbrev rmK0_X4_told : Room := { frames := 2, cells := 0, slots := 0, locals := 35 }
set_option maxRecDepth 100000 in
set_option maxHeartbeats 4000000 in
theorem k0_X4_told {st : DSt} {x : Nat} {a0 : Int32} {a1 : Int32} {v : Int32} (hf : fX4_told st x a0 a1 = some (.inr v)) : dm_K1 yX4_told cX4_told 4 (some .int) rmK0_X4_told 0 0 [DR (some x), DI a0, DI a1] st (some (DI v)) st := by
  refine dm_k1 (by decide) rfl (Nat.le_of_ble_eq_true rfl) fun Y hC hN hI hE => ?_
  unfold fX4_told at hf
  refine dm_sub (lv' := [(0, DR (some x)), (1, DI a0), (2, DI a1)]) ([0, 1, 2]) rfl ?_
  refine r_aload_n (pc := 0) hC dX4_told_0 rfl 0 rfl ?_
  refine r_iload_n (pc := 1) hC dX4_told_1 rfl 1 rfl ?_
  obtain ⟨b1, gb1, hf⟩ := ob hf
  rcases xb hf with ⟨eq2, _, hrq2⟩ | ⟨q2, eq2, hf⟩
  · cases hrq2
  refine r_callV (pc := 2) (As := [DI a0]) (rest := []) (stk' := [DR q2]) (k0_X4_bowlAt eq2) gb1 rfl hC wd_1_168 wd_1_170 wd_s_3 wd_1_171 wd_1_1 md_X4_bowlAt rfl ⟨rfl, rfl, Nat.le_of_ble_eq_true rfl, Nat.le_of_ble_eq_true rfl, Nat.le_of_ble_eq_true rfl, Nat.le_of_ble_eq_true rfl⟩ dX4_told_2 rfl (Nat.le_of_ble_eq_true rfl) rfl ?_
  refine r_astore_n (pc := 5) (lv' := [(3, DR q2), (0, DR (some x)), (1, DI a0), (2, DI a1)]) hC hN dX4_told_5 rfl (by decide) rfl ?_
  refine r_iload_n (pc := 6) hC dX4_told_6 rfl 3 rfl ?_
  refine r_bipush (pc := 7) (v := 7) hC dX4_told_7 (by decide) ?_
  rcases xb hf with ⟨eq3, _, hrq3⟩ | ⟨q3, eq3, hf⟩
  · cases hrq3
  refine r_callS (pc := 9) (As := [DI a1, DI 7]) (rest := []) (stk' := []) (k0_X4_checkWhat eq3) hC wd_1_173 wd_1_174 wd_1_175 wd_1_1 md_X4_checkWhat rfl ⟨rfl, rfl, Nat.le_of_ble_eq_true rfl, Nat.le_of_ble_eq_true rfl, Nat.le_of_ble_eq_true rfl, Nat.le_of_ble_eq_true rfl⟩ dX4_told_9 rfl (Nat.le_of_ble_eq_true rfl) rfl ?_
  refine r_iload_n (pc := 12) hC dX4_told_12 rfl 3 rfl ?_
  refine r_if_ne (pc := 13) (tgt := 21) hC dX4_told_13 (by decide) (fun c14 => ?_) (fun c14 => ?_)
  · replace hf := oi_f c14 hf
    refine r_iload_n (pc := 21) hC dX4_told_21 rfl 3 rfl ?_
    refine r_iconst (pc := 22) (v := 5) hC dX4_told_22 (by decide) ?_
    refine r_icmp_gt (pc := 23) (tgt := 36) hC dX4_told_23 (by decide) (fun c12 => ?_) (fun c12 => ?_)
    · replace hf := oi_t c12 hf
      refine r_iload_n (pc := 36) hC dX4_told_36 rfl 3 rfl ?_
      refine r_bipush (pc := 37) (v := 6) hC dX4_told_37 (by decide) ?_
      refine r_icmp_ne (pc := 39) (tgt := 49) hC dX4_told_39 (by decide) (fun c8 => ?_) (fun c8 => ?_)
      · replace hf := oi_f c8 hf
        refine r_aload_n (pc := 49) hC dX4_told_49 rfl 0 rfl ?_
        obtain ⟨v4, ev4, hf⟩ := ob hf
        refine r_getR (pc := 50) CF0 (k := 0) hC (by decide) wd_2_95 dX4_told_50 ev4 ?_
        obtain ⟨b5, gb5, hf⟩ := ob hf
        obtain ⟨q6, eq6, hf⟩ := ob hf
        refine r_callV (pc := 53) (As := []) (rest := []) (stk' := [DI q6]) (k1_X2_temper eq6) gb5 rfl hC wd_1_177 wd_1_178 wd_1_179 wd_1_180 wd_1_2 md_X2_temper rfl ⟨rfl, rfl, Nat.le_of_ble_eq_true rfl, Nat.le_of_ble_eq_true rfl, Nat.le_of_ble_eq_true rfl, Nat.le_of_ble_eq_true rfl⟩ dX4_told_53 rfl (Nat.le_of_ble_eq_true rfl) rfl ?_
        exact r_iret (pc := 56) hE hC (f0pI hf) ⟨Nat.le_of_ble_eq_true rfl, Nat.le_of_ble_eq_true rfl⟩ dX4_told_56
      · replace hf := oi_t c8 hf
        refine r_aload_n (pc := 42) hC dX4_told_42 rfl 0 rfl ?_
        obtain ⟨v7, ev7, hf⟩ := ob hf
        refine r_getI (pc := 43) CF0 (k := 2) hC (by decide) wd_2_99 dX4_told_43 ev7 ?_
        refine r_goto (pc := 46) (tgt := 56) hC dX4_told_46 (by decide) ?_
        exact r_iret (pc := 56) hE hC (f0pI hf) ⟨Nat.le_of_ble_eq_true rfl, Nat.le_of_ble_eq_true rfl⟩ dX4_told_56
    · replace hf := oi_f c12 hf
      refine r_aload_n (pc := 26) hC dX4_told_26 rfl 0 rfl ?_
      obtain ⟨v9, ev9, hf⟩ := ob hf
      refine r_getR (pc := 27) CF0 (k := 0) hC (by decide) wd_2_95 dX4_told_27 ev9 ?_
      obtain ⟨v10, ev10, hf⟩ := ob hf
      refine r_getR (pc := 30) CF2 (k := 0) hC (by decide) wd_1_37 dX4_told_30 ev10 ?_
      refine r_iload_n (pc := 33) hC dX4_told_33 rfl 3 rfl ?_
      obtain ⟨v11, ev11, hf⟩ := ob hf
      refine r_iaload (pc := 34) hC dX4_told_34 ev11 ?_
      exact r_iret (pc := 35) hE hC (f0pI hf) ⟨Nat.le_of_ble_eq_true rfl, Nat.le_of_ble_eq_true rfl⟩ dX4_told_35
  · replace hf := oi_t c14 hf
    refine r_aload_n (pc := 16) hC dX4_told_16 rfl 0 rfl ?_
    obtain ⟨v13, ev13, hf⟩ := ob hf
    refine r_getI (pc := 17) CF0 (k := 1) hC (by decide) wd_2_97 dX4_told_17 ev13 ?_
    exact r_iret (pc := 20) hE hC (f0pI hf) ⟨Nat.le_of_ble_eq_true rfl, Nat.le_of_ble_eq_true rfl⟩ dX4_told_20
abbrev rmK1_X4_firstEmptyBoxFor : Room := { frames := 2, cells := 0, slots := 0, locals := 42 }
set_option maxRecDepth 100000 in
set_option maxHeartbeats 4000000 in
theorem k1_X4_firstEmptyBoxFor {st : DSt} {x : Nat} {a0 : Option Nat} {v : Int32} (hf : fX4_firstEmptyBoxFor st x a0 = some v) : dm_K1 yX4_firstEmptyBoxFor cX4_firstEmptyBoxFor 4 (some .int) rmK1_X4_firstEmptyBoxFor 0 0 [DR (some x), DR a0] st (some (DI v)) st := by
  refine dm_k1 (by decide) rfl (Nat.le_of_ble_eq_true rfl) fun Y hC hN hI hE => ?_
  unfold fX4_firstEmptyBoxFor at hf
  refine dm_sub (lv' := [(0, DR (some x)), (1, DR a0)]) ([0, 1]) rfl ?_
  refine r_iconst (pc := 0) (v := 0) hC dX4_firstEmptyBoxFor_0 (by decide) ?_
  refine r_istore_n (pc := 1) (lv' := [(2, DI 0), (0, DR (some x)), (1, DR a0)]) hC hN dX4_firstEmptyBoxFor_1 rfl (by decide) rfl ?_
  obtain ⟨b1, eb1, hf⟩ := ob hf
  refine dm_sub (lv' := [(0, DR (some x)), (1, DR a0), (2, DI 0)]) [1, 2, 0] rfl ?_
  refine dlp_W _ (fun (z1 : Int32) => dm_W Y 0 0 st 2 [(0, DR (some x)), (1, DR a0), (2, DI z1)] []) (fun (b1 : (Int32) ⊕ (Int32)) => match b1 with | .inl yb1 => dm_W Y 0 0 st 46 [(0, DR (some x)), (1, DR a0), (2, DI yb1)] [] | .inr r9 => some r9 = some v) ?_ eb1 ?_
  · intro z1 r hf hk
    unfold fX4_firstEmptyBoxFor_L2 at hf
    refine r_iload_n (pc := 2) hC dX4_firstEmptyBoxFor_2 rfl 2 rfl ?_
    refine r_bipush (pc := 3) (v := 6) hC dX4_firstEmptyBoxFor_3 (by decide) ?_
    refine r_icmp_ge (pc := 5) (tgt := 46) hC dX4_firstEmptyBoxFor_5 (by decide) (fun c12 => ?_) (fun c12 => ?_)
    · replace hf := oi_t c12 hf
      cases hf
      exact dm_sub [0, 1, 2] rfl hk
    · replace hf := oi_f c12 hf
      refine r_aload_n (pc := 8) hC dX4_firstEmptyBoxFor_8 rfl 0 rfl ?_
      obtain ⟨v2, ev2, hf⟩ := ob hf
      refine r_getR (pc := 9) CF4 (k := 2) hC (by decide) wd_1_44 dX4_firstEmptyBoxFor_9 ev2 ?_
      refine r_iload_n (pc := 12) hC dX4_firstEmptyBoxFor_12 rfl 2 rfl ?_
      obtain ⟨v3, ev3, hf⟩ := ob hf
      refine r_aaload (pc := 13) (kd := 4) (fun _ => rfl) hC dX4_firstEmptyBoxFor_13 ev3 ?_
      refine r_astore_n (pc := 14) (lv' := [(3, DR v3), (0, DR (some x)), (1, DR a0), (2, DI z1)]) hC hN dX4_firstEmptyBoxFor_14 rfl (by decide) rfl ?_
      refine r_aload_n (pc := 15) hC dX4_firstEmptyBoxFor_15 rfl 0 rfl ?_
      refine r_ifnull (pc := 16) (tgt := 40) hC dX4_firstEmptyBoxFor_16 (by decide) (fun c4 => ?_) (fun n5 c4 => ?_)
      · subst c4
        refine r_iinc (pc := 40) (pos := 3) (v := (z1 + 1)) (lv' := [(2, DI (z1 + 1)), (3, DR none), (0, DR (some x)), (1, DR a0)]) hC hN dX4_firstEmptyBoxFor_40 rfl rfl (by decide) rfl ?_
        refine r_goto (pc := 43) (tgt := 2) hC dX4_firstEmptyBoxFor_43 (by decide) ?_
        cases hf
        exact dm_sub [2, 3, 0] rfl hk
      · subst c4
        refine r_aload_n (pc := 19) hC dX4_firstEmptyBoxFor_19 rfl 0 rfl ?_
        obtain ⟨v6, ev6, hf⟩ := ob hf
        refine r_getI (pc := 20) CF1 (k := 2) hC (by decide) wd_3_2 dX4_firstEmptyBoxFor_20 ev6 ?_
        refine r_if_ne (pc := 23) (tgt := 40) hC dX4_firstEmptyBoxFor_23 (by decide) (fun c11 => ?_) (fun c11 => ?_)
        · replace hf := oi_f c11 hf
          refine r_iinc (pc := 40) (pos := 3) (v := (z1 + 1)) (lv' := [(2, DI (z1 + 1)), (3, DR (some n5)), (0, DR (some x)), (1, DR a0)]) hC hN dX4_firstEmptyBoxFor_40 rfl rfl (by decide) rfl ?_
          refine r_goto (pc := 43) (tgt := 2) hC dX4_firstEmptyBoxFor_43 (by decide) ?_
          cases hf
          exact dm_sub [2, 3, 0] rfl hk
        · replace hf := oi_t c11 hf
          refine r_aload_n (pc := 26) hC dX4_firstEmptyBoxFor_26 rfl 0 rfl ?_
          refine r_aload_n (pc := 27) hC dX4_firstEmptyBoxFor_27 rfl 2 rfl ?_
          refine r_aload_n (pc := 28) hC dX4_firstEmptyBoxFor_28 rfl 2 rfl ?_
          obtain ⟨v7, ev7, hf⟩ := ob hf
          refine r_getI (pc := 29) CF3 (k := 3) hC (by decide) wd_2_201 dX4_firstEmptyBoxFor_29 ev7 ?_
          obtain ⟨b8, gb8, hf⟩ := ob hf
          obtain ⟨q9, eq9, hf⟩ := ob hf
          refine r_callV (pc := 32) (As := [DR a0, DI v7]) (rest := []) (stk' := [DI q9]) (k1_X1_suits eq9) gb8 rfl hC wd_1_197 wd_1_198 wd_1_199 wd_1_200 wd_1_14 md_X1_suits rfl ⟨rfl, rfl, Nat.le_of_ble_eq_true rfl, Nat.le_of_ble_eq_true rfl, Nat.le_of_ble_eq_true rfl, Nat.le_of_ble_eq_true rfl⟩ dX4_firstEmptyBoxFor_32 rfl (Nat.le_of_ble_eq_true rfl) rfl ?_
          refine r_if_eq (pc := 35) (tgt := 40) hC dX4_firstEmptyBoxFor_35 (by decide) (fun c10 => ?_) (fun c10 => ?_)
          · replace hf := oi_t c10 hf
            refine r_iinc (pc := 40) (pos := 3) (v := (z1 + 1)) (lv' := [(2, DI (z1 + 1)), (3, DR (some n5)), (0, DR (some x)), (1, DR a0)]) hC hN dX4_firstEmptyBoxFor_40 rfl rfl (by decide) rfl ?_
            refine r_goto (pc := 43) (tgt := 2) hC dX4_firstEmptyBoxFor_43 (by decide) ?_
            cases hf
            exact dm_sub [2, 3, 0] rfl hk
          · replace hf := oi_f c10 hf
            refine r_iload_n (pc := 38) hC dX4_firstEmptyBoxFor_38 rfl 3 rfl ?_
            cases hf
            exact r_iret (pc := 39) hE hC (f1pI hk) ⟨Nat.le_of_ble_eq_true rfl, Nat.le_of_ble_eq_true rfl⟩ dX4_firstEmptyBoxFor_39
  · rcases b1 with yb1 | r9
    · refine r_iconst (pc := 46) (v := (-1)) hC dX4_firstEmptyBoxFor_46 (by decide) ?_
      exact r_iret (pc := 47) hE hC (f1pI hf) ⟨Nat.le_of_ble_eq_true rfl, Nat.le_of_ble_eq_true rfl⟩ dX4_firstEmptyBoxFor_47
    · exact hf
abbrev rmK0_X4_about : Room := { frames := 3, cells := 0, slots := 0, locals := 65 }
set_option maxRecDepth 100000 in
set_option maxHeartbeats 4000000 in
theorem k0_X4_about {st : DSt} {x : Nat} {a0 : Int32} {a1 : Int32} {v : Int32} (hf : fX4_about st x a0 a1 = some (.inr v)) : dm_K1 yX4_about cX4_about 4 (some .int) rmK0_X4_about 0 0 [DR (some x), DI a0, DI a1] st (some (DI v)) st := by
  refine dm_k1 (by decide) rfl (Nat.le_of_ble_eq_true rfl) fun Y hC hN hI hE => ?_
  unfold fX4_about at hf
  refine dm_sub (lv' := [(0, DR (some x)), (1, DI a0), (2, DI a1)]) ([0, 1, 2]) rfl ?_
  refine r_aload_n (pc := 0) hC dX4_about_0 rfl 0 rfl ?_
  refine r_iload_n (pc := 1) hC dX4_about_1 rfl 1 rfl ?_
  obtain ⟨b1, gb1, hf⟩ := ob hf
  rcases xb hf with ⟨eq2, _, hrq2⟩ | ⟨q2, eq2, hf⟩
  · cases hrq2
  refine r_callV (pc := 2) (As := [DI a0]) (rest := []) (stk' := [DR q2]) (k0_X4_slabAt eq2) gb1 rfl hC wd_1_81 wd_1_83 wd_s_0 wd_1_84 wd_1_1 md_X4_slabAt rfl ⟨rfl, rfl, Nat.le_of_ble_eq_true rfl, Nat.le_of_ble_eq_true rfl, Nat.le_of_ble_eq_true rfl, Nat.le_of_ble_eq_true rfl⟩ dX4_about_2 rfl (Nat.le_of_ble_eq_true rfl) rfl ?_
  refine r_astore_n (pc := 5) (lv' := [(3, DR q2), (0, DR (some x)), (1, DI a0), (2, DI a1)]) hC hN dX4_about_5 rfl (by decide) rfl ?_
  refine r_iload_n (pc := 6) hC dX4_about_6 rfl 3 rfl ?_
  refine r_bipush (pc := 7) (v := 6) hC dX4_about_7 (by decide) ?_
  rcases xb hf with ⟨eq3, _, hrq3⟩ | ⟨q3, eq3, hf⟩
  · cases hrq3
  refine r_callS (pc := 9) (As := [DI a1, DI 6]) (rest := []) (stk' := []) (k0_X4_checkWhat eq3) hC wd_1_173 wd_1_174 wd_1_175 wd_1_1 md_X4_checkWhat rfl ⟨rfl, rfl, Nat.le_of_ble_eq_true rfl, Nat.le_of_ble_eq_true rfl, Nat.le_of_ble_eq_true rfl, Nat.le_of_ble_eq_true rfl⟩ dX4_about_9 rfl (Nat.le_of_ble_eq_true rfl) rfl ?_
  refine r_iload_n (pc := 12) hC dX4_about_12 rfl 3 rfl ?_
  by_cases c4 : a1 = 0
  · replace hf := oi_t c4 hf
    refine r_tswIn (pc := 13) (off := 39) (tgt := 52) hC dX4_about_13 (by rw [c4]; decide) (by rw [c4]; decide) (by rw [c4]; rfl) (by decide) ?_
    refine r_aload_n (pc := 52) hC dX4_about_52 rfl 0 rfl ?_
    obtain ⟨v11, ev11, hf⟩ := ob hf
    refine r_getI (pc := 53) CF3 (k := 1) hC (by decide) wd_2_196 dX4_about_53 ev11 ?_
    exact r_iret (pc := 56) hE hC (f0pI hf) ⟨Nat.le_of_ble_eq_true rfl, Nat.le_of_ble_eq_true rfl⟩ dX4_about_56
  replace hf := oi_f c4 hf
  by_cases c5 : a1 = 1
  · replace hf := oi_t c5 hf
    refine r_tswIn (pc := 13) (off := 44) (tgt := 57) hC dX4_about_13 (by rw [c5]; decide) (by rw [c5]; decide) (by rw [c5]; rfl) (by decide) ?_
    refine r_aload_n (pc := 57) hC dX4_about_57 rfl 0 rfl ?_
    obtain ⟨v12, ev12, hf⟩ := ob hf
    refine r_getI (pc := 58) CF3 (k := 2) hC (by decide) wd_2_198 dX4_about_58 ev12 ?_
    exact r_iret (pc := 61) hE hC (f0pI hf) ⟨Nat.le_of_ble_eq_true rfl, Nat.le_of_ble_eq_true rfl⟩ dX4_about_61
  replace hf := oi_f c5 hf
  by_cases c6 : a1 = 2
  · replace hf := oi_t c6 hf
    refine r_tswIn (pc := 13) (off := 49) (tgt := 62) hC dX4_about_13 (by rw [c6]; decide) (by rw [c6]; decide) (by rw [c6]; rfl) (by decide) ?_
    refine r_aload_n (pc := 62) hC dX4_about_62 rfl 0 rfl ?_
    obtain ⟨v13, ev13, hf⟩ := ob hf
    refine r_getI (pc := 63) CF3 (k := 0) hC (by decide) wd_2_194 dX4_about_63 ev13 ?_
    exact r_iret (pc := 66) hE hC (f0pI hf) ⟨Nat.le_of_ble_eq_true rfl, Nat.le_of_ble_eq_true rfl⟩ dX4_about_66
  replace hf := oi_f c6 hf
  by_cases c7 : a1 = 3
  · replace hf := oi_t c7 hf
    refine r_tswIn (pc := 13) (off := 54) (tgt := 67) hC dX4_about_13 (by rw [c7]; decide) (by rw [c7]; decide) (by rw [c7]; rfl) (by decide) ?_
    refine r_aload_n (pc := 67) hC dX4_about_67 rfl 0 rfl ?_
    obtain ⟨v14, ev14, hf⟩ := ob hf
    refine r_getI (pc := 68) CF3 (k := 3) hC (by decide) wd_2_201 dX4_about_68 ev14 ?_
    exact r_iret (pc := 71) hE hC (f0pI hf) ⟨Nat.le_of_ble_eq_true rfl, Nat.le_of_ble_eq_true rfl⟩ dX4_about_71
  replace hf := oi_f c7 hf
  by_cases c8 : a1 = 4
  · replace hf := oi_t c8 hf
    refine r_tswIn (pc := 13) (off := 59) (tgt := 72) hC dX4_about_13 (by rw [c8]; decide) (by rw [c8]; decide) (by rw [c8]; rfl) (by decide) ?_
    refine r_aload_n (pc := 72) hC dX4_about_72 rfl 0 rfl ?_
    obtain ⟨v15, ev15, hf⟩ := ob hf
    refine r_getI (pc := 73) CF3 (k := 4) hC (by decide) wd_2_203 dX4_about_73 ev15 ?_
    exact r_iret (pc := 76) hE hC (f0pI hf) ⟨Nat.le_of_ble_eq_true rfl, Nat.le_of_ble_eq_true rfl⟩ dX4_about_76
  replace hf := oi_f c8 hf
  by_cases c9 : a1 = 5
  · replace hf := oi_t c9 hf
    refine r_tswIn (pc := 13) (off := 64) (tgt := 77) hC dX4_about_13 (by rw [c9]; decide) (by rw [c9]; decide) (by rw [c9]; rfl) (by decide) ?_
    refine r_aload_n (pc := 77) hC dX4_about_77 rfl 0 rfl ?_
    obtain ⟨b16, gb16, hf⟩ := ob hf
    obtain ⟨q17, eq17, hf⟩ := ob hf
    refine r_callV (pc := 78) (As := []) (rest := []) (stk' := [DI q17]) (k1_X3_squares eq17) gb16 rfl hC wd_1_189 wd_1_190 wd_1_191 wd_1_192 wd_1_13 md_X3_squares rfl ⟨rfl, rfl, Nat.le_of_ble_eq_true rfl, Nat.le_of_ble_eq_true rfl, Nat.le_of_ble_eq_true rfl, Nat.le_of_ble_eq_true rfl⟩ dX4_about_78 rfl (Nat.le_of_ble_eq_true rfl) rfl ?_
    exact r_iret (pc := 81) hE hC (f0pI hf) ⟨Nat.le_of_ble_eq_true rfl, Nat.le_of_ble_eq_true rfl⟩ dX4_about_81
  replace hf := oi_f c9 hf
  have ho : ∀ k, k < 6 → ¬ a1 = nI k := by
    intro k hk hz
    rcases (show k = 0 ∨ k = 1 ∨ k = 2 ∨ k = 3 ∨ k = 4 ∨ k = 5 by omega) with rfl | rfl | rfl | rfl | rfl | rfl
    · exact c4 (hz.trans rfl)
    · exact c5 (hz.trans rfl)
    · exact c6 (hz.trans rfl)
    · exact c7 (hz.trans rfl)
    · exact c8 (hz.trans rfl)
    · exact c9 (hz.trans rfl)
  refine r_tswOut (pc := 13) (tgt := 82) hC dX4_about_13 (by have q := dm_out (by decide) ho; omega) (by decide) ?_
  refine r_aload_n (pc := 82) hC dX4_about_82 rfl 1 rfl ?_
  refine r_aload_n (pc := 83) hC dX4_about_83 rfl 0 rfl ?_
  obtain ⟨b18, gb18, hf⟩ := ob hf
  obtain ⟨q19, eq19, hf⟩ := ob hf
  refine r_callV (pc := 84) (As := [DR q2]) (rest := []) (stk' := [DI q19]) (k1_X4_firstEmptyBoxFor eq19) gb18 rfl hC wd_1_193 wd_1_195 wd_s_4 wd_1_196 wd_1_1 md_X4_firstEmptyBoxFor rfl ⟨rfl, rfl, Nat.le_of_ble_eq_true rfl, Nat.le_of_ble_eq_true rfl, Nat.le_of_ble_eq_true rfl, Nat.le_of_ble_eq_true rfl⟩ dX4_about_84 rfl (Nat.le_of_ble_eq_true rfl) rfl ?_
  exact r_iret (pc := 87) hE hC (f0pI hf) ⟨Nat.le_of_ble_eq_true rfl, Nat.le_of_ble_eq_true rfl⟩ dX4_about_87
abbrev rmK0_X4_boxAt : Room := { frames := 0, cells := 0, slots := 0, locals := 0 }
set_option maxRecDepth 100000 in
set_option maxHeartbeats 4000000 in
theorem k0_X4_boxAt {st : DSt} {x : Nat} {a0 : Int32} {v : Option Nat} (hf : fX4_boxAt st x a0 = some (.inr v)) : dm_K1 yX4_boxAt cX4_boxAt 3 (some (.object "ChocolateMoulds$Box")) rmK0_X4_boxAt 0 0 [DR (some x), DI a0] st (some (DR v)) st := by
  refine dm_k1 (by decide) rfl (Nat.le_of_ble_eq_true rfl) fun Y hC hN hI hE => ?_
  unfold fX4_boxAt at hf
  refine dm_sub (lv' := [(0, DR (some x)), (1, DI a0)]) ([0, 1]) rfl ?_
  refine r_iload_n (pc := 0) hC dX4_boxAt_0 rfl 1 rfl ?_
  refine r_if_lt (pc := 1) (tgt := 10) hC dX4_boxAt_1 (by decide) (fun c8 => ?_) (fun c8 => ?_)
  · replace hf := oi_t c8 hf
    refine r_null (pc := 10) hC dX4_boxAt_10 ?_
    refine r_goto (pc := 11) (tgt := 20) hC dX4_boxAt_11 (by decide) ?_
    refine r_astore_n (pc := 20) (lv' := [(2, DR none), (0, DR (some x)), (1, DI a0)]) hC hN dX4_boxAt_20 rfl (by decide) rfl ?_
    refine r_aload_n (pc := 21) hC dX4_boxAt_21 rfl 0 rfl ?_
    refine r_ifnonnull (pc := 22) (tgt := 36) hC dX4_boxAt_22 (by decide) (fun _ c => nomatch c) (fun _ => ?_)
    cases hf
  · replace hf := oi_f c8 hf
    refine r_iload_n (pc := 4) hC dX4_boxAt_4 rfl 1 rfl ?_
    refine r_bipush (pc := 5) (v := 6) hC dX4_boxAt_5 (by decide) ?_
    refine r_icmp_lt (pc := 7) (tgt := 14) hC dX4_boxAt_7 (by decide) (fun c7 => ?_) (fun c7 => ?_)
    · replace hf := oi_t c7 hf
      refine r_aload_n (pc := 14) hC dX4_boxAt_14 rfl 0 rfl ?_
      obtain ⟨v2, ev2, hf⟩ := ob hf
      refine r_getR (pc := 15) CF4 (k := 2) hC (by decide) wd_1_44 dX4_boxAt_15 ev2 ?_
      refine r_iload_n (pc := 18) hC dX4_boxAt_18 rfl 1 rfl ?_
      obtain ⟨v3, ev3, hf⟩ := ob hf
      refine r_aaload (pc := 19) (kd := 4) (fun _ => rfl) hC dX4_boxAt_19 ev3 ?_
      refine r_astore_n (pc := 20) (lv' := [(2, DR v3), (0, DR (some x)), (1, DI a0)]) hC hN dX4_boxAt_20 rfl (by decide) rfl ?_
      refine r_aload_n (pc := 21) hC dX4_boxAt_21 rfl 0 rfl ?_
      refine r_ifnonnull (pc := 22) (tgt := 36) hC dX4_boxAt_22 (by decide) (fun n5 c4 => ?_) (fun c4 => ?_)
      · subst c4
        refine r_aload_n (pc := 36) hC dX4_boxAt_36 rfl 0 rfl ?_
        exact r_aret (pc := 37) (by exact Or.inl ⟨_, rfl⟩) hE hC (f0pR hf) ⟨Nat.le_of_ble_eq_true rfl, Nat.le_of_ble_eq_true rfl⟩ dX4_boxAt_37
      · subst c4
        cases hf
    · replace hf := oi_f c7 hf
      refine r_null (pc := 10) hC dX4_boxAt_10 ?_
      refine r_goto (pc := 11) (tgt := 20) hC dX4_boxAt_11 (by decide) ?_
      refine r_astore_n (pc := 20) (lv' := [(2, DR none), (0, DR (some x)), (1, DI a0)]) hC hN dX4_boxAt_20 rfl (by decide) rfl ?_
      refine r_aload_n (pc := 21) hC dX4_boxAt_21 rfl 0 rfl ?_
      refine r_ifnonnull (pc := 22) (tgt := 36) hC dX4_boxAt_22 (by decide) (fun _ c => nomatch c) (fun _ => ?_)
      cases hf
abbrev rmK0_X4_order : Room := { frames := 1, cells := 0, slots := 0, locals := 22 }
set_option maxRecDepth 100000 in
set_option maxHeartbeats 4000000 in
theorem k0_X4_order {st : DSt} {x : Nat} {a0 : Int32} {a1 : Int32} {v : Int32} (hf : fX4_order st x a0 a1 = some (.inr v)) : dm_K1 yX4_order cX4_order 4 (some .int) rmK0_X4_order 0 0 [DR (some x), DI a0, DI a1] st (some (DI v)) st := by
  refine dm_k1 (by decide) rfl (Nat.le_of_ble_eq_true rfl) fun Y hC hN hI hE => ?_
  unfold fX4_order at hf
  refine dm_sub (lv' := [(0, DR (some x)), (1, DI a0), (2, DI a1)]) ([0, 1, 2]) rfl ?_
  refine r_aload_n (pc := 0) hC dX4_order_0 rfl 0 rfl ?_
  refine r_iload_n (pc := 1) hC dX4_order_1 rfl 1 rfl ?_
  obtain ⟨b1, gb1, hf⟩ := ob hf
  rcases xb hf with ⟨eq2, _, hrq2⟩ | ⟨q2, eq2, hf⟩
  · cases hrq2
  refine r_callV (pc := 2) (As := [DI a0]) (rest := []) (stk' := [DR q2]) (k0_X4_boxAt eq2) gb1 rfl hC wd_1_206 wd_1_208 wd_s_5 wd_1_209 wd_1_1 md_X4_boxAt rfl ⟨rfl, rfl, Nat.le_of_ble_eq_true rfl, Nat.le_of_ble_eq_true rfl, Nat.le_of_ble_eq_true rfl, Nat.le_of_ble_eq_true rfl⟩ dX4_order_2 rfl (Nat.le_of_ble_eq_true rfl) rfl ?_
  refine r_astore_n (pc := 5) (lv' := [(3, DR q2), (0, DR (some x)), (1, DI a0), (2, DI a1)]) hC hN dX4_order_5 rfl (by decide) rfl ?_
  refine r_iload_n (pc := 6) hC dX4_order_6 rfl 3 rfl ?_
  refine r_iconst (pc := 7) (v := 4) hC dX4_order_7 (by decide) ?_
  rcases xb hf with ⟨eq3, _, hrq3⟩ | ⟨q3, eq3, hf⟩
  · cases hrq3
  refine r_callS (pc := 8) (As := [DI a1, DI 4]) (rest := []) (stk' := []) (k0_X4_checkWhat eq3) hC wd_1_173 wd_1_174 wd_1_175 wd_1_1 md_X4_checkWhat rfl ⟨rfl, rfl, Nat.le_of_ble_eq_true rfl, Nat.le_of_ble_eq_true rfl, Nat.le_of_ble_eq_true rfl, Nat.le_of_ble_eq_true rfl⟩ dX4_order_8 rfl (Nat.le_of_ble_eq_true rfl) rfl ?_
  refine r_iload_n (pc := 11) hC dX4_order_11 rfl 3 rfl ?_
  by_cases c4 : a1 = 0
  · replace hf := oi_t c4 hf
    refine r_tswIn (pc := 12) (off := 32) (tgt := 44) hC dX4_order_12 (by rw [c4]; decide) (by rw [c4]; decide) (by rw [c4]; rfl) (by decide) ?_
    refine r_aload_n (pc := 44) hC dX4_order_44 rfl 0 rfl ?_
    obtain ⟨v9, ev9, hf⟩ := ob hf
    refine r_getI (pc := 45) CF1 (k := 0) hC (by decide) wd_2_238 dX4_order_45 ev9 ?_
    exact r_iret (pc := 48) hE hC (f0pI hf) ⟨Nat.le_of_ble_eq_true rfl, Nat.le_of_ble_eq_true rfl⟩ dX4_order_48
  replace hf := oi_f c4 hf
  by_cases c5 : a1 = 1
  · replace hf := oi_t c5 hf
    refine r_tswIn (pc := 12) (off := 37) (tgt := 49) hC dX4_order_12 (by rw [c5]; decide) (by rw [c5]; decide) (by rw [c5]; rfl) (by decide) ?_
    refine r_aload_n (pc := 49) hC dX4_order_49 rfl 0 rfl ?_
    obtain ⟨v10, ev10, hf⟩ := ob hf
    refine r_getI (pc := 50) CF1 (k := 1) hC (by decide) wd_3_0 dX4_order_50 ev10 ?_
    exact r_iret (pc := 53) hE hC (f0pI hf) ⟨Nat.le_of_ble_eq_true rfl, Nat.le_of_ble_eq_true rfl⟩ dX4_order_53
  replace hf := oi_f c5 hf
  by_cases c6 : a1 = 2
  · replace hf := oi_t c6 hf
    refine r_tswIn (pc := 12) (off := 42) (tgt := 54) hC dX4_order_12 (by rw [c6]; decide) (by rw [c6]; decide) (by rw [c6]; rfl) (by decide) ?_
    refine r_aload_n (pc := 54) hC dX4_order_54 rfl 0 rfl ?_
    obtain ⟨v11, ev11, hf⟩ := ob hf
    refine r_getI (pc := 55) CF1 (k := 2) hC (by decide) wd_3_2 dX4_order_55 ev11 ?_
    refine r_if_eq (pc := 58) (tgt := 65) hC dX4_order_58 (by decide) (fun c12 => ?_) (fun c12 => ?_)
    · replace hf := oi_t c12 hf
      refine r_iconst (pc := 65) (v := 0) hC dX4_order_65 (by decide) ?_
      exact r_iret (pc := 66) hE hC (f0pI hf) ⟨Nat.le_of_ble_eq_true rfl, Nat.le_of_ble_eq_true rfl⟩ dX4_order_66
    · replace hf := oi_f c12 hf
      refine r_iconst (pc := 61) (v := 1) hC dX4_order_61 (by decide) ?_
      refine r_goto (pc := 62) (tgt := 66) hC dX4_order_62 (by decide) ?_
      exact r_iret (pc := 66) hE hC (f0pI hf) ⟨Nat.le_of_ble_eq_true rfl, Nat.le_of_ble_eq_true rfl⟩ dX4_order_66
  replace hf := oi_f c6 hf
  by_cases c7 : a1 = 3
  · replace hf := oi_t c7 hf
    refine r_tswIn (pc := 12) (off := 55) (tgt := 67) hC dX4_order_12 (by rw [c7]; decide) (by rw [c7]; decide) (by rw [c7]; rfl) (by decide) ?_
    refine r_aload_n (pc := 67) hC dX4_order_67 rfl 0 rfl ?_
    obtain ⟨v13, ev13, hf⟩ := ob hf
    refine r_getI (pc := 68) CF1 (k := 3) hC (by decide) wd_3_4 dX4_order_68 ev13 ?_
    exact r_iret (pc := 71) hE hC (f0pI hf) ⟨Nat.le_of_ble_eq_true rfl, Nat.le_of_ble_eq_true rfl⟩ dX4_order_71
  replace hf := oi_f c7 hf
  have ho : ∀ k, k < 4 → ¬ a1 = nI k := by
    intro k hk hz
    rcases (show k = 0 ∨ k = 1 ∨ k = 2 ∨ k = 3 by omega) with rfl | rfl | rfl | rfl
    · exact c4 (hz.trans rfl)
    · exact c5 (hz.trans rfl)
    · exact c6 (hz.trans rfl)
    · exact c7 (hz.trans rfl)
  refine r_tswOut (pc := 12) (tgt := 72) hC dX4_order_12 (by have q := dm_out (by decide) ho; omega) (by decide) ?_
  refine r_aload_n (pc := 72) hC dX4_order_72 rfl 0 rfl ?_
  obtain ⟨v14, ev14, hf⟩ := ob hf
  refine r_getI (pc := 73) CF1 (k := 4) hC (by decide) wd_3_6 dX4_order_73 ev14 ?_
  exact r_iret (pc := 76) hE hC (f0pI hf) ⟨Nat.le_of_ble_eq_true rfl, Nat.le_of_ble_eq_true rfl⟩ dX4_order_76
abbrev rmK1_X4_filledBoxes : Room := { frames := 0, cells := 0, slots := 0, locals := 0 }
set_option maxRecDepth 100000 in
set_option maxHeartbeats 4000000 in
theorem k1_X4_filledBoxes {st : DSt} {x : Nat} {v : Int32} (hf : fX4_filledBoxes st x = some v) : dm_K1 yX4_filledBoxes cX4_filledBoxes 6 (some .int) rmK1_X4_filledBoxes 0 0 [DR (some x)] st (some (DI v)) st := by
  refine dm_k1 (by decide) rfl (Nat.le_of_ble_eq_true rfl) fun Y hC hN hI hE => ?_
  unfold fX4_filledBoxes at hf
  refine dm_sub (lv' := [(0, DR (some x))]) ([0]) rfl ?_
  refine r_iconst (pc := 0) (v := 0) hC dX4_filledBoxes_0 (by decide) ?_
  refine r_istore_n (pc := 1) (lv' := [(1, DI 0), (0, DR (some x))]) hC hN dX4_filledBoxes_1 rfl (by decide) rfl ?_
  refine r_aload_n (pc := 2) hC dX4_filledBoxes_2 rfl 1 rfl ?_
  obtain ⟨v1, ev1, hf⟩ := ob hf
  refine r_getR (pc := 3) CF4 (k := 2) hC (by decide) wd_1_44 dX4_filledBoxes_3 ev1 ?_
  refine r_astore_n (pc := 6) (lv' := [(2, DR v1), (1, DI 0), (0, DR (some x))]) hC hN dX4_filledBoxes_6 rfl (by decide) rfl ?_
  refine r_aload_n (pc := 7) hC dX4_filledBoxes_7 rfl 0 rfl ?_
  obtain ⟨v2, ev2, hf⟩ := ob hf
  refine r_alen (pc := 8) (kd := 4) (fun _ => rfl) hC dX4_filledBoxes_8 ev2 ?_
  refine r_istore_n (pc := 9) (lv' := [(3, DI v2), (2, DR v1), (1, DI 0), (0, DR (some x))]) hC hN dX4_filledBoxes_9 rfl (by decide) rfl ?_
  refine r_iconst (pc := 10) (v := 0) hC dX4_filledBoxes_10 (by decide) ?_
  refine r_istore (pc := 11) (lv' := [(4, DI 0), (3, DI v2), (2, DR v1), (1, DI 0), (0, DR (some x))]) hC hN dX4_filledBoxes_11 (by decide) rfl ?_
  obtain ⟨b3, eb3, hf⟩ := ob hf
  refine dm_sub (lv' := [(1, DI 0), (2, DR v1), (3, DI v2), (4, DI 0)]) [3, 2, 1, 0] rfl ?_
  refine dlp_W _ (fun (z3 : Int32 × Int32) => dm_W Y 0 0 st 13 [(1, DI z3.1), (2, DR v1), (3, DI v2), (4, DI z3.2)] []) (fun (b3 : Int32 × Int32) => dm_W Y 0 0 st 47 [(1, DI b3.1), (2, DR v1), (3, DI v2), (4, DI b3.2)] []) ?_ eb3 ?_
  · intro z3 r hf hk
    unfold fX4_filledBoxes_L13 at hf
    refine r_iload (pc := 13) hC dX4_filledBoxes_13 3 rfl ?_
    refine r_iload_n (pc := 15) hC dX4_filledBoxes_15 rfl 2 rfl ?_
    refine r_icmp_ge (pc := 16) (tgt := 47) hC dX4_filledBoxes_16 (by decide) (fun c9 => ?_) (fun c9 => ?_)
    · replace hf := oi_t c9 hf
      cases hf
      exact dm_sub [0, 1, 2, 3] rfl hk
    · replace hf := oi_f c9 hf
      refine r_aload_n (pc := 19) hC dX4_filledBoxes_19 rfl 1 rfl ?_
      refine r_iload (pc := 20) hC dX4_filledBoxes_20 3 rfl ?_
      obtain ⟨v4, ev4, hf⟩ := ob hf
      refine r_aaload (pc := 22) (kd := 4) (fun _ => rfl) hC dX4_filledBoxes_22 ev4 ?_
      refine r_astore (pc := 23) (lv' := [(5, DR v4), (1, DI z3.1), (2, DR v1), (3, DI v2), (4, DI z3.2)]) hC hN dX4_filledBoxes_23 (by decide) rfl ?_
      refine r_aload (pc := 25) hC dX4_filledBoxes_25 0 rfl ?_
      refine r_ifnull (pc := 27) (tgt := 41) hC dX4_filledBoxes_27 (by decide) (fun c5 => ?_) (fun n6 c5 => ?_)
      · subst c5
        refine r_iinc (pc := 41) (pos := 4) (v := (z3.2 + 1)) (lv' := [(4, DI (z3.2 + 1)), (5, DR none), (1, DI z3.1), (2, DR v1), (3, DI v2)]) hC hN dX4_filledBoxes_41 rfl rfl (by decide) rfl ?_
        refine r_goto (pc := 44) (tgt := 13) hC dX4_filledBoxes_44 (by decide) ?_
        cases hf
        exact dm_sub [2, 3, 4, 0] rfl hk
      · subst c5
        refine r_aload (pc := 30) hC dX4_filledBoxes_30 0 rfl ?_
        obtain ⟨v7, ev7, hf⟩ := ob hf
        refine r_getI (pc := 32) CF1 (k := 2) hC (by decide) wd_3_2 dX4_filledBoxes_32 ev7 ?_
        refine r_if_eq (pc := 35) (tgt := 41) hC dX4_filledBoxes_35 (by decide) (fun c8 => ?_) (fun c8 => ?_)
        · replace hf := oi_t c8 hf
          refine r_iinc (pc := 41) (pos := 4) (v := (z3.2 + 1)) (lv' := [(4, DI (z3.2 + 1)), (5, DR (some n6)), (1, DI z3.1), (2, DR v1), (3, DI v2)]) hC hN dX4_filledBoxes_41 rfl rfl (by decide) rfl ?_
          refine r_goto (pc := 44) (tgt := 13) hC dX4_filledBoxes_44 (by decide) ?_
          cases hf
          exact dm_sub [2, 3, 4, 0] rfl hk
        · replace hf := oi_f c8 hf
          refine r_iinc (pc := 38) (pos := 1) (v := (z3.1 + 1)) (lv' := [(1, DI (z3.1 + 1)), (5, DR (some n6)), (2, DR v1), (3, DI v2), (4, DI z3.2)]) hC hN dX4_filledBoxes_38 rfl rfl (by decide) rfl ?_
          refine r_iinc (pc := 41) (pos := 4) (v := (z3.2 + 1)) (lv' := [(4, DI (z3.2 + 1)), (1, DI (z3.1 + 1)), (5, DR (some n6)), (2, DR v1), (3, DI v2)]) hC hN dX4_filledBoxes_41 rfl rfl (by decide) rfl ?_
          refine r_goto (pc := 44) (tgt := 13) hC dX4_filledBoxes_44 (by decide) ?_
          cases hf
          exact dm_sub [1, 3, 4, 0] rfl hk
  · refine r_iload_n (pc := 47) hC dX4_filledBoxes_47 rfl 0 rfl ?_
    exact r_iret (pc := 48) hE hC (f1pI hf) ⟨Nat.le_of_ble_eq_true rfl, Nat.le_of_ble_eq_true rfl⟩ dX4_filledBoxes_48
abbrev rmK1_X4_gramsOfBowls : Room := { frames := 0, cells := 0, slots := 0, locals := 0 }
set_option maxRecDepth 100000 in
set_option maxHeartbeats 4000000 in
theorem k1_X4_gramsOfBowls {st : DSt} {x : Nat} {v : Int32} (hf : fX4_gramsOfBowls st x = some v) : dm_K1 yX4_gramsOfBowls cX4_gramsOfBowls 6 (some .int) rmK1_X4_gramsOfBowls 0 0 [DR (some x)] st (some (DI v)) st := by
  refine dm_k1 (by decide) rfl (Nat.le_of_ble_eq_true rfl) fun Y hC hN hI hE => ?_
  unfold fX4_gramsOfBowls at hf
  refine dm_sub (lv' := [(0, DR (some x))]) ([0]) rfl ?_
  refine r_iconst (pc := 0) (v := 0) hC dX4_gramsOfBowls_0 (by decide) ?_
  refine r_istore_n (pc := 1) (lv' := [(1, DI 0), (0, DR (some x))]) hC hN dX4_gramsOfBowls_1 rfl (by decide) rfl ?_
  refine r_aload_n (pc := 2) hC dX4_gramsOfBowls_2 rfl 1 rfl ?_
  obtain ⟨v1, ev1, hf⟩ := ob hf
  refine r_getR (pc := 3) CF4 (k := 0) hC (by decide) wd_1_42 dX4_gramsOfBowls_3 ev1 ?_
  refine r_astore_n (pc := 6) (lv' := [(2, DR v1), (1, DI 0), (0, DR (some x))]) hC hN dX4_gramsOfBowls_6 rfl (by decide) rfl ?_
  refine r_aload_n (pc := 7) hC dX4_gramsOfBowls_7 rfl 0 rfl ?_
  obtain ⟨v2, ev2, hf⟩ := ob hf
  refine r_alen (pc := 8) (kd := 2) (fun _ => rfl) hC dX4_gramsOfBowls_8 ev2 ?_
  refine r_istore_n (pc := 9) (lv' := [(3, DI v2), (2, DR v1), (1, DI 0), (0, DR (some x))]) hC hN dX4_gramsOfBowls_9 rfl (by decide) rfl ?_
  refine r_iconst (pc := 10) (v := 0) hC dX4_gramsOfBowls_10 (by decide) ?_
  refine r_istore (pc := 11) (lv' := [(4, DI 0), (3, DI v2), (2, DR v1), (1, DI 0), (0, DR (some x))]) hC hN dX4_gramsOfBowls_11 (by decide) rfl ?_
  obtain ⟨b3, eb3, hf⟩ := ob hf
  refine dm_sub (lv' := [(1, DI 0), (2, DR v1), (3, DI v2), (4, DI 0)]) [3, 2, 1, 0] rfl ?_
  refine dlp_W _ (fun (z3 : Int32 × Int32) => dm_W Y 0 0 st 13 [(1, DI z3.1), (2, DR v1), (3, DI v2), (4, DI z3.2)] []) (fun (b3 : Int32 × Int32) => dm_W Y 0 0 st 44 [(1, DI b3.1), (2, DR v1), (3, DI v2), (4, DI b3.2)] []) ?_ eb3 ?_
  · intro z3 r hf hk
    unfold fX4_gramsOfBowls_L13 at hf
    refine r_iload (pc := 13) hC dX4_gramsOfBowls_13 3 rfl ?_
    refine r_iload_n (pc := 15) hC dX4_gramsOfBowls_15 rfl 2 rfl ?_
    refine r_icmp_ge (pc := 16) (tgt := 44) hC dX4_gramsOfBowls_16 (by decide) (fun c8 => ?_) (fun c8 => ?_)
    · replace hf := oi_t c8 hf
      cases hf
      exact dm_sub [0, 1, 2, 3] rfl hk
    · replace hf := oi_f c8 hf
      refine r_aload_n (pc := 19) hC dX4_gramsOfBowls_19 rfl 1 rfl ?_
      refine r_iload (pc := 20) hC dX4_gramsOfBowls_20 3 rfl ?_
      obtain ⟨v4, ev4, hf⟩ := ob hf
      refine r_aaload (pc := 22) (kd := 2) (fun _ => rfl) hC dX4_gramsOfBowls_22 ev4 ?_
      refine r_astore (pc := 23) (lv' := [(5, DR v4), (1, DI z3.1), (2, DR v1), (3, DI v2), (4, DI z3.2)]) hC hN dX4_gramsOfBowls_23 (by decide) rfl ?_
      refine r_aload (pc := 25) hC dX4_gramsOfBowls_25 0 rfl ?_
      refine r_ifnull (pc := 27) (tgt := 38) hC dX4_gramsOfBowls_27 (by decide) (fun c5 => ?_) (fun n6 c5 => ?_)
      · subst c5
        refine r_iinc (pc := 38) (pos := 4) (v := (z3.2 + 1)) (lv' := [(4, DI (z3.2 + 1)), (5, DR none), (1, DI z3.1), (2, DR v1), (3, DI v2)]) hC hN dX4_gramsOfBowls_38 rfl rfl (by decide) rfl ?_
        refine r_goto (pc := 41) (tgt := 13) hC dX4_gramsOfBowls_41 (by decide) ?_
        cases hf
        exact dm_sub [2, 3, 4, 0] rfl hk
      · subst c5
        refine r_iload_n (pc := 30) hC dX4_gramsOfBowls_30 rfl 1 rfl ?_
        refine r_aload (pc := 31) hC dX4_gramsOfBowls_31 0 rfl ?_
        obtain ⟨v7, ev7, hf⟩ := ob hf
        refine r_getI (pc := 33) CF0 (k := 1) hC (by decide) wd_2_97 dX4_gramsOfBowls_33 ev7 ?_
        refine r_iadd (pc := 36) hC dX4_gramsOfBowls_36 ?_
        refine r_istore_n (pc := 37) (lv' := [(1, DI (z3.1 + v7)), (5, DR (some n6)), (2, DR v1), (3, DI v2), (4, DI z3.2)]) hC hN dX4_gramsOfBowls_37 rfl (by decide) rfl ?_
        refine r_iinc (pc := 38) (pos := 4) (v := (z3.2 + 1)) (lv' := [(4, DI (z3.2 + 1)), (1, DI (z3.1 + v7)), (5, DR (some n6)), (2, DR v1), (3, DI v2)]) hC hN dX4_gramsOfBowls_38 rfl rfl (by decide) rfl ?_
        refine r_goto (pc := 41) (tgt := 13) hC dX4_gramsOfBowls_41 (by decide) ?_
        cases hf
        exact dm_sub [1, 3, 4, 0] rfl hk
  · refine r_iload_n (pc := 44) hC dX4_gramsOfBowls_44 rfl 0 rfl ?_
    exact r_iret (pc := 45) hE hC (f1pI hf) ⟨Nat.le_of_ble_eq_true rfl, Nat.le_of_ble_eq_true rfl⟩ dX4_gramsOfBowls_45
abbrev rmK1_X4_squaresOfSlabs : Room := { frames := 1, cells := 0, slots := 0, locals := 20 }
set_option maxRecDepth 100000 in
set_option maxHeartbeats 4000000 in
theorem k1_X4_squaresOfSlabs {st : DSt} {x : Nat} {v : Int32} (hf : fX4_squaresOfSlabs st x = some v) : dm_K1 yX4_squaresOfSlabs cX4_squaresOfSlabs 6 (some .int) rmK1_X4_squaresOfSlabs 0 0 [DR (some x)] st (some (DI v)) st := by
  refine dm_k1 (by decide) rfl (Nat.le_of_ble_eq_true rfl) fun Y hC hN hI hE => ?_
  unfold fX4_squaresOfSlabs at hf
  refine dm_sub (lv' := [(0, DR (some x))]) ([0]) rfl ?_
  refine r_iconst (pc := 0) (v := 0) hC dX4_squaresOfSlabs_0 (by decide) ?_
  refine r_istore_n (pc := 1) (lv' := [(1, DI 0), (0, DR (some x))]) hC hN dX4_squaresOfSlabs_1 rfl (by decide) rfl ?_
  refine r_aload_n (pc := 2) hC dX4_squaresOfSlabs_2 rfl 1 rfl ?_
  obtain ⟨v1, ev1, hf⟩ := ob hf
  refine r_getR (pc := 3) CF4 (k := 1) hC (by decide) wd_1_43 dX4_squaresOfSlabs_3 ev1 ?_
  refine r_astore_n (pc := 6) (lv' := [(2, DR v1), (1, DI 0), (0, DR (some x))]) hC hN dX4_squaresOfSlabs_6 rfl (by decide) rfl ?_
  refine r_aload_n (pc := 7) hC dX4_squaresOfSlabs_7 rfl 0 rfl ?_
  obtain ⟨v2, ev2, hf⟩ := ob hf
  refine r_alen (pc := 8) (kd := 3) (fun _ => rfl) hC dX4_squaresOfSlabs_8 ev2 ?_
  refine r_istore_n (pc := 9) (lv' := [(3, DI v2), (2, DR v1), (1, DI 0), (0, DR (some x))]) hC hN dX4_squaresOfSlabs_9 rfl (by decide) rfl ?_
  refine r_iconst (pc := 10) (v := 0) hC dX4_squaresOfSlabs_10 (by decide) ?_
  refine r_istore (pc := 11) (lv' := [(4, DI 0), (3, DI v2), (2, DR v1), (1, DI 0), (0, DR (some x))]) hC hN dX4_squaresOfSlabs_11 (by decide) rfl ?_
  obtain ⟨b3, eb3, hf⟩ := ob hf
  refine dm_sub (lv' := [(1, DI 0), (2, DR v1), (3, DI v2), (4, DI 0)]) [3, 2, 1, 0] rfl ?_
  refine dlp_W _ (fun (z3 : Int32 × Int32) => dm_W Y 0 0 st 13 [(1, DI z3.1), (2, DR v1), (3, DI v2), (4, DI z3.2)] []) (fun (b3 : Int32 × Int32) => dm_W Y 0 0 st 44 [(1, DI b3.1), (2, DR v1), (3, DI v2), (4, DI b3.2)] []) ?_ eb3 ?_
  · intro z3 r hf hk
    unfold fX4_squaresOfSlabs_L13 at hf
    refine r_iload (pc := 13) hC dX4_squaresOfSlabs_13 3 rfl ?_
    refine r_iload_n (pc := 15) hC dX4_squaresOfSlabs_15 rfl 2 rfl ?_
    refine r_icmp_ge (pc := 16) (tgt := 44) hC dX4_squaresOfSlabs_16 (by decide) (fun c9 => ?_) (fun c9 => ?_)
    · replace hf := oi_t c9 hf
      cases hf
      exact dm_sub [0, 1, 2, 3] rfl hk
    · replace hf := oi_f c9 hf
      refine r_aload_n (pc := 19) hC dX4_squaresOfSlabs_19 rfl 1 rfl ?_
      refine r_iload (pc := 20) hC dX4_squaresOfSlabs_20 3 rfl ?_
      obtain ⟨v4, ev4, hf⟩ := ob hf
      refine r_aaload (pc := 22) (kd := 3) (fun _ => rfl) hC dX4_squaresOfSlabs_22 ev4 ?_
      refine r_astore (pc := 23) (lv' := [(5, DR v4), (1, DI z3.1), (2, DR v1), (3, DI v2), (4, DI z3.2)]) hC hN dX4_squaresOfSlabs_23 (by decide) rfl ?_
      refine r_aload (pc := 25) hC dX4_squaresOfSlabs_25 0 rfl ?_
      refine r_ifnull (pc := 27) (tgt := 38) hC dX4_squaresOfSlabs_27 (by decide) (fun c5 => ?_) (fun n6 c5 => ?_)
      · subst c5
        refine r_iinc (pc := 38) (pos := 4) (v := (z3.2 + 1)) (lv' := [(4, DI (z3.2 + 1)), (5, DR none), (1, DI z3.1), (2, DR v1), (3, DI v2)]) hC hN dX4_squaresOfSlabs_38 rfl rfl (by decide) rfl ?_
        refine r_goto (pc := 41) (tgt := 13) hC dX4_squaresOfSlabs_41 (by decide) ?_
        cases hf
        exact dm_sub [2, 3, 4, 0] rfl hk
      · subst c5
        refine r_iload_n (pc := 30) hC dX4_squaresOfSlabs_30 rfl 1 rfl ?_
        refine r_aload (pc := 31) hC dX4_squaresOfSlabs_31 0 rfl ?_
        obtain ⟨b7, gb7, hf⟩ := ob hf
        obtain ⟨q8, eq8, hf⟩ := ob hf
        refine r_callV (pc := 33) (As := []) (rest := [DI z3.1]) (stk' := [DI q8, DI z3.1]) (k1_X3_squares eq8) gb7 rfl hC wd_1_189 wd_1_190 wd_1_191 wd_1_192 wd_1_13 md_X3_squares rfl ⟨rfl, rfl, Nat.le_of_ble_eq_true rfl, Nat.le_of_ble_eq_true rfl, Nat.le_of_ble_eq_true rfl, Nat.le_of_ble_eq_true rfl⟩ dX4_squaresOfSlabs_33 rfl (Nat.le_of_ble_eq_true rfl) rfl ?_
        refine r_iadd (pc := 36) hC dX4_squaresOfSlabs_36 ?_
        refine r_istore_n (pc := 37) (lv' := [(1, DI (z3.1 + q8)), (5, DR (some n6)), (2, DR v1), (3, DI v2), (4, DI z3.2)]) hC hN dX4_squaresOfSlabs_37 rfl (by decide) rfl ?_
        refine r_iinc (pc := 38) (pos := 4) (v := (z3.2 + 1)) (lv' := [(4, DI (z3.2 + 1)), (1, DI (z3.1 + q8)), (5, DR (some n6)), (2, DR v1), (3, DI v2)]) hC hN dX4_squaresOfSlabs_38 rfl rfl (by decide) rfl ?_
        refine r_goto (pc := 41) (tgt := 13) hC dX4_squaresOfSlabs_41 (by decide) ?_
        cases hf
        exact dm_sub [1, 3, 4, 0] rfl hk
  · refine r_iload_n (pc := 44) hC dX4_squaresOfSlabs_44 rfl 0 rfl ?_
    exact r_iret (pc := 45) hE hC (f1pI hf) ⟨Nat.le_of_ble_eq_true rfl, Nat.le_of_ble_eq_true rfl⟩ dX4_squaresOfSlabs_45
abbrev rmK0_X4_count : Room := { frames := 2, cells := 0, slots := 0, locals := 45 }
set_option maxRecDepth 100000 in
set_option maxHeartbeats 4000000 in
theorem k0_X4_count {st : DSt} {x : Nat} {a0 : Int32} {v : Int32} (hf : fX4_count st x a0 = some (.inr v)) : dm_K1 yX4_count cX4_count 2 (some .int) rmK0_X4_count 0 0 [DR (some x), DI a0] st (some (DI v)) st := by
  refine dm_k1 (by decide) rfl (Nat.le_of_ble_eq_true rfl) fun Y hC hN hI hE => ?_
  unfold fX4_count at hf
  refine dm_sub (lv' := [(0, DR (some x)), (1, DI a0)]) ([0, 1]) rfl ?_
  refine r_iload_n (pc := 0) hC dX4_count_0 rfl 1 rfl ?_
  refine r_bipush (pc := 1) (v := 7) hC dX4_count_1 (by decide) ?_
  rcases xb hf with ⟨eq1, _, hrq1⟩ | ⟨q1, eq1, hf⟩
  · cases hrq1
  refine r_callS (pc := 3) (As := [DI a0, DI 7]) (rest := []) (stk' := []) (k0_X4_checkWhat eq1) hC wd_1_173 wd_1_174 wd_1_175 wd_1_1 md_X4_checkWhat rfl ⟨rfl, rfl, Nat.le_of_ble_eq_true rfl, Nat.le_of_ble_eq_true rfl, Nat.le_of_ble_eq_true rfl, Nat.le_of_ble_eq_true rfl⟩ dX4_count_3 rfl (Nat.le_of_ble_eq_true rfl) rfl ?_
  refine r_iload_n (pc := 6) hC dX4_count_6 rfl 1 rfl ?_
  by_cases c2 : a0 = 0
  · replace hf := oi_t c2 hf
    refine r_tswIn (pc := 7) (off := 41) (tgt := 48) hC dX4_count_7 (by rw [c2]; decide) (by rw [c2]; decide) (by rw [c2]; rfl) (by decide) ?_
    refine r_aload_n (pc := 48) hC dX4_count_48 rfl 0 rfl ?_
    obtain ⟨v10, ev10, hf⟩ := ob hf
    refine r_getI (pc := 49) CF4 (k := 6) hC (by decide) wd_1_48 dX4_count_49 ev10 ?_
    exact r_iret (pc := 52) hE hC (f0pI hf) ⟨Nat.le_of_ble_eq_true rfl, Nat.le_of_ble_eq_true rfl⟩ dX4_count_52
  replace hf := oi_f c2 hf
  by_cases c3 : a0 = 1
  · replace hf := oi_t c3 hf
    refine r_tswIn (pc := 7) (off := 46) (tgt := 53) hC dX4_count_7 (by rw [c3]; decide) (by rw [c3]; decide) (by rw [c3]; rfl) (by decide) ?_
    refine r_aload_n (pc := 53) hC dX4_count_53 rfl 0 rfl ?_
    obtain ⟨v11, ev11, hf⟩ := ob hf
    refine r_getI (pc := 54) CF4 (k := 3) hC (by decide) wd_1_45 dX4_count_54 ev11 ?_
    exact r_iret (pc := 57) hE hC (f0pI hf) ⟨Nat.le_of_ble_eq_true rfl, Nat.le_of_ble_eq_true rfl⟩ dX4_count_57
  replace hf := oi_f c3 hf
  by_cases c4 : a0 = 2
  · replace hf := oi_t c4 hf
    refine r_tswIn (pc := 7) (off := 51) (tgt := 58) hC dX4_count_7 (by rw [c4]; decide) (by rw [c4]; decide) (by rw [c4]; rfl) (by decide) ?_
    refine r_aload_n (pc := 58) hC dX4_count_58 rfl 0 rfl ?_
    obtain ⟨v12, ev12, hf⟩ := ob hf
    refine r_getI (pc := 59) CF4 (k := 4) hC (by decide) wd_1_46 dX4_count_59 ev12 ?_
    exact r_iret (pc := 62) hE hC (f0pI hf) ⟨Nat.le_of_ble_eq_true rfl, Nat.le_of_ble_eq_true rfl⟩ dX4_count_62
  replace hf := oi_f c4 hf
  by_cases c5 : a0 = 3
  · replace hf := oi_t c5 hf
    refine r_tswIn (pc := 7) (off := 56) (tgt := 63) hC dX4_count_7 (by rw [c5]; decide) (by rw [c5]; decide) (by rw [c5]; rfl) (by decide) ?_
    refine r_aload_n (pc := 63) hC dX4_count_63 rfl 0 rfl ?_
    obtain ⟨v13, ev13, hf⟩ := ob hf
    refine r_getI (pc := 64) CF4 (k := 5) hC (by decide) wd_1_47 dX4_count_64 ev13 ?_
    exact r_iret (pc := 67) hE hC (f0pI hf) ⟨Nat.le_of_ble_eq_true rfl, Nat.le_of_ble_eq_true rfl⟩ dX4_count_67
  replace hf := oi_f c5 hf
  by_cases c6 : a0 = 4
  · replace hf := oi_t c6 hf
    refine r_tswIn (pc := 7) (off := 61) (tgt := 68) hC dX4_count_7 (by rw [c6]; decide) (by rw [c6]; decide) (by rw [c6]; rfl) (by decide) ?_
    refine r_aload_n (pc := 68) hC dX4_count_68 rfl 0 rfl ?_
    obtain ⟨b14, gb14, hf⟩ := ob hf
    obtain ⟨q15, eq15, hf⟩ := ob hf
    refine r_callV (pc := 69) (As := []) (rest := []) (stk' := [DI q15]) (k1_X4_filledBoxes eq15) gb14 rfl hC wd_1_215 wd_1_217 wd_s_6 wd_1_218 wd_1_1 md_X4_filledBoxes rfl ⟨rfl, rfl, Nat.le_of_ble_eq_true rfl, Nat.le_of_ble_eq_true rfl, Nat.le_of_ble_eq_true rfl, Nat.le_of_ble_eq_true rfl⟩ dX4_count_69 rfl (Nat.le_of_ble_eq_true rfl) rfl ?_
    exact r_iret (pc := 72) hE hC (f0pI hf) ⟨Nat.le_of_ble_eq_true rfl, Nat.le_of_ble_eq_true rfl⟩ dX4_count_72
  replace hf := oi_f c6 hf
  by_cases c7 : a0 = 5
  · replace hf := oi_t c7 hf
    refine r_tswIn (pc := 7) (off := 66) (tgt := 73) hC dX4_count_7 (by rw [c7]; decide) (by rw [c7]; decide) (by rw [c7]; rfl) (by decide) ?_
    refine r_aload_n (pc := 73) hC dX4_count_73 rfl 0 rfl ?_
    obtain ⟨b16, gb16, hf⟩ := ob hf
    obtain ⟨q17, eq17, hf⟩ := ob hf
    refine r_callV (pc := 74) (As := []) (rest := []) (stk' := [DI q17]) (k1_X4_gramsOfBowls eq17) gb16 rfl hC wd_1_219 wd_1_221 wd_s_7 wd_1_222 wd_1_1 md_X4_gramsOfBowls rfl ⟨rfl, rfl, Nat.le_of_ble_eq_true rfl, Nat.le_of_ble_eq_true rfl, Nat.le_of_ble_eq_true rfl, Nat.le_of_ble_eq_true rfl⟩ dX4_count_74 rfl (Nat.le_of_ble_eq_true rfl) rfl ?_
    exact r_iret (pc := 77) hE hC (f0pI hf) ⟨Nat.le_of_ble_eq_true rfl, Nat.le_of_ble_eq_true rfl⟩ dX4_count_77
  replace hf := oi_f c7 hf
  by_cases c8 : a0 = 6
  · replace hf := oi_t c8 hf
    refine r_tswIn (pc := 7) (off := 71) (tgt := 78) hC dX4_count_7 (by rw [c8]; decide) (by rw [c8]; decide) (by rw [c8]; rfl) (by decide) ?_
    refine r_aload_n (pc := 78) hC dX4_count_78 rfl 0 rfl ?_
    obtain ⟨b18, gb18, hf⟩ := ob hf
    obtain ⟨q19, eq19, hf⟩ := ob hf
    refine r_callV (pc := 79) (As := []) (rest := []) (stk' := [DI q19]) (k1_X4_squaresOfSlabs eq19) gb18 rfl hC wd_1_223 wd_1_225 wd_s_8 wd_1_226 wd_1_1 md_X4_squaresOfSlabs rfl ⟨rfl, rfl, Nat.le_of_ble_eq_true rfl, Nat.le_of_ble_eq_true rfl, Nat.le_of_ble_eq_true rfl, Nat.le_of_ble_eq_true rfl⟩ dX4_count_79 rfl (Nat.le_of_ble_eq_true rfl) rfl ?_
    exact r_iret (pc := 82) hE hC (f0pI hf) ⟨Nat.le_of_ble_eq_true rfl, Nat.le_of_ble_eq_true rfl⟩ dX4_count_82
  replace hf := oi_f c8 hf
  have ho : ∀ k, k < 7 → ¬ a0 = nI k := by
    intro k hk hz
    rcases (show k = 0 ∨ k = 1 ∨ k = 2 ∨ k = 3 ∨ k = 4 ∨ k = 5 ∨ k = 6 by omega) with rfl | rfl | rfl | rfl | rfl | rfl | rfl
    · exact c2 (hz.trans rfl)
    · exact c3 (hz.trans rfl)
    · exact c4 (hz.trans rfl)
    · exact c5 (hz.trans rfl)
    · exact c6 (hz.trans rfl)
    · exact c7 (hz.trans rfl)
    · exact c8 (hz.trans rfl)
  refine r_tswOut (pc := 7) (tgt := 83) hC dX4_count_7 (by have q := dm_out (by decide) ho; omega) (by decide) ?_
  refine r_aload_n (pc := 83) hC dX4_count_83 rfl 0 rfl ?_
  obtain ⟨b20, gb20, hf⟩ := ob hf
  obtain ⟨q21, eq21, hf⟩ := ob hf
  refine r_callV (pc := 84) (As := []) (rest := []) (stk' := [DI q21]) (k1_X4_bloomedSlabs eq21) gb20 rfl hC wd_1_227 wd_1_229 wd_s_9 wd_1_230 wd_1_1 md_X4_bloomedSlabs rfl ⟨rfl, rfl, Nat.le_of_ble_eq_true rfl, Nat.le_of_ble_eq_true rfl, Nat.le_of_ble_eq_true rfl, Nat.le_of_ble_eq_true rfl⟩ dX4_count_84 rfl (Nat.le_of_ble_eq_true rfl) rfl ?_
  exact r_iret (pc := 87) hE hC (f0pI hf) ⟨Nat.le_of_ble_eq_true rfl, Nat.le_of_ble_eq_true rfl⟩ dX4_count_87
abbrev rmK1_X4_mean : Room := { frames := 0, cells := 0, slots := 0, locals := 0 }
set_option maxRecDepth 100000 in
set_option maxHeartbeats 4000000 in
theorem k1_X4_mean {st : DSt} {x : Nat} {v : UInt64} (hf : fX4_mean st x = some v) : dm_K1 yX4_mean cX4_mean 6 (some .double) rmK1_X4_mean 0 0 [DR (some x)] st (some (DD v)) st := by
  refine dm_k1 (by decide) rfl (Nat.le_of_ble_eq_true rfl) fun Y hC hN hI hE => ?_
  unfold fX4_mean at hf
  refine dm_sub (lv' := [(0, DR (some x))]) ([0]) rfl ?_
  refine r_iconst (pc := 0) (v := 0) hC dX4_mean_0 (by decide) ?_
  refine r_istore_n (pc := 1) (lv' := [(1, DI 0), (0, DR (some x))]) hC hN dX4_mean_1 rfl (by decide) rfl ?_
  refine r_aload_n (pc := 2) hC dX4_mean_2 rfl 1 rfl ?_
  obtain ⟨v1, ev1, hf⟩ := ob hf
  refine r_getR (pc := 3) CF4 (k := 1) hC (by decide) wd_1_43 dX4_mean_3 ev1 ?_
  refine r_astore_n (pc := 6) (lv' := [(2, DR v1), (1, DI 0), (0, DR (some x))]) hC hN dX4_mean_6 rfl (by decide) rfl ?_
  refine r_aload_n (pc := 7) hC dX4_mean_7 rfl 0 rfl ?_
  obtain ⟨v2, ev2, hf⟩ := ob hf
  refine r_alen (pc := 8) (kd := 3) (fun _ => rfl) hC dX4_mean_8 ev2 ?_
  refine r_istore_n (pc := 9) (lv' := [(3, DI v2), (2, DR v1), (1, DI 0), (0, DR (some x))]) hC hN dX4_mean_9 rfl (by decide) rfl ?_
  refine r_iconst (pc := 10) (v := 0) hC dX4_mean_10 (by decide) ?_
  refine r_istore (pc := 11) (lv' := [(4, DI 0), (3, DI v2), (2, DR v1), (1, DI 0), (0, DR (some x))]) hC hN dX4_mean_11 (by decide) rfl ?_
  obtain ⟨b3, eb3, hf⟩ := ob hf
  refine dm_sub (lv' := [(0, DR (some x)), (1, DI 0), (2, DR v1), (3, DI v2), (4, DI 0)]) [4, 3, 2, 1, 0] rfl ?_
  refine dlp_W _ (fun (z3 : Int32 × Int32) => dm_W Y 0 0 st 13 [(0, DR (some x)), (1, DI z3.1), (2, DR v1), (3, DI v2), (4, DI z3.2)] []) (fun (b3 : Int32 × Int32) => dm_W Y 0 0 st 44 [(0, DR (some x)), (1, DI b3.1), (2, DR v1), (3, DI v2), (4, DI b3.2)] []) ?_ eb3 ?_
  · intro z3 r hf hk
    unfold fX4_mean_L13 at hf
    refine r_iload (pc := 13) hC dX4_mean_13 4 rfl ?_
    refine r_iload_n (pc := 15) hC dX4_mean_15 rfl 3 rfl ?_
    refine r_icmp_ge (pc := 16) (tgt := 44) hC dX4_mean_16 (by decide) (fun c8 => ?_) (fun c8 => ?_)
    · replace hf := oi_t c8 hf
      cases hf
      exact dm_sub [0, 1, 2, 3, 4] rfl hk
    · replace hf := oi_f c8 hf
      refine r_aload_n (pc := 19) hC dX4_mean_19 rfl 2 rfl ?_
      refine r_iload (pc := 20) hC dX4_mean_20 4 rfl ?_
      obtain ⟨v4, ev4, hf⟩ := ob hf
      refine r_aaload (pc := 22) (kd := 3) (fun _ => rfl) hC dX4_mean_22 ev4 ?_
      refine r_astore (pc := 23) (lv' := [(5, DR v4), (0, DR (some x)), (1, DI z3.1), (2, DR v1), (3, DI v2), (4, DI z3.2)]) hC hN dX4_mean_23 (by decide) rfl ?_
      refine r_aload (pc := 25) hC dX4_mean_25 0 rfl ?_
      refine r_ifnull (pc := 27) (tgt := 38) hC dX4_mean_27 (by decide) (fun c5 => ?_) (fun n6 c5 => ?_)
      · subst c5
        refine r_iinc (pc := 38) (pos := 5) (v := (z3.2 + 1)) (lv' := [(4, DI (z3.2 + 1)), (5, DR none), (0, DR (some x)), (1, DI z3.1), (2, DR v1), (3, DI v2)]) hC hN dX4_mean_38 rfl rfl (by decide) rfl ?_
        refine r_goto (pc := 41) (tgt := 13) hC dX4_mean_41 (by decide) ?_
        cases hf
        exact dm_sub [2, 3, 4, 5, 0] rfl hk
      · subst c5
        refine r_iload_n (pc := 30) hC dX4_mean_30 rfl 2 rfl ?_
        refine r_aload (pc := 31) hC dX4_mean_31 0 rfl ?_
        obtain ⟨v7, ev7, hf⟩ := ob hf
        refine r_getI (pc := 33) CF3 (k := 3) hC (by decide) wd_2_201 dX4_mean_33 ev7 ?_
        refine r_iadd (pc := 36) hC dX4_mean_36 ?_
        refine r_istore_n (pc := 37) (lv' := [(1, DI (z3.1 + v7)), (5, DR (some n6)), (0, DR (some x)), (2, DR v1), (3, DI v2), (4, DI z3.2)]) hC hN dX4_mean_37 rfl (by decide) rfl ?_
        refine r_iinc (pc := 38) (pos := 5) (v := (z3.2 + 1)) (lv' := [(4, DI (z3.2 + 1)), (1, DI (z3.1 + v7)), (5, DR (some n6)), (0, DR (some x)), (2, DR v1), (3, DI v2)]) hC hN dX4_mean_38 rfl rfl (by decide) rfl ?_
        refine r_goto (pc := 41) (tgt := 13) hC dX4_mean_41 (by decide) ?_
        cases hf
        exact dm_sub [3, 1, 4, 5, 0] rfl hk
  · refine r_aload_n (pc := 44) hC dX4_mean_44 rfl 0 rfl ?_
    obtain ⟨v9, ev9, hf⟩ := ob hf
    refine r_getI (pc := 45) CF4 (k := 4) hC (by decide) wd_1_46 dX4_mean_45 ev9 ?_
    refine r_if_gt (pc := 48) (tgt := 55) hC dX4_mean_48 (by decide) (fun c12 => ?_) (fun c12 => ?_)
    · replace hf := oi_t c12 hf
      refine r_iload_n (pc := 55) hC dX4_mean_55 rfl 1 rfl ?_
      refine r_i2d (pc := 56) hC dX4_mean_56 ?_
      refine r_aload_n (pc := 57) hC dX4_mean_57 rfl 0 rfl ?_
      obtain ⟨v10, ev10, hf⟩ := ob hf
      refine r_getI (pc := 58) CF4 (k := 4) hC (by decide) wd_1_46 dX4_mean_58 ev10 ?_
      refine r_i2d (pc := 61) hC dX4_mean_61 ?_
      obtain ⟨v11, ev11, hf⟩ := ob hf
      refine r_ddivO (pc := 62) hC dX4_mean_62 ev11 ?_
      exact r_dret (pc := 63) hE hC (f1pD hf) ⟨Nat.le_of_ble_eq_true rfl, Nat.le_of_ble_eq_true rfl⟩ dX4_mean_63
    · replace hf := oi_f c12 hf
      refine r_dconst0 (pc := 51) hC dX4_mean_51 ?_
      refine r_goto (pc := 52) (tgt := 63) hC dX4_mean_52 (by decide) ?_
      exact r_dret (pc := 63) hE hC (f1pD hf) ⟨Nat.le_of_ble_eq_true rfl, Nat.le_of_ble_eq_true rfl⟩ dX4_mean_63
