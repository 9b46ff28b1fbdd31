abbrev rmK1_X5_init : Room := { frames := 1, cells := 1, slots := 6, locals := 12 }
set_option maxRecDepth 100000 in
set_option maxHeartbeats 8000000 in
theorem k1_X5_init {st : DSt} {x : Nat} {st1 : DSt} (hf : fX5_init st x = some st1) : dm_K1 yX5_init cX5_init 1 none rmK1_X5_init 1 6 [DR (some x)] st none st1 := by
  refine dm_k1 (by decide) rfl (Nat.le_of_ble_eq_true rfl) fun Y hC hN hI hE => ?_
  replace hI := hI rfl
  unfold fX5_init at hf
  refine dm_sub (lv' := [(0, DR (some x))]) ([0]) rfl ?_
  refine r_aload_n (pc := 0) hC dX5_init_0 rfl 0 rfl ?_
  refine r_objInit (pc := 1) (nL := 0) hC wd_2_35 wd_1_21 (wd_1_22) ⟨_, rfl⟩ dX5_init_1 ⟨Nat.le_of_ble_eq_true rfl, Nat.le_of_ble_eq_true rfl⟩ ?_
  refine r_aload_n (pc := 4) hC dX5_init_4 rfl 0 rfl ?_
  refine r_bipush (pc := 5) (v := 20) hC dX5_init_5 (by decide) ?_
  obtain ⟨s1, es1, hf⟩ := ob hf
  refine r_put (pc := 7) CF5 (k := 1) hC (by decide) wd_2_38 rfl ⟨rfl, rfl⟩ dX5_init_7 es1 ?_
  refine r_aload_n (pc := 10) hC dX5_init_10 rfl 0 rfl ?_
  refine r_bipush (pc := 11) (v := 6) hC dX5_init_11 (by decide) ?_
  obtain ⟨s2, es2, hf⟩ := ob hf
  refine r_newa (pc := 13) (atype := .int) (t := .int) (kd := 0) (N := 6) (x := nI0 6) rfl (fun _ => rfl) (fun _ h => nomatch h) (fun _ => rfl) hC wd_1_41 (by decide) rfl (Nat.le_of_ble_eq_true rfl) ⟨Nat.le_of_ble_eq_true rfl, Nat.le_of_ble_eq_true rfl⟩ dX5_init_13 ?_
  rw [Option.some.inj es2]
  obtain ⟨s3, es3, hf⟩ := ob hf
  refine r_putF (pc := 15) CF5 (k := 2) hC hI rfl (by decide) wd_2_41 rfl (dm_fr (by exact Or.inr ⟨_, rfl⟩) _) dX5_init_15 es3 ?_
  exact r_vret (pc := 18) hE hC (f1xV hf) ⟨Nat.le_of_ble_eq_true rfl, Nat.le_of_ble_eq_true rfl⟩ dX5_init_18
abbrev rmK1_X5_all : Room := { frames := 0, cells := 0, slots := 0, locals := 0 }
set_option maxRecDepth 100000 in
set_option maxHeartbeats 8000000 in
theorem k1_X5_all {st : DSt} {x : Nat} {v : Int32} (hf : fX5_all st x = some v) : dm_K1 yX5_all cX5_all 1 (some .int) rmK1_X5_all 0 0 [DR (some x)] st (some (DI v)) st := by
  refine dm_k1 (by decide) rfl (Nat.le_of_ble_eq_true rfl) fun Y hC hN hI hE => ?_
  unfold fX5_all at hf
  refine dm_sub (lv' := [(0, DR (some x))]) ([0]) rfl ?_
  refine r_aload_n (pc := 0) hC dX5_all_0 rfl 0 rfl ?_
  obtain ⟨v1, ev1, hf⟩ := ob hf
  refine r_getR (pc := 1) CF5 (k := 2) hC (by decide) wd_2_41 dX5_all_1 ev1 ?_
  refine r_iconst (pc := 4) (v := 1) hC dX5_all_4 (by decide) ?_
  obtain ⟨v2, ev2, hf⟩ := ob hf
  refine r_iaload (pc := 5) hC dX5_all_5 ev2 ?_
  refine r_aload_n (pc := 6) hC dX5_all_6 rfl 0 rfl ?_
  obtain ⟨v3, ev3, hf⟩ := ob hf
  refine r_getR (pc := 7) CF5 (k := 2) hC (by decide) wd_2_41 dX5_all_7 ev3 ?_
  refine r_iconst (pc := 10) (v := 2) hC dX5_all_10 (by decide) ?_
  obtain ⟨v4, ev4, hf⟩ := ob hf
  refine r_iaload (pc := 11) hC dX5_all_11 ev4 ?_
  refine r_iadd (pc := 12) hC dX5_all_12 ?_
  refine r_aload_n (pc := 13) hC dX5_all_13 rfl 0 rfl ?_
  obtain ⟨v5, ev5, hf⟩ := ob hf
  refine r_getR (pc := 14) CF5 (k := 2) hC (by decide) wd_2_41 dX5_all_14 ev5 ?_
  refine r_iconst (pc := 17) (v := 3) hC dX5_all_17 (by decide) ?_
  obtain ⟨v6, ev6, hf⟩ := ob hf
  refine r_iaload (pc := 18) hC dX5_all_18 ev6 ?_
  refine r_iadd (pc := 19) hC dX5_all_19 ?_
  refine r_aload_n (pc := 20) hC dX5_all_20 rfl 0 rfl ?_
  obtain ⟨v7, ev7, hf⟩ := ob hf
  refine r_getR (pc := 21) CF5 (k := 2) hC (by decide) wd_2_41 dX5_all_21 ev7 ?_
  refine r_iconst (pc := 24) (v := 4) hC dX5_all_24 (by decide) ?_
  obtain ⟨v8, ev8, hf⟩ := ob hf
  refine r_iaload (pc := 25) hC dX5_all_25 ev8 ?_
  refine r_iadd (pc := 26) hC dX5_all_26 ?_
  refine r_aload_n (pc := 27) hC dX5_all_27 rfl 0 rfl ?_
  obtain ⟨v9, ev9, hf⟩ := ob hf
  refine r_getR (pc := 28) CF5 (k := 2) hC (by decide) wd_2_41 dX5_all_28 ev9 ?_
  refine r_iconst (pc := 31) (v := 5) hC dX5_all_31 (by decide) ?_
  obtain ⟨v10, ev10, hf⟩ := ob hf
  refine r_iaload (pc := 32) hC dX5_all_32 ev10 ?_
  refine r_iadd (pc := 33) hC dX5_all_33 ?_
  exact r_iret (pc := 34) hE hC (f1pI hf) ⟨Nat.le_of_ble_eq_true rfl, Nat.le_of_ble_eq_true rfl⟩ dX5_all_34
abbrev rmK1_X5_temper : Room := { frames := 0, cells := 0, slots := 0, locals := 0 }
set_option maxRecDepth 100000 in
set_option maxHeartbeats 8000000 in
theorem k1_X5_temper {st : DSt} {x : Nat} {v : Int32} (hf : fX5_temper st x = some v) : dm_K1 yX5_temper cX5_temper 2 (some .int) rmK1_X5_temper 0 0 [DR (some x)] st (some (DI v)) st := by
  refine dm_k1 (by decide) rfl (Nat.le_of_ble_eq_true rfl) fun Y hC hN hI hE => ?_
  unfold fX5_temper at hf
  refine dm_sub (lv' := [(0, DR (some x))]) ([0]) rfl ?_
  refine r_aload_n (pc := 0) hC dX5_temper_0 rfl 0 rfl ?_
  obtain ⟨v1, ev1, hf⟩ := ob hf
  refine r_getR (pc := 1) CF5 (k := 2) hC (by decide) wd_2_41 dX5_temper_1 ev1 ?_
  refine r_iconst (pc := 4) (v := 4) hC dX5_temper_4 (by decide) ?_
  obtain ⟨v2, ev2, hf⟩ := ob hf
  refine r_iaload (pc := 5) hC dX5_temper_5 ev2 ?_
  refine r_iconst (pc := 6) (v := 2) hC dX5_temper_6 (by decide) ?_
  refine r_aload_n (pc := 7) hC dX5_temper_7 rfl 0 rfl ?_
  obtain ⟨v3, ev3, hf⟩ := ob hf
  refine r_getR (pc := 8) CF5 (k := 2) hC (by decide) wd_2_41 dX5_temper_8 ev3 ?_
  refine r_iconst (pc := 11) (v := 5) hC dX5_temper_11 (by decide) ?_
  obtain ⟨v4, ev4, hf⟩ := ob hf
  refine r_iaload (pc := 12) hC dX5_temper_12 ev4 ?_
  refine r_imul (pc := 13) hC dX5_temper_13 ?_
  refine r_iadd (pc := 14) hC dX5_temper_14 ?_
  refine r_aload_n (pc := 15) hC dX5_temper_15 rfl 0 rfl ?_
  obtain ⟨v5, ev5, hf⟩ := ob hf
  refine r_getR (pc := 16) CF5 (k := 2) hC (by decide) wd_2_41 dX5_temper_16 ev5 ?_
  refine r_iconst (pc := 19) (v := 1) hC dX5_temper_19 (by decide) ?_
  obtain ⟨v6, ev6, hf⟩ := ob hf
  refine r_iaload (pc := 20) hC dX5_temper_20 ev6 ?_
  refine r_isub (pc := 21) hC dX5_temper_21 ?_
  refine r_aload_n (pc := 22) hC dX5_temper_22 rfl 0 rfl ?_
  obtain ⟨v7, ev7, hf⟩ := ob hf
  refine r_getR (pc := 23) CF5 (k := 2) hC (by decide) wd_2_41 dX5_temper_23 ev7 ?_
  refine r_iconst (pc := 26) (v := 2) hC dX5_temper_26 (by decide) ?_
  obtain ⟨v8, ev8, hf⟩ := ob hf
  refine r_iaload (pc := 27) hC dX5_temper_27 ev8 ?_
  refine r_isub (pc := 28) hC dX5_temper_28 ?_
  refine r_aload_n (pc := 29) hC dX5_temper_29 rfl 0 rfl ?_
  obtain ⟨v9, ev9, hf⟩ := ob hf
  refine r_getR (pc := 30) CF5 (k := 2) hC (by decide) wd_2_41 dX5_temper_30 ev9 ?_
  refine r_iconst (pc := 33) (v := 3) hC dX5_temper_33 (by decide) ?_
  obtain ⟨v10, ev10, hf⟩ := ob hf
  refine r_iaload (pc := 34) hC dX5_temper_34 ev10 ?_
  refine r_isub (pc := 35) hC dX5_temper_35 ?_
  refine r_istore_n (pc := 36) (lv' := [(1, DI ((((v2 + (2 * v4)) - v6) - v8) - v10)), (0, DR (some x))]) hC hN dX5_temper_36 rfl (by decide) rfl ?_
  refine r_iload_n (pc := 37) hC dX5_temper_37 rfl 0 rfl ?_
  obtain ⟨j11, ej11, hf⟩ := ob hf
  have hJ11 : dm_W Y 0 0 st 57 [] [DI j11] := by
    exact r_iret (pc := 57) hE hC (f1pI hf) ⟨Nat.le_of_ble_eq_true rfl, Nat.le_of_ble_eq_true rfl⟩ dX5_temper_57
  replace hf := ej11
  clear ej11
  refine r_if_ge (pc := 38) (tgt := 45) hC dX5_temper_38 (by decide) (fun c12 => ?_) (fun c12 => ?_)
  · replace hf := oi_t c12 hf
    refine r_iload_n (pc := 45) hC dX5_temper_45 rfl 0 rfl ?_
    refine r_bipush (pc := 46) (v := 100) hC dX5_temper_46 (by decide) ?_
    obtain ⟨j13, ej13, hf⟩ := ob hf
    have hJ13 : dm_W Y 0 0 st 57 [] [DI j13] := by
      cases hf
      exact (dm_sub [] rfl hJ11)
    replace hf := ej13
    clear ej13
    refine r_icmp_le (pc := 48) (tgt := 56) hC dX5_temper_48 (by decide) (fun c14 => ?_) (fun c14 => ?_)
    · replace hf := oi_t c14 hf
      refine r_iload_n (pc := 56) hC dX5_temper_56 rfl 0 rfl ?_
      cases hf
      exact (dm_sub [] rfl hJ13)
    · replace hf := oi_f c14 hf
      refine r_bipush (pc := 51) (v := 100) hC dX5_temper_51 (by decide) ?_
      refine r_goto (pc := 53) (tgt := 57) hC dX5_temper_53 (by decide) ?_
      cases hf
      exact (dm_sub [] rfl hJ13)
  · replace hf := oi_f c12 hf
    refine r_iconst (pc := 41) (v := 0) hC dX5_temper_41 (by decide) ?_
    refine r_goto (pc := 42) (tgt := 57) hC dX5_temper_42 (by decide) ?_
    cases hf
    exact (dm_sub [] rfl hJ11)
abbrev rmK1_X5_kept : Room := { frames := 1, cells := 0, slots := 0, locals := 20 }
set_option maxRecDepth 100000 in
set_option maxHeartbeats 8000000 in
theorem k1_X5_kept {st : DSt} {x : Nat} {a0 : Int32} {a1 : Int32} {v : Option Nat} {st1 : DSt} (hf : fX5_kept st x a0 a1 = some (v, st1)) : dm_K1 yX5_kept cX5_kept 7 (some (.object "ChocolateMouldsLaw$Bowl")) rmK1_X5_kept 0 0 [DR (some x), DI a0, DI a1] st (some (DR v)) st1 := by
  refine dm_k1 (by decide) rfl (Nat.le_of_ble_eq_true rfl) fun Y hC hN hI hE => ?_
  unfold fX5_kept at hf
  refine dm_sub (lv' := [(0, DR (some x)), (1, DI a0), (2, DI a1)]) ([0, 1, 2]) rfl ?_
  refine r_aload_n (pc := 0) hC dX5_kept_0 rfl 0 rfl ?_
  refine r_iload_n (pc := 1) hC dX5_kept_1 rfl 1 rfl ?_
  obtain ⟨s1, es1, hf⟩ := ob hf
  refine r_put (pc := 2) CF5 (k := 1) hC (by decide) wd_2_38 rfl ⟨rfl, rfl⟩ dX5_kept_2 es1 ?_
  refine r_iconst (pc := 5) (v := 0) hC dX5_kept_5 (by decide) ?_
  refine r_istore_n (pc := 6) (lv' := [(3, DI 0), (0, DR (some x)), (1, DI a0), (2, DI a1)]) hC hN dX5_kept_6 rfl (by decide) rfl ?_
  obtain ⟨b2, eb2, hf⟩ := ob hf
  refine dm_sub (lv' := [(0, DR (some x)), (1, DI a0), (2, DI a1), (3, DI 0)]) [1, 2, 3, 0] rfl ?_
  refine dlp_W _ (fun (z2 : DSt × Int32) => dm_W Y 0 0 z2.1 7 [(0, DR (some x)), (1, DI a0), (2, DI a1), (3, DI z2.2)] []) (fun (b2 : DSt × Int32) => dm_W Y 0 0 b2.1 136 [(0, DR (some x)), (1, DI a0), (2, DI a1), (3, DI b2.2)] []) ?_ eb2 ?_
  · intro z2 r hf hk
    unfold fX5_kept_L7 at hf
    refine r_iload_n (pc := 7) hC dX5_kept_7 rfl 3 rfl ?_
    refine r_iload_n (pc := 8) hC dX5_kept_8 rfl 2 rfl ?_
    refine r_icmp_ge (pc := 9) (tgt := 136) hC dX5_kept_9 (by decide) (fun c3 => ?_) (fun c3 => ?_)
    · replace hf := oi_t c3 hf
      cases hf
      exact dm_sub [0, 1, 2, 3] rfl hk
    · replace hf := oi_f c3 hf
      refine r_iconst (pc := 12) (v := 0) hC dX5_kept_12 (by decide) ?_
      refine r_istore (pc := 13) (lv' := [(4, DI 0), (0, DR (some x)), (1, DI a0), (2, DI a1), (3, DI z2.2)]) hC hN dX5_kept_13 (by decide) rfl ?_
      refine r_iconst (pc := 15) (v := 5) hC dX5_kept_15 (by decide) ?_
      refine r_istore (pc := 16) (lv' := [(5, DI 5), (4, DI 0), (0, DR (some x)), (1, DI a0), (2, DI a1), (3, DI z2.2)]) hC hN dX5_kept_16 (by decide) rfl ?_
      obtain ⟨b4, eb4, hf⟩ := ob hf
      refine dm_sub (lv' := [(0, DR (some x)), (1, DI a0), (2, DI a1), (3, DI z2.2), (4, DI 0), (5, DI 5)]) [2, 3, 4, 5, 1, 0] rfl ?_
      refine dlp_W _ (fun (z4 : DSt × Int32 × Int32) => dm_W Y 0 0 z4.1 18 [(0, DR (some x)), (1, DI a0), (2, DI a1), (3, DI z2.2), (4, DI z4.2.1), (5, DI z4.2.2)] []) (fun (b4 : DSt × Int32 × Int32) => dm_W Y 0 0 b4.1 77 [(0, DR (some x)), (1, DI a0), (2, DI a1), (3, DI z2.2), (4, DI b4.2.1), (5, DI b4.2.2)] []) ?_ eb4 ?_
      · intro z4 r hf hk
        unfold fX5_kept_L18 at hf
        refine r_iload (pc := 18) hC dX5_kept_18 5 rfl ?_
        refine r_if_le (pc := 20) (tgt := 77) hC dX5_kept_20 (by decide) (fun c5 => ?_) (fun c5 => ?_)
        · replace hf := oi_t c5 hf
          cases hf
          exact dm_sub [0, 1, 2, 3, 4, 5] rfl hk
        · replace hf := oi_f c5 hf
          refine r_iconst (pc := 23) (v := 4) hC dX5_kept_23 (by decide) ?_
          refine r_iload (pc := 24) hC dX5_kept_24 5 rfl ?_
          refine r_imul (pc := 26) hC dX5_kept_26 ?_
          refine r_bipush (pc := 27) (v := 15) hC dX5_kept_27 (by decide) ?_
          refine r_iadd (pc := 29) hC dX5_kept_29 ?_
          refine r_istore (pc := 30) (lv' := [(6, DI ((4 * z4.2.2) + 15)), (0, DR (some x)), (1, DI a0), (2, DI a1), (3, DI z2.2), (4, DI z4.2.1), (5, DI z4.2.2)]) hC hN dX5_kept_30 (by decide) rfl ?_
          refine r_iload (pc := 32) hC dX5_kept_32 0 rfl ?_
          refine r_iload_n (pc := 34) hC dX5_kept_34 rfl 2 rfl ?_
          obtain ⟨j6, ej6, hf⟩ := ob hf
          have hJ6 : dm_W Y 0 0 j6 59 [(0, DR (some x)), (1, DI a0), (2, DI a1), (3, DI z2.2), (4, DI z4.2.1), (5, DI z4.2.2), (6, DI ((4 * z4.2.2) + 15))] [] := by
            refine r_iload (pc := 59) hC dX5_kept_59 6 rfl ?_
            refine r_iload_n (pc := 61) hC dX5_kept_61 rfl 1 rfl ?_
            refine r_iconst (pc := 62) (v := 3) hC dX5_kept_62 (by decide) ?_
            refine r_iadd (pc := 63) hC dX5_kept_63 ?_
            obtain ⟨j14, ej14, hf⟩ := ob hf
            have hJ14 : dm_W Y 0 0 j6 71 [(0, DR (some x)), (1, DI a0), (2, DI a1), (3, DI z2.2), (4, DI j14), (5, DI z4.2.2)] [] := by
              refine r_iinc (pc := 71) (pos := 5) (v := (z4.2.2 + (-1))) (lv' := [(5, DI (z4.2.2 + (-1))), (0, DR (some x)), (1, DI a0), (2, DI a1), (3, DI z2.2), (4, DI j14)]) hC hN dX5_kept_71 rfl rfl (by decide) rfl ?_
              refine r_goto (pc := 74) (tgt := 18) hC dX5_kept_74 (by decide) ?_
              cases hf
              exact dm_sub [1, 2, 3, 4, 5, 0] rfl hk
            replace hf := ej14
            clear ej14
            refine r_icmp_le (pc := 64) (tgt := 71) hC dX5_kept_64 (by decide) (fun c15 => ?_) (fun c15 => ?_)
            · replace hf := oi_t c15 hf
              cases hf
              exact (dm_sub [0, 1, 2, 3, 4, 5] rfl hJ14)
            · replace hf := oi_f c15 hf
              refine r_iload (pc := 67) hC dX5_kept_67 5 rfl ?_
              refine r_istore (pc := 69) (lv' := [(4, DI z4.2.2), (0, DR (some x)), (1, DI a0), (2, DI a1), (3, DI z2.2), (5, DI z4.2.2), (6, DI ((4 * z4.2.2) + 15))]) hC hN dX5_kept_69 (by decide) rfl ?_
              cases hf
              exact (dm_sub [1, 2, 3, 4, 0, 5] rfl hJ14)
          replace hf := ej6
          clear ej6
          refine r_icmp_gt (pc := 35) (tgt := 59) hC dX5_kept_35 (by decide) (fun c7 => ?_) (fun c7 => ?_)
          · replace hf := oi_t c7 hf
            cases hf
            exact (dm_sub [1, 2, 3, 4, 5, 6, 0] rfl hJ6)
          · replace hf := oi_f c7 hf
            refine r_aload_n (pc := 38) hC dX5_kept_38 rfl 1 rfl ?_
            obtain ⟨v8, ev8, hf⟩ := ob hf
            refine r_getR (pc := 39) CF5 (k := 2) hC (by decide) wd_2_41 dX5_kept_39 ev8 ?_
            refine r_iload (pc := 42) hC dX5_kept_42 6 rfl ?_
            refine r_dup2 (pc := 44) hC dX5_kept_44 rfl rfl ?_
            obtain ⟨v9, ev9, hf⟩ := ob hf
            refine r_iaload (pc := 45) hC dX5_kept_45 ev9 ?_
            refine r_aload_n (pc := 46) hC dX5_kept_46 rfl 1 rfl ?_
            obtain ⟨v10, ev10, hf⟩ := ob hf
            refine r_getR (pc := 47) CF5 (k := 2) hC (by decide) wd_2_41 dX5_kept_47 ev10 ?_
            refine r_iload (pc := 50) hC dX5_kept_50 6 rfl ?_
            obtain ⟨v11, ev11, hf⟩ := ob hf
            refine r_iaload (pc := 52) hC dX5_kept_52 ev11 ?_
            refine r_iconst (pc := 53) (v := 1) hC dX5_kept_53 (by decide) ?_
            refine r_iadd (pc := 54) hC dX5_kept_54 ?_
            refine r_iconst (pc := 55) (v := 2) hC dX5_kept_55 (by decide) ?_
            obtain ⟨v12, ev12, hf⟩ := ob hf
            refine r_idiv (pc := 56) hC dX5_kept_56 ev12 ?_
            refine r_isub (pc := 57) hC dX5_kept_57 ?_
            obtain ⟨s13, es13, hf⟩ := ob hf
            refine r_iastore (pc := 58) hC dX5_kept_58 es13 ?_
            cases hf
            exact (dm_sub [1, 2, 3, 4, 5, 6, 0] rfl hJ6)
      · refine r_iload_n (pc := 77) hC dX5_kept_77 rfl 1 rfl ?_
        refine r_bipush (pc := 78) (v := 33) hC dX5_kept_78 (by decide) ?_
        obtain ⟨j16, ej16, hf⟩ := ob hf
        have hJ16 : dm_W Y 0 0 j16 130 [(0, DR (some x)), (1, DI a0), (2, DI a1), (3, DI z2.2)] [] := by
          refine r_iinc (pc := 130) (pos := 3) (v := (z2.2 + 1)) (lv' := [(3, DI (z2.2 + 1)), (0, DR (some x)), (1, DI a0), (2, DI a1)]) hC hN dX5_kept_130 rfl rfl (by decide) rfl ?_
          refine r_goto (pc := 133) (tgt := 7) hC dX5_kept_133 (by decide) ?_
          cases hf
          exact dm_sub [1, 2, 3, 0] rfl hk
        replace hf := ej16
        clear ej16
        refine r_icmp_le (pc := 80) (tgt := 86) hC dX5_kept_80 (by decide) (fun c17 => ?_) (fun c17 => ?_)
        · replace hf := oi_t c17 hf
          refine r_iload (pc := 86) hC dX5_kept_86 4 rfl ?_
          obtain ⟨j18, ej18, hf⟩ := ob hf
          have hJ18 : dm_W Y 0 0 b4.1 94 [(0, DR (some x)), (1, DI a0), (2, DI a1), (3, DI z2.2), (4, DI j18)] [] := by
            refine r_aload_n (pc := 94) hC dX5_kept_94 rfl 0 rfl ?_
            obtain ⟨v20, ev20, hf⟩ := ob hf
            refine r_getR (pc := 95) CF5 (k := 2) hC (by decide) wd_2_41 dX5_kept_95 ev20 ?_
            refine r_iload (pc := 98) hC dX5_kept_98 4 rfl ?_
            refine r_dup2 (pc := 100) hC dX5_kept_100 rfl rfl ?_
            obtain ⟨v21, ev21, hf⟩ := ob hf
            refine r_iaload (pc := 101) hC dX5_kept_101 ev21 ?_
            refine r_iconst (pc := 102) (v := 0) hC dX5_kept_102 (by decide) ?_
            refine r_aload_n (pc := 103) hC dX5_kept_103 rfl 0 rfl ?_
            obtain ⟨v22, ev22, hf⟩ := ob hf
            refine r_getR (pc := 104) CF5 (k := 2) hC (by decide) wd_2_41 dX5_kept_104 ev22 ?_
            refine r_iload (pc := 107) hC dX5_kept_107 4 rfl ?_
            obtain ⟨v23, ev23, hf⟩ := ob hf
            refine r_iaload (pc := 109) hC dX5_kept_109 ev23 ?_
            refine r_iconst (pc := 110) (v := 4) hC dX5_kept_110 (by decide) ?_
            obtain ⟨v24, ev24, hf⟩ := ob hf
            refine r_idiv (pc := 111) hC dX5_kept_111 ev24 ?_
            refine r_bipush (pc := 112) (v := 8) hC dX5_kept_112 (by decide) ?_
            refine r_iadd (pc := 114) hC dX5_kept_114 ?_
            refine r_bipush (pc := 115) (v := 100) hC dX5_kept_115 (by decide) ?_
            refine r_aload_n (pc := 117) hC dX5_kept_117 rfl 0 rfl ?_
            obtain ⟨b25, gb25, hf⟩ := ob hf
            obtain ⟨q26, eq26, hf⟩ := ob hf
            refine r_callV (pc := 118) (As := []) (rest := [DI 100, DI (v24 + 8), DI 0, DI v21, DI j18, DR v20]) (stk' := [DI q26, DI 100, DI (v24 + 8), DI 0, DI v21, DI j18, DR v20]) (k1_X5_all eq26) gb25 rfl hC wd_2_145 wd_2_146 wd_2_147 wd_2_148 wd_1_4 md_X5_all rfl ⟨rfl, rfl, Nat.le_of_ble_eq_true rfl, Nat.le_of_ble_eq_true rfl, Nat.le_of_ble_eq_true rfl, Nat.le_of_ble_eq_true rfl⟩ dX5_kept_118 rfl (Nat.le_of_ble_eq_true rfl) rfl ?_
            refine r_isub (pc := 121) hC dX5_kept_121 ?_
            refine r_min (pc := 122) hC wd_2_149 wd_1_182 wd_1_12 (wd_1_183) dX5_kept_122 ⟨Nat.le_of_ble_eq_true rfl, Nat.le_of_ble_eq_true rfl, Nat.le_of_ble_eq_true rfl, Nat.le_of_ble_eq_true rfl⟩ ?_
            refine r_max (pc := 125) hC wd_2_150 wd_1_162 wd_1_12 (wd_1_163) dX5_kept_125 ⟨Nat.le_of_ble_eq_true rfl, Nat.le_of_ble_eq_true rfl, Nat.le_of_ble_eq_true rfl, Nat.le_of_ble_eq_true rfl⟩ ?_
            refine r_iadd (pc := 128) hC dX5_kept_128 ?_
            obtain ⟨s27, es27, hf⟩ := ob hf
            refine r_iastore (pc := 129) hC dX5_kept_129 es27 ?_
            cases hf
            exact (dm_sub [0, 1, 2, 3] rfl hJ16)
          replace hf := ej18
          clear ej18
          refine r_if_ne (pc := 88) (tgt := 94) hC dX5_kept_88 (by decide) (fun c19 => ?_) (fun c19 => ?_)
          · replace hf := oi_f c19 hf
            cases hf
            exact (dm_sub [0, 1, 2, 3, 4] rfl hJ18)
          · replace hf := oi_t c19 hf
            refine r_iconst (pc := 91) (v := 5) hC dX5_kept_91 (by decide) ?_
            refine r_istore (pc := 92) (lv' := [(4, DI 5), (0, DR (some x)), (1, DI a0), (2, DI a1), (3, DI z2.2), (5, DI b4.2.2)]) hC hN dX5_kept_92 (by decide) rfl ?_
            cases hf
            exact (dm_sub [1, 2, 3, 4, 0] rfl hJ18)
        · replace hf := oi_f c17 hf
          refine r_goto (pc := 83) (tgt := 130) hC dX5_kept_83 (by decide) ?_
          cases hf
          exact (dm_sub [0, 1, 2, 3] rfl hJ16)
  · refine r_aload_n (pc := 136) hC dX5_kept_136 rfl 0 rfl ?_
    exact r_aret (pc := 137) (by exact Or.inl ⟨_, rfl⟩) hE hC (f1xR hf) ⟨Nat.le_of_ble_eq_true rfl, Nat.le_of_ble_eq_true rfl⟩ dX5_kept_137
abbrev rmK1_X6_init : Room := { frames := 1, cells := 3, slots := 30, locals := 12 }
set_option maxRecDepth 100000 in
set_option maxHeartbeats 8000000 in
theorem k1_X6_init {st : DSt} {x : Nat} {st1 : DSt} (hf : fX6_init st x = some st1) : dm_K1 yX6_init cX6_init 1 none rmK1_X6_init 3 30 [DR (some x)] st none st1 := by
  refine dm_k1 (by decide) rfl (Nat.le_of_ble_eq_true rfl) fun Y hC hN hI hE => ?_
  replace hI := hI rfl
  unfold fX6_init at hf
  refine dm_sub (lv' := [(0, DR (some x))]) ([0]) rfl ?_
  refine r_aload_n (pc := 0) hC dX6_init_0 rfl 0 rfl ?_
  refine r_objInit (pc := 1) (nL := 0) hC wd_3_108 wd_1_21 (wd_1_22) ⟨_, rfl⟩ dX6_init_1 ⟨Nat.le_of_ble_eq_true rfl, Nat.le_of_ble_eq_true rfl⟩ ?_
  refine r_aload_n (pc := 4) hC dX6_init_4 rfl 0 rfl ?_
  refine r_iconst (pc := 5) (v := 0) hC dX6_init_5 (by decide) ?_
  obtain ⟨s1, es1, hf⟩ := ob hf
  refine r_newqV (pc := 6) (E := "ChocolateMouldsLaw$Bowl") (kd := 5) (cap := 10) (fun _ => rfl) hC (by decide) wd_3_109 (by decide) ⟨Nat.le_of_ble_eq_true rfl, Nat.le_of_ble_eq_true rfl⟩ dX6_init_6 es1 ?_
  obtain ⟨s2, es2, hf⟩ := ob hf
  refine r_put (pc := 9) CF6 (k := 1) hC (by decide) wd_3_111 rfl (dm_fr (by exact Or.inr ⟨_, rfl⟩) _) dX6_init_9 es2 ?_
  refine r_aload_n (pc := 12) hC dX6_init_12 rfl 0 rfl ?_
  refine r_iconst (pc := 13) (v := 0) hC dX6_init_13 (by decide) ?_
  obtain ⟨s3, es3, hf⟩ := ob hf
  refine r_newqA (pc := 14) (cap := 10) hC wd_2_180 (by decide) ⟨Nat.le_of_ble_eq_true rfl, Nat.le_of_ble_eq_true rfl⟩ dX6_init_14 es3 ?_
  obtain ⟨s4, es4, hf⟩ := ob hf
  refine r_put (pc := 17) CF6 (k := 2) hC (by decide) wd_3_113 rfl (dm_fr (by exact Or.inr ⟨_, rfl⟩) _) dX6_init_17 es4 ?_
  refine r_aload_n (pc := 20) hC dX6_init_20 rfl 0 rfl ?_
  refine r_iconst (pc := 21) (v := 0) hC dX6_init_21 (by decide) ?_
  obtain ⟨s5, es5, hf⟩ := ob hf
  refine r_newqA (pc := 22) (cap := 10) hC wd_2_180 (by decide) ⟨Nat.le_of_ble_eq_true rfl, Nat.le_of_ble_eq_true rfl⟩ dX6_init_22 es5 ?_
  obtain ⟨s6, es6, hf⟩ := ob hf
  refine r_put (pc := 25) CF6 (k := 3) hC (by decide) wd_3_115 rfl (dm_fr (by exact Or.inr ⟨_, rfl⟩) _) dX6_init_25 es6 ?_
  exact r_vret (pc := 28) hE hC (f1xV hf) ⟨Nat.le_of_ble_eq_true rfl, Nat.le_of_ble_eq_true rfl⟩ dX6_init_28
abbrev rmK1_X6_with : Room := { frames := 0, cells := 1, slots := 10, locals := 0 }
set_option maxRecDepth 100000 in
set_option maxHeartbeats 8000000 in
theorem k1_X6_with {st : DSt} {a0 : Option Nat} {a1 : Option Nat} {v : Option Nat} {st1 : DSt} (hf : fX6_with st a0 a1 = some (v, st1)) : dm_K1 yX6_with cX6_with 4 (some (.array (.array .int))) rmK1_X6_with 1 10 [DR a0, DR a1] st (some (DR v)) st1 := by
  refine dm_k1 (by decide) rfl (Nat.le_of_ble_eq_true rfl) fun Y hC hN hI hE => ?_
  unfold fX6_with at hf
  refine dm_sub (lv' := [(0, DR a0), (1, DR a1)]) ([0, 1]) rfl ?_
  refine r_aload_n (pc := 0) hC dX6_with_0 rfl 0 rfl ?_
  obtain ⟨v1, ev1, hf⟩ := ob hf
  refine r_alen (pc := 1) (kd := 6) (fun _ => rfl) hC dX6_with_1 ev1 ?_
  refine r_iconst (pc := 2) (v := 1) hC dX6_with_2 (by decide) ?_
  refine r_iadd (pc := 3) hC dX6_with_3 ?_
  obtain ⟨s2, es2, hf⟩ := ob hf
  refine r_newqA (pc := 4) (cap := 10) hC wd_2_180 (by decide) ⟨Nat.le_of_ble_eq_true rfl, Nat.le_of_ble_eq_true rfl⟩ dX6_with_4 es2 ?_
  refine r_astore_n (pc := 7) (lv' := [(2, DR (some st.1)), (0, DR a0), (1, DR a1)]) hC hN dX6_with_7 rfl (by decide) rfl ?_
  refine r_iconst (pc := 8) (v := 0) hC dX6_with_8 (by decide) ?_
  refine r_istore_n (pc := 9) (lv' := [(3, DI 0), (2, DR (some st.1)), (0, DR a0), (1, DR a1)]) hC hN dX6_with_9 rfl (by decide) rfl ?_
  obtain ⟨b3, eb3, hf⟩ := ob hf
  refine dm_sub (lv' := [(0, DR a0), (1, DR a1), (2, DR (some st.1)), (3, DI 0)]) [2, 3, 1, 0] rfl ?_
  refine dlp_W _ (fun (z3 : DSt × Int32) => dm_W Y 1 10 z3.1 10 [(0, DR a0), (1, DR a1), (2, DR (some st.1)), (3, DI z3.2)] []) (fun (b3 : DSt × Int32) => dm_W Y 1 10 b3.1 28 [(0, DR a0), (1, DR a1), (2, DR (some st.1)), (3, DI b3.2)] []) ?_ eb3 ?_
  · intro z3 r hf hk
    unfold fX6_with_L10 at hf
    refine r_iload_n (pc := 10) hC dX6_with_10 rfl 3 rfl ?_
    refine r_aload_n (pc := 11) hC dX6_with_11 rfl 0 rfl ?_
    obtain ⟨v4, ev4, hf⟩ := ob hf
    refine r_alen (pc := 12) (kd := 6) (fun _ => rfl) hC dX6_with_12 ev4 ?_
    refine r_icmp_ge (pc := 13) (tgt := 28) hC dX6_with_13 (by decide) (fun c5 => ?_) (fun c5 => ?_)
    · replace hf := oi_t c5 hf
      cases hf
      exact dm_sub [0, 1, 2, 3] rfl hk
    · replace hf := oi_f c5 hf
      refine r_aload_n (pc := 16) hC dX6_with_16 rfl 2 rfl ?_
      refine r_iload_n (pc := 17) hC dX6_with_17 rfl 3 rfl ?_
      refine r_aload_n (pc := 18) hC dX6_with_18 rfl 0 rfl ?_
      refine r_iload_n (pc := 19) hC dX6_with_19 rfl 3 rfl ?_
      obtain ⟨v6, ev6, hf⟩ := ob hf
      refine r_aaloadA (pc := 20) (kd := 6) (t := .int) (fun _ => rfl) hC dX6_with_20 ev6 ?_
      obtain ⟨s7, es7, hf⟩ := ob hf
      refine r_aastoreA (pc := 21) hC dX6_with_21 es7 ?_
      refine r_iinc (pc := 22) (pos := 3) (v := (z3.2 + 1)) (lv' := [(3, DI (z3.2 + 1)), (0, DR a0), (1, DR a1), (2, DR (some st.1))]) hC hN dX6_with_22 rfl rfl (by decide) rfl ?_
      refine r_goto (pc := 25) (tgt := 10) hC dX6_with_25 (by decide) ?_
      cases hf
      exact dm_sub [1, 2, 3, 0] rfl hk
  · refine r_aload_n (pc := 28) hC dX6_with_28 rfl 2 rfl ?_
    refine r_aload_n (pc := 29) hC dX6_with_29 rfl 0 rfl ?_
    obtain ⟨v8, ev8, hf⟩ := ob hf
    refine r_alen (pc := 30) (kd := 6) (fun _ => rfl) hC dX6_with_30 ev8 ?_
    refine r_aload_n (pc := 31) hC dX6_with_31 rfl 1 rfl ?_
    obtain ⟨s9, es9, hf⟩ := ob hf
    refine r_aastoreA (pc := 32) hC dX6_with_32 es9 ?_
    refine r_aload_n (pc := 33) hC dX6_with_33 rfl 2 rfl ?_
    exact r_aret (pc := 34) (by exact Or.inr ⟨_, rfl⟩) hE hC (f1xR hf) ⟨Nat.le_of_ble_eq_true rfl, Nat.le_of_ble_eq_true rfl⟩ dX6_with_34
abbrev rmK1_X6_without : Room := { frames := 0, cells := 1, slots := 10, locals := 0 }
set_option maxRecDepth 100000 in
set_option maxHeartbeats 8000000 in
theorem k1_X6_without {st : DSt} {a0 : Option Nat} {a1 : Int32} {v : Option Nat} {st1 : DSt} (hf : fX6_without st a0 a1 = some (v, st1)) : dm_K1 yX6_without cX6_without 4 (some (.array (.array .int))) rmK1_X6_without 1 10 [DR a0, DI a1] st (some (DR v)) st1 := by
  refine dm_k1 (by decide) rfl (Nat.le_of_ble_eq_true rfl) fun Y hC hN hI hE => ?_
  unfold fX6_without at hf
  refine dm_sub (lv' := [(0, DR a0), (1, DI a1)]) ([0, 1]) rfl ?_
  refine r_aload_n (pc := 0) hC dX6_without_0 rfl 0 rfl ?_
  obtain ⟨v1, ev1, hf⟩ := ob hf
  refine r_alen (pc := 1) (kd := 6) (fun _ => rfl) hC dX6_without_1 ev1 ?_
  refine r_iconst (pc := 2) (v := 1) hC dX6_without_2 (by decide) ?_
  refine r_isub (pc := 3) hC dX6_without_3 ?_
  obtain ⟨s2, es2, hf⟩ := ob hf
  refine r_newqA (pc := 4) (cap := 10) hC wd_2_180 (by decide) ⟨Nat.le_of_ble_eq_true rfl, Nat.le_of_ble_eq_true rfl⟩ dX6_without_4 es2 ?_
  refine r_astore_n (pc := 7) (lv' := [(2, DR (some st.1)), (0, DR a0), (1, DI a1)]) hC hN dX6_without_7 rfl (by decide) rfl ?_
  refine r_iconst (pc := 8) (v := 0) hC dX6_without_8 (by decide) ?_
  refine r_istore_n (pc := 9) (lv' := [(3, DI 0), (2, DR (some st.1)), (0, DR a0), (1, DI a1)]) hC hN dX6_without_9 rfl (by decide) rfl ?_
  obtain ⟨b3, eb3, hf⟩ := ob hf
  refine dm_sub (lv' := [(0, DR a0), (1, DI a1), (2, DR (some st.1)), (3, DI 0)]) [2, 3, 1, 0] rfl ?_
  refine dlp_W _ (fun (z3 : DSt × Int32) => dm_W Y 1 10 z3.1 10 [(0, DR a0), (1, DI a1), (2, DR (some st.1)), (3, DI z3.2)] []) (fun (b3 : DSt × Int32) => dm_W Y 1 10 b3.1 39 [(0, DR a0), (1, DI a1), (2, DR (some st.1)), (3, DI b3.2)] []) ?_ eb3 ?_
  · intro z3 r hf hk
    unfold fX6_without_L10 at hf
    refine r_iload_n (pc := 10) hC dX6_without_10 rfl 3 rfl ?_
    refine r_aload_n (pc := 11) hC dX6_without_11 rfl 2 rfl ?_
    obtain ⟨v4, ev4, hf⟩ := ob hf
    refine r_alen (pc := 12) (kd := 6) (fun _ => rfl) hC dX6_without_12 ev4 ?_
    refine r_icmp_ge (pc := 13) (tgt := 39) hC dX6_without_13 (by decide) (fun c5 => ?_) (fun c5 => ?_)
    · replace hf := oi_t c5 hf
      cases hf
      exact dm_sub [0, 1, 2, 3] rfl hk
    · replace hf := oi_f c5 hf
      refine r_aload_n (pc := 16) hC dX6_without_16 rfl 2 rfl ?_
      refine r_iload_n (pc := 17) hC dX6_without_17 rfl 3 rfl ?_
      refine r_aload_n (pc := 18) hC dX6_without_18 rfl 0 rfl ?_
      refine r_iload_n (pc := 19) hC dX6_without_19 rfl 3 rfl ?_
      refine r_iload_n (pc := 20) hC dX6_without_20 rfl 1 rfl ?_
      obtain ⟨j6, ej6, hf⟩ := ob hf
      have hJ6 : dm_W Y 1 10 z3.1 31 [(0, DR a0), (1, DI a1), (2, DR (some st.1)), (3, DI z3.2)] [DI j6, DR a0, DI z3.2, DR (some st.1)] := by
        obtain ⟨v8, ev8, hf⟩ := ob hf
        refine r_aaloadA (pc := 31) (kd := 6) (t := .int) (fun _ => rfl) hC dX6_without_31 ev8 ?_
        obtain ⟨s9, es9, hf⟩ := ob hf
        refine r_aastoreA (pc := 32) hC dX6_without_32 es9 ?_
        refine r_iinc (pc := 33) (pos := 3) (v := (z3.2 + 1)) (lv' := [(3, DI (z3.2 + 1)), (0, DR a0), (1, DI a1), (2, DR (some st.1))]) hC hN dX6_without_33 rfl rfl (by decide) rfl ?_
        refine r_goto (pc := 36) (tgt := 10) hC dX6_without_36 (by decide) ?_
        cases hf
        exact dm_sub [1, 2, 3, 0] rfl hk
      replace hf := ej6
      clear ej6
      refine r_icmp_ge (pc := 21) (tgt := 28) hC dX6_without_21 (by decide) (fun c7 => ?_) (fun c7 => ?_)
      · replace hf := oi_t c7 hf
        refine r_iload_n (pc := 28) hC dX6_without_28 rfl 3 rfl ?_
        refine r_iconst (pc := 29) (v := 1) hC dX6_without_29 (by decide) ?_
        refine r_iadd (pc := 30) hC dX6_without_30 ?_
        cases hf
        exact (dm_sub [0, 1, 2, 3] rfl hJ6)
      · replace hf := oi_f c7 hf
        refine r_iload_n (pc := 24) hC dX6_without_24 rfl 3 rfl ?_
        refine r_goto (pc := 25) (tgt := 31) hC dX6_without_25 (by decide) ?_
        cases hf
        exact (dm_sub [0, 1, 2, 3] rfl hJ6)
  · refine r_aload_n (pc := 39) hC dX6_without_39 rfl 2 rfl ?_
    exact r_aret (pc := 40) (by exact Or.inr ⟨_, rfl⟩) hE hC (f1xR hf) ⟨Nat.le_of_ble_eq_true rfl, Nat.le_of_ble_eq_true rfl⟩ dX6_without_40
abbrev rmK1_X6_fits : Room := { frames := 0, cells := 0, slots := 0, locals := 0 }
set_option maxRecDepth 100000 in
set_option maxHeartbeats 8000000 in
theorem k1_X6_fits {st : DSt} {a0 : Option Nat} {a1 : Option Nat} {v : Int32} (hf : fX6_fits st a0 a1 = some v) : dm_K1 yX6_fits cX6_fits 2 (some .boolean) rmK1_X6_fits 0 0 [DR a0, DR a1] st (some (DI v)) st := by
  refine dm_k1 (by decide) rfl (Nat.le_of_ble_eq_true rfl) fun Y hC hN hI hE => ?_
  unfold fX6_fits at hf
  refine dm_sub (lv' := [(0, DR a0), (1, DR a1)]) ([0, 1]) rfl ?_
  refine r_aload_n (pc := 0) hC dX6_fits_0 rfl 1 rfl ?_
  refine r_iconst (pc := 1) (v := 2) hC dX6_fits_1 (by decide) ?_
  obtain ⟨v1, ev1, hf⟩ := ob hf
  refine r_iaload (pc := 2) hC dX6_fits_2 ev1 ?_
  obtain ⟨j2, ej2, hf⟩ := ob hf
  have hJ2 : dm_W Y 0 0 st 41 [] [DI j2] := by
    obtain ⟨v16, ev16, hf⟩ := ob hf
    exact r_zret (pc := 41) hE hC ev16 (f1pI hf) ⟨Nat.le_of_ble_eq_true rfl, Nat.le_of_ble_eq_true rfl⟩ dX6_fits_41
  replace hf := ej2
  clear ej2
  refine r_if_ne (pc := 3) (tgt := 40) hC dX6_fits_3 (by decide) (fun c3 => ?_) (fun c3 => ?_)
  · replace hf := oi_f c3 hf
    refine r_iconst (pc := 40) (v := 0) hC dX6_fits_40 (by decide) ?_
    cases hf
    exact (dm_sub [] rfl hJ2)
  · replace hf := oi_t c3 hf
    refine r_aload_n (pc := 6) hC dX6_fits_6 rfl 0 rfl ?_
    refine r_iconst (pc := 7) (v := 0) hC dX6_fits_7 (by decide) ?_
    obtain ⟨v4, ev4, hf⟩ := ob hf
    refine r_iaload (pc := 8) hC dX6_fits_8 ev4 ?_
    refine r_aload_n (pc := 9) hC dX6_fits_9 rfl 0 rfl ?_
    refine r_iconst (pc := 10) (v := 1) hC dX6_fits_10 (by decide) ?_
    obtain ⟨v5, ev5, hf⟩ := ob hf
    refine r_iaload (pc := 11) hC dX6_fits_11 ev5 ?_
    refine r_imul (pc := 12) hC dX6_fits_12 ?_
    refine r_aload_n (pc := 13) hC dX6_fits_13 rfl 1 rfl ?_
    refine r_iconst (pc := 14) (v := 0) hC dX6_fits_14 (by decide) ?_
    obtain ⟨v6, ev6, hf⟩ := ob hf
    refine r_iaload (pc := 15) hC dX6_fits_15 ev6 ?_
    obtain ⟨j7, ej7, hf⟩ := ob hf
    have hJ7 : dm_W Y 0 0 st 41 [] [DI j7] := by
      cases hf
      exact (dm_sub [] rfl hJ2)
    replace hf := ej7
    clear ej7
    refine r_icmp_ne (pc := 16) (tgt := 40) hC dX6_fits_16 (by decide) (fun c8 => ?_) (fun c8 => ?_)
    · replace hf := oi_f c8 hf
      refine r_iconst (pc := 40) (v := 0) hC dX6_fits_40 (by decide) ?_
      cases hf
      exact (dm_sub [] rfl hJ7)
    · replace hf := oi_t c8 hf
      refine r_aload_n (pc := 19) hC dX6_fits_19 rfl 0 rfl ?_
      refine r_iconst (pc := 20) (v := 2) hC dX6_fits_20 (by decide) ?_
      obtain ⟨v9, ev9, hf⟩ := ob hf
      refine r_iaload (pc := 21) hC dX6_fits_21 ev9 ?_
      refine r_aload_n (pc := 22) hC dX6_fits_22 rfl 1 rfl ?_
      refine r_iconst (pc := 23) (v := 1) hC dX6_fits_23 (by decide) ?_
      obtain ⟨v10, ev10, hf⟩ := ob hf
      refine r_iaload (pc := 24) hC dX6_fits_24 ev10 ?_
      obtain ⟨j11, ej11, hf⟩ := ob hf
      have hJ11 : dm_W Y 0 0 st 41 [] [DI j11] := by
        cases hf
        exact (dm_sub [] rfl hJ7)
      replace hf := ej11
      clear ej11
      refine r_icmp_lt (pc := 25) (tgt := 40) hC dX6_fits_25 (by decide) (fun c12 => ?_) (fun c12 => ?_)
      · replace hf := oi_t c12 hf
        refine r_iconst (pc := 40) (v := 0) hC dX6_fits_40 (by decide) ?_
        cases hf
        exact (dm_sub [] rfl hJ11)
      · replace hf := oi_f c12 hf
        refine r_aload_n (pc := 28) hC dX6_fits_28 rfl 0 rfl ?_
        refine r_iconst (pc := 29) (v := 3) hC dX6_fits_29 (by decide) ?_
        obtain ⟨v13, ev13, hf⟩ := ob hf
        refine r_iaload (pc := 30) hC dX6_fits_30 ev13 ?_
        refine r_bipush (pc := 31) (v := 21) hC dX6_fits_31 (by decide) ?_
        obtain ⟨j14, ej14, hf⟩ := ob hf
        have hJ14 : dm_W Y 0 0 st 41 [] [DI j14] := by
          cases hf
          exact (dm_sub [] rfl hJ11)
        replace hf := ej14
        clear ej14
        refine r_icmp_ge (pc := 33) (tgt := 40) hC dX6_fits_33 (by decide) (fun c15 => ?_) (fun c15 => ?_)
        · replace hf := oi_t c15 hf
          refine r_iconst (pc := 40) (v := 0) hC dX6_fits_40 (by decide) ?_
          cases hf
          exact (dm_sub [] rfl hJ14)
        · replace hf := oi_f c15 hf
          refine r_iconst (pc := 36) (v := 1) hC dX6_fits_36 (by decide) ?_
          refine r_goto (pc := 37) (tgt := 41) hC dX6_fits_37 (by decide) ?_
          cases hf
          exact (dm_sub [] rfl hJ14)
abbrev rmK1_X6_fill : Room := { frames := 1, cells := 63, slots := 630, locals := 23 }
set_option maxRecDepth 100000 in
set_option maxHeartbeats 8000000 in
theorem k1_X6_fill {st : DSt} {x : Nat} {v : Int32} {st1 : DSt} (hf : fX6_fill st x = some (v, st1)) : dm_K1 yX6_fill cX6_fill 7 (some .int) rmK1_X6_fill 63 630 [DR (some x)] st (some (DI v)) st1 := by
  refine dm_k1 (by decide) rfl (Nat.le_of_ble_eq_true rfl) fun Y hC hN hI hE => ?_
  unfold fX6_fill at hf
  refine dm_sub (lv' := [(0, DR (some x))]) ([0]) rfl ?_
  refine r_iconst (pc := 0) (v := 0) hC dX6_fill_0 (by decide) ?_
  refine r_istore_n (pc := 1) (lv' := [(1, DI 0), (0, DR (some x))]) hC hN dX6_fill_1 rfl (by decide) rfl ?_
  refine r_aload_n (pc := 2) hC dX6_fill_2 rfl 1 rfl ?_
  obtain ⟨v1, ev1, hf⟩ := ob hf
  refine r_getR (pc := 3) CF6 (k := 3) hC (by decide) wd_3_115 dX6_fill_3 ev1 ?_
  refine r_astore_n (pc := 6) (lv' := [(2, DR v1), (1, DI 0), (0, DR (some x))]) hC hN dX6_fill_6 rfl (by decide) rfl ?_
  refine r_aload_n (pc := 7) hC dX6_fill_7 rfl 0 rfl ?_
  obtain ⟨v2, ev2, hf⟩ := ob hf
  refine r_alen (pc := 8) (kd := 6) (fun _ => rfl) hC dX6_fill_8 ev2 ?_
  refine r_istore_n (pc := 9) (lv' := [(3, DI v2), (2, DR v1), (1, DI 0), (0, DR (some x))]) hC hN dX6_fill_9 rfl (by decide) rfl ?_
  refine r_iconst (pc := 10) (v := 0) hC dX6_fill_10 (by decide) ?_
  refine r_istore (pc := 11) (lv' := [(4, DI 0), (3, DI v2), (2, DR v1), (1, DI 0), (0, DR (some x))]) hC hN dX6_fill_11 (by decide) rfl ?_
  obtain ⟨b3, eb3, hf⟩ := ob hf
  refine dm_sub (lv' := [(0, DR (some x)), (1, DI 0), (2, DR v1), (3, DI v2), (4, DI 0)]) [4, 3, 2, 1, 0] rfl ?_
  refine dl_Wc (fX6_fill_L13 x v1 v2) 9 90 (0 + 63) (0 + 630) (fun cs3 ss3 (z3 : DSt × Int32 × Int32) => dm_W Y cs3 ss3 z3.1 13 [(0, DR (some x)), (1, DI z3.2.1), (2, DR v1), (3, DI v2), (4, DI z3.2.2)] []) (fun cs3 ss3 (b3 : DSt × Int32 × Int32) => dm_W Y cs3 ss3 b3.1 118 [(0, DR (some x)), (1, DI b3.2.1), (2, DR v1), (3, DI v2), (4, DI b3.2.2)] []) (fun _ _ _ _ _ h1 h2 h => dm_widen h1 h2 h) (fun _ _ _ _ _ h1 h2 h => dm_widen h1 h2 h) ?_ 7 _ _ _ _ eb3 (by omega) (by omega) ?_
  · intro cs3 ss3 z3 r hf hc3 hs3 hk
    unfold fX6_fill_L13 at hf
    refine r_iload (pc := 13) hC dX6_fill_13 4 rfl ?_
    refine r_iload_n (pc := 15) hC dX6_fill_15 rfl 3 rfl ?_
    refine r_icmp_ge (pc := 16) (tgt := 118) hC dX6_fill_16 (by decide) (fun c4 => ?_) (fun c4 => ?_)
    · replace hf := oi_t c4 hf
      cases hf
      exact dm_widen (by omega) (by omega) (dm_sub [0, 1, 2, 3, 4] rfl hk)
    · replace hf := oi_f c4 hf
      refine r_aload_n (pc := 19) hC dX6_fill_19 rfl 2 rfl ?_
      refine r_iload (pc := 20) hC dX6_fill_20 4 rfl ?_
      obtain ⟨v5, ev5, hf⟩ := ob hf
      refine r_aaloadA (pc := 22) (kd := 6) (t := .int) (fun _ => rfl) hC dX6_fill_22 ev5 ?_
      refine r_astore (pc := 23) (lv' := [(5, DR v5), (0, DR (some x)), (1, DI z3.2.1), (2, DR v1), (3, DI v2), (4, DI z3.2.2)]) hC hN dX6_fill_23 (by decide) rfl ?_
      refine r_iconst (pc := 25) (v := 0) hC dX6_fill_25 (by decide) ?_
      refine r_istore (pc := 26) (lv' := [(6, DI 0), (5, DR v5), (0, DR (some x)), (1, DI z3.2.1), (2, DR v1), (3, DI v2), (4, DI z3.2.2)]) hC hN dX6_fill_26 (by decide) rfl ?_
      obtain ⟨b6, eb6, hf⟩ := ob hf
      refine dm_sub (lv' := [(0, DR (some x)), (1, DI z3.2.1), (2, DR v1), (3, DI v2), (4, DI z3.2.2), (5, DR v5), (6, DI 0)]) [2, 3, 4, 5, 6, 1, 0] rfl ?_
      refine dl_Wc (fX6_fill_L28 x v5) 1 10 ((cs3 + 0) + 9) ((ss3 + 0) + 90) (fun cs6 ss6 (z6 : DSt × Int32 × Int32) => dm_W Y cs6 ss6 z6.1 28 [(0, DR (some x)), (1, DI z6.2.1), (2, DR v1), (3, DI v2), (4, DI z3.2.2), (5, DR v5), (6, DI z6.2.2)] []) (fun cs6 ss6 (b6 : DSt × Int32 × Int32) => dm_W Y cs6 ss6 b6.1 112 [(0, DR (some x)), (1, DI b6.2.1), (2, DR v1), (3, DI v2), (4, DI z3.2.2), (5, DR v5), (6, DI b6.2.2)] []) (fun _ _ _ _ _ h1 h2 h => dm_widen h1 h2 h) (fun _ _ _ _ _ h1 h2 h => dm_widen h1 h2 h) ?_ 9 _ _ _ _ eb6 (by omega) (by omega) ?_
      · intro cs6 ss6 z6 r hf hc6 hs6 hk
        unfold fX6_fill_L28 at hf
        refine r_iload (pc := 28) hC dX6_fill_28 6 rfl ?_
        refine r_aload_n (pc := 30) hC dX6_fill_30 rfl 0 rfl ?_
        obtain ⟨v7, ev7, hf⟩ := ob hf
        refine r_getR (pc := 31) CF6 (k := 2) hC (by decide) wd_3_113 dX6_fill_31 ev7 ?_
        obtain ⟨v8, ev8, hf⟩ := ob hf
        refine r_alen (pc := 34) (kd := 6) (fun _ => rfl) hC dX6_fill_34 ev8 ?_
        refine r_icmp_ge (pc := 35) (tgt := 112) hC dX6_fill_35 (by decide) (fun c9 => ?_) (fun c9 => ?_)
        · replace hf := oi_t c9 hf
          cases hf
          exact dm_widen (by omega) (by omega) (dm_sub [0, 1, 2, 3, 4, 5, 6] rfl hk)
        · replace hf := oi_f c9 hf
          refine r_aload_n (pc := 38) hC dX6_fill_38 rfl 0 rfl ?_
          obtain ⟨v10, ev10, hf⟩ := ob hf
          refine r_getR (pc := 39) CF6 (k := 2) hC (by decide) wd_3_113 dX6_fill_39 ev10 ?_
          refine r_iload (pc := 42) hC dX6_fill_42 6 rfl ?_
          obtain ⟨v11, ev11, hf⟩ := ob hf
          refine r_aaloadA (pc := 44) (kd := 6) (t := .int) (fun _ => rfl) hC dX6_fill_44 ev11 ?_
          refine r_aload (pc := 45) hC dX6_fill_45 5 rfl ?_
          obtain ⟨q12, eq12, hf⟩ := ob hf
          refine r_callS (pc := 47) (As := [DR v11, DR v5]) (rest := []) (stk' := [DI q12]) (k1_X6_fits eq12) hC wd_2_8 wd_2_9 wd_2_10 wd_1_3 md_X6_fits rfl ⟨rfl, rfl, Nat.le_of_ble_eq_true rfl, Nat.le_of_ble_eq_true rfl, by show _ ≤ 63; omega, by show _ ≤ 630; omega⟩ dX6_fill_47 rfl (Nat.le_of_ble_eq_true rfl) rfl ?_
          refine r_if_ne (pc := 50) (tgt := 56) hC dX6_fill_50 (by decide) (fun c13 => ?_) (fun c13 => ?_)
          · replace hf := oi_f c13 hf
            refine r_aload (pc := 56) hC dX6_fill_56 5 rfl ?_
            refine r_iconst (pc := 58) (v := 2) hC dX6_fill_58 (by decide) ?_
            refine r_iconst (pc := 59) (v := 1) hC dX6_fill_59 (by decide) ?_
            obtain ⟨s14, es14, hf⟩ := ob hf
            refine r_iastore (pc := 60) hC dX6_fill_60 es14 ?_
            refine r_aload (pc := 61) hC dX6_fill_61 5 rfl ?_
            refine r_iconst (pc := 63) (v := 3) hC dX6_fill_63 (by decide) ?_
            refine r_aload_n (pc := 64) hC dX6_fill_64 rfl 0 rfl ?_
            obtain ⟨v15, ev15, hf⟩ := ob hf
            refine r_getR (pc := 65) CF6 (k := 2) hC (by decide) wd_3_113 dX6_fill_65 ev15 ?_
            refine r_iload (pc := 68) hC dX6_fill_68 6 rfl ?_
            obtain ⟨v16, ev16, hf⟩ := ob hf
            refine r_aaloadA (pc := 70) (kd := 6) (t := .int) (fun _ => rfl) hC dX6_fill_70 ev16 ?_
            refine r_iconst (pc := 71) (v := 2) hC dX6_fill_71 (by decide) ?_
            obtain ⟨v17, ev17, hf⟩ := ob hf
            refine r_iaload (pc := 72) hC dX6_fill_72 ev17 ?_
            obtain ⟨s18, es18, hf⟩ := ob hf
            refine r_iastore (pc := 73) hC dX6_fill_73 es18 ?_
            refine r_aload (pc := 74) hC dX6_fill_74 5 rfl ?_
            refine r_iconst (pc := 76) (v := 4) hC dX6_fill_76 (by decide) ?_
            refine r_aload_n (pc := 77) hC dX6_fill_77 rfl 0 rfl ?_
            obtain ⟨v19, ev19, hf⟩ := ob hf
            refine r_getR (pc := 78) CF6 (k := 2) hC (by decide) wd_3_113 dX6_fill_78 ev19 ?_
            refine r_iload (pc := 81) hC dX6_fill_81 6 rfl ?_
            obtain ⟨v20, ev20, hf⟩ := ob hf
            refine r_aaloadA (pc := 83) (kd := 6) (t := .int) (fun _ => rfl) hC dX6_fill_83 ev20 ?_
            refine r_iconst (pc := 84) (v := 3) hC dX6_fill_84 (by decide) ?_
            obtain ⟨v21, ev21, hf⟩ := ob hf
            refine r_iaload (pc := 85) hC dX6_fill_85 ev21 ?_
            obtain ⟨s22, es22, hf⟩ := ob hf
            refine r_iastore (pc := 86) hC dX6_fill_86 es22 ?_
            refine r_aload_n (pc := 87) hC dX6_fill_87 rfl 0 rfl ?_
            refine r_aload_n (pc := 88) hC dX6_fill_88 rfl 0 rfl ?_
            obtain ⟨v23, ev23, hf⟩ := ob hf
            refine r_getR (pc := 89) CF6 (k := 2) hC (by decide) wd_3_113 dX6_fill_89 ev23 ?_
            refine r_iload (pc := 92) hC dX6_fill_92 6 rfl ?_
            obtain ⟨q24, eq24, hf⟩ := ob hf
            refine r_callS (pc := 94) (As := [DR v23, DI z6.2.2]) (rest := [DR (some x)]) (stk' := [DR q24.1, DR (some x)]) (k1_X6_without eq24) hC wd_3_46 wd_3_47 wd_3_48 wd_1_3 md_X6_without rfl ⟨rfl, rfl, Nat.le_of_ble_eq_true rfl, Nat.le_of_ble_eq_true rfl, by show _ ≤ 63; omega, by show _ ≤ 630; omega⟩ dX6_fill_94 rfl (Nat.le_of_ble_eq_true rfl) rfl ?_
            obtain ⟨s25, es25, hf⟩ := ob hf
            refine r_put (pc := 97) CF6 (k := 2) hC (by decide) wd_3_113 rfl (dm_fr (by exact Or.inr ⟨_, rfl⟩) _) dX6_fill_97 es25 ?_
            refine r_iinc (pc := 100) (pos := 1) (v := (z6.2.1 + 1)) (lv' := [(1, DI (z6.2.1 + 1)), (0, DR (some x)), (2, DR v1), (3, DI v2), (4, DI z3.2.2), (5, DR v5), (6, DI z6.2.2)]) hC hN dX6_fill_100 rfl rfl (by decide) rfl ?_
            refine r_goto (pc := 103) (tgt := 112) hC dX6_fill_103 (by decide) ?_
            cases hf
            exact dm_widen (by omega) (by omega) (dm_sub [1, 0, 2, 3, 4, 5, 6] rfl hk)
          · replace hf := oi_t c13 hf
            refine r_goto (pc := 53) (tgt := 106) hC dX6_fill_53 (by decide) ?_
            refine r_iinc (pc := 106) (pos := 6) (v := (z6.2.2 + 1)) (lv' := [(6, DI (z6.2.2 + 1)), (0, DR (some x)), (1, DI z6.2.1), (2, DR v1), (3, DI v2), (4, DI z3.2.2), (5, DR v5)]) hC hN dX6_fill_106 rfl rfl (by decide) rfl ?_
            refine r_goto (pc := 109) (tgt := 28) hC dX6_fill_109 (by decide) ?_
            cases hf
            exact dm_widen (by omega) (by omega) (dm_sub [1, 2, 3, 4, 5, 6, 0] rfl hk)
      · refine r_iinc (pc := 112) (pos := 4) (v := (z3.2.2 + 1)) (lv' := [(4, DI (z3.2.2 + 1)), (0, DR (some x)), (1, DI b6.2.1), (2, DR v1), (3, DI v2), (5, DR v5), (6, DI b6.2.2)]) hC hN dX6_fill_112 rfl rfl (by decide) rfl ?_
        refine r_goto (pc := 115) (tgt := 13) hC dX6_fill_115 (by decide) ?_
        cases hf
        exact dm_widen (by omega) (by omega) (dm_sub [1, 2, 3, 4, 0] rfl hk)
  · refine r_iload_n (pc := 118) hC dX6_fill_118 rfl 1 rfl ?_
    exact r_iret (pc := 119) hE hC (f1xI hf) ⟨Nat.le_of_ble_eq_true rfl, Nat.le_of_ble_eq_true rfl⟩ dX6_fill_119
abbrev rmK1_X6_pass : Room := { frames := 0, cells := 0, slots := 0, locals := 0 }
set_option maxRecDepth 100000 in
set_option maxHeartbeats 8000000 in
theorem k1_X6_pass {st : DSt} {x : Nat} {a0 : Int32} {st1 : DSt} (hf : fX6_pass st x a0 = some st1) : dm_K1 yX6_pass cX6_pass 7 none rmK1_X6_pass 0 0 [DR (some x), DI a0] st none st1 := by
  refine dm_k1 (by decide) rfl (Nat.le_of_ble_eq_true rfl) fun Y hC hN hI hE => ?_
  unfold fX6_pass at hf
  refine dm_sub (lv' := [(0, DR (some x)), (1, DI a0)]) ([0, 1]) rfl ?_
  refine r_aload_n (pc := 0) hC dX6_pass_0 rfl 0 rfl ?_
  obtain ⟨v1, ev1, hf⟩ := ob hf
  refine r_getR (pc := 1) CF6 (k := 2) hC (by decide) wd_3_113 dX6_pass_1 ev1 ?_
  refine r_astore_n (pc := 4) (lv' := [(2, DR v1), (0, DR (some x)), (1, DI a0)]) hC hN dX6_pass_4 rfl (by decide) rfl ?_
  refine r_aload_n (pc := 5) hC dX6_pass_5 rfl 0 rfl ?_
  obtain ⟨v2, ev2, hf⟩ := ob hf
  refine r_alen (pc := 6) (kd := 6) (fun _ => rfl) hC dX6_pass_6 ev2 ?_
  refine r_istore_n (pc := 7) (lv' := [(3, DI v2), (2, DR v1), (0, DR (some x)), (1, DI a0)]) hC hN dX6_pass_7 rfl (by decide) rfl ?_
  refine r_iconst (pc := 8) (v := 0) hC dX6_pass_8 (by decide) ?_
  refine r_istore (pc := 9) (lv' := [(4, DI 0), (3, DI v2), (2, DR v1), (0, DR (some x)), (1, DI a0)]) hC hN dX6_pass_9 (by decide) rfl ?_
  obtain ⟨b3, eb3, hf⟩ := ob hf
  refine dm_sub (lv' := [(0, DR (some x)), (1, DI a0), (2, DR v1), (3, DI v2), (4, DI 0)]) [3, 4, 2, 1, 0] rfl ?_
  refine dlp_W _ (fun (z3 : DSt × Int32) => dm_W Y 0 0 z3.1 11 [(0, DR (some x)), (1, DI a0), (2, DR v1), (3, DI v2), (4, DI z3.2)] []) (fun (b3 : DSt × Int32) => dm_W Y 0 0 b3.1 94 [(0, DR (some x)), (1, DI a0), (2, DR v1), (3, DI v2), (4, DI b3.2)] []) ?_ eb3 ?_
  · intro z3 r hf hk
    unfold fX6_pass_L11 at hf
    refine r_iload (pc := 11) hC dX6_pass_11 4 rfl ?_
    refine r_iload_n (pc := 13) hC dX6_pass_13 rfl 3 rfl ?_
    refine r_icmp_ge (pc := 14) (tgt := 94) hC dX6_pass_14 (by decide) (fun c4 => ?_) (fun c4 => ?_)
    · replace hf := oi_t c4 hf
      cases hf
      exact dm_sub [0, 1, 2, 3, 4] rfl hk
    · replace hf := oi_f c4 hf
      refine r_aload_n (pc := 17) hC dX6_pass_17 rfl 2 rfl ?_
      refine r_iload (pc := 18) hC dX6_pass_18 4 rfl ?_
      obtain ⟨v5, ev5, hf⟩ := ob hf
      refine r_aaloadA (pc := 20) (kd := 6) (t := .int) (fun _ => rfl) hC dX6_pass_20 ev5 ?_
      refine r_astore (pc := 21) (lv' := [(5, DR v5), (0, DR (some x)), (1, DI a0), (2, DR v1), (3, DI v2), (4, DI z3.2)]) hC hN dX6_pass_21 (by decide) rfl ?_
      refine r_bipush (pc := 23) (v := 100) hC dX6_pass_23 (by decide) ?_
      refine r_aload (pc := 25) hC dX6_pass_25 0 rfl ?_
      refine r_iconst (pc := 27) (v := 2) hC dX6_pass_27 (by decide) ?_
      obtain ⟨v6, ev6, hf⟩ := ob hf
      refine r_iaload (pc := 28) hC dX6_pass_28 ev6 ?_
      refine r_isub (pc := 29) hC dX6_pass_29 ?_
      refine r_bipush (pc := 30) (v := 10) hC dX6_pass_30 (by decide) ?_
      obtain ⟨v7, ev7, hf⟩ := ob hf
      refine r_idiv (pc := 32) hC dX6_pass_32 ev7 ?_
      refine r_iload_n (pc := 33) hC dX6_pass_33 rfl 2 rfl ?_
      refine r_bipush (pc := 34) (v := 24) hC dX6_pass_34 (by decide) ?_
      obtain ⟨j8, ej8, hf⟩ := ob hf
      have hJ8 : dm_W Y 0 0 z3.1 47 [(0, DR (some x)), (1, DI a0), (2, DR v1), (3, DI v2), (4, DI z3.2), (5, DR v5)] [DI j8, DI v7] := by
        refine r_iconst (pc := 47) (v := 2) hC dX6_pass_47 (by decide) ?_
        refine r_imul (pc := 48) hC dX6_pass_48 ?_
        refine r_iadd (pc := 49) hC dX6_pass_49 ?_
        refine r_istore (pc := 50) (lv' := [(6, DI (v7 + (j8 * 2))), (0, DR (some x)), (1, DI a0), (2, DR v1), (3, DI v2), (4, DI z3.2), (5, DR v5)]) hC hN dX6_pass_50 (by decide) rfl ?_
        refine r_aload (pc := 52) hC dX6_pass_52 6 rfl ?_
        refine r_iconst (pc := 54) (v := 3) hC dX6_pass_54 (by decide) ?_
        refine r_aload (pc := 55) hC dX6_pass_55 6 rfl ?_
        refine r_iconst (pc := 57) (v := 3) hC dX6_pass_57 (by decide) ?_
        obtain ⟨v10, ev10, hf⟩ := ob hf
        refine r_iaload (pc := 58) hC dX6_pass_58 ev10 ?_
        refine r_iload (pc := 59) hC dX6_pass_59 0 rfl ?_
        refine r_iadd (pc := 61) hC dX6_pass_61 ?_
        refine r_bipush (pc := 62) (v := 100) hC dX6_pass_62 (by decide) ?_
        obtain ⟨j11, ej11, hf⟩ := ob hf
        have hJ11 : dm_W Y 0 0 z3.1 79 [(0, DR (some x)), (1, DI a0), (2, DR v1), (3, DI v2), (4, DI z3.2), (5, DR v5)] [DI j11, DI 3, DR v5] := by
          obtain ⟨s14, es14, hf⟩ := ob hf
          refine r_iastore (pc := 79) hC dX6_pass_79 es14 ?_
          refine r_aload (pc := 80) hC dX6_pass_80 5 rfl ?_
          refine r_iconst (pc := 82) (v := 4) hC dX6_pass_82 (by decide) ?_
          refine r_dup2 (pc := 83) hC dX6_pass_83 rfl rfl ?_
          obtain ⟨v15, ev15, hf⟩ := ob hf
          refine r_iaload (pc := 84) hC dX6_pass_84 ev15 ?_
          refine r_iconst (pc := 85) (v := 1) hC dX6_pass_85 (by decide) ?_
          refine r_iadd (pc := 86) hC dX6_pass_86 ?_
          obtain ⟨s16, es16, hf⟩ := ob hf
          refine r_iastore (pc := 87) hC dX6_pass_87 es16 ?_
          refine r_iinc (pc := 88) (pos := 4) (v := (z3.2 + 1)) (lv' := [(4, DI (z3.2 + 1)), (0, DR (some x)), (1, DI a0), (2, DR v1), (3, DI v2), (5, DR v5)]) hC hN dX6_pass_88 rfl rfl (by decide) rfl ?_
          refine r_goto (pc := 91) (tgt := 11) hC dX6_pass_91 (by decide) ?_
          cases hf
          exact dm_sub [1, 2, 3, 4, 0] rfl hk
        replace hf := ej11
        clear ej11
        refine r_icmp_le (pc := 64) (tgt := 72) hC dX6_pass_64 (by decide) (fun c12 => ?_) (fun c12 => ?_)
        · replace hf := oi_t c12 hf
          refine r_aload (pc := 72) hC dX6_pass_72 6 rfl ?_
          refine r_iconst (pc := 74) (v := 3) hC dX6_pass_74 (by decide) ?_
          obtain ⟨v13, ev13, hf⟩ := ob hf
          refine r_iaload (pc := 75) hC dX6_pass_75 ev13 ?_
          refine r_iload (pc := 76) hC dX6_pass_76 0 rfl ?_
          refine r_iadd (pc := 78) hC dX6_pass_78 ?_
          cases hf
          exact (dm_sub [1, 2, 3, 4, 5, 6] rfl hJ11)
        · replace hf := oi_f c12 hf
          refine r_bipush (pc := 67) (v := 100) hC dX6_pass_67 (by decide) ?_
          refine r_goto (pc := 69) (tgt := 79) hC dX6_pass_69 (by decide) ?_
          cases hf
          exact (dm_sub [1, 2, 3, 4, 5, 6] rfl hJ11)
      replace hf := ej8
      clear ej8
      refine r_icmp_le (pc := 36) (tgt := 46) hC dX6_pass_36 (by decide) (fun c9 => ?_) (fun c9 => ?_)
      · replace hf := oi_t c9 hf
        refine r_iconst (pc := 46) (v := 0) hC dX6_pass_46 (by decide) ?_
        cases hf
        exact (dm_sub [1, 2, 3, 4, 5, 0] rfl hJ8)
      · replace hf := oi_f c9 hf
        refine r_iload_n (pc := 39) hC dX6_pass_39 rfl 2 rfl ?_
        refine r_bipush (pc := 40) (v := 24) hC dX6_pass_40 (by decide) ?_
        refine r_isub (pc := 42) hC dX6_pass_42 ?_
        refine r_goto (pc := 43) (tgt := 47) hC dX6_pass_43 (by decide) ?_
        cases hf
        exact (dm_sub [1, 2, 3, 4, 5, 0] rfl hJ8)
  · refine r_aload_n (pc := 94) hC dX6_pass_94 rfl 0 rfl ?_
    refine r_dup (pc := 95) hC dX6_pass_95 rfl ?_
    obtain ⟨v17, ev17, hf⟩ := ob hf
    refine r_getI (pc := 96) CF6 (k := 0) hC (by decide) wd_3_110 dX6_pass_96 ev17 ?_
    refine r_iconst (pc := 99) (v := 1) hC dX6_pass_99 (by decide) ?_
    refine r_iadd (pc := 100) hC dX6_pass_100 ?_
    obtain ⟨s18, es18, hf⟩ := ob hf
    refine r_put (pc := 101) CF6 (k := 0) hC (by decide) wd_3_110 rfl ⟨rfl, rfl⟩ dX6_pass_101 es18 ?_
    exact r_vret (pc := 104) hE hC (f1xV hf) ⟨Nat.le_of_ble_eq_true rfl, Nat.le_of_ble_eq_true rfl⟩ dX6_pass_104
abbrev rmK1_X6_bloomed : Room := { frames := 0, cells := 0, slots := 0, locals := 0 }
set_option maxRecDepth 100000 in
set_option maxHeartbeats 8000000 in
theorem k1_X6_bloomed {st : DSt} {x : Nat} {v : Int32} (hf : fX6_bloomed st x = some v) : dm_K1 yX6_bloomed cX6_bloomed 6 (some .int) rmK1_X6_bloomed 0 0 [DR (some x)] st (some (DI v)) st := by
  refine dm_k1 (by decide) rfl (Nat.le_of_ble_eq_true rfl) fun Y hC hN hI hE => ?_
  unfold fX6_bloomed at hf
  refine dm_sub (lv' := [(0, DR (some x))]) ([0]) rfl ?_
  refine r_iconst (pc := 0) (v := 0) hC dX6_bloomed_0 (by decide) ?_
  refine r_istore_n (pc := 1) (lv' := [(1, DI 0), (0, DR (some x))]) hC hN dX6_bloomed_1 rfl (by decide) rfl ?_
  refine r_aload_n (pc := 2) hC dX6_bloomed_2 rfl 1 rfl ?_
  obtain ⟨v1, ev1, hf⟩ := ob hf
  refine r_getR (pc := 3) CF6 (k := 2) hC (by decide) wd_3_113 dX6_bloomed_3 ev1 ?_
  refine r_astore_n (pc := 6) (lv' := [(2, DR v1), (1, DI 0), (0, DR (some x))]) hC hN dX6_bloomed_6 rfl (by decide) rfl ?_
  refine r_aload_n (pc := 7) hC dX6_bloomed_7 rfl 0 rfl ?_
  obtain ⟨v2, ev2, hf⟩ := ob hf
  refine r_alen (pc := 8) (kd := 6) (fun _ => rfl) hC dX6_bloomed_8 ev2 ?_
  refine r_istore_n (pc := 9) (lv' := [(3, DI v2), (2, DR v1), (1, DI 0), (0, DR (some x))]) hC hN dX6_bloomed_9 rfl (by decide) rfl ?_
  refine r_iconst (pc := 10) (v := 0) hC dX6_bloomed_10 (by decide) ?_
  refine r_istore (pc := 11) (lv' := [(4, DI 0), (3, DI v2), (2, DR v1), (1, DI 0), (0, DR (some x))]) hC hN dX6_bloomed_11 (by decide) rfl ?_
  obtain ⟨b3, eb3, hf⟩ := ob hf
  refine dm_sub (lv' := [(1, DI 0), (2, DR v1), (3, DI v2), (4, DI 0)]) [3, 2, 1, 0] rfl ?_
  refine dlp_W _ (fun (z3 : Int32 × Int32) => dm_W Y 0 0 st 13 [(1, DI z3.1), (2, DR v1), (3, DI v2), (4, DI z3.2)] []) (fun (b3 : Int32 × Int32) => dm_W Y 0 0 st 48 [(1, DI b3.1), (2, DR v1), (3, DI v2), (4, DI b3.2)] []) ?_ eb3 ?_
  · intro z3 r hf hk
    unfold fX6_bloomed_L13 at hf
    refine r_iload (pc := 13) hC dX6_bloomed_13 3 rfl ?_
    refine r_iload_n (pc := 15) hC dX6_bloomed_15 rfl 2 rfl ?_
    refine r_icmp_ge (pc := 16) (tgt := 48) hC dX6_bloomed_16 (by decide) (fun c4 => ?_) (fun c4 => ?_)
    · replace hf := oi_t c4 hf
      cases hf
      exact dm_sub [0, 1, 2, 3] rfl hk
    · replace hf := oi_f c4 hf
      refine r_aload_n (pc := 19) hC dX6_bloomed_19 rfl 1 rfl ?_
      refine r_iload (pc := 20) hC dX6_bloomed_20 3 rfl ?_
      obtain ⟨v5, ev5, hf⟩ := ob hf
      refine r_aaloadA (pc := 22) (kd := 6) (t := .int) (fun _ => rfl) hC dX6_bloomed_22 ev5 ?_
      refine r_astore (pc := 23) (lv' := [(5, DR v5), (1, DI z3.1), (2, DR v1), (3, DI v2), (4, DI z3.2)]) hC hN dX6_bloomed_23 (by decide) rfl ?_
      refine r_iload_n (pc := 25) hC dX6_bloomed_25 rfl 1 rfl ?_
      refine r_aload (pc := 26) hC dX6_bloomed_26 0 rfl ?_
      refine r_iconst (pc := 28) (v := 3) hC dX6_bloomed_28 (by decide) ?_
      obtain ⟨v6, ev6, hf⟩ := ob hf
      refine r_iaload (pc := 29) hC dX6_bloomed_29 ev6 ?_
      refine r_bipush (pc := 30) (v := 20) hC dX6_bloomed_30 (by decide) ?_
      obtain ⟨j7, ej7, hf⟩ := ob hf
      have hJ7 : dm_W Y 0 0 st 40 [(2, DR v1), (3, DI v2), (4, DI z3.2)] [DI j7, DI z3.1] := by
        refine r_iadd (pc := 40) hC dX6_bloomed_40 ?_
        refine r_istore_n (pc := 41) (lv' := [(1, DI (z3.1 + j7)), (2, DR v1), (3, DI v2), (4, DI z3.2)]) hC hN dX6_bloomed_41 rfl (by decide) rfl ?_
        refine r_iinc (pc := 42) (pos := 3) (v := (z3.2 + 1)) (lv' := [(4, DI (z3.2 + 1)), (1, DI (z3.1 + j7)), (2, DR v1), (3, DI v2)]) hC hN dX6_bloomed_42 rfl rfl (by decide) rfl ?_
        refine r_goto (pc := 45) (tgt := 13) hC dX6_bloomed_45 (by decide) ?_
        cases hf
        exact dm_sub [1, 2, 3, 0] rfl hk
      replace hf := ej7
      clear ej7
      refine r_icmp_le (pc := 32) (tgt := 39) hC dX6_bloomed_32 (by decide) (fun c8 => ?_) (fun c8 => ?_)
      · replace hf := oi_t c8 hf
        refine r_iconst (pc := 39) (v := 0) hC dX6_bloomed_39 (by decide) ?_
        cases hf
        exact (dm_sub [2, 3, 4] rfl hJ7)
      · replace hf := oi_f c8 hf
        refine r_iconst (pc := 35) (v := 1) hC dX6_bloomed_35 (by decide) ?_
        refine r_goto (pc := 36) (tgt := 40) hC dX6_bloomed_36 (by decide) ?_
        cases hf
        exact (dm_sub [2, 3, 4] rfl hJ7)
  · refine r_iload_n (pc := 48) hC dX6_bloomed_48 rfl 0 rfl ?_
    exact r_iret (pc := 49) hE hC (f1pI hf) ⟨Nat.le_of_ble_eq_true rfl, Nat.le_of_ble_eq_true rfl⟩ dX6_bloomed_49
abbrev rmK1_X6_isSame : Room := { frames := 4, cells := 7, slots := 56, locals := 88 }
set_option maxRecDepth 100000 in
set_option maxHeartbeats 8000000 in
theorem k1_X6_isSame {st : DSt} {x : Nat} {a0 : Option Nat} {v : Int32} {st1 : DSt} (hf : fX6_isSame st x a0 = some (v, st1)) : dm_K1 yX6_isSame cX6_isSame 8 (some .boolean) rmK1_X6_isSame 7 56 [DR (some x), DR a0] st (some (DI v)) st1 := by
  refine dm_k1 (by decide) rfl (Nat.le_of_ble_eq_true rfl) fun Y hC hN hI hE => ?_
  unfold fX6_isSame at hf
  refine dm_sub (lv' := [(0, DR (some x)), (1, DR a0)]) ([0, 1]) rfl ?_
  refine r_bipush (pc := 0) (v := 8) hC dX6_isSame_0 (by decide) ?_
  obtain ⟨s1, es1, hf⟩ := ob hf
  refine r_newa (pc := 2) (atype := .int) (t := .int) (kd := 0) (N := 8) (x := nI0 8) rfl (fun _ => rfl) (fun _ h => nomatch h) (fun _ => rfl) hC wd_1_41 (by decide) rfl (Nat.le_of_ble_eq_true rfl) ⟨Nat.le_of_ble_eq_true rfl, Nat.le_of_ble_eq_true rfl⟩ dX6_isSame_2 ?_
  rw [Option.some.inj es1]
  refine r_dup (pc := 4) hC dX6_isSame_4 rfl ?_
  refine r_iconst (pc := 5) (v := 0) hC dX6_isSame_5 (by decide) ?_
  refine r_aload_n (pc := 6) hC dX6_isSame_6 rfl 0 rfl ?_
  obtain ⟨v2, ev2, hf⟩ := ob hf
  refine r_getI (pc := 7) CF6 (k := 0) hC (by decide) wd_3_110 dX6_isSame_7 ev2 ?_
  obtain ⟨s3, es3, hf⟩ := ob hf
  refine r_iastore (pc := 10) hC dX6_isSame_10 es3 ?_
  refine r_dup (pc := 11) hC dX6_isSame_11 rfl ?_
  refine r_iconst (pc := 12) (v := 1) hC dX6_isSame_12 (by decide) ?_
  refine r_aload_n (pc := 13) hC dX6_isSame_13 rfl 0 rfl ?_
  obtain ⟨v4, ev4, hf⟩ := ob hf
  refine r_getR (pc := 14) CF6 (k := 1) hC (by decide) wd_3_111 dX6_isSame_14 ev4 ?_
  obtain ⟨v5, ev5, hf⟩ := ob hf
  refine r_alen (pc := 17) (kd := 5) (fun _ => rfl) hC dX6_isSame_17 ev5 ?_
  obtain ⟨s6, es6, hf⟩ := ob hf
  refine r_iastore (pc := 18) hC dX6_isSame_18 es6 ?_
  refine r_dup (pc := 19) hC dX6_isSame_19 rfl ?_
  refine r_iconst (pc := 20) (v := 2) hC dX6_isSame_20 (by decide) ?_
  refine r_aload_n (pc := 21) hC dX6_isSame_21 rfl 0 rfl ?_
  obtain ⟨v7, ev7, hf⟩ := ob hf
  refine r_getR (pc := 22) CF6 (k := 2) hC (by decide) wd_3_113 dX6_isSame_22 ev7 ?_
  obtain ⟨v8, ev8, hf⟩ := ob hf
  refine r_alen (pc := 25) (kd := 6) (fun _ => rfl) hC dX6_isSame_25 ev8 ?_
  obtain ⟨s9, es9, hf⟩ := ob hf
  refine r_iastore (pc := 26) hC dX6_isSame_26 es9 ?_
  refine r_dup (pc := 27) hC dX6_isSame_27 rfl ?_
  refine r_iconst (pc := 28) (v := 3) hC dX6_isSame_28 (by decide) ?_
  refine r_aload_n (pc := 29) hC dX6_isSame_29 rfl 0 rfl ?_
  obtain ⟨v10, ev10, hf⟩ := ob hf
  refine r_getR (pc := 30) CF6 (k := 3) hC (by decide) wd_3_115 dX6_isSame_30 ev10 ?_
  obtain ⟨v11, ev11, hf⟩ := ob hf
  refine r_alen (pc := 33) (kd := 6) (fun _ => rfl) hC dX6_isSame_33 ev11 ?_
  obtain ⟨s12, es12, hf⟩ := ob hf
  refine r_iastore (pc := 34) hC dX6_isSame_34 es12 ?_
  refine r_dup (pc := 35) hC dX6_isSame_35 rfl ?_
  refine r_iconst (pc := 36) (v := 4) hC dX6_isSame_36 (by decide) ?_
  refine r_iconst (pc := 37) (v := 0) hC dX6_isSame_37 (by decide) ?_
  obtain ⟨s13, es13, hf⟩ := ob hf
  refine r_iastore (pc := 38) hC dX6_isSame_38 es13 ?_
  refine r_dup (pc := 39) hC dX6_isSame_39 rfl ?_
  refine r_iconst (pc := 40) (v := 5) hC dX6_isSame_40 (by decide) ?_
  refine r_iconst (pc := 41) (v := 0) hC dX6_isSame_41 (by decide) ?_
  obtain ⟨s14, es14, hf⟩ := ob hf
  refine r_iastore (pc := 42) hC dX6_isSame_42 es14 ?_
  refine r_dup (pc := 43) hC dX6_isSame_43 rfl ?_
  refine r_bipush (pc := 44) (v := 6) hC dX6_isSame_44 (by decide) ?_
  refine r_iconst (pc := 46) (v := 0) hC dX6_isSame_46 (by decide) ?_
  obtain ⟨s15, es15, hf⟩ := ob hf
  refine r_iastore (pc := 47) hC dX6_isSame_47 es15 ?_
  refine r_dup (pc := 48) hC dX6_isSame_48 rfl ?_
  refine r_bipush (pc := 49) (v := 7) hC dX6_isSame_49 (by decide) ?_
  refine r_aload_n (pc := 51) hC dX6_isSame_51 rfl 0 rfl ?_
  obtain ⟨b16, gb16, hf⟩ := ob hf
  obtain ⟨q17, eq17, hf⟩ := ob hf
  refine r_callV (pc := 52) (As := []) (rest := [DI 7, DR (some st.1), DR (some st.1)]) (stk' := [DI q17, DI 7, DR (some st.1), DR (some st.1)]) (k1_X6_bloomed eq17) gb16 rfl hC wd_1_239 wd_2_0 wd_2_1 wd_2_2 wd_1_3 md_X6_bloomed rfl ⟨rfl, rfl, Nat.le_of_ble_eq_true rfl, Nat.le_of_ble_eq_true rfl, Nat.le_of_ble_eq_true rfl, Nat.le_of_ble_eq_true rfl⟩ dX6_isSame_52 rfl (Nat.le_of_ble_eq_true rfl) rfl ?_
  obtain ⟨s18, es18, hf⟩ := ob hf
  refine r_iastore (pc := 55) hC dX6_isSame_55 es18 ?_
  refine r_astore_n (pc := 56) (lv' := [(2, DR (some st.1)), (0, DR (some x)), (1, DR a0)]) hC hN dX6_isSame_56 rfl (by decide) rfl ?_
  refine r_iconst (pc := 57) (v := 0) hC dX6_isSame_57 (by decide) ?_
  refine r_istore_n (pc := 58) (lv' := [(3, DI 0), (2, DR (some st.1)), (0, DR (some x)), (1, DR a0)]) hC hN dX6_isSame_58 rfl (by decide) rfl ?_
  refine r_iconst (pc := 59) (v := 0) hC dX6_isSame_59 (by decide) ?_
  refine r_istore (pc := 60) (lv' := [(4, DI 0), (3, DI 0), (2, DR (some st.1)), (0, DR (some x)), (1, DR a0)]) hC hN dX6_isSame_60 (by decide) rfl ?_
  obtain ⟨b19, eb19, hf⟩ := ob hf
  refine dm_sub (lv' := [(0, DR (some x)), (1, DR a0), (2, DR (some st.1)), (3, DI 0), (4, DI 0)]) [3, 4, 2, 1, 0] rfl ?_
  refine dl_Wc (fX6_isSame_L62 st x a0) 1 8 (1 + 6) (8 + 48) (fun cs19 ss19 (z19 : DSt × Int32) => dm_W Y cs19 ss19 z19.1 62 [(0, DR (some x)), (1, DR a0), (2, DR (some st.1)), (3, DI 0), (4, DI z19.2)] []) (fun cs19 ss19 (b19 : (DSt × Int32) ⊕ (Int32 × DSt)) => match b19 with | .inl yb19 => dm_W Y cs19 ss19 yb19.1 214 [(0, DR (some x)), (1, DR a0), (2, DR (some st.1)), (3, DI 0), (4, DI yb19.2)] [] | .inr r9 => some r9 = some (v, st1)) (fun _ _ _ _ b9 h1 h2 h => by rcases b9 with b9 | b9; exact dm_widen h1 h2 h; exact h) (fun _ _ _ _ _ h1 h2 h => dm_widen h1 h2 h) ?_ 6 _ _ _ _ eb19 (by omega) (by omega) ?_
  · intro cs19 ss19 z19 r hf hc19 hs19 hk
    unfold fX6_isSame_L62 at hf
    refine r_iload (pc := 62) hC dX6_isSame_62 4 rfl ?_
    refine r_aload_n (pc := 64) hC dX6_isSame_64 rfl 0 rfl ?_
    obtain ⟨v20, ev20, hf⟩ := ob hf
    refine r_getR (pc := 65) CF6 (k := 1) hC (by decide) wd_3_111 dX6_isSame_65 ev20 ?_
    obtain ⟨v21, ev21, hf⟩ := ob hf
    refine r_alen (pc := 68) (kd := 5) (fun _ => rfl) hC dX6_isSame_68 ev21 ?_
    refine r_icmp_ge (pc := 69) (tgt := 214) hC dX6_isSame_69 (by decide) (fun c22 => ?_) (fun c22 => ?_)
    · replace hf := oi_t c22 hf
      cases hf
      exact dm_widen (by omega) (by omega) (dm_sub [0, 1, 2, 3, 4] rfl hk)
    · replace hf := oi_f c22 hf
      refine r_aload_n (pc := 72) hC dX6_isSame_72 rfl 0 rfl ?_
      obtain ⟨v23, ev23, hf⟩ := ob hf
      refine r_getR (pc := 73) CF6 (k := 1) hC (by decide) wd_3_111 dX6_isSame_73 ev23 ?_
      refine r_iload (pc := 76) hC dX6_isSame_76 4 rfl ?_
      obtain ⟨v24, ev24, hf⟩ := ob hf
      refine r_aaload (pc := 78) (kd := 5) (fun _ => rfl) hC dX6_isSame_78 ev24 ?_
      refine r_astore (pc := 79) (lv' := [(5, DR v24), (0, DR (some x)), (1, DR a0), (2, DR (some st.1)), (3, DI 0), (4, DI z19.2)]) hC hN dX6_isSame_79 (by decide) rfl ?_
      refine r_bipush (pc := 81) (v := 8) hC dX6_isSame_81 (by decide) ?_
      obtain ⟨s25, es25, hf⟩ := ob hf
      refine r_newa (pc := 83) (atype := .int) (t := .int) (kd := 0) (N := 8) (x := nI0 8) rfl (fun _ => rfl) (fun _ h => nomatch h) (fun _ => rfl) hC wd_1_41 (by decide) rfl (Nat.le_of_ble_eq_true rfl) ⟨by show _ ≤ 7; omega, by show _ ≤ 56; omega⟩ dX6_isSame_83 ?_
      rw [Option.some.inj es25]
      refine r_dup (pc := 85) hC dX6_isSame_85 rfl ?_
      refine r_iconst (pc := 86) (v := 0) hC dX6_isSame_86 (by decide) ?_
      refine r_aload (pc := 87) hC dX6_isSame_87 0 rfl ?_
      obtain ⟨v26, ev26, hf⟩ := ob hf
      refine r_getI (pc := 89) CF5 (k := 0) hC (by decide) wd_2_37 dX6_isSame_89 ev26 ?_
      obtain ⟨s27, es27, hf⟩ := ob hf
      refine r_iastore (pc := 92) hC dX6_isSame_92 es27 ?_
      refine r_dup (pc := 93) hC dX6_isSame_93 rfl ?_
      refine r_iconst (pc := 94) (v := 1) hC dX6_isSame_94 (by decide) ?_
      refine r_aload (pc := 95) hC dX6_isSame_95 0 rfl ?_
      obtain ⟨v28, ev28, hf⟩ := ob hf
      refine r_getR (pc := 97) CF5 (k := 2) hC (by decide) wd_2_43 dX6_isSame_97 ev28 ?_
      refine r_iconst (pc := 100) (v := 1) hC dX6_isSame_100 (by decide) ?_
      obtain ⟨v29, ev29, hf⟩ := ob hf
      refine r_iaload (pc := 101) hC dX6_isSame_101 ev29 ?_
      obtain ⟨s30, es30, hf⟩ := ob hf
      refine r_iastore (pc := 102) hC dX6_isSame_102 es30 ?_
      refine r_dup (pc := 103) hC dX6_isSame_103 rfl ?_
      refine r_iconst (pc := 104) (v := 2) hC dX6_isSame_104 (by decide) ?_
      refine r_aload (pc := 105) hC dX6_isSame_105 0 rfl ?_
      obtain ⟨v31, ev31, hf⟩ := ob hf
      refine r_getR (pc := 107) CF5 (k := 2) hC (by decide) wd_2_43 dX6_isSame_107 ev31 ?_
      refine r_iconst (pc := 110) (v := 2) hC dX6_isSame_110 (by decide) ?_
      obtain ⟨v32, ev32, hf⟩ := ob hf
      refine r_iaload (pc := 111) hC dX6_isSame_111 ev32 ?_
      obtain ⟨s33, es33, hf⟩ := ob hf
      refine r_iastore (pc := 112) hC dX6_isSame_112 es33 ?_
      refine r_dup (pc := 113) hC dX6_isSame_113 rfl ?_
      refine r_iconst (pc := 114) (v := 3) hC dX6_isSame_114 (by decide) ?_
      refine r_aload (pc := 115) hC dX6_isSame_115 0 rfl ?_
      obtain ⟨v34, ev34, hf⟩ := ob hf
      refine r_getR (pc := 117) CF5 (k := 2) hC (by decide) wd_2_43 dX6_isSame_117 ev34 ?_
      refine r_iconst (pc := 120) (v := 3) hC dX6_isSame_120 (by decide) ?_
      obtain ⟨v35, ev35, hf⟩ := ob hf
      refine r_iaload (pc := 121) hC dX6_isSame_121 ev35 ?_
      obtain ⟨s36, es36, hf⟩ := ob hf
      refine r_iastore (pc := 122) hC dX6_isSame_122 es36 ?_
      refine r_dup (pc := 123) hC dX6_isSame_123 rfl ?_
      refine r_iconst (pc := 124) (v := 4) hC dX6_isSame_124 (by decide) ?_
      refine r_aload (pc := 125) hC dX6_isSame_125 0 rfl ?_
      obtain ⟨v37, ev37, hf⟩ := ob hf
      refine r_getR (pc := 127) CF5 (k := 2) hC (by decide) wd_2_43 dX6_isSame_127 ev37 ?_
      refine r_iconst (pc := 130) (v := 4) hC dX6_isSame_130 (by decide) ?_
      obtain ⟨v38, ev38, hf⟩ := ob hf
      refine r_iaload (pc := 131) hC dX6_isSame_131 ev38 ?_
      obtain ⟨s39, es39, hf⟩ := ob hf
      refine r_iastore (pc := 132) hC dX6_isSame_132 es39 ?_
      refine r_dup (pc := 133) hC dX6_isSame_133 rfl ?_
      refine r_iconst (pc := 134) (v := 5) hC dX6_isSame_134 (by decide) ?_
      refine r_aload (pc := 135) hC dX6_isSame_135 0 rfl ?_
      obtain ⟨v40, ev40, hf⟩ := ob hf
      refine r_getR (pc := 137) CF5 (k := 2) hC (by decide) wd_2_43 dX6_isSame_137 ev40 ?_
      refine r_iconst (pc := 140) (v := 5) hC dX6_isSame_140 (by decide) ?_
      obtain ⟨v41, ev41, hf⟩ := ob hf
      refine r_iaload (pc := 141) hC dX6_isSame_141 ev41 ?_
      obtain ⟨s42, es42, hf⟩ := ob hf
      refine r_iastore (pc := 142) hC dX6_isSame_142 es42 ?_
      refine r_dup (pc := 143) hC dX6_isSame_143 rfl ?_
      refine r_bipush (pc := 144) (v := 6) hC dX6_isSame_144 (by decide) ?_
      refine r_aload (pc := 146) hC dX6_isSame_146 0 rfl ?_
      obtain ⟨v43, ev43, hf⟩ := ob hf
      refine r_getI (pc := 148) CF5 (k := 1) hC (by decide) wd_2_40 dX6_isSame_148 ev43 ?_
      obtain ⟨s44, es44, hf⟩ := ob hf
      refine r_iastore (pc := 151) hC dX6_isSame_151 es44 ?_
      refine r_dup (pc := 152) hC dX6_isSame_152 rfl ?_
      refine r_bipush (pc := 153) (v := 7) hC dX6_isSame_153 (by decide) ?_
      refine r_aload (pc := 155) hC dX6_isSame_155 0 rfl ?_
      obtain ⟨b45, gb45, hf⟩ := ob hf
      obtain ⟨q46, eq46, hf⟩ := ob hf
      refine r_callV (pc := 157) (As := []) (rest := [DI 7, DR (some z19.1.1), DR (some z19.1.1)]) (stk' := [DI q46, DI 7, DR (some z19.1.1), DR (some z19.1.1)]) (k1_X5_temper eq46) gb45 rfl hC wd_2_3 wd_2_4 wd_2_5 wd_2_6 wd_1_4 md_X5_temper rfl ⟨rfl, rfl, Nat.le_of_ble_eq_true rfl, Nat.le_of_ble_eq_true rfl, by show _ ≤ 7; omega, by show _ ≤ 56; omega⟩ dX6_isSame_157 rfl (Nat.le_of_ble_eq_true rfl) rfl ?_
      obtain ⟨s47, es47, hf⟩ := ob hf
      refine r_iastore (pc := 160) hC dX6_isSame_160 es47 ?_
      refine r_astore (pc := 161) (lv' := [(6, DR (some z19.1.1)), (5, DR v24), (0, DR (some x)), (1, DR a0), (2, DR (some st.1)), (3, DI 0), (4, DI z19.2)]) hC hN dX6_isSame_161 (by decide) rfl ?_
      refine r_iconst (pc := 163) (v := 0) hC dX6_isSame_163 (by decide) ?_
      refine r_istore (pc := 164) (lv' := [(7, DI 0), (6, DR (some z19.1.1)), (5, DR v24), (0, DR (some x)), (1, DR a0), (2, DR (some st.1)), (3, DI 0), (4, DI z19.2)]) hC hN dX6_isSame_164 (by decide) rfl ?_
      obtain ⟨b48, eb48, hf⟩ := ob hf
      refine dm_sub (lv' := [(0, DR (some x)), (1, DR a0), (2, DR (some st.1)), (3, DI 0), (4, DI z19.2), (5, DR v24), (6, DR (some z19.1.1)), (7, DI 0)]) [3, 4, 5, 6, 7, 2, 1, 0] rfl ?_
      refine dlp_W _ (fun (z48 : Int32) => dm_W Y (cs19 + 1) (ss19 + 8) s47 166 [(0, DR (some x)), (1, DR a0), (2, DR (some st.1)), (3, DI 0), (4, DI z19.2), (5, DR v24), (6, DR (some z19.1.1)), (7, DI z48)] []) (fun (b48 : (Int32) ⊕ (Int32 × DSt)) => match b48 with | .inl yb48 => dm_W Y (cs19 + 1) (ss19 + 8) s47 197 [(0, DR (some x)), (1, DR a0), (2, DR (some st.1)), (3, DI 0), (4, DI z19.2), (5, DR v24), (6, DR (some z19.1.1)), (7, DI yb48)] [] | .inr r9 => some r9 = some (v, st1)) ?_ eb48 ?_
      · intro z48 r hf hk
        unfold fX6_isSame_L166 at hf
        refine r_iload (pc := 166) hC dX6_isSame_166 7 rfl ?_
        refine r_bipush (pc := 168) (v := 8) hC dX6_isSame_168 (by decide) ?_
        refine r_icmp_ge (pc := 170) (tgt := 197) hC dX6_isSame_170 (by decide) (fun c49 => ?_) (fun c49 => ?_)
        · replace hf := oi_t c49 hf
          cases hf
          exact dm_sub [0, 1, 2, 3, 4, 5, 6, 7] rfl hk
        · replace hf := oi_f c49 hf
          refine r_aload_n (pc := 173) hC dX6_isSame_173 rfl 1 rfl ?_
          refine r_iload (pc := 174) hC dX6_isSame_174 4 rfl ?_
          refine r_iload (pc := 176) hC dX6_isSame_176 7 rfl ?_
          obtain ⟨b50, gb50, hf⟩ := ob hf
          obtain ⟨q51, eq51, hf⟩ := ob hf
          refine r_callV (pc := 178) (As := [DI z19.2, DI z48]) (rest := []) (stk' := [DI q51]) (k0_X4_told (nx eq51)) gb50 rfl hC wd_2_7 wd_1_165 wd_1_166 wd_1_167 wd_1_1 md_X4_told rfl ⟨rfl, rfl, Nat.le_of_ble_eq_true rfl, Nat.le_of_ble_eq_true rfl, by show _ ≤ 7; omega, by show _ ≤ 56; omega⟩ dX6_isSame_178 rfl (Nat.le_of_ble_eq_true rfl) rfl ?_
          refine r_aload (pc := 181) hC dX6_isSame_181 6 rfl ?_
          refine r_iload (pc := 183) hC dX6_isSame_183 7 rfl ?_
          obtain ⟨v52, ev52, hf⟩ := ob hf
          refine r_iaload (pc := 185) hC dX6_isSame_185 ev52 ?_
          refine r_icmp_eq (pc := 186) (tgt := 191) hC dX6_isSame_186 (by decide) (fun c53 => ?_) (fun c53 => ?_)
          · replace hf := oi_t c53 hf
            refine r_iinc (pc := 191) (pos := 7) (v := (z48 + 1)) (lv' := [(7, DI (z48 + 1)), (0, DR (some x)), (1, DR a0), (2, DR (some st.1)), (3, DI 0), (4, DI z19.2), (5, DR v24), (6, DR (some z19.1.1))]) hC hN dX6_isSame_191 rfl rfl (by decide) rfl ?_
            refine r_goto (pc := 194) (tgt := 166) hC dX6_isSame_194 (by decide) ?_
            cases hf
            exact dm_sub [1, 2, 3, 4, 5, 6, 7, 0] rfl hk
          · replace hf := oi_f c53 hf
            refine r_iconst (pc := 189) (v := 0) hC dX6_isSame_189 (by decide) ?_
            obtain ⟨v54, ev54, hf⟩ := ob hf
            cases hf
            exact r_zret (pc := 190) hE hC ev54 (f1xI hk) ⟨by show _ ≤ 7; omega, by show _ ≤ 56; omega⟩ dX6_isSame_190
      · rcases b48 with yb48 | r9
        · refine r_aload_n (pc := 197) hC dX6_isSame_197 rfl 2 rfl ?_
          refine r_iconst (pc := 198) (v := 5) hC dX6_isSame_198 (by decide) ?_
          refine r_dup2 (pc := 199) hC dX6_isSame_199 rfl rfl ?_
          obtain ⟨v55, ev55, hf⟩ := ob hf
          refine r_iaload (pc := 200) hC dX6_isSame_200 ev55 ?_
          refine r_aload (pc := 201) hC dX6_isSame_201 5 rfl ?_
          obtain ⟨v56, ev56, hf⟩ := ob hf
          refine r_getI (pc := 203) CF5 (k := 0) hC (by decide) wd_2_37 dX6_isSame_203 ev56 ?_
          refine r_iadd (pc := 206) hC dX6_isSame_206 ?_
          obtain ⟨s57, es57, hf⟩ := ob hf
          refine r_iastore (pc := 207) hC dX6_isSame_207 es57 ?_
          refine r_iinc (pc := 208) (pos := 4) (v := (z19.2 + 1)) (lv' := [(4, DI (z19.2 + 1)), (0, DR (some x)), (1, DR a0), (2, DR (some st.1)), (3, DI 0), (5, DR v24), (6, DR (some z19.1.1)), (7, DI yb48)]) hC hN dX6_isSame_208 rfl rfl (by decide) rfl ?_
          refine r_goto (pc := 211) (tgt := 62) hC dX6_isSame_211 (by decide) ?_
          cases hf
          exact dm_widen (by omega) (by omega) (dm_sub [1, 2, 3, 4, 0] rfl hk)
        · cases hf
          exact hk
  · rcases b19 with yb19 | r9
    · refine r_iconst (pc := 214) (v := 0) hC dX6_isSame_214 (by decide) ?_
      refine r_istore (pc := 215) (lv' := [(4, DI 0), (0, DR (some x)), (1, DR a0), (2, DR (some st.1)), (3, DI 0)]) hC hN dX6_isSame_215 (by decide) rfl ?_
      obtain ⟨b58, eb58, hf⟩ := ob hf
      refine dm_sub (lv' := [(0, DR (some x)), (1, DR a0), (2, DR (some st.1)), (3, DI 0), (4, DI 0)]) [1, 2, 3, 4, 0] rfl ?_
      refine dlp_W _ (fun (z58 : DSt × Int32 × Int32) => dm_W Y 7 56 z58.1 217 [(0, DR (some x)), (1, DR a0), (2, DR (some st.1)), (3, DI z58.2.1), (4, DI z58.2.2)] []) (fun (b58 : (DSt × Int32 × Int32) ⊕ (Int32 × DSt)) => match b58 with | .inl yb58 => dm_W Y 7 56 yb58.1 374 [(0, DR (some x)), (1, DR a0), (2, DR (some st.1)), (3, DI yb58.2.1), (4, DI yb58.2.2)] [] | .inr r9 => some r9 = some (v, st1)) ?_ eb58 ?_
      · intro z58 r hf hk
        unfold fX6_isSame_L217 at hf
        refine r_iload (pc := 217) hC dX6_isSame_217 4 rfl ?_
        refine r_aload_n (pc := 219) hC dX6_isSame_219 rfl 0 rfl ?_
        obtain ⟨v59, ev59, hf⟩ := ob hf
        refine r_getR (pc := 220) CF6 (k := 2) hC (by decide) wd_3_113 dX6_isSame_220 ev59 ?_
        obtain ⟨v60, ev60, hf⟩ := ob hf
        refine r_alen (pc := 223) (kd := 6) (fun _ => rfl) hC dX6_isSame_223 ev60 ?_
        refine r_icmp_ge (pc := 224) (tgt := 374) hC dX6_isSame_224 (by decide) (fun c61 => ?_) (fun c61 => ?_)
        · replace hf := oi_t c61 hf
          cases hf
          exact dm_sub [0, 1, 2, 3, 4] rfl hk
        · replace hf := oi_f c61 hf
          refine r_aload_n (pc := 227) hC dX6_isSame_227 rfl 0 rfl ?_
          obtain ⟨v62, ev62, hf⟩ := ob hf
          refine r_getR (pc := 228) CF6 (k := 2) hC (by decide) wd_3_113 dX6_isSame_228 ev62 ?_
          refine r_iload (pc := 231) hC dX6_isSame_231 4 rfl ?_
          obtain ⟨v63, ev63, hf⟩ := ob hf
          refine r_aaloadA (pc := 233) (kd := 6) (t := .int) (fun _ => rfl) hC dX6_isSame_233 ev63 ?_
          refine r_astore (pc := 234) (lv' := [(5, DR v63), (0, DR (some x)), (1, DR a0), (2, DR (some st.1)), (3, DI z58.2.1), (4, DI z58.2.2)]) hC hN dX6_isSame_234 (by decide) rfl ?_
          refine r_iconst (pc := 236) (v := (-1)) hC dX6_isSame_236 (by decide) ?_
          refine r_istore (pc := 237) (lv' := [(6, DI (-1)), (5, DR v63), (0, DR (some x)), (1, DR a0), (2, DR (some st.1)), (3, DI z58.2.1), (4, DI z58.2.2)]) hC hN dX6_isSame_237 (by decide) rfl ?_
          refine r_aload_n (pc := 239) hC dX6_isSame_239 rfl 2 rfl ?_
          obtain ⟨v64, ev64, hf⟩ := ob hf
          refine r_getR (pc := 240) CF6 (k := 3) hC (by decide) wd_3_115 dX6_isSame_240 ev64 ?_
          obtain ⟨v65, ev65, hf⟩ := ob hf
          refine r_alen (pc := 243) (kd := 6) (fun _ => rfl) hC dX6_isSame_243 ev65 ?_
          refine r_iconst (pc := 244) (v := 1) hC dX6_isSame_244 (by decide) ?_
          refine r_isub (pc := 245) hC dX6_isSame_245 ?_
          refine r_istore (pc := 246) (lv' := [(7, DI (v65 - 1)), (6, DI (-1)), (5, DR v63), (0, DR (some x)), (1, DR a0), (2, DR (some st.1)), (3, DI z58.2.1), (4, DI z58.2.2)]) hC hN dX6_isSame_246 (by decide) rfl ?_
          obtain ⟨b66, eb66, hf⟩ := ob hf
          refine dm_sub (lv' := [(0, DR (some x)), (1, DR a0), (2, DR (some st.1)), (3, DI z58.2.1), (4, DI z58.2.2), (5, DR v63), (6, DI (-1)), (7, DI (v65 - 1))]) [3, 4, 5, 6, 7, 2, 1, 0] rfl ?_
          refine dlp_W _ (fun (z66 : Int32 × Int32) => dm_W Y 7 56 z58.1 248 [(0, DR (some x)), (1, DR a0), (2, DR (some st.1)), (3, DI z58.2.1), (4, DI z58.2.2), (5, DR v63), (6, DI z66.1), (7, DI z66.2)] []) (fun (b66 : Int32 × Int32) => dm_W Y 7 56 z58.1 278 [(0, DR (some x)), (1, DR a0), (2, DR (some st.1)), (3, DI z58.2.1), (4, DI z58.2.2), (5, DR v63), (6, DI b66.1), (7, DI b66.2)] []) ?_ eb66 ?_
          · intro z66 r hf hk
            unfold fX6_isSame_L248 at hf
            refine r_iload (pc := 248) hC dX6_isSame_248 7 rfl ?_
            refine r_if_lt (pc := 250) (tgt := 278) hC dX6_isSame_250 (by decide) (fun c67 => ?_) (fun c67 => ?_)
            · replace hf := oi_t c67 hf
              cases hf
              exact dm_sub [0, 1, 2, 3, 4, 5, 6, 7] rfl hk
            · replace hf := oi_f c67 hf
              refine r_aload (pc := 253) hC dX6_isSame_253 5 rfl ?_
              refine r_aload_n (pc := 255) hC dX6_isSame_255 rfl 0 rfl ?_
              obtain ⟨v68, ev68, hf⟩ := ob hf
              refine r_getR (pc := 256) CF6 (k := 3) hC (by decide) wd_3_115 dX6_isSame_256 ev68 ?_
              refine r_iload (pc := 259) hC dX6_isSame_259 7 rfl ?_
              obtain ⟨v69, ev69, hf⟩ := ob hf
              refine r_aaloadA (pc := 261) (kd := 6) (t := .int) (fun _ => rfl) hC dX6_isSame_261 ev69 ?_
              obtain ⟨q70, eq70, hf⟩ := ob hf
              refine r_callS (pc := 262) (As := [DR v63, DR v69]) (rest := []) (stk' := [DI q70]) (k1_X6_fits eq70) hC wd_2_8 wd_2_9 wd_2_10 wd_1_3 md_X6_fits rfl ⟨rfl, rfl, Nat.le_of_ble_eq_true rfl, Nat.le_of_ble_eq_true rfl, Nat.le_of_ble_eq_true rfl, Nat.le_of_ble_eq_true rfl⟩ dX6_isSame_262 rfl (Nat.le_of_ble_eq_true rfl) rfl ?_
              obtain ⟨j71, ej71, hf⟩ := ob hf
              have hJ71 : dm_W Y 7 56 z58.1 272 [(0, DR (some x)), (1, DR a0), (2, DR (some st.1)), (3, DI z58.2.1), (4, DI z58.2.2), (5, DR v63), (6, DI j71), (7, DI z66.2)] [] := by
                refine r_iinc (pc := 272) (pos := 7) (v := (z66.2 + (-1))) (lv' := [(7, DI (z66.2 + (-1))), (0, DR (some x)), (1, DR a0), (2, DR (some st.1)), (3, DI z58.2.1), (4, DI z58.2.2), (5, DR v63), (6, DI j71)]) hC hN dX6_isSame_272 rfl rfl (by decide) rfl ?_
                refine r_goto (pc := 275) (tgt := 248) hC dX6_isSame_275 (by decide) ?_
                cases hf
                exact dm_sub [1, 2, 3, 4, 5, 6, 7, 0] rfl hk
              replace hf := ej71
              clear ej71
              refine r_if_eq (pc := 265) (tgt := 272) hC dX6_isSame_265 (by decide) (fun c72 => ?_) (fun c72 => ?_)
              · replace hf := oi_t c72 hf
                cases hf
                exact (dm_sub [0, 1, 2, 3, 4, 5, 6, 7] rfl hJ71)
              · replace hf := oi_f c72 hf
                refine r_iload (pc := 268) hC dX6_isSame_268 7 rfl ?_
                refine r_istore (pc := 270) (lv' := [(6, DI z66.2), (0, DR (some x)), (1, DR a0), (2, DR (some st.1)), (3, DI z58.2.1), (4, DI z58.2.2), (5, DR v63), (7, DI z66.2)]) hC hN dX6_isSame_270 (by decide) rfl ?_
                cases hf
                exact (dm_sub [1, 2, 3, 4, 5, 6, 0, 7] rfl hJ71)
          · refine r_iconst (pc := 278) (v := 0) hC dX6_isSame_278 (by decide) ?_
            refine r_istore (pc := 279) (lv' := [(7, DI 0), (0, DR (some x)), (1, DR a0), (2, DR (some st.1)), (3, DI z58.2.1), (4, DI z58.2.2), (5, DR v63), (6, DI b66.1)]) hC hN dX6_isSame_279 (by decide) rfl ?_
            obtain ⟨b73, eb73, hf⟩ := ob hf
            refine dm_sub (lv' := [(0, DR (some x)), (1, DR a0), (2, DR (some st.1)), (3, DI z58.2.1), (4, DI z58.2.2), (5, DR v63), (6, DI b66.1), (7, DI 0)]) [1, 2, 3, 4, 5, 6, 7, 0] rfl ?_
            refine dlp_W _ (fun (z73 : Int32) => dm_W Y 7 56 z58.1 281 [(0, DR (some x)), (1, DR a0), (2, DR (some st.1)), (3, DI z58.2.1), (4, DI z58.2.2), (5, DR v63), (6, DI b66.1), (7, DI z73)] []) (fun (b73 : (Int32) ⊕ (Int32 × DSt)) => match b73 with | .inl yb73 => dm_W Y 7 56 z58.1 311 [(0, DR (some x)), (1, DR a0), (2, DR (some st.1)), (3, DI z58.2.1), (4, DI z58.2.2), (5, DR v63), (6, DI b66.1), (7, DI yb73)] [] | .inr r9 => some r9 = some (v, st1)) ?_ eb73 ?_
            · intro z73 r hf hk
              unfold fX6_isSame_L281 at hf
              refine r_iload (pc := 281) hC dX6_isSame_281 7 rfl ?_
              refine r_iconst (pc := 283) (v := 5) hC dX6_isSame_283 (by decide) ?_
              refine r_icmp_ge (pc := 284) (tgt := 311) hC dX6_isSame_284 (by decide) (fun c74 => ?_) (fun c74 => ?_)
              · replace hf := oi_t c74 hf
                cases hf
                exact dm_sub [0, 1, 2, 3, 4, 5, 6, 7] rfl hk
              · replace hf := oi_f c74 hf
                refine r_aload_n (pc := 287) hC dX6_isSame_287 rfl 1 rfl ?_
                refine r_iload (pc := 288) hC dX6_isSame_288 4 rfl ?_
                refine r_iload (pc := 290) hC dX6_isSame_290 7 rfl ?_
                obtain ⟨b75, gb75, hf⟩ := ob hf
                obtain ⟨q76, eq76, hf⟩ := ob hf
                refine r_callV (pc := 292) (As := [DI z58.2.2, DI z73]) (rest := []) (stk' := [DI q76]) (k0_X4_about (nx eq76)) gb75 rfl hC wd_2_11 wd_1_186 wd_1_187 wd_1_188 wd_1_1 md_X4_about rfl ⟨rfl, rfl, Nat.le_of_ble_eq_true rfl, Nat.le_of_ble_eq_true rfl, Nat.le_of_ble_eq_true rfl, Nat.le_of_ble_eq_true rfl⟩ dX6_isSame_292 rfl (Nat.le_of_ble_eq_true rfl) rfl ?_
                refine r_aload (pc := 295) hC dX6_isSame_295 5 rfl ?_
                refine r_iload (pc := 297) hC dX6_isSame_297 7 rfl ?_
                obtain ⟨v77, ev77, hf⟩ := ob hf
                refine r_iaload (pc := 299) hC dX6_isSame_299 ev77 ?_
                refine r_icmp_eq (pc := 300) (tgt := 305) hC dX6_isSame_300 (by decide) (fun c78 => ?_) (fun c78 => ?_)
                · replace hf := oi_t c78 hf
                  refine r_iinc (pc := 305) (pos := 7) (v := (z73 + 1)) (lv' := [(7, DI (z73 + 1)), (0, DR (some x)), (1, DR a0), (2, DR (some st.1)), (3, DI z58.2.1), (4, DI z58.2.2), (5, DR v63), (6, DI b66.1)]) hC hN dX6_isSame_305 rfl rfl (by decide) rfl ?_
                  refine r_goto (pc := 308) (tgt := 281) hC dX6_isSame_308 (by decide) ?_
                  cases hf
                  exact dm_sub [1, 2, 3, 4, 5, 6, 7, 0] rfl hk
                · replace hf := oi_f c78 hf
                  refine r_iconst (pc := 303) (v := 0) hC dX6_isSame_303 (by decide) ?_
                  obtain ⟨v79, ev79, hf⟩ := ob hf
                  cases hf
                  exact r_zret (pc := 304) hE hC ev79 (f1xI hk) ⟨Nat.le_of_ble_eq_true rfl, Nat.le_of_ble_eq_true rfl⟩ dX6_isSame_304
            · rcases b73 with yb73 | r9
              · refine r_aload_n (pc := 311) hC dX6_isSame_311 rfl 1 rfl ?_
                refine r_iload (pc := 312) hC dX6_isSame_312 4 rfl ?_
                refine r_iconst (pc := 314) (v := 5) hC dX6_isSame_314 (by decide) ?_
                obtain ⟨b80, gb80, hf⟩ := ob hf
                obtain ⟨q81, eq81, hf⟩ := ob hf
                refine r_callV (pc := 315) (As := [DI z58.2.2, DI 5]) (rest := []) (stk' := [DI q81]) (k0_X4_about (nx eq81)) gb80 rfl hC wd_2_11 wd_1_186 wd_1_187 wd_1_188 wd_1_1 md_X4_about rfl ⟨rfl, rfl, Nat.le_of_ble_eq_true rfl, Nat.le_of_ble_eq_true rfl, Nat.le_of_ble_eq_true rfl, Nat.le_of_ble_eq_true rfl⟩ dX6_isSame_315 rfl (Nat.le_of_ble_eq_true rfl) rfl ?_
                refine r_aload (pc := 318) hC dX6_isSame_318 5 rfl ?_
                refine r_iconst (pc := 320) (v := 0) hC dX6_isSame_320 (by decide) ?_
                obtain ⟨v82, ev82, hf⟩ := ob hf
                refine r_iaload (pc := 321) hC dX6_isSame_321 ev82 ?_
                refine r_aload (pc := 322) hC dX6_isSame_322 5 rfl ?_
                refine r_iconst (pc := 324) (v := 1) hC dX6_isSame_324 (by decide) ?_
                obtain ⟨v83, ev83, hf⟩ := ob hf
                refine r_iaload (pc := 325) hC dX6_isSame_325 ev83 ?_
                refine r_imul (pc := 326) hC dX6_isSame_326 ?_
                refine r_icmp_ne (pc := 327) (tgt := 343) hC dX6_isSame_327 (by decide) (fun c84 => ?_) (fun c84 => ?_)
                · replace hf := oi_f c84 hf
                  refine r_iconst (pc := 343) (v := 0) hC dX6_isSame_343 (by decide) ?_
                  obtain ⟨v85, ev85, hf⟩ := ob hf
                  cases hf
                  exact r_zret (pc := 344) hE hC ev85 (f1xI hk) ⟨Nat.le_of_ble_eq_true rfl, Nat.le_of_ble_eq_true rfl⟩ dX6_isSame_344
                · replace hf := oi_t c84 hf
                  refine r_aload_n (pc := 330) hC dX6_isSame_330 rfl 1 rfl ?_
                  refine r_iload (pc := 331) hC dX6_isSame_331 4 rfl ?_
                  refine r_bipush (pc := 333) (v := 6) hC dX6_isSame_333 (by decide) ?_
                  obtain ⟨b86, gb86, hf⟩ := ob hf
                  obtain ⟨q87, eq87, hf⟩ := ob hf
                  refine r_callV (pc := 335) (As := [DI z58.2.2, DI 6]) (rest := []) (stk' := [DI q87]) (k0_X4_about (nx eq87)) gb86 rfl hC wd_2_11 wd_1_186 wd_1_187 wd_1_188 wd_1_1 md_X4_about rfl ⟨rfl, rfl, Nat.le_of_ble_eq_true rfl, Nat.le_of_ble_eq_true rfl, Nat.le_of_ble_eq_true rfl, Nat.le_of_ble_eq_true rfl⟩ dX6_isSame_335 rfl (Nat.le_of_ble_eq_true rfl) rfl ?_
                  refine r_iload (pc := 338) hC dX6_isSame_338 6 rfl ?_
                  refine r_icmp_eq (pc := 340) (tgt := 345) hC dX6_isSame_340 (by decide) (fun c88 => ?_) (fun c88 => ?_)
                  · replace hf := oi_t c88 hf
                    refine r_aload_n (pc := 345) hC dX6_isSame_345 rfl 2 rfl ?_
                    refine r_bipush (pc := 346) (v := 6) hC dX6_isSame_346 (by decide) ?_
                    refine r_dup2 (pc := 348) hC dX6_isSame_348 rfl rfl ?_
                    obtain ⟨v89, ev89, hf⟩ := ob hf
                    refine r_iaload (pc := 349) hC dX6_isSame_349 ev89 ?_
                    refine r_aload (pc := 350) hC dX6_isSame_350 5 rfl ?_
                    refine r_iconst (pc := 352) (v := 0) hC dX6_isSame_352 (by decide) ?_
                    obtain ⟨v90, ev90, hf⟩ := ob hf
                    refine r_iaload (pc := 353) hC dX6_isSame_353 ev90 ?_
                    refine r_aload (pc := 354) hC dX6_isSame_354 5 rfl ?_
                    refine r_iconst (pc := 356) (v := 1) hC dX6_isSame_356 (by decide) ?_
                    obtain ⟨v91, ev91, hf⟩ := ob hf
                    refine r_iaload (pc := 357) hC dX6_isSame_357 ev91 ?_
                    refine r_imul (pc := 358) hC dX6_isSame_358 ?_
                    refine r_iadd (pc := 359) hC dX6_isSame_359 ?_
                    obtain ⟨s92, es92, hf⟩ := ob hf
                    refine r_iastore (pc := 360) hC dX6_isSame_360 es92 ?_
                    refine r_iload_n (pc := 361) hC dX6_isSame_361 rfl 3 rfl ?_
                    refine r_aload (pc := 362) hC dX6_isSame_362 5 rfl ?_
                    refine r_iconst (pc := 364) (v := 3) hC dX6_isSame_364 (by decide) ?_
                    obtain ⟨v93, ev93, hf⟩ := ob hf
                    refine r_iaload (pc := 365) hC dX6_isSame_365 ev93 ?_
                    refine r_iadd (pc := 366) hC dX6_isSame_366 ?_
                    refine r_istore_n (pc := 367) (lv' := [(3, DI (z58.2.1 + v93)), (0, DR (some x)), (1, DR a0), (2, DR (some st.1)), (4, DI z58.2.2), (5, DR v63), (6, DI b66.1), (7, DI yb73)]) hC hN dX6_isSame_367 rfl (by decide) rfl ?_
                    refine r_iinc (pc := 368) (pos := 4) (v := (z58.2.2 + 1)) (lv' := [(4, DI (z58.2.2 + 1)), (3, DI (z58.2.1 + v93)), (0, DR (some x)), (1, DR a0), (2, DR (some st.1)), (5, DR v63), (6, DI b66.1), (7, DI yb73)]) hC hN dX6_isSame_368 rfl rfl (by decide) rfl ?_
                    refine r_goto (pc := 371) (tgt := 217) hC dX6_isSame_371 (by decide) ?_
                    cases hf
                    exact dm_sub [2, 3, 4, 1, 0] rfl hk
                  · replace hf := oi_f c88 hf
                    refine r_iconst (pc := 343) (v := 0) hC dX6_isSame_343 (by decide) ?_
                    obtain ⟨v94, ev94, hf⟩ := ob hf
                    cases hf
                    exact r_zret (pc := 344) hE hC ev94 (f1xI hk) ⟨Nat.le_of_ble_eq_true rfl, Nat.le_of_ble_eq_true rfl⟩ dX6_isSame_344
              · cases hf
                exact hk
      · rcases b58 with yb58 | r9
        · refine r_iconst (pc := 374) (v := 0) hC dX6_isSame_374 (by decide) ?_
          refine r_istore (pc := 375) (lv' := [(4, DI 0), (0, DR (some x)), (1, DR a0), (2, DR (some st.1)), (3, DI yb58.2.1)]) hC hN dX6_isSame_375 (by decide) rfl ?_
          obtain ⟨b95, eb95, hf⟩ := ob hf
          refine dm_sub (lv' := [(0, DR (some x)), (1, DR a0), (2, DR (some st.1)), (3, DI yb58.2.1), (4, DI 0)]) [1, 2, 3, 4, 0] rfl ?_
          refine dlp_W _ (fun (z95 : DSt × Int32) => dm_W Y 7 56 z95.1 377 [(0, DR (some x)), (1, DR a0), (2, DR (some st.1)), (3, DI yb58.2.1), (4, DI z95.2)] []) (fun (b95 : (DSt × Int32) ⊕ (Int32 × DSt)) => match b95 with | .inl yb95 => dm_W Y 7 56 yb95.1 446 [(0, DR (some x)), (1, DR a0), (2, DR (some st.1)), (3, DI yb58.2.1), (4, DI yb95.2)] [] | .inr r9 => some r9 = some (v, st1)) ?_ eb95 ?_
          · intro z95 r hf hk
            unfold fX6_isSame_L377 at hf
            refine r_iload (pc := 377) hC dX6_isSame_377 4 rfl ?_
            refine r_aload_n (pc := 379) hC dX6_isSame_379 rfl 0 rfl ?_
            obtain ⟨v96, ev96, hf⟩ := ob hf
            refine r_getR (pc := 380) CF6 (k := 3) hC (by decide) wd_3_115 dX6_isSame_380 ev96 ?_
            obtain ⟨v97, ev97, hf⟩ := ob hf
            refine r_alen (pc := 383) (kd := 6) (fun _ => rfl) hC dX6_isSame_383 ev97 ?_
            refine r_icmp_ge (pc := 384) (tgt := 446) hC dX6_isSame_384 (by decide) (fun c98 => ?_) (fun c98 => ?_)
            · replace hf := oi_t c98 hf
              cases hf
              exact dm_sub [0, 1, 2, 3, 4] rfl hk
            · replace hf := oi_f c98 hf
              refine r_iconst (pc := 387) (v := 0) hC dX6_isSame_387 (by decide) ?_
              refine r_istore (pc := 388) (lv' := [(5, DI 0), (0, DR (some x)), (1, DR a0), (2, DR (some st.1)), (3, DI yb58.2.1), (4, DI z95.2)]) hC hN dX6_isSame_388 (by decide) rfl ?_
              obtain ⟨b99, eb99, hf⟩ := ob hf
              refine dm_sub (lv' := [(0, DR (some x)), (1, DR a0), (2, DR (some st.1)), (3, DI yb58.2.1), (4, DI z95.2), (5, DI 0)]) [1, 2, 3, 4, 5, 0] rfl ?_
              refine dlp_W _ (fun (z99 : Int32) => dm_W Y 7 56 z95.1 390 [(0, DR (some x)), (1, DR a0), (2, DR (some st.1)), (3, DI yb58.2.1), (4, DI z95.2), (5, DI z99)] []) (fun (b99 : (Int32) ⊕ (Int32 × DSt)) => match b99 with | .inl yb99 => dm_W Y 7 56 z95.1 425 [(0, DR (some x)), (1, DR a0), (2, DR (some st.1)), (3, DI yb58.2.1), (4, DI z95.2), (5, DI yb99)] [] | .inr r9 => some r9 = some (v, st1)) ?_ eb99 ?_
              · intro z99 r hf hk
                unfold fX6_isSame_L390 at hf
                refine r_iload (pc := 390) hC dX6_isSame_390 5 rfl ?_
                refine r_iconst (pc := 392) (v := 5) hC dX6_isSame_392 (by decide) ?_
                refine r_icmp_ge (pc := 393) (tgt := 425) hC dX6_isSame_393 (by decide) (fun c100 => ?_) (fun c100 => ?_)
                · replace hf := oi_t c100 hf
                  cases hf
                  exact dm_sub [0, 1, 2, 3, 4, 5] rfl hk
                · replace hf := oi_f c100 hf
                  refine r_aload_n (pc := 396) hC dX6_isSame_396 rfl 1 rfl ?_
                  refine r_iload (pc := 397) hC dX6_isSame_397 4 rfl ?_
                  refine r_iload (pc := 399) hC dX6_isSame_399 5 rfl ?_
                  obtain ⟨b101, gb101, hf⟩ := ob hf
                  obtain ⟨q102, eq102, hf⟩ := ob hf
                  refine r_callV (pc := 401) (As := [DI z95.2, DI z99]) (rest := []) (stk' := [DI q102]) (k0_X4_order (nx eq102)) gb101 rfl hC wd_2_12 wd_1_203 wd_1_204 wd_1_205 wd_1_1 md_X4_order rfl ⟨rfl, rfl, Nat.le_of_ble_eq_true rfl, Nat.le_of_ble_eq_true rfl, Nat.le_of_ble_eq_true rfl, Nat.le_of_ble_eq_true rfl⟩ dX6_isSame_401 rfl (Nat.le_of_ble_eq_true rfl) rfl ?_
                  refine r_aload_n (pc := 404) hC dX6_isSame_404 rfl 0 rfl ?_
                  obtain ⟨v103, ev103, hf⟩ := ob hf
                  refine r_getR (pc := 405) CF6 (k := 3) hC (by decide) wd_3_115 dX6_isSame_405 ev103 ?_
                  refine r_iload (pc := 408) hC dX6_isSame_408 4 rfl ?_
                  obtain ⟨v104, ev104, hf⟩ := ob hf
                  refine r_aaloadA (pc := 410) (kd := 6) (t := .int) (fun _ => rfl) hC dX6_isSame_410 ev104 ?_
                  refine r_iload (pc := 411) hC dX6_isSame_411 5 rfl ?_
                  obtain ⟨v105, ev105, hf⟩ := ob hf
                  refine r_iaload (pc := 413) hC dX6_isSame_413 ev105 ?_
                  refine r_icmp_eq (pc := 414) (tgt := 419) hC dX6_isSame_414 (by decide) (fun c106 => ?_) (fun c106 => ?_)
                  · replace hf := oi_t c106 hf
                    refine r_iinc (pc := 419) (pos := 5) (v := (z99 + 1)) (lv' := [(5, DI (z99 + 1)), (0, DR (some x)), (1, DR a0), (2, DR (some st.1)), (3, DI yb58.2.1), (4, DI z95.2)]) hC hN dX6_isSame_419 rfl rfl (by decide) rfl ?_
                    refine r_goto (pc := 422) (tgt := 390) hC dX6_isSame_422 (by decide) ?_
                    cases hf
                    exact dm_sub [1, 2, 3, 4, 5, 0] rfl hk
                  · replace hf := oi_f c106 hf
                    refine r_iconst (pc := 417) (v := 0) hC dX6_isSame_417 (by decide) ?_
                    obtain ⟨v107, ev107, hf⟩ := ob hf
                    cases hf
                    exact r_zret (pc := 418) hE hC ev107 (f1xI hk) ⟨Nat.le_of_ble_eq_true rfl, Nat.le_of_ble_eq_true rfl⟩ dX6_isSame_418
              · rcases b99 with yb99 | r9
                · refine r_aload_n (pc := 425) hC dX6_isSame_425 rfl 2 rfl ?_
                  refine r_iconst (pc := 426) (v := 4) hC dX6_isSame_426 (by decide) ?_
                  refine r_dup2 (pc := 427) hC dX6_isSame_427 rfl rfl ?_
                  obtain ⟨v108, ev108, hf⟩ := ob hf
                  refine r_iaload (pc := 428) hC dX6_isSame_428 ev108 ?_
                  refine r_aload_n (pc := 429) hC dX6_isSame_429 rfl 0 rfl ?_
                  obtain ⟨v109, ev109, hf⟩ := ob hf
                  refine r_getR (pc := 430) CF6 (k := 3) hC (by decide) wd_3_115 dX6_isSame_430 ev109 ?_
                  refine r_iload (pc := 433) hC dX6_isSame_433 4 rfl ?_
                  obtain ⟨v110, ev110, hf⟩ := ob hf
                  refine r_aaloadA (pc := 435) (kd := 6) (t := .int) (fun _ => rfl) hC dX6_isSame_435 ev110 ?_
                  refine r_iconst (pc := 436) (v := 2) hC dX6_isSame_436 (by decide) ?_
                  obtain ⟨v111, ev111, hf⟩ := ob hf
                  refine r_iaload (pc := 437) hC dX6_isSame_437 ev111 ?_
                  refine r_iadd (pc := 438) hC dX6_isSame_438 ?_
                  obtain ⟨s112, es112, hf⟩ := ob hf
                  refine r_iastore (pc := 439) hC dX6_isSame_439 es112 ?_
                  refine r_iinc (pc := 440) (pos := 4) (v := (z95.2 + 1)) (lv' := [(4, DI (z95.2 + 1)), (0, DR (some x)), (1, DR a0), (2, DR (some st.1)), (3, DI yb58.2.1), (5, DI yb99)]) hC hN dX6_isSame_440 rfl rfl (by decide) rfl ?_
                  refine r_goto (pc := 443) (tgt := 377) hC dX6_isSame_443 (by decide) ?_
                  cases hf
                  exact dm_sub [1, 2, 3, 4, 0] rfl hk
                · cases hf
                  exact hk
          · rcases b95 with yb95 | r9
            · refine r_iconst (pc := 446) (v := 0) hC dX6_isSame_446 (by decide) ?_
              refine r_istore (pc := 447) (lv' := [(4, DI 0), (0, DR (some x)), (1, DR a0), (2, DR (some st.1)), (3, DI yb58.2.1)]) hC hN dX6_isSame_447 (by decide) rfl ?_
              obtain ⟨b113, eb113, hf⟩ := ob hf
              refine dm_sub (lv' := [(0, DR (some x)), (1, DR a0), (2, DR (some st.1)), (3, DI yb58.2.1), (4, DI 0)]) [1, 2, 3, 4, 0] rfl ?_
              refine dlp_W _ (fun (z113 : Int32) => dm_W Y 7 56 yb95.1 449 [(0, DR (some x)), (1, DR a0), (2, DR (some st.1)), (3, DI yb58.2.1), (4, DI z113)] []) (fun (b113 : (Int32) ⊕ (Int32 × DSt)) => match b113 with | .inl yb113 => dm_W Y 7 56 yb95.1 477 [(0, DR (some x)), (1, DR a0), (2, DR (some st.1)), (3, DI yb58.2.1), (4, DI yb113)] [] | .inr r9 => some r9 = some (v, st1)) ?_ eb113 ?_
              · intro z113 r hf hk
                unfold fX6_isSame_L449 at hf
                refine r_iload (pc := 449) hC dX6_isSame_449 4 rfl ?_
                refine r_bipush (pc := 451) (v := 8) hC dX6_isSame_451 (by decide) ?_
                refine r_icmp_ge (pc := 453) (tgt := 477) hC dX6_isSame_453 (by decide) (fun c114 => ?_) (fun c114 => ?_)
                · replace hf := oi_t c114 hf
                  cases hf
                  exact dm_sub [0, 1, 2, 3, 4] rfl hk
                · replace hf := oi_f c114 hf
                  refine r_aload_n (pc := 456) hC dX6_isSame_456 rfl 1 rfl ?_
                  refine r_iload (pc := 457) hC dX6_isSame_457 4 rfl ?_
                  obtain ⟨b115, gb115, hf⟩ := ob hf
                  obtain ⟨q116, eq116, hf⟩ := ob hf
                  refine r_callV (pc := 459) (As := [DI z113]) (rest := []) (stk' := [DI q116]) (k0_X4_count (nx eq116)) gb115 rfl hC wd_2_13 wd_1_212 wd_1_213 wd_1_214 wd_1_1 md_X4_count rfl ⟨rfl, rfl, Nat.le_of_ble_eq_true rfl, Nat.le_of_ble_eq_true rfl, Nat.le_of_ble_eq_true rfl, Nat.le_of_ble_eq_true rfl⟩ dX6_isSame_459 rfl (Nat.le_of_ble_eq_true rfl) rfl ?_
                  refine r_aload_n (pc := 462) hC dX6_isSame_462 rfl 2 rfl ?_
                  refine r_iload (pc := 463) hC dX6_isSame_463 4 rfl ?_
                  obtain ⟨v117, ev117, hf⟩ := ob hf
                  refine r_iaload (pc := 465) hC dX6_isSame_465 ev117 ?_
                  refine r_icmp_eq (pc := 466) (tgt := 471) hC dX6_isSame_466 (by decide) (fun c118 => ?_) (fun c118 => ?_)
                  · replace hf := oi_t c118 hf
                    refine r_iinc (pc := 471) (pos := 4) (v := (z113 + 1)) (lv' := [(4, DI (z113 + 1)), (0, DR (some x)), (1, DR a0), (2, DR (some st.1)), (3, DI yb58.2.1)]) hC hN dX6_isSame_471 rfl rfl (by decide) rfl ?_
                    refine r_goto (pc := 474) (tgt := 449) hC dX6_isSame_474 (by decide) ?_
                    cases hf
                    exact dm_sub [1, 2, 3, 4, 0] rfl hk
                  · replace hf := oi_f c118 hf
                    refine r_iconst (pc := 469) (v := 0) hC dX6_isSame_469 (by decide) ?_
                    obtain ⟨v119, ev119, hf⟩ := ob hf
                    cases hf
                    exact r_zret (pc := 470) hE hC ev119 (f1xI hk) ⟨Nat.le_of_ble_eq_true rfl, Nat.le_of_ble_eq_true rfl⟩ dX6_isSame_470
              · rcases b113 with yb113 | r9
                · refine r_aload_n (pc := 477) hC dX6_isSame_477 rfl 1 rfl ?_
                  obtain ⟨b120, gb120, hf⟩ := ob hf
                  obtain ⟨q121, eq121, hf⟩ := ob hf
                  refine r_callV (pc := 478) (As := []) (rest := []) (stk' := [DD q121]) (k1_X4_mean eq121) gb120 rfl hC wd_2_14 wd_2_15 wd_2_16 wd_2_17 wd_1_1 md_X4_mean rfl ⟨rfl, rfl, Nat.le_of_ble_eq_true rfl, Nat.le_of_ble_eq_true rfl, Nat.le_of_ble_eq_true rfl, Nat.le_of_ble_eq_true rfl⟩ dX6_isSame_478 rfl (Nat.le_of_ble_eq_true rfl) rfl ?_
                  refine r_aload_n (pc := 481) hC dX6_isSame_481 rfl 0 rfl ?_
                  obtain ⟨v122, ev122, hf⟩ := ob hf
                  refine r_getR (pc := 482) CF6 (k := 2) hC (by decide) wd_3_113 dX6_isSame_482 ev122 ?_
                  obtain ⟨v123, ev123, hf⟩ := ob hf
                  refine r_alen (pc := 485) (kd := 6) (fun _ => rfl) hC dX6_isSame_485 ev123 ?_
                  obtain ⟨j124, ej124, hf⟩ := ob hf
                  have hJ124 : dm_W Y 7 56 yb95.1 502 [] [DD j124, DD q121] := by
                    refine r_dcmp (pc := 502) hC dX6_isSame_502 ?_
                    obtain ⟨j129, ej129, hf⟩ := ob hf
                    have hJ129 : dm_W Y 7 56 yb95.1 511 [] [DI j129] := by
                      obtain ⟨v131, ev131, hf⟩ := ob hf
                      exact r_zret (pc := 511) hE hC ev131 (f1xI hf) ⟨Nat.le_of_ble_eq_true rfl, Nat.le_of_ble_eq_true rfl⟩ dX6_isSame_511
                    replace hf := ej129
                    clear ej129
                    refine r_if_ne (pc := 503) (tgt := 510) hC dX6_isSame_503 (by decide) (fun c130 => ?_) (fun c130 => ?_)
                    · replace hf := oi_f c130 hf
                      refine r_iconst (pc := 510) (v := 0) hC dX6_isSame_510 (by decide) ?_
                      cases hf
                      exact (dm_sub [] rfl hJ129)
                    · replace hf := oi_t c130 hf
                      refine r_iconst (pc := 506) (v := 1) hC dX6_isSame_506 (by decide) ?_
                      refine r_goto (pc := 507) (tgt := 511) hC dX6_isSame_507 (by decide) ?_
                      cases hf
                      exact (dm_sub [] rfl hJ129)
                  replace hf := ej124
                  clear ej124
                  refine r_if_ne (pc := 486) (tgt := 493) hC dX6_isSame_486 (by decide) (fun c125 => ?_) (fun c125 => ?_)
                  · replace hf := oi_f c125 hf
                    refine r_iload_n (pc := 493) hC dX6_isSame_493 rfl 3 rfl ?_
                    refine r_i2d (pc := 494) hC dX6_isSame_494 ?_
                    refine r_aload_n (pc := 495) hC dX6_isSame_495 rfl 0 rfl ?_
                    obtain ⟨v126, ev126, hf⟩ := ob hf
                    refine r_getR (pc := 496) CF6 (k := 2) hC (by decide) wd_3_113 dX6_isSame_496 ev126 ?_
                    obtain ⟨v127, ev127, hf⟩ := ob hf
                    refine r_alen (pc := 499) (kd := 6) (fun _ => rfl) hC dX6_isSame_499 ev127 ?_
                    refine r_i2d (pc := 500) hC dX6_isSame_500 ?_
                    obtain ⟨v128, ev128, hf⟩ := ob hf
                    refine r_ddivO (pc := 501) hC dX6_isSame_501 ev128 ?_
                    cases hf
                    exact (dm_sub [] rfl hJ124)
                  · replace hf := oi_t c125 hf
                    refine r_dconst0 (pc := 489) hC dX6_isSame_489 ?_
                    refine r_goto (pc := 490) (tgt := 502) hC dX6_isSame_490 (by decide) ?_
                    cases hf
                    exact (dm_sub [] rfl hJ124)
                · exact hf
            · exact hf
        · exact hf
    · exact hf
abbrev rmK1_L_below : Room := { frames := 0, cells := 0, slots := 0, locals := 0 }
set_option maxRecDepth 100000 in
set_option maxHeartbeats 8000000 in
theorem k1_L_below {st : DSt} {a0 : Int32} {a1 : Int32} {v : Int32} (hf : fL_below st a0 a1 = some v) : dm_K1 yL_below cL_below 2 (some .int) rmK1_L_below 0 0 [DI a0, DI a1] st (some (DI v)) st := by
  refine dm_k1 (by decide) rfl (Nat.le_of_ble_eq_true rfl) fun Y hC hN hI hE => ?_
  unfold fL_below at hf
  refine dm_sub (lv' := [(0, DI a0), (1, DI a1)]) ([0, 1]) rfl ?_
  refine r_iload_n (pc := 0) hC dL_below_0 rfl 0 rfl ?_
  refine r_ldc (pc := 1) (v := 2147483647) hC wd_2_21 dL_below_1 ?_
  refine r_iand (pc := 3) hC dL_below_3 ?_
  refine r_iload_n (pc := 4) hC dL_below_4 rfl 1 rfl ?_
  obtain ⟨v1, ev1, hf⟩ := ob hf
  refine r_irem (pc := 5) hC dL_below_5 ev1 ?_
  exact r_iret (pc := 6) hE hC (f1pI hf) ⟨Nat.le_of_ble_eq_true rfl, Nat.le_of_ble_eq_true rfl⟩ dL_below_6
abbrev rmK1_L_cell : Room := { frames := 0, cells := 0, slots := 0, locals := 0 }
set_option maxRecDepth 100000 in
set_option maxHeartbeats 8000000 in
theorem k1_L_cell {xs : Nat → Int32} {L b : Nat} {st : DSt} {a1 : Int32} {v : Int32} (hf : fL_cell xs L st a1 = some v) : dm_K1S b L xs yL_cell cL_cell 2 (some .int) rmK1_L_cell 0 0 [DR (some b), DI a1] st (some (DI v)) st := by
  refine dm_k1s (by decide) rfl (Nat.le_of_ble_eq_true rfl) fun Y hC hN hSC hE => ?_
  unfold fL_cell at hf
  refine dm_sub (lv' := [(0, DR (some b)), (1, DI a1)]) ([0, 1]) rfl ?_
  refine r_iload_n (pc := 0) hC dL_cell_0 rfl 1 rfl ?_
  refine r_aload_n (pc := 1) hC dL_cell_1 rfl 0 rfl ?_
  refine r_slen (pc := 2) hSC hC dL_cell_2 ?_
  obtain ⟨j1, ej1, hf⟩ := ob hf
  have hJ1 : dm_W Y 0 0 st 18 [] [DI j1] := by
    exact r_iret (pc := 18) hE hC (f1pI hf) ⟨Nat.le_of_ble_eq_true rfl, Nat.le_of_ble_eq_true rfl⟩ dL_cell_18
  replace hf := ej1
  clear ej1
  refine r_icmp_ge (pc := 3) (tgt := 12) hC dL_cell_3 (by decide) (fun c2 => ?_) (fun c2 => ?_)
  · replace hf := oi_t c2 hf
    refine r_ldc (pc := 12) (v := 790386105) hC wd_2_25 dL_cell_12 ?_
    refine r_iload_n (pc := 14) hC dL_cell_14 rfl 1 rfl ?_
    refine r_iconst (pc := 15) (v := 3) hC dL_cell_15 (by decide) ?_
    refine r_iadd (pc := 16) hC dL_cell_16 ?_
    refine r_imul (pc := 17) hC dL_cell_17 ?_
    cases hf
    exact (dm_sub [] rfl hJ1)
  · replace hf := oi_f c2 hf
    refine r_aload_n (pc := 6) hC dL_cell_6 rfl 0 rfl ?_
    refine r_iload_n (pc := 7) hC dL_cell_7 rfl 1 rfl ?_
    obtain ⟨v3, ev3, hf⟩ := ob hf
    refine r_sld (pc := 8) hSC hC dL_cell_8 ev3 ?_
    refine r_goto (pc := 9) (tgt := 18) hC dL_cell_9 (by decide) ?_
    cases hf
    exact (dm_sub [] rfl hJ1)
abbrev rmK1_L_act : Room := { frames := 5, cells := 63, slots := 630, locals := 113 }
set_option maxRecDepth 100000 in
set_option maxHeartbeats 8000000 in
theorem k1_L_act {st : DSt} {a0 : Option Nat} {a1 : Option Nat} {a2 : Int32} {v : Int32} {st1 : DSt} (hf : fL_act st a0 a1 a2 = some (v, st1)) : dm_K1 yL_act cL_act 14 (some .boolean) rmK1_L_act 63 630 [DR a0, DR a1, DI a2] st (some (DI v)) st1 := by
  refine dm_k1 (by decide) rfl (Nat.le_of_ble_eq_true rfl) fun Y hC hN hI hE => ?_
  unfold fL_act at hf
  refine dm_sub (lv' := [(0, DR a0), (1, DR a1), (2, DI a2)]) ([0, 1, 2]) rfl ?_
  refine r_aload_n (pc := 0) hC dL_act_0 rfl 1 rfl ?_
  obtain ⟨v1, ev1, hf⟩ := ob hf
  refine r_getR (pc := 1) CF6 (k := 1) hC (by decide) wd_3_112 dL_act_1 ev1 ?_
  obtain ⟨v2, ev2, hf⟩ := ob hf
  refine r_alen (pc := 4) (kd := 5) (fun _ => rfl) hC dL_act_4 ev2 ?_
  refine r_istore_n (pc := 5) (lv' := [(3, DI v2), (0, DR a0), (1, DR a1), (2, DI a2)]) hC hN dL_act_5 rfl (by decide) rfl ?_
  refine r_aload_n (pc := 6) hC dL_act_6 rfl 2 rfl ?_
  obtain ⟨v3, ev3, hf⟩ := ob hf
  refine r_getR (pc := 7) CF6 (k := 2) hC (by decide) wd_3_114 dL_act_7 ev3 ?_
  obtain ⟨v4, ev4, hf⟩ := ob hf
  refine r_alen (pc := 10) (kd := 6) (fun _ => rfl) hC dL_act_10 ev4 ?_
  refine r_istore (pc := 11) (lv' := [(4, DI v4), (3, DI v2), (0, DR a0), (1, DR a1), (2, DI a2)]) hC hN dL_act_11 (by decide) rfl ?_
  refine r_iload_n (pc := 13) hC dL_act_13 rfl 1 rfl ?_
  obtain ⟨j5, ej5, hf⟩ := ob hf
  have hJ5 : dm_W Y 0 0 st 28 [(0, DR a0), (1, DR a1), (2, DI a2), (3, DI v2), (4, DI v4)] [DI j5] := by
    refine r_istore (pc := 28) (lv' := [(5, DI j5), (0, DR a0), (1, DR a1), (2, DI a2), (3, DI v2), (4, DI v4)]) hC hN dL_act_28 (by decide) rfl ?_
    refine r_iload (pc := 30) hC dL_act_30 5 rfl ?_
    obtain ⟨j8, ej8, hf⟩ := ob hf
    have hJ8 : dm_W Y 0 0 st 47 [(0, DR a0), (1, DR a1), (2, DI a2), (3, DI v2), (4, DI v4), (5, DI j5)] [DI j8] := by
      refine r_istore (pc := 47) (lv' := [(6, DI j8), (0, DR a0), (1, DR a1), (2, DI a2), (3, DI v2), (4, DI v4), (5, DI j5)]) hC hN dL_act_47 (by decide) rfl ?_
      refine r_iload_n (pc := 49) hC dL_act_49 rfl 3 rfl ?_
      refine r_bipush (pc := 50) (v := 9) hC dL_act_50 (by decide) ?_
      refine r_ishr (pc := 52) hC dL_act_52 ?_
      refine r_bipush (pc := 53) (v := 22) hC dL_act_53 (by decide) ?_
      obtain ⟨q11, eq11, hf⟩ := ob hf
      refine r_callS (pc := 55) (As := [DI (a2 >>> (9 &&& 31)), DI 22]) (rest := []) (stk' := [DI q11]) (k1_L_below eq11) hC wd_2_18 wd_2_19 wd_2_20 wd_1_0 md_L_below rfl ⟨rfl, rfl, Nat.le_of_ble_eq_true rfl, Nat.le_of_ble_eq_true rfl, Nat.le_of_ble_eq_true rfl, Nat.le_of_ble_eq_true rfl⟩ dL_act_55 rfl (Nat.le_of_ble_eq_true rfl) rfl ?_
      refine r_istore (pc := 58) (lv' := [(7, DI q11), (6, DI j8), (0, DR a0), (1, DR a1), (2, DI a2), (3, DI v2), (4, DI v4), (5, DI j5)]) hC hN dL_act_58 (by decide) rfl ?_
      refine r_iload_n (pc := 60) hC dL_act_60 rfl 5 rfl ?_
      refine r_if_eq (pc := 61) (tgt := 69) hC dL_act_61 (by decide) (fun c12 => ?_) (fun c12 => ?_)
      · replace hf := oi_t c12 hf
        refine r_iload_n (pc := 69) hC dL_act_69 rfl 5 rfl ?_
        refine r_iconst (pc := 70) (v := 5) hC dL_act_70 (by decide) ?_
        refine r_icmp_ne (pc := 71) (tgt := 76) hC dL_act_71 (by decide) (fun c13 => ?_) (fun c13 => ?_)
        · replace hf := oi_f c13 hf
          refine r_iload_n (pc := 76) hC dL_act_76 rfl 5 rfl ?_
          refine r_iconst (pc := 77) (v := 1) hC dL_act_77 (by decide) ?_
          refine r_iadd (pc := 78) hC dL_act_78 ?_
          obtain ⟨s14, es14, hf⟩ := ob hf
          refine r_newqV (pc := 79) (E := "ChocolateMouldsLaw$Bowl") (kd := 5) (cap := 10) (fun _ => rfl) hC (by decide) wd_2_29 (by decide) ⟨Nat.le_of_ble_eq_true rfl, Nat.le_of_ble_eq_true rfl⟩ dL_act_79 es14 ?_
          refine r_astore (pc := 82) (lv' := [(8, DR (some st.1)), (7, DI q11), (6, DI j8), (0, DR a0), (1, DR a1), (2, DI a2), (3, DI v2), (4, DI v4), (5, DI j5)]) hC hN dL_act_82 (by decide) rfl ?_
          refine r_iconst (pc := 84) (v := 0) hC dL_act_84 (by decide) ?_
          refine r_istore (pc := 85) (lv' := [(9, DI 0), (8, DR (some st.1)), (7, DI q11), (6, DI j8), (0, DR a0), (1, DR a1), (2, DI a2), (3, DI v2), (4, DI v4), (5, DI j5)]) hC hN dL_act_85 (by decide) rfl ?_
          obtain ⟨b15, eb15, hf⟩ := ob hf
          refine dm_sub (lv' := [(0, DR a0), (1, DR a1), (2, DI a2), (3, DI v2), (8, DR (some st.1)), (9, DI 0)]) [4, 5, 6, 7, 1, 0] rfl ?_
          refine dlp_W _ (fun (z15 : DSt × Int32) => dm_W Y 1 10 z15.1 87 [(0, DR a0), (1, DR a1), (2, DI a2), (3, DI v2), (8, DR (some st.1)), (9, DI z15.2)] []) (fun (b15 : DSt × Int32) => dm_W Y 1 10 b15.1 111 [(0, DR a0), (1, DR a1), (2, DI a2), (3, DI v2), (8, DR (some st.1)), (9, DI b15.2)] []) ?_ eb15 ?_
          · intro z15 r hf hk
            unfold fL_act_L87 at hf
            refine r_iload (pc := 87) hC dL_act_87 5 rfl ?_
            refine r_iload_n (pc := 89) hC dL_act_89 rfl 3 rfl ?_
            refine r_icmp_ge (pc := 90) (tgt := 111) hC dL_act_90 (by decide) (fun c16 => ?_) (fun c16 => ?_)
            · replace hf := oi_t c16 hf
              cases hf
              exact dm_sub [0, 1, 2, 3, 4, 5] rfl hk
            · replace hf := oi_f c16 hf
              refine r_aload (pc := 93) hC dL_act_93 4 rfl ?_
              refine r_iload (pc := 95) hC dL_act_95 5 rfl ?_
              refine r_aload_n (pc := 97) hC dL_act_97 rfl 1 rfl ?_
              obtain ⟨v17, ev17, hf⟩ := ob hf
              refine r_getR (pc := 98) CF6 (k := 1) hC (by decide) wd_3_112 dL_act_98 ev17 ?_
              refine r_iload (pc := 101) hC dL_act_101 5 rfl ?_
              obtain ⟨v18, ev18, hf⟩ := ob hf
              refine r_aaload (pc := 103) (kd := 5) (fun _ => rfl) hC dL_act_103 ev18 ?_
              obtain ⟨s19, es19, hf⟩ := ob hf
              refine r_aastore (pc := 104) (kd := 5) (ci := 5) (fun _ => rfl) rfl hC dL_act_104 es19 ?_
              refine r_iinc (pc := 105) (pos := 5) (v := (z15.2 + 1)) (lv' := [(9, DI (z15.2 + 1)), (0, DR a0), (1, DR a1), (2, DI a2), (3, DI v2), (8, DR (some st.1))]) hC hN dL_act_105 rfl rfl (by decide) rfl ?_
              refine r_goto (pc := 108) (tgt := 87) hC dL_act_108 (by decide) ?_
              cases hf
              exact dm_sub [1, 2, 3, 4, 5, 0] rfl hk
          · refine r_aload (pc := 111) hC dL_act_111 4 rfl ?_
            refine r_iload_n (pc := 113) hC dL_act_113 rfl 3 rfl ?_
            obtain ⟨s20, es20, hf⟩ := ob hf
            refine r_new (pc := 114) CF5 (fs := [DI 0, DI 0, DR none]) hC wd_2_29 wd_2_31 wd_1_4 (fun j hj => by rcases (show j = 0 ∨ j = 1 ∨ j = 2 by omega) with rfl | rfl | rfl <;> rfl) ⟨Nat.le_of_ble_eq_true rfl, Nat.le_of_ble_eq_true rfl⟩ dL_act_114 ?_
            rw [Option.some.inj es20]
            refine r_dup (pc := 117) hC dL_act_117 rfl ?_
            obtain ⟨q21, eq21, hf⟩ := ob hf
            refine r_callIN (pc := 118) (As := []) (rest := [DR (some b15.1.1), DI v2, DR (some st.1)]) (stk' := [DR (some b15.1.1), DI v2, DR (some st.1)]) (host := "ChocolateMouldsLaw") (k1_X5_init eq21) hC (by decide +kernel) wd_2_33 rfl wd_2_34 wd_1_4 md_X5_init rfl ⟨rfl, rfl, Nat.le_of_ble_eq_true rfl, Nat.le_of_ble_eq_true rfl, Nat.le_of_ble_eq_true rfl, Nat.le_of_ble_eq_true rfl⟩ dL_act_118 rfl (Nat.le_of_ble_eq_true rfl) rfl ?_
            obtain ⟨s22, es22, hf⟩ := ob hf
            refine r_aastore (pc := 121) (kd := 5) (ci := 5) (fun _ => rfl) rfl hC dL_act_121 es22 ?_
            refine r_aload (pc := 122) hC dL_act_122 4 rfl ?_
            refine r_iload_n (pc := 124) hC dL_act_124 rfl 3 rfl ?_
            obtain ⟨v23, ev23, hf⟩ := ob hf
            refine r_aaload (pc := 125) (kd := 5) (fun _ => rfl) hC dL_act_125 ev23 ?_
            refine r_iload_n (pc := 126) hC dL_act_126 rfl 2 rfl ?_
            refine r_iconst (pc := 127) (v := 1) hC dL_act_127 (by decide) ?_
            refine r_ishr (pc := 128) hC dL_act_128 ?_
            refine r_sipush (pc := 129) (v := 2001) hC dL_act_129 (by decide) ?_
            obtain ⟨q24, eq24, hf⟩ := ob hf
            refine r_callS (pc := 132) (As := [DI (a2 >>> (1 &&& 31)), DI 2001]) (rest := [DR v23]) (stk' := [DI q24, DR v23]) (k1_L_below eq24) hC wd_2_18 wd_2_19 wd_2_20 wd_1_0 md_L_below rfl ⟨rfl, rfl, Nat.le_of_ble_eq_true rfl, Nat.le_of_ble_eq_true rfl, Nat.le_of_ble_eq_true rfl, Nat.le_of_ble_eq_true rfl⟩ dL_act_132 rfl (Nat.le_of_ble_eq_true rfl) rfl ?_
            obtain ⟨s25, es25, hf⟩ := ob hf
            refine r_put (pc := 135) CF5 (k := 0) hC (by decide) wd_2_36 rfl ⟨rfl, rfl⟩ dL_act_135 es25 ?_
            refine r_aload_n (pc := 138) hC dL_act_138 rfl 1 rfl ?_
            refine r_aload (pc := 139) hC dL_act_139 4 rfl ?_
            obtain ⟨s26, es26, hf⟩ := ob hf
            refine r_put (pc := 141) CF6 (k := 1) hC (by decide) wd_3_112 rfl (dm_fr (by exact Or.inr ⟨_, rfl⟩) _) dL_act_141 es26 ?_
            refine r_aload_n (pc := 144) hC dL_act_144 rfl 0 rfl ?_
            refine r_aload (pc := 145) hC dL_act_145 4 rfl ?_
            refine r_iload_n (pc := 147) hC dL_act_147 rfl 3 rfl ?_
            obtain ⟨v27, ev27, hf⟩ := ob hf
            refine r_aaload (pc := 148) (kd := 5) (fun _ => rfl) hC dL_act_148 ev27 ?_
            obtain ⟨v28, ev28, hf⟩ := ob hf
            refine r_getI (pc := 149) CF5 (k := 0) hC (by decide) wd_2_36 dL_act_149 ev28 ?_
            obtain ⟨b29, gb29, hf⟩ := ob hf
            obtain ⟨q30, eq30, hf⟩ := ob hf
            refine r_callV (pc := 152) (As := [DI v28]) (rest := []) (stk' := [DI q30.1]) (k0_X4_bowl (nx eq30)) gb29 rfl hC wd_2_51 wd_2_52 wd_2_53 wd_2_54 wd_1_1 md_X4_bowl rfl ⟨rfl, rfl, Nat.le_of_ble_eq_true rfl, Nat.le_of_ble_eq_true rfl, Nat.le_of_ble_eq_true rfl, Nat.le_of_ble_eq_true rfl⟩ dL_act_152 rfl (Nat.le_of_ble_eq_true rfl) rfl ?_
            refine r_iload_n (pc := 155) hC dL_act_155 rfl 3 rfl ?_
            obtain ⟨j31, ej31, hf⟩ := ob hf
            have hJ31 : dm_W Y 6 29 q30.2 164 [] [DI j31] := by
              obtain ⟨v33, ev33, hf⟩ := ob hf
              exact r_zret (pc := 164) hE hC ev33 (f1xI hf) ⟨Nat.le_of_ble_eq_true rfl, Nat.le_of_ble_eq_true rfl⟩ dL_act_164
            replace hf := ej31
            clear ej31
            refine r_icmp_ne (pc := 156) (tgt := 163) hC dL_act_156 (by decide) (fun c32 => ?_) (fun c32 => ?_)
            · replace hf := oi_f c32 hf
              refine r_iconst (pc := 163) (v := 0) hC dL_act_163 (by decide) ?_
              cases hf
              exact (dm_sub [] rfl hJ31)
            · replace hf := oi_t c32 hf
              refine r_iconst (pc := 159) (v := 1) hC dL_act_159 (by decide) ?_
              refine r_goto (pc := 160) (tgt := 164) hC dL_act_160 (by decide) ?_
              cases hf
              exact (dm_sub [] rfl hJ31)
        · replace hf := oi_t c13 hf
          refine r_iconst (pc := 74) (v := 1) hC dL_act_74 (by decide) ?_
          obtain ⟨v34, ev34, hf⟩ := ob hf
          exact r_zret (pc := 75) hE hC ev34 (f1xI hf) ⟨Nat.le_of_ble_eq_true rfl, Nat.le_of_ble_eq_true rfl⟩ dL_act_75
      · replace hf := oi_f c12 hf
        refine r_iload (pc := 64) hC dL_act_64 0 rfl ?_
        refine r_if_ne (pc := 66) (tgt := 165) hC dL_act_66 (by decide) (fun c35 => ?_) (fun c35 => ?_)
        · replace hf := oi_f c35 hf
          refine r_aload_n (pc := 165) hC dL_act_165 rfl 3 rfl ?_
          obtain ⟨v36, ev36, hf⟩ := ob hf
          refine r_getR (pc := 166) CF6 (k := 1) hC (by decide) wd_3_112 dL_act_166 ev36 ?_
          refine r_iload (pc := 169) hC dL_act_169 7 rfl ?_
          obtain ⟨v37, ev37, hf⟩ := ob hf
          refine r_aaload (pc := 171) (kd := 5) (fun _ => rfl) hC dL_act_171 ev37 ?_
          refine r_astore (pc := 172) (lv' := [(8, DR v37), (7, DI q11), (6, DI j8), (0, DR a0), (1, DR a1), (2, DI a2), (3, DI v2), (4, DI v4), (5, DI j5)]) hC hN dL_act_172 (by decide) rfl ?_
          refine r_iload (pc := 174) hC dL_act_174 1 rfl ?_
          refine r_iconst (pc := 176) (v := 5) hC dL_act_176 (by decide) ?_
          refine r_icmp_ge (pc := 177) (tgt := 269) hC dL_act_177 (by decide) (fun c38 => ?_) (fun c38 => ?_)
          · replace hf := oi_t c38 hf
            refine r_iload (pc := 269) hC dL_act_269 1 rfl ?_
            refine r_bipush (pc := 271) (v := 7) hC dL_act_271 (by decide) ?_
            refine r_icmp_ge (pc := 273) (tgt := 335) hC dL_act_273 (by decide) (fun c39 => ?_) (fun c39 => ?_)
            · replace hf := oi_t c39 hf
              refine r_iload (pc := 335) hC dL_act_335 1 rfl ?_
              refine r_bipush (pc := 337) (v := 7) hC dL_act_337 (by decide) ?_
              refine r_icmp_ne (pc := 339) (tgt := 539) hC dL_act_339 (by decide) (fun c40 => ?_) (fun c40 => ?_)
              · replace hf := oi_f c40 hf
                refine r_iload (pc := 539) hC dL_act_539 1 rfl ?_
                refine r_bipush (pc := 541) (v := 12) hC dL_act_541 (by decide) ?_
                refine r_icmp_ge (pc := 543) (tgt := 675) hC dL_act_543 (by decide) (fun c41 => ?_) (fun c41 => ?_)
                · replace hf := oi_t c41 hf
                  refine r_iload (pc := 675) hC dL_act_675 1 rfl ?_
                  refine r_bipush (pc := 677) (v := 12) hC dL_act_677 (by decide) ?_
                  refine r_icmp_eq (pc := 679) (tgt := 689) hC dL_act_679 (by decide) (fun c42 => ?_) (fun c42 => ?_)
                  · replace hf := oi_t c42 hf
                    refine r_aload_n (pc := 689) hC dL_act_689 rfl 4 rfl ?_
                    obtain ⟨v43, ev43, hf⟩ := ob hf
                    refine r_getR (pc := 690) CF6 (k := 3) hC (by decide) wd_3_116 dL_act_690 ev43 ?_
                    obtain ⟨v44, ev44, hf⟩ := ob hf
                    refine r_alen (pc := 693) (kd := 6) (fun _ => rfl) hC dL_act_693 ev44 ?_
                    refine r_bipush (pc := 694) (v := 6) hC dL_act_694 (by decide) ?_
                    refine r_icmp_ne (pc := 696) (tgt := 701) hC dL_act_696 (by decide) (fun c45 => ?_) (fun c45 => ?_)
                    · replace hf := oi_f c45 hf
                      refine r_iconst (pc := 701) (v := 5) hC dL_act_701 (by decide) ?_
                      obtain ⟨s46, es46, hf⟩ := ob hf
                      refine r_newa (pc := 702) (atype := .int) (t := .int) (kd := 0) (N := 5) (x := nI0 5) rfl (fun _ => rfl) (fun _ h => nomatch h) (fun _ => rfl) hC wd_1_41 (by decide) rfl (Nat.le_of_ble_eq_true rfl) ⟨Nat.le_of_ble_eq_true rfl, Nat.le_of_ble_eq_true rfl⟩ dL_act_702 ?_
                      rw [Option.some.inj es46]
                      refine r_dup (pc := 704) hC dL_act_704 rfl ?_
                      refine r_iconst (pc := 705) (v := 0) hC dL_act_705 (by decide) ?_
                      refine r_iconst (pc := 706) (v := 1) hC dL_act_706 (by decide) ?_
                      refine r_iload_n (pc := 707) hC dL_act_707 rfl 5 rfl ?_
                      refine r_iconst (pc := 708) (v := 3) hC dL_act_708 (by decide) ?_
                      refine r_ishr (pc := 709) hC dL_act_709 ?_
                      refine r_iload_n (pc := 710) hC dL_act_710 rfl 5 rfl ?_
                      refine r_iconst (pc := 711) (v := 2) hC dL_act_711 (by decide) ?_
                      obtain ⟨q47, eq47, hf⟩ := ob hf
                      refine r_callS (pc := 712) (As := [DI a2, DI 2]) (rest := [DI (a2 >>> (3 &&& 31)), DI 1, DI 0, DR (some st.1), DR (some st.1)]) (stk' := [DI q47, DI (a2 >>> (3 &&& 31)), DI 1, DI 0, DR (some st.1), DR (some st.1)]) (k1_L_below eq47) hC wd_2_18 wd_2_19 wd_2_20 wd_1_0 md_L_below rfl ⟨rfl, rfl, Nat.le_of_ble_eq_true rfl, Nat.le_of_ble_eq_true rfl, Nat.le_of_ble_eq_true rfl, Nat.le_of_ble_eq_true rfl⟩ dL_act_712 rfl (Nat.le_of_ble_eq_true rfl) rfl ?_
                      obtain ⟨j48, ej48, hf⟩ := ob hf
                      have hJ48 : dm_W Y 1 5 s46 725 [(0, DR a0), (1, DR a1), (2, DI a2)] [DI j48, DI (a2 >>> (3 &&& 31)), DI 1, DI 0, DR (some st.1), DR (some st.1)] := by
                        obtain ⟨q50, eq50, hf⟩ := ob hf
                        refine r_callS (pc := 725) (As := [DI (a2 >>> (3 &&& 31)), DI j48]) (rest := [DI 1, DI 0, DR (some st.1), DR (some st.1)]) (stk' := [DI q50, DI 1, DI 0, DR (some st.1), DR (some st.1)]) (k1_L_below eq50) hC wd_2_18 wd_2_19 wd_2_20 wd_1_0 md_L_below rfl ⟨rfl, rfl, Nat.le_of_ble_eq_true rfl, Nat.le_of_ble_eq_true rfl, Nat.le_of_ble_eq_true rfl, Nat.le_of_ble_eq_true rfl⟩ dL_act_725 rfl (Nat.le_of_ble_eq_true rfl) rfl ?_
                        refine r_iadd (pc := 728) hC dL_act_728 ?_
                        obtain ⟨s51, es51, hf⟩ := ob hf
                        refine r_iastore (pc := 729) hC dL_act_729 es51 ?_
                        refine r_dup (pc := 730) hC dL_act_730 rfl ?_
                        refine r_iconst (pc := 731) (v := 1) hC dL_act_731 (by decide) ?_
                        refine r_iload_n (pc := 732) hC dL_act_732 rfl 2 rfl ?_
                        refine r_iconst (pc := 733) (v := 4) hC dL_act_733 (by decide) ?_
                        refine r_ishr (pc := 734) hC dL_act_734 ?_
                        refine r_bipush (pc := 735) (v := 101) hC dL_act_735 (by decide) ?_
                        obtain ⟨q52, eq52, hf⟩ := ob hf
                        refine r_callS (pc := 737) (As := [DI (a2 >>> (4 &&& 31)), DI 101]) (rest := [DI 1, DR (some st.1), DR (some st.1)]) (stk' := [DI q52, DI 1, DR (some st.1), DR (some st.1)]) (k1_L_below eq52) hC wd_2_18 wd_2_19 wd_2_20 wd_1_0 md_L_below rfl ⟨rfl, rfl, Nat.le_of_ble_eq_true rfl, Nat.le_of_ble_eq_true rfl, Nat.le_of_ble_eq_true rfl, Nat.le_of_ble_eq_true rfl⟩ dL_act_737 rfl (Nat.le_of_ble_eq_true rfl) rfl ?_
                        obtain ⟨s53, es53, hf⟩ := ob hf
                        refine r_iastore (pc := 740) hC dL_act_740 es53 ?_
                        refine r_dup (pc := 741) hC dL_act_741 rfl ?_
                        refine r_iconst (pc := 742) (v := 2) hC dL_act_742 (by decide) ?_
                        refine r_iconst (pc := 743) (v := 0) hC dL_act_743 (by decide) ?_
                        obtain ⟨s54, es54, hf⟩ := ob hf
                        refine r_iastore (pc := 744) hC dL_act_744 es54 ?_
                        refine r_dup (pc := 745) hC dL_act_745 rfl ?_
                        refine r_iconst (pc := 746) (v := 3) hC dL_act_746 (by decide) ?_
                        refine r_iconst (pc := 747) (v := (-1)) hC dL_act_747 (by decide) ?_
                        obtain ⟨s55, es55, hf⟩ := ob hf
                        refine r_iastore (pc := 748) hC dL_act_748 es55 ?_
                        refine r_dup (pc := 749) hC dL_act_749 rfl ?_
                        refine r_iconst (pc := 750) (v := 4) hC dL_act_750 (by decide) ?_
                        refine r_iconst (pc := 751) (v := (-1)) hC dL_act_751 (by decide) ?_
                        obtain ⟨s56, es56, hf⟩ := ob hf
                        refine r_iastore (pc := 752) hC dL_act_752 es56 ?_
                        refine r_astore (pc := 753) (lv' := [(9, DR (some st.1)), (0, DR a0), (1, DR a1), (2, DI a2)]) hC hN dL_act_753 (by decide) rfl ?_
                        refine r_aload_n (pc := 755) hC dL_act_755 rfl 2 rfl ?_
                        refine r_aload_n (pc := 756) hC dL_act_756 rfl 2 rfl ?_
                        obtain ⟨v57, ev57, hf⟩ := ob hf
                        refine r_getR (pc := 757) CF6 (k := 3) hC (by decide) wd_3_116 dL_act_757 ev57 ?_
                        refine r_aload (pc := 760) hC dL_act_760 0 rfl ?_
                        obtain ⟨q58, eq58, hf⟩ := ob hf
                        refine r_callS (pc := 762) (As := [DR v57, DR (some st.1)]) (rest := [DR a1]) (stk' := [DR q58.1, DR a1]) (k1_X6_with eq58) hC wd_2_177 wd_2_178 wd_2_179 wd_1_3 md_X6_with rfl ⟨rfl, rfl, Nat.le_of_ble_eq_true rfl, Nat.le_of_ble_eq_true rfl, Nat.le_of_ble_eq_true rfl, Nat.le_of_ble_eq_true rfl⟩ dL_act_762 rfl (Nat.le_of_ble_eq_true rfl) rfl ?_
                        obtain ⟨s59, es59, hf⟩ := ob hf
                        refine r_put (pc := 765) CF6 (k := 3) hC (by decide) wd_3_116 rfl (dm_fr (by exact Or.inr ⟨_, rfl⟩) _) dL_act_765 es59 ?_
                        refine r_aload_n (pc := 768) hC dL_act_768 rfl 1 rfl ?_
                        refine r_aload (pc := 769) hC dL_act_769 0 rfl ?_
                        refine r_iconst (pc := 771) (v := 0) hC dL_act_771 (by decide) ?_
                        obtain ⟨v60, ev60, hf⟩ := ob hf
                        refine r_iaload (pc := 772) hC dL_act_772 ev60 ?_
                        refine r_aload (pc := 773) hC dL_act_773 0 rfl ?_
                        refine r_iconst (pc := 775) (v := 1) hC dL_act_775 (by decide) ?_
                        obtain ⟨v61, ev61, hf⟩ := ob hf
                        refine r_iaload (pc := 776) hC dL_act_776 ev61 ?_
                        obtain ⟨b62, gb62, hf⟩ := ob hf
                        obtain ⟨q63, eq63, hf⟩ := ob hf
                        refine r_callV (pc := 777) (As := [DI v60, DI v61]) (rest := []) (stk' := [DI q63.1]) (k0_X4_box (nx eq63)) gb62 rfl hC wd_2_226 wd_2_227 wd_2_228 wd_2_229 wd_1_1 md_X4_box rfl ⟨rfl, rfl, Nat.le_of_ble_eq_true rfl, Nat.le_of_ble_eq_true rfl, Nat.le_of_ble_eq_true rfl, Nat.le_of_ble_eq_true rfl⟩ dL_act_777 rfl (Nat.le_of_ble_eq_true rfl) rfl ?_
                        refine r_aload_n (pc := 780) hC dL_act_780 rfl 2 rfl ?_
                        obtain ⟨v64, ev64, hf⟩ := ob hf
                        refine r_getR (pc := 781) CF6 (k := 3) hC (by decide) wd_3_116 dL_act_781 ev64 ?_
                        obtain ⟨v65, ev65, hf⟩ := ob hf
                        refine r_alen (pc := 784) (kd := 6) (fun _ => rfl) hC dL_act_784 ev65 ?_
                        refine r_iconst (pc := 785) (v := 1) hC dL_act_785 (by decide) ?_
                        refine r_isub (pc := 786) hC dL_act_786 ?_
                        obtain ⟨j66, ej66, hf⟩ := ob hf
                        have hJ66 : dm_W Y 3 20 q63.2 795 [] [DI j66] := by
                          obtain ⟨v68, ev68, hf⟩ := ob hf
                          exact r_zret (pc := 795) hE hC ev68 (f1xI hf) ⟨Nat.le_of_ble_eq_true rfl, Nat.le_of_ble_eq_true rfl⟩ dL_act_795
                        replace hf := ej66
                        clear ej66
                        refine r_icmp_ne (pc := 787) (tgt := 794) hC dL_act_787 (by decide) (fun c67 => ?_) (fun c67 => ?_)
                        · replace hf := oi_f c67 hf
                          refine r_iconst (pc := 794) (v := 0) hC dL_act_794 (by decide) ?_
                          cases hf
                          exact (dm_sub [] rfl hJ66)
                        · replace hf := oi_t c67 hf
                          refine r_iconst (pc := 790) (v := 1) hC dL_act_790 (by decide) ?_
                          refine r_goto (pc := 791) (tgt := 795) hC dL_act_791 (by decide) ?_
                          cases hf
                          exact (dm_sub [] rfl hJ66)
                      replace hf := ej48
                      clear ej48
                      refine r_if_ne (pc := 715) (tgt := 723) hC dL_act_715 (by decide) (fun c49 => ?_) (fun c49 => ?_)
                      · replace hf := oi_f c49 hf
                        refine r_bipush (pc := 723) (v := 9) hC dL_act_723 (by decide) ?_
                        cases hf
                        exact (dm_sub [3, 4, 5] rfl hJ48)
                      · replace hf := oi_t c49 hf
                        refine r_bipush (pc := 718) (v := 36) hC dL_act_718 (by decide) ?_
                        refine r_goto (pc := 720) (tgt := 725) hC dL_act_720 (by decide) ?_
                        cases hf
                        exact (dm_sub [3, 4, 5] rfl hJ48)
                    · replace hf := oi_t c45 hf
                      refine r_iconst (pc := 699) (v := 1) hC dL_act_699 (by decide) ?_
                      obtain ⟨v69, ev69, hf⟩ := ob hf
                      exact r_zret (pc := 700) hE hC ev69 (f1xI hf) ⟨Nat.le_of_ble_eq_true rfl, Nat.le_of_ble_eq_true rfl⟩ dL_act_700
                  · replace hf := oi_f c42 hf
                    refine r_iload (pc := 682) hC dL_act_682 1 rfl ?_
                    refine r_bipush (pc := 684) (v := 13) hC dL_act_684 (by decide) ?_
                    refine r_icmp_ne (pc := 686) (tgt := 796) hC dL_act_686 (by decide) (fun c70 => ?_) (fun c70 => ?_)
                    · replace hf := oi_f c70 hf
                      refine r_iload (pc := 796) hC dL_act_796 1 rfl ?_
                      refine r_bipush (pc := 798) (v := 14) hC dL_act_798 (by decide) ?_
                      refine r_icmp_ne (pc := 800) (tgt := 820) hC dL_act_800 (by decide) (fun c71 => ?_) (fun c71 => ?_)
                      · replace hf := oi_f c71 hf
                        refine r_iload (pc := 820) hC dL_act_820 1 rfl ?_
                        refine r_bipush (pc := 822) (v := 15) hC dL_act_822 (by decide) ?_
                        refine r_icmp_ne (pc := 824) (tgt := 894) hC dL_act_824 (by decide) (fun c72 => ?_) (fun c72 => ?_)
                        · replace hf := oi_f c72 hf
                          refine r_iload (pc := 894) hC dL_act_894 7 rfl ?_
                          refine r_if_ne (pc := 896) (tgt := 901) hC dL_act_896 (by decide) (fun c73 => ?_) (fun c73 => ?_)
                          · replace hf := oi_f c73 hf
                            refine r_aload_n (pc := 901) hC dL_act_901 rfl 4 rfl ?_
                            obtain ⟨v74, ev74, hf⟩ := ob hf
                            refine r_getR (pc := 902) CF6 (k := 2) hC (by decide) wd_3_114 dL_act_902 ev74 ?_
                            refine r_iload (pc := 905) hC dL_act_905 2 rfl ?_
                            obtain ⟨v75, ev75, hf⟩ := ob hf
                            refine r_aaloadA (pc := 907) (kd := 6) (t := .int) (fun _ => rfl) hC dL_act_907 ev75 ?_
                            refine r_astore (pc := 908) (lv' := [(9, DR v75), (8, DR v37), (7, DI q11), (6, DI j8), (0, DR a0), (1, DR a1), (2, DI a2), (3, DI v2), (4, DI v4), (5, DI j5)]) hC hN dL_act_908 (by decide) rfl ?_
                            refine r_iload (pc := 910) hC dL_act_910 2 rfl ?_
                            refine r_bipush (pc := 912) (v := 16) hC dL_act_912 (by decide) ?_
                            refine r_icmp_ne (pc := 914) (tgt := 960) hC dL_act_914 (by decide) (fun c76 => ?_) (fun c76 => ?_)
                            · replace hf := oi_f c76 hf
                              refine r_iload (pc := 960) hC dL_act_960 2 rfl ?_
                              refine r_bipush (pc := 962) (v := 17) hC dL_act_962 (by decide) ?_
                              refine r_icmp_ne (pc := 964) (tgt := 1050) hC dL_act_964 (by decide) (fun c77 => ?_) (fun c77 => ?_)
                              · replace hf := oi_f c77 hf
                                refine r_iload_n (pc := 1050) hC dL_act_1050 rfl 6 rfl ?_
                                refine r_iconst (pc := 1051) (v := 3) hC dL_act_1051 (by decide) ?_
                                refine r_ishr (pc := 1052) hC dL_act_1052 ?_
                                refine r_iconst (pc := 1053) (v := 2) hC dL_act_1053 (by decide) ?_
                                obtain ⟨q78, eq78, hf⟩ := ob hf
                                refine r_callS (pc := 1054) (As := [DI (a2 >>> (3 &&& 31)), DI 2]) (rest := []) (stk' := [DI q78]) (k1_L_below eq78) hC wd_2_18 wd_2_19 wd_2_20 wd_1_0 md_L_below rfl ⟨rfl, rfl, Nat.le_of_ble_eq_true rfl, Nat.le_of_ble_eq_true rfl, Nat.le_of_ble_eq_true rfl, Nat.le_of_ble_eq_true rfl⟩ dL_act_1054 rfl (Nat.le_of_ble_eq_true rfl) rfl ?_
                                obtain ⟨j79, ej79, hf⟩ := ob hf
                                have hJ79 : dm_W Y 0 0 st 1065 [(0, DR a0), (1, DR a1), (2, DI a2), (4, DI v4), (6, DI j8), (9, DR v75)] [DI j79] := by
                                  refine r_istore (pc := 1065) (lv' := [(10, DI j79), (0, DR a0), (1, DR a1), (2, DI a2), (4, DI v4), (6, DI j8), (9, DR v75)]) hC hN dL_act_1065 (by decide) rfl ?_
                                  refine r_iload (pc := 1067) hC dL_act_1067 0 rfl ?_
                                  obtain ⟨j81, ej81, hf⟩ := ob hf
                                  have hJ81 : dm_W Y 0 0 st 1077 [(0, DR a0), (1, DR a1), (2, DI a2), (4, DI v4), (6, DI j8), (9, DR v75), (10, DI j79)] [DI j81] := by
                                    refine r_istore (pc := 1077) (lv' := [(11, DI j81), (0, DR a0), (1, DR a1), (2, DI a2), (4, DI v4), (6, DI j8), (9, DR v75), (10, DI j79)]) hC hN dL_act_1077 (by decide) rfl ?_
                                    refine r_aload (pc := 1079) hC dL_act_1079 6 rfl ?_
                                    refine r_iload (pc := 1081) hC dL_act_1081 0 rfl ?_
                                    obtain ⟨v83, ev83, hf⟩ := ob hf
                                    refine r_iaload (pc := 1083) hC dL_act_1083 ev83 ?_
                                    refine r_iconst (pc := 1084) (v := 1) hC dL_act_1084 (by decide) ?_
                                    refine r_icmp_eq (pc := 1085) (tgt := 1095) hC dL_act_1085 (by decide) (fun c84 => ?_) (fun c84 => ?_)
                                    · replace hf := oi_t c84 hf
                                      refine r_iconst (pc := 1095) (v := 1) hC dL_act_1095 (by decide) ?_
                                      obtain ⟨v85, ev85, hf⟩ := ob hf
                                      exact r_zret (pc := 1096) hE hC ev85 (f1xI hf) ⟨Nat.le_of_ble_eq_true rfl, Nat.le_of_ble_eq_true rfl⟩ dL_act_1096
                                    · replace hf := oi_f c84 hf
                                      refine r_iload (pc := 1088) hC dL_act_1088 4 rfl ?_
                                      refine r_bipush (pc := 1090) (v := 8) hC dL_act_1090 (by decide) ?_
                                      refine r_icmp_ne (pc := 1092) (tgt := 1097) hC dL_act_1092 (by decide) (fun c86 => ?_) (fun c86 => ?_)
                                      · replace hf := oi_f c86 hf
                                        refine r_iconst (pc := 1097) (v := 1) hC dL_act_1097 (by decide) ?_
                                        refine r_iload_n (pc := 1098) hC dL_act_1098 rfl 3 rfl ?_
                                        refine r_iconst (pc := 1099) (v := 4) hC dL_act_1099 (by decide) ?_
                                        refine r_ishr (pc := 1100) hC dL_act_1100 ?_
                                        refine r_aload (pc := 1101) hC dL_act_1101 6 rfl ?_
                                        refine r_iload (pc := 1103) hC dL_act_1103 0 rfl ?_
                                        obtain ⟨v87, ev87, hf⟩ := ob hf
                                        refine r_iaload (pc := 1105) hC dL_act_1105 ev87 ?_
                                        refine r_iconst (pc := 1106) (v := 1) hC dL_act_1106 (by decide) ?_
                                        refine r_isub (pc := 1107) hC dL_act_1107 ?_
                                        obtain ⟨q88, eq88, hf⟩ := ob hf
                                        refine r_callS (pc := 1108) (As := [DI (a2 >>> (4 &&& 31)), DI (v87 - 1)]) (rest := [DI 1]) (stk' := [DI q88, DI 1]) (k1_L_below eq88) hC wd_2_18 wd_2_19 wd_2_20 wd_1_0 md_L_below rfl ⟨rfl, rfl, Nat.le_of_ble_eq_true rfl, Nat.le_of_ble_eq_true rfl, Nat.le_of_ble_eq_true rfl, Nat.le_of_ble_eq_true rfl⟩ dL_act_1108 rfl (Nat.le_of_ble_eq_true rfl) rfl ?_
                                        refine r_iadd (pc := 1111) hC dL_act_1111 ?_
                                        refine r_istore (pc := 1112) (lv' := [(12, DI (1 + q88)), (11, DI j81), (0, DR a0), (1, DR a1), (2, DI a2), (4, DI v4), (6, DI j8), (9, DR v75), (10, DI j79)]) hC hN dL_act_1112 (by decide) rfl ?_
                                        refine r_aload (pc := 1114) hC dL_act_1114 7 rfl ?_
                                        obtain ⟨s89, es89, hf⟩ := ob hf
                                        refine r_cloneI (pc := 1116) (cap := 8) hC wd_3_78 wd_3_79 wd_3_80 wd_3_81 wd_3_82 (by decide +kernel) ⟨Nat.le_of_ble_eq_true rfl, Nat.le_of_ble_eq_true rfl⟩ ⟨Nat.le_of_ble_eq_true rfl, Nat.le_of_ble_eq_true rfl⟩ dL_act_1116 es89 ?_
                                        obtain ⟨u90, eu90, hf⟩ := ob hf
                                        refine r_castAI (pc := 1119) hC wd_3_84 dL_act_1119 eu90 ?_
                                        refine r_astore (pc := 1122) (lv' := [(13, DR (some st.1)), (12, DI (1 + q88)), (11, DI j81), (0, DR a0), (1, DR a1), (2, DI a2), (4, DI v4), (6, DI j8), (9, DR v75), (10, DI j79)]) hC hN dL_act_1122 (by decide) rfl ?_
                                        refine r_aload (pc := 1124) hC dL_act_1124 0 rfl ?_
                                        refine r_iload (pc := 1126) hC dL_act_1126 2 rfl ?_
                                        refine r_dup2 (pc := 1128) hC dL_act_1128 rfl rfl ?_
                                        obtain ⟨v91, ev91, hf⟩ := ob hf
                                        refine r_iaload (pc := 1129) hC dL_act_1129 ev91 ?_
                                        refine r_iload (pc := 1130) hC dL_act_1130 1 rfl ?_
                                        refine r_isub (pc := 1132) hC dL_act_1132 ?_
                                        obtain ⟨s92, es92, hf⟩ := ob hf
                                        refine r_iastore (pc := 1133) hC dL_act_1133 es92 ?_
                                        refine r_aload (pc := 1134) hC dL_act_1134 8 rfl ?_
                                        refine r_iload (pc := 1136) hC dL_act_1136 2 rfl ?_
                                        refine r_iload (pc := 1138) hC dL_act_1138 1 rfl ?_
                                        obtain ⟨s93, es93, hf⟩ := ob hf
                                        refine r_iastore (pc := 1140) hC dL_act_1140 es93 ?_
                                        refine r_aload_n (pc := 1141) hC dL_act_1141 rfl 4 rfl ?_
                                        refine r_aload_n (pc := 1142) hC dL_act_1142 rfl 4 rfl ?_
                                        obtain ⟨v94, ev94, hf⟩ := ob hf
                                        refine r_getR (pc := 1143) CF6 (k := 2) hC (by decide) wd_3_114 dL_act_1143 ev94 ?_
                                        refine r_aload (pc := 1146) hC dL_act_1146 0 rfl ?_
                                        obtain ⟨q95, eq95, hf⟩ := ob hf
                                        refine r_callS (pc := 1148) (As := [DR v94, DR (some st.1)]) (rest := [DR a1]) (stk' := [DR q95.1, DR a1]) (k1_X6_with eq95) hC wd_2_177 wd_2_178 wd_2_179 wd_1_3 md_X6_with rfl ⟨rfl, rfl, Nat.le_of_ble_eq_true rfl, Nat.le_of_ble_eq_true rfl, Nat.le_of_ble_eq_true rfl, Nat.le_of_ble_eq_true rfl⟩ dL_act_1148 rfl (Nat.le_of_ble_eq_true rfl) rfl ?_
                                        obtain ⟨s96, es96, hf⟩ := ob hf
                                        refine r_put (pc := 1151) CF6 (k := 2) hC (by decide) wd_3_114 rfl (dm_fr (by exact Or.inr ⟨_, rfl⟩) _) dL_act_1151 es96 ?_
                                        refine r_aload_n (pc := 1154) hC dL_act_1154 rfl 3 rfl ?_
                                        refine r_iload (pc := 1155) hC dL_act_1155 7 rfl ?_
                                        refine r_iload (pc := 1157) hC dL_act_1157 1 rfl ?_
                                        refine r_iload (pc := 1159) hC dL_act_1159 9 rfl ?_
                                        obtain ⟨b97, gb97, hf⟩ := ob hf
                                        obtain ⟨q98, eq98, hf⟩ := ob hf
                                        refine r_callV (pc := 1161) (As := [DI j8, DI (1 + q88), DI j79]) (rest := []) (stk' := [DI q98.1]) (k0_X4_split (nx eq98)) gb97 rfl hC wd_3_85 wd_3_86 wd_3_87 wd_3_88 wd_1_1 md_X4_split rfl ⟨rfl, rfl, Nat.le_of_ble_eq_true rfl, Nat.le_of_ble_eq_true rfl, Nat.le_of_ble_eq_true rfl, Nat.le_of_ble_eq_true rfl⟩ dL_act_1161 rfl (Nat.le_of_ble_eq_true rfl) rfl ?_
                                        refine r_iload (pc := 1164) hC dL_act_1164 6 rfl ?_
                                        obtain ⟨j99, ej99, hf⟩ := ob hf
                                        have hJ99 : dm_W Y 3 23 q98.2 1174 [] [DI j99] := by
                                          obtain ⟨v101, ev101, hf⟩ := ob hf
                                          exact r_zret (pc := 1174) hE hC ev101 (f1xI hf) ⟨Nat.le_of_ble_eq_true rfl, Nat.le_of_ble_eq_true rfl⟩ dL_act_1174
                                        replace hf := ej99
                                        clear ej99
                                        refine r_icmp_ne (pc := 1166) (tgt := 1173) hC dL_act_1166 (by decide) (fun c100 => ?_) (fun c100 => ?_)
                                        · replace hf := oi_f c100 hf
                                          refine r_iconst (pc := 1173) (v := 0) hC dL_act_1173 (by decide) ?_
                                          cases hf
                                          exact (dm_sub [] rfl hJ99)
                                        · replace hf := oi_t c100 hf
                                          refine r_iconst (pc := 1169) (v := 1) hC dL_act_1169 (by decide) ?_
                                          refine r_goto (pc := 1170) (tgt := 1174) hC dL_act_1170 (by decide) ?_
                                          cases hf
                                          exact (dm_sub [] rfl hJ99)
                                      · replace hf := oi_t c86 hf
                                        refine r_iconst (pc := 1095) (v := 1) hC dL_act_1095 (by decide) ?_
                                        obtain ⟨v102, ev102, hf⟩ := ob hf
                                        exact r_zret (pc := 1096) hE hC ev102 (f1xI hf) ⟨Nat.le_of_ble_eq_true rfl, Nat.le_of_ble_eq_true rfl⟩ dL_act_1096
                                  replace hf := ej81
                                  clear ej81
                                  refine r_if_eq (pc := 1069) (tgt := 1076) hC dL_act_1069 (by decide) (fun c82 => ?_) (fun c82 => ?_)
                                  · replace hf := oi_t c82 hf
                                    refine r_iconst (pc := 1076) (v := 0) hC dL_act_1076 (by decide) ?_
                                    cases hf
                                    exact (dm_sub [1, 2, 3, 4, 5, 6, 0] rfl hJ81)
                                  · replace hf := oi_f c82 hf
                                    refine r_iconst (pc := 1072) (v := 1) hC dL_act_1072 (by decide) ?_
                                    refine r_goto (pc := 1073) (tgt := 1077) hC dL_act_1073 (by decide) ?_
                                    cases hf
                                    exact (dm_sub [1, 2, 3, 4, 5, 6, 0] rfl hJ81)
                                replace hf := ej79
                                clear ej79
                                refine r_if_ne (pc := 1057) (tgt := 1064) hC dL_act_1057 (by decide) (fun c80 => ?_) (fun c80 => ?_)
                                · replace hf := oi_f c80 hf
                                  refine r_iconst (pc := 1064) (v := 0) hC dL_act_1064 (by decide) ?_
                                  cases hf
                                  exact (dm_sub [4, 5, 6, 8, 3, 0] rfl hJ79)
                                · replace hf := oi_t c80 hf
                                  refine r_iconst (pc := 1060) (v := 1) hC dL_act_1060 (by decide) ?_
                                  refine r_goto (pc := 1061) (tgt := 1065) hC dL_act_1061 (by decide) ?_
                                  cases hf
                                  exact (dm_sub [4, 5, 6, 8, 3, 0] rfl hJ79)
                              · replace hf := oi_t c77 hf
                                refine r_aload (pc := 967) hC dL_act_967 1 rfl ?_
                                obtain ⟨v103, ev103, hf⟩ := ob hf
                                refine r_getI (pc := 969) CF5 (k := 0) hC (by decide) wd_2_36 dL_act_969 ev103 ?_
                                refine r_bipush (pc := 972) (v := 10) hC dL_act_972 (by decide) ?_
                                refine r_aload (pc := 974) hC dL_act_974 0 rfl ?_
                                refine r_iconst (pc := 976) (v := 0) hC dL_act_976 (by decide) ?_
                                obtain ⟨v104, ev104, hf⟩ := ob hf
                                refine r_iaload (pc := 977) hC dL_act_977 ev104 ?_
                                refine r_imul (pc := 978) hC dL_act_978 ?_
                                refine r_aload (pc := 979) hC dL_act_979 0 rfl ?_
                                refine r_iconst (pc := 981) (v := 1) hC dL_act_981 (by decide) ?_
                                obtain ⟨v105, ev105, hf⟩ := ob hf
                                refine r_iaload (pc := 982) hC dL_act_982 ev105 ?_
                                refine r_imul (pc := 983) hC dL_act_983 ?_
                                refine r_iadd (pc := 984) hC dL_act_984 ?_
                                refine r_sipush (pc := 985) (v := 2000) hC dL_act_985 (by decide) ?_
                                refine r_icmp_le (pc := 988) (tgt := 993) hC dL_act_988 (by decide) (fun c106 => ?_) (fun c106 => ?_)
                                · replace hf := oi_t c106 hf
                                  refine r_aload (pc := 993) hC dL_act_993 1 rfl ?_
                                  refine r_dup (pc := 995) hC dL_act_995 rfl ?_
                                  obtain ⟨v107, ev107, hf⟩ := ob hf
                                  refine r_getI (pc := 996) CF5 (k := 0) hC (by decide) wd_2_36 dL_act_996 ev107 ?_
                                  refine r_bipush (pc := 999) (v := 10) hC dL_act_999 (by decide) ?_
                                  refine r_aload (pc := 1001) hC dL_act_1001 0 rfl ?_
                                  refine r_iconst (pc := 1003) (v := 0) hC dL_act_1003 (by decide) ?_
                                  obtain ⟨v108, ev108, hf⟩ := ob hf
                                  refine r_iaload (pc := 1004) hC dL_act_1004 ev108 ?_
                                  refine r_imul (pc := 1005) hC dL_act_1005 ?_
                                  refine r_aload (pc := 1006) hC dL_act_1006 0 rfl ?_
                                  refine r_iconst (pc := 1008) (v := 1) hC dL_act_1008 (by decide) ?_
                                  obtain ⟨v109, ev109, hf⟩ := ob hf
                                  refine r_iaload (pc := 1009) hC dL_act_1009 ev109 ?_
                                  refine r_imul (pc := 1010) hC dL_act_1010 ?_
                                  refine r_iadd (pc := 1011) hC dL_act_1011 ?_
                                  obtain ⟨s110, es110, hf⟩ := ob hf
                                  refine r_put (pc := 1012) CF5 (k := 0) hC (by decide) wd_2_36 rfl ⟨rfl, rfl⟩ dL_act_1012 es110 ?_
                                  refine r_aload_n (pc := 1015) hC dL_act_1015 rfl 5 rfl ?_
                                  refine r_aload_n (pc := 1016) hC dL_act_1016 rfl 5 rfl ?_
                                  obtain ⟨v111, ev111, hf⟩ := ob hf
                                  refine r_getR (pc := 1017) CF6 (k := 2) hC (by decide) wd_3_114 dL_act_1017 ev111 ?_
                                  refine r_iload (pc := 1020) hC dL_act_1020 3 rfl ?_
                                  obtain ⟨q112, eq112, hf⟩ := ob hf
                                  refine r_callS (pc := 1022) (As := [DR v111, DI j8]) (rest := [DR a1]) (stk' := [DR q112.1, DR a1]) (k1_X6_without eq112) hC wd_3_72 wd_3_47 wd_3_48 wd_1_3 md_X6_without rfl ⟨rfl, rfl, Nat.le_of_ble_eq_true rfl, Nat.le_of_ble_eq_true rfl, Nat.le_of_ble_eq_true rfl, Nat.le_of_ble_eq_true rfl⟩ dL_act_1022 rfl (Nat.le_of_ble_eq_true rfl) rfl ?_
                                  obtain ⟨s113, es113, hf⟩ := ob hf
                                  refine r_put (pc := 1025) CF6 (k := 2) hC (by decide) wd_3_114 rfl (dm_fr (by exact Or.inr ⟨_, rfl⟩) _) dL_act_1025 es113 ?_
                                  refine r_aload_n (pc := 1028) hC dL_act_1028 rfl 4 rfl ?_
                                  refine r_iload (pc := 1029) hC dL_act_1029 3 rfl ?_
                                  refine r_iload (pc := 1031) hC dL_act_1031 9 rfl ?_
                                  obtain ⟨b114, gb114, hf⟩ := ob hf
                                  obtain ⟨q115, eq115, hf⟩ := ob hf
                                  refine r_callV (pc := 1033) (As := [DI j8, DI j5]) (rest := []) (stk' := [DI q115.1]) (k0_X4_melt (nx eq115)) gb114 rfl hC wd_3_73 wd_3_74 wd_3_75 wd_3_76 wd_1_1 md_X4_melt rfl ⟨rfl, rfl, Nat.le_of_ble_eq_true rfl, Nat.le_of_ble_eq_true rfl, Nat.le_of_ble_eq_true rfl, Nat.le_of_ble_eq_true rfl⟩ dL_act_1033 rfl (Nat.le_of_ble_eq_true rfl) rfl ?_
                                  refine r_aload (pc := 1036) hC dL_act_1036 1 rfl ?_
                                  obtain ⟨v116, ev116, hf⟩ := ob hf
                                  refine r_getI (pc := 1038) CF5 (k := 0) hC (by decide) wd_2_36 dL_act_1038 ev116 ?_
                                  obtain ⟨j117, ej117, hf⟩ := ob hf
                                  have hJ117 : dm_W Y 1 10 q115.2 1049 [] [DI j117] := by
                                    obtain ⟨v119, ev119, hf⟩ := ob hf
                                    exact r_zret (pc := 1049) hE hC ev119 (f1xI hf) ⟨Nat.le_of_ble_eq_true rfl, Nat.le_of_ble_eq_true rfl⟩ dL_act_1049
                                  replace hf := ej117
                                  clear ej117
                                  refine r_icmp_ne (pc := 1041) (tgt := 1048) hC dL_act_1041 (by decide) (fun c118 => ?_) (fun c118 => ?_)
                                  · replace hf := oi_f c118 hf
                                    refine r_iconst (pc := 1048) (v := 0) hC dL_act_1048 (by decide) ?_
                                    cases hf
                                    exact (dm_sub [] rfl hJ117)
                                  · replace hf := oi_t c118 hf
                                    refine r_iconst (pc := 1044) (v := 1) hC dL_act_1044 (by decide) ?_
                                    refine r_goto (pc := 1045) (tgt := 1049) hC dL_act_1045 (by decide) ?_
                                    cases hf
                                    exact (dm_sub [] rfl hJ117)
                                · replace hf := oi_f c106 hf
                                  refine r_iconst (pc := 991) (v := 1) hC dL_act_991 (by decide) ?_
                                  obtain ⟨v120, ev120, hf⟩ := ob hf
                                  exact r_zret (pc := 992) hE hC ev120 (f1xI hf) ⟨Nat.le_of_ble_eq_true rfl, Nat.le_of_ble_eq_true rfl⟩ dL_act_992
                            · replace hf := oi_t c76 hf
                              refine r_aload (pc := 917) hC dL_act_917 0 rfl ?_
                              refine r_iconst (pc := 919) (v := 3) hC dL_act_919 (by decide) ?_
                              refine r_aload (pc := 920) hC dL_act_920 0 rfl ?_
                              refine r_iconst (pc := 922) (v := 3) hC dL_act_922 (by decide) ?_
                              obtain ⟨v121, ev121, hf⟩ := ob hf
                              refine r_iaload (pc := 923) hC dL_act_923 ev121 ?_
                              refine r_bipush (pc := 924) (v := 15) hC dL_act_924 (by decide) ?_
                              obtain ⟨j122, ej122, hf⟩ := ob hf
                              have hJ122 : dm_W Y 0 0 st 940 [(0, DR a0), (6, DI j8), (9, DR v75)] [DI j122, DI 3, DR v75] := by
                                obtain ⟨s125, es125, hf⟩ := ob hf
                                refine r_iastore (pc := 940) hC dL_act_940 es125 ?_
                                refine r_aload_n (pc := 941) hC dL_act_941 rfl 0 rfl ?_
                                refine r_iload (pc := 942) hC dL_act_942 1 rfl ?_
                                obtain ⟨b126, gb126, hf⟩ := ob hf
                                obtain ⟨q127, eq127, hf⟩ := ob hf
                                refine r_callV (pc := 944) (As := [DI j8]) (rest := []) (stk' := [DI q127.1]) (k0_X4_polish (nx eq127)) gb126 rfl hC wd_1_77 wd_1_78 wd_1_79 wd_1_80 wd_1_1 md_X4_polish rfl ⟨rfl, rfl, Nat.le_of_ble_eq_true rfl, Nat.le_of_ble_eq_true rfl, Nat.le_of_ble_eq_true rfl, Nat.le_of_ble_eq_true rfl⟩ dL_act_944 rfl (Nat.le_of_ble_eq_true rfl) rfl ?_
                                refine r_aload (pc := 947) hC dL_act_947 2 rfl ?_
                                refine r_iconst (pc := 949) (v := 3) hC dL_act_949 (by decide) ?_
                                obtain ⟨v128, ev128, hf⟩ := ob hf
                                refine r_iaload (pc := 950) hC dL_act_950 ev128 ?_
                                obtain ⟨j129, ej129, hf⟩ := ob hf
                                have hJ129 : dm_W Y 0 0 q127.2 959 [] [DI j129] := by
                                  obtain ⟨v131, ev131, hf⟩ := ob hf
                                  exact r_zret (pc := 959) hE hC ev131 (f1xI hf) ⟨Nat.le_of_ble_eq_true rfl, Nat.le_of_ble_eq_true rfl⟩ dL_act_959
                                replace hf := ej129
                                clear ej129
                                refine r_icmp_ne (pc := 951) (tgt := 958) hC dL_act_951 (by decide) (fun c130 => ?_) (fun c130 => ?_)
                                · replace hf := oi_f c130 hf
                                  refine r_iconst (pc := 958) (v := 0) hC dL_act_958 (by decide) ?_
                                  cases hf
                                  exact (dm_sub [] rfl hJ129)
                                · replace hf := oi_t c130 hf
                                  refine r_iconst (pc := 954) (v := 1) hC dL_act_954 (by decide) ?_
                                  refine r_goto (pc := 955) (tgt := 959) hC dL_act_955 (by decide) ?_
                                  cases hf
                                  exact (dm_sub [] rfl hJ129)
                              replace hf := ej122
                              clear ej122
                              refine r_icmp_ge (pc := 926) (tgt := 933) hC dL_act_926 (by decide) (fun c123 => ?_) (fun c123 => ?_)
                              · replace hf := oi_t c123 hf
                                refine r_aload (pc := 933) hC dL_act_933 0 rfl ?_
                                refine r_iconst (pc := 935) (v := 3) hC dL_act_935 (by decide) ?_
                                obtain ⟨v124, ev124, hf⟩ := ob hf
                                refine r_iaload (pc := 936) hC dL_act_936 ev124 ?_
                                refine r_bipush (pc := 937) (v := 15) hC dL_act_937 (by decide) ?_
                                refine r_isub (pc := 939) hC dL_act_939 ?_
                                cases hf
                                exact (dm_sub [4, 3, 0] rfl hJ122)
                              · replace hf := oi_f c123 hf
                                refine r_iconst (pc := 929) (v := 0) hC dL_act_929 (by decide) ?_
                                refine r_goto (pc := 930) (tgt := 940) hC dL_act_930 (by decide) ?_
                                cases hf
                                exact (dm_sub [4, 3, 0] rfl hJ122)
                          · replace hf := oi_t c73 hf
                            refine r_iconst (pc := 899) (v := 1) hC dL_act_899 (by decide) ?_
                            obtain ⟨v132, ev132, hf⟩ := ob hf
                            exact r_zret (pc := 900) hE hC ev132 (f1xI hf) ⟨Nat.le_of_ble_eq_true rfl, Nat.le_of_ble_eq_true rfl⟩ dL_act_900
                        · replace hf := oi_t c72 hf
                          refine r_bipush (pc := 827) (v := 10) hC dL_act_827 (by decide) ?_
                          refine r_iload_n (pc := 829) hC dL_act_829 rfl 5 rfl ?_
                          refine r_iconst (pc := 830) (v := 3) hC dL_act_830 (by decide) ?_
                          refine r_ishr (pc := 831) hC dL_act_831 ?_
                          refine r_bipush (pc := 832) (v := 31) hC dL_act_832 (by decide) ?_
                          obtain ⟨q133, eq133, hf⟩ := ob hf
                          refine r_callS (pc := 834) (As := [DI (a2 >>> (3 &&& 31)), DI 31]) (rest := [DI 10]) (stk' := [DI q133, DI 10]) (k1_L_below eq133) hC wd_2_18 wd_2_19 wd_2_20 wd_1_0 md_L_below rfl ⟨rfl, rfl, Nat.le_of_ble_eq_true rfl, Nat.le_of_ble_eq_true rfl, Nat.le_of_ble_eq_true rfl, Nat.le_of_ble_eq_true rfl⟩ dL_act_834 rfl (Nat.le_of_ble_eq_true rfl) rfl ?_
                          refine r_iadd (pc := 837) hC dL_act_837 ?_
                          refine r_istore (pc := 838) (lv' := [(9, DI (10 + q133)), (8, DR v37), (7, DI q11), (6, DI j8), (0, DR a0), (1, DR a1), (2, DI a2), (3, DI v2), (4, DI v4), (5, DI j5)]) hC hN dL_act_838 (by decide) rfl ?_
                          refine r_iconst (pc := 840) (v := 1) hC dL_act_840 (by decide) ?_
                          refine r_iload_n (pc := 841) hC dL_act_841 rfl 6 rfl ?_
                          refine r_iconst (pc := 842) (v := 5) hC dL_act_842 (by decide) ?_
                          refine r_ishr (pc := 843) hC dL_act_843 ?_
                          refine r_iconst (pc := 844) (v := 5) hC dL_act_844 (by decide) ?_
                          obtain ⟨q134, eq134, hf⟩ := ob hf
                          refine r_callS (pc := 845) (As := [DI (a2 >>> (5 &&& 31)), DI 5]) (rest := [DI 1]) (stk' := [DI q134, DI 1]) (k1_L_below eq134) hC wd_2_18 wd_2_19 wd_2_20 wd_1_0 md_L_below rfl ⟨rfl, rfl, Nat.le_of_ble_eq_true rfl, Nat.le_of_ble_eq_true rfl, Nat.le_of_ble_eq_true rfl, Nat.le_of_ble_eq_true rfl⟩ dL_act_845 rfl (Nat.le_of_ble_eq_true rfl) rfl ?_
                          refine r_iadd (pc := 848) hC dL_act_848 ?_
                          refine r_istore (pc := 849) (lv' := [(10, DI (1 + q134)), (9, DI (10 + q133)), (8, DR v37), (7, DI q11), (6, DI j8), (0, DR a0), (1, DR a1), (2, DI a2), (3, DI v2), (4, DI v4), (5, DI j5)]) hC hN dL_act_849 (by decide) rfl ?_
                          refine r_iconst (pc := 851) (v := 0) hC dL_act_851 (by decide) ?_
                          refine r_istore (pc := 852) (lv' := [(11, DI 0), (10, DI (1 + q134)), (9, DI (10 + q133)), (8, DR v37), (7, DI q11), (6, DI j8), (0, DR a0), (1, DR a1), (2, DI a2), (3, DI v2), (4, DI v4), (5, DI j5)]) hC hN dL_act_852 (by decide) rfl ?_
                          obtain ⟨b135, eb135, hf⟩ := ob hf
                          refine dm_sub (lv' := [(0, DR a0), (1, DR a1), (9, DI (10 + q133)), (10, DI (1 + q134)), (11, DI 0)]) [6, 7, 2, 1, 0] rfl ?_
                          refine dlp_W _ (fun (z135 : DSt × Int32) => dm_W Y 0 0 z135.1 854 [(0, DR a0), (1, DR a1), (9, DI (10 + q133)), (10, DI (1 + q134)), (11, DI z135.2)] []) (fun (b135 : DSt × Int32) => dm_W Y 0 0 b135.1 873 [(0, DR a0), (1, DR a1), (9, DI (10 + q133)), (10, DI (1 + q134)), (11, DI b135.2)] []) ?_ eb135 ?_
                          · intro z135 r hf hk
                            unfold fL_act_L854 at hf
                            refine r_iload (pc := 854) hC dL_act_854 4 rfl ?_
                            refine r_iload (pc := 856) hC dL_act_856 3 rfl ?_
                            refine r_icmp_ge (pc := 858) (tgt := 873) hC dL_act_858 (by decide) (fun c136 => ?_) (fun c136 => ?_)
                            · replace hf := oi_t c136 hf
                              cases hf
                              exact dm_sub [0, 1, 2, 3, 4] rfl hk
                            · replace hf := oi_f c136 hf
                              refine r_aload_n (pc := 861) hC dL_act_861 rfl 1 rfl ?_
                              refine r_iload (pc := 862) hC dL_act_862 2 rfl ?_
                              obtain ⟨b137, gb137, hf⟩ := ob hf
                              obtain ⟨q138, eq138, hf⟩ := ob hf
                              refine r_callV (pc := 864) (As := [DI (10 + q133)]) (rest := []) (stk' := []) (k1_X6_pass eq138) gb137 rfl hC wd_3_49 wd_3_50 wd_3_51 wd_3_52 wd_1_3 md_X6_pass rfl ⟨rfl, rfl, Nat.le_of_ble_eq_true rfl, Nat.le_of_ble_eq_true rfl, Nat.le_of_ble_eq_true rfl, Nat.le_of_ble_eq_true rfl⟩ dL_act_864 rfl (Nat.le_of_ble_eq_true rfl) rfl ?_
                              refine r_iinc (pc := 867) (pos := 4) (v := (z135.2 + 1)) (lv' := [(11, DI (z135.2 + 1)), (0, DR a0), (1, DR a1), (9, DI (10 + q133)), (10, DI (1 + q134))]) hC hN dL_act_867 rfl rfl (by decide) rfl ?_
                              refine r_goto (pc := 870) (tgt := 854) hC dL_act_870 (by decide) ?_
                              cases hf
                              exact dm_sub [1, 2, 3, 4, 0] rfl hk
                          · refine r_aload_n (pc := 873) hC dL_act_873 rfl 0 rfl ?_
                            refine r_iload (pc := 874) hC dL_act_874 2 rfl ?_
                            refine r_iload (pc := 876) hC dL_act_876 3 rfl ?_
                            obtain ⟨b139, gb139, hf⟩ := ob hf
                            obtain ⟨q140, eq140, hf⟩ := ob hf
                            refine r_callV (pc := 878) (As := [DI (10 + q133), DI (1 + q134)]) (rest := []) (stk' := [DI q140.1]) (k0_X4_pass (nx eq140)) gb139 rfl hC wd_3_53 wd_3_54 wd_3_55 wd_3_56 wd_1_1 md_X4_pass rfl ⟨rfl, rfl, Nat.le_of_ble_eq_true rfl, Nat.le_of_ble_eq_true rfl, Nat.le_of_ble_eq_true rfl, Nat.le_of_ble_eq_true rfl⟩ dL_act_878 rfl (Nat.le_of_ble_eq_true rfl) rfl ?_
                            refine r_aload_n (pc := 881) hC dL_act_881 rfl 1 rfl ?_
                            obtain ⟨b141, gb141, hf⟩ := ob hf
                            obtain ⟨q142, eq142, hf⟩ := ob hf
                            refine r_callV (pc := 882) (As := []) (rest := [DI q140.1]) (stk' := [DI q142, DI q140.1]) (k1_X6_bloomed eq142) gb141 rfl hC wd_3_71 wd_2_0 wd_2_1 wd_2_2 wd_1_3 md_X6_bloomed rfl ⟨rfl, rfl, Nat.le_of_ble_eq_true rfl, Nat.le_of_ble_eq_true rfl, Nat.le_of_ble_eq_true rfl, Nat.le_of_ble_eq_true rfl⟩ dL_act_882 rfl (Nat.le_of_ble_eq_true rfl) rfl ?_
                            obtain ⟨j143, ej143, hf⟩ := ob hf
                            have hJ143 : dm_W Y 0 0 q140.2 893 [] [DI j143] := by
                              obtain ⟨v145, ev145, hf⟩ := ob hf
                              exact r_zret (pc := 893) hE hC ev145 (f1xI hf) ⟨Nat.le_of_ble_eq_true rfl, Nat.le_of_ble_eq_true rfl⟩ dL_act_893
                            replace hf := ej143
                            clear ej143
                            refine r_icmp_ne (pc := 885) (tgt := 892) hC dL_act_885 (by decide) (fun c144 => ?_) (fun c144 => ?_)
                            · replace hf := oi_f c144 hf
                              refine r_iconst (pc := 892) (v := 0) hC dL_act_892 (by decide) ?_
                              cases hf
                              exact (dm_sub [] rfl hJ143)
                            · replace hf := oi_t c144 hf
                              refine r_iconst (pc := 888) (v := 1) hC dL_act_888 (by decide) ?_
                              refine r_goto (pc := 889) (tgt := 893) hC dL_act_889 (by decide) ?_
                              cases hf
                              exact (dm_sub [] rfl hJ143)
                      · replace hf := oi_t c71 hf
                        refine r_aload_n (pc := 803) hC dL_act_803 rfl 3 rfl ?_
                        obtain ⟨b146, gb146, hf⟩ := ob hf
                        obtain ⟨q147, eq147, hf⟩ := ob hf
                        refine r_callV (pc := 804) (As := []) (rest := []) (stk' := [DI q147.1]) (k1_X4_fill eq147) gb146 rfl hC wd_3_18 wd_3_19 wd_3_20 wd_3_21 wd_1_1 md_X4_fill rfl ⟨rfl, rfl, Nat.le_of_ble_eq_true rfl, Nat.le_of_ble_eq_true rfl, Nat.le_of_ble_eq_true rfl, Nat.le_of_ble_eq_true rfl⟩ dL_act_804 rfl (Nat.le_of_ble_eq_true rfl) rfl ?_
                        refine r_aload_n (pc := 807) hC dL_act_807 rfl 4 rfl ?_
                        obtain ⟨b148, gb148, hf⟩ := ob hf
                        obtain ⟨q149, eq149, hf⟩ := ob hf
                        refine r_callV (pc := 808) (As := []) (rest := [DI q147.1]) (stk' := [DI q149.1, DI q147.1]) (k1_X6_fill eq149) gb148 rfl hC wd_3_42 wd_3_43 wd_3_44 wd_3_45 wd_1_3 md_X6_fill rfl ⟨rfl, rfl, Nat.le_of_ble_eq_true rfl, Nat.le_of_ble_eq_true rfl, Nat.le_of_ble_eq_true rfl, Nat.le_of_ble_eq_true rfl⟩ dL_act_808 rfl (Nat.le_of_ble_eq_true rfl) rfl ?_
                        obtain ⟨j150, ej150, hf⟩ := ob hf
                        have hJ150 : dm_W Y 63 630 q149.2 819 [] [DI j150] := by
                          obtain ⟨v152, ev152, hf⟩ := ob hf
                          exact r_zret (pc := 819) hE hC ev152 (f1xI hf) ⟨Nat.le_of_ble_eq_true rfl, Nat.le_of_ble_eq_true rfl⟩ dL_act_819
                        replace hf := ej150
                        clear ej150
                        refine r_icmp_ne (pc := 811) (tgt := 818) hC dL_act_811 (by decide) (fun c151 => ?_) (fun c151 => ?_)
                        · replace hf := oi_f c151 hf
                          refine r_iconst (pc := 818) (v := 0) hC dL_act_818 (by decide) ?_
                          cases hf
                          exact (dm_sub [] rfl hJ150)
                        · replace hf := oi_t c151 hf
                          refine r_iconst (pc := 814) (v := 1) hC dL_act_814 (by decide) ?_
                          refine r_goto (pc := 815) (tgt := 819) hC dL_act_815 (by decide) ?_
                          cases hf
                          exact (dm_sub [] rfl hJ150)
                    · replace hf := oi_t c70 hf
                      refine r_aload_n (pc := 689) hC dL_act_689 rfl 4 rfl ?_
                      obtain ⟨v153, ev153, hf⟩ := ob hf
                      refine r_getR (pc := 690) CF6 (k := 3) hC (by decide) wd_3_116 dL_act_690 ev153 ?_
                      obtain ⟨v154, ev154, hf⟩ := ob hf
                      refine r_alen (pc := 693) (kd := 6) (fun _ => rfl) hC dL_act_693 ev154 ?_
                      refine r_bipush (pc := 694) (v := 6) hC dL_act_694 (by decide) ?_
                      refine r_icmp_ne (pc := 696) (tgt := 701) hC dL_act_696 (by decide) (fun c155 => ?_) (fun c155 => ?_)
                      · replace hf := oi_f c155 hf
                        refine r_iconst (pc := 701) (v := 5) hC dL_act_701 (by decide) ?_
                        obtain ⟨s156, es156, hf⟩ := ob hf
                        refine r_newa (pc := 702) (atype := .int) (t := .int) (kd := 0) (N := 5) (x := nI0 5) rfl (fun _ => rfl) (fun _ h => nomatch h) (fun _ => rfl) hC wd_1_41 (by decide) rfl (Nat.le_of_ble_eq_true rfl) ⟨Nat.le_of_ble_eq_true rfl, Nat.le_of_ble_eq_true rfl⟩ dL_act_702 ?_
                        rw [Option.some.inj es156]
                        refine r_dup (pc := 704) hC dL_act_704 rfl ?_
                        refine r_iconst (pc := 705) (v := 0) hC dL_act_705 (by decide) ?_
                        refine r_iconst (pc := 706) (v := 1) hC dL_act_706 (by decide) ?_
                        refine r_iload_n (pc := 707) hC dL_act_707 rfl 5 rfl ?_
                        refine r_iconst (pc := 708) (v := 3) hC dL_act_708 (by decide) ?_
                        refine r_ishr (pc := 709) hC dL_act_709 ?_
                        refine r_iload_n (pc := 710) hC dL_act_710 rfl 5 rfl ?_
                        refine r_iconst (pc := 711) (v := 2) hC dL_act_711 (by decide) ?_
                        obtain ⟨q157, eq157, hf⟩ := ob hf
                        refine r_callS (pc := 712) (As := [DI a2, DI 2]) (rest := [DI (a2 >>> (3 &&& 31)), DI 1, DI 0, DR (some st.1), DR (some st.1)]) (stk' := [DI q157, DI (a2 >>> (3 &&& 31)), DI 1, DI 0, DR (some st.1), DR (some st.1)]) (k1_L_below eq157) hC wd_2_18 wd_2_19 wd_2_20 wd_1_0 md_L_below rfl ⟨rfl, rfl, Nat.le_of_ble_eq_true rfl, Nat.le_of_ble_eq_true rfl, Nat.le_of_ble_eq_true rfl, Nat.le_of_ble_eq_true rfl⟩ dL_act_712 rfl (Nat.le_of_ble_eq_true rfl) rfl ?_
                        obtain ⟨j158, ej158, hf⟩ := ob hf
                        have hJ158 : dm_W Y 1 5 s156 725 [(0, DR a0), (1, DR a1), (2, DI a2)] [DI j158, DI (a2 >>> (3 &&& 31)), DI 1, DI 0, DR (some st.1), DR (some st.1)] := by
                          obtain ⟨q160, eq160, hf⟩ := ob hf
                          refine r_callS (pc := 725) (As := [DI (a2 >>> (3 &&& 31)), DI j158]) (rest := [DI 1, DI 0, DR (some st.1), DR (some st.1)]) (stk' := [DI q160, DI 1, DI 0, DR (some st.1), DR (some st.1)]) (k1_L_below eq160) hC wd_2_18 wd_2_19 wd_2_20 wd_1_0 md_L_below rfl ⟨rfl, rfl, Nat.le_of_ble_eq_true rfl, Nat.le_of_ble_eq_true rfl, Nat.le_of_ble_eq_true rfl, Nat.le_of_ble_eq_true rfl⟩ dL_act_725 rfl (Nat.le_of_ble_eq_true rfl) rfl ?_
                          refine r_iadd (pc := 728) hC dL_act_728 ?_
                          obtain ⟨s161, es161, hf⟩ := ob hf
                          refine r_iastore (pc := 729) hC dL_act_729 es161 ?_
                          refine r_dup (pc := 730) hC dL_act_730 rfl ?_
                          refine r_iconst (pc := 731) (v := 1) hC dL_act_731 (by decide) ?_
                          refine r_iload_n (pc := 732) hC dL_act_732 rfl 2 rfl ?_
                          refine r_iconst (pc := 733) (v := 4) hC dL_act_733 (by decide) ?_
                          refine r_ishr (pc := 734) hC dL_act_734 ?_
                          refine r_bipush (pc := 735) (v := 101) hC dL_act_735 (by decide) ?_
                          obtain ⟨q162, eq162, hf⟩ := ob hf
                          refine r_callS (pc := 737) (As := [DI (a2 >>> (4 &&& 31)), DI 101]) (rest := [DI 1, DR (some st.1), DR (some st.1)]) (stk' := [DI q162, DI 1, DR (some st.1), DR (some st.1)]) (k1_L_below eq162) hC wd_2_18 wd_2_19 wd_2_20 wd_1_0 md_L_below rfl ⟨rfl, rfl, Nat.le_of_ble_eq_true rfl, Nat.le_of_ble_eq_true rfl, Nat.le_of_ble_eq_true rfl, Nat.le_of_ble_eq_true rfl⟩ dL_act_737 rfl (Nat.le_of_ble_eq_true rfl) rfl ?_
                          obtain ⟨s163, es163, hf⟩ := ob hf
                          refine r_iastore (pc := 740) hC dL_act_740 es163 ?_
                          refine r_dup (pc := 741) hC dL_act_741 rfl ?_
                          refine r_iconst (pc := 742) (v := 2) hC dL_act_742 (by decide) ?_
                          refine r_iconst (pc := 743) (v := 0) hC dL_act_743 (by decide) ?_
                          obtain ⟨s164, es164, hf⟩ := ob hf
                          refine r_iastore (pc := 744) hC dL_act_744 es164 ?_
                          refine r_dup (pc := 745) hC dL_act_745 rfl ?_
                          refine r_iconst (pc := 746) (v := 3) hC dL_act_746 (by decide) ?_
                          refine r_iconst (pc := 747) (v := (-1)) hC dL_act_747 (by decide) ?_
                          obtain ⟨s165, es165, hf⟩ := ob hf
                          refine r_iastore (pc := 748) hC dL_act_748 es165 ?_
                          refine r_dup (pc := 749) hC dL_act_749 rfl ?_
                          refine r_iconst (pc := 750) (v := 4) hC dL_act_750 (by decide) ?_
                          refine r_iconst (pc := 751) (v := (-1)) hC dL_act_751 (by decide) ?_
                          obtain ⟨s166, es166, hf⟩ := ob hf
                          refine r_iastore (pc := 752) hC dL_act_752 es166 ?_
                          refine r_astore (pc := 753) (lv' := [(9, DR (some st.1)), (0, DR a0), (1, DR a1), (2, DI a2)]) hC hN dL_act_753 (by decide) rfl ?_
                          refine r_aload_n (pc := 755) hC dL_act_755 rfl 2 rfl ?_
                          refine r_aload_n (pc := 756) hC dL_act_756 rfl 2 rfl ?_
                          obtain ⟨v167, ev167, hf⟩ := ob hf
                          refine r_getR (pc := 757) CF6 (k := 3) hC (by decide) wd_3_116 dL_act_757 ev167 ?_
                          refine r_aload (pc := 760) hC dL_act_760 0 rfl ?_
                          obtain ⟨q168, eq168, hf⟩ := ob hf
                          refine r_callS (pc := 762) (As := [DR v167, DR (some st.1)]) (rest := [DR a1]) (stk' := [DR q168.1, DR a1]) (k1_X6_with eq168) hC wd_2_177 wd_2_178 wd_2_179 wd_1_3 md_X6_with rfl ⟨rfl, rfl, Nat.le_of_ble_eq_true rfl, Nat.le_of_ble_eq_true rfl, Nat.le_of_ble_eq_true rfl, Nat.le_of_ble_eq_true rfl⟩ dL_act_762 rfl (Nat.le_of_ble_eq_true rfl) rfl ?_
                          obtain ⟨s169, es169, hf⟩ := ob hf
                          refine r_put (pc := 765) CF6 (k := 3) hC (by decide) wd_3_116 rfl (dm_fr (by exact Or.inr ⟨_, rfl⟩) _) dL_act_765 es169 ?_
                          refine r_aload_n (pc := 768) hC dL_act_768 rfl 1 rfl ?_
                          refine r_aload (pc := 769) hC dL_act_769 0 rfl ?_
                          refine r_iconst (pc := 771) (v := 0) hC dL_act_771 (by decide) ?_
                          obtain ⟨v170, ev170, hf⟩ := ob hf
                          refine r_iaload (pc := 772) hC dL_act_772 ev170 ?_
                          refine r_aload (pc := 773) hC dL_act_773 0 rfl ?_
                          refine r_iconst (pc := 775) (v := 1) hC dL_act_775 (by decide) ?_
                          obtain ⟨v171, ev171, hf⟩ := ob hf
                          refine r_iaload (pc := 776) hC dL_act_776 ev171 ?_
                          obtain ⟨b172, gb172, hf⟩ := ob hf
                          obtain ⟨q173, eq173, hf⟩ := ob hf
                          refine r_callV (pc := 777) (As := [DI v170, DI v171]) (rest := []) (stk' := [DI q173.1]) (k0_X4_box (nx eq173)) gb172 rfl hC wd_2_226 wd_2_227 wd_2_228 wd_2_229 wd_1_1 md_X4_box rfl ⟨rfl, rfl, Nat.le_of_ble_eq_true rfl, Nat.le_of_ble_eq_true rfl, Nat.le_of_ble_eq_true rfl, Nat.le_of_ble_eq_true rfl⟩ dL_act_777 rfl (Nat.le_of_ble_eq_true rfl) rfl ?_
                          refine r_aload_n (pc := 780) hC dL_act_780 rfl 2 rfl ?_
                          obtain ⟨v174, ev174, hf⟩ := ob hf
                          refine r_getR (pc := 781) CF6 (k := 3) hC (by decide) wd_3_116 dL_act_781 ev174 ?_
                          obtain ⟨v175, ev175, hf⟩ := ob hf
                          refine r_alen (pc := 784) (kd := 6) (fun _ => rfl) hC dL_act_784 ev175 ?_
                          refine r_iconst (pc := 785) (v := 1) hC dL_act_785 (by decide) ?_
                          refine r_isub (pc := 786) hC dL_act_786 ?_
                          obtain ⟨j176, ej176, hf⟩ := ob hf
                          have hJ176 : dm_W Y 3 20 q173.2 795 [] [DI j176] := by
                            obtain ⟨v178, ev178, hf⟩ := ob hf
                            exact r_zret (pc := 795) hE hC ev178 (f1xI hf) ⟨Nat.le_of_ble_eq_true rfl, Nat.le_of_ble_eq_true rfl⟩ dL_act_795
                          replace hf := ej176
                          clear ej176
                          refine r_icmp_ne (pc := 787) (tgt := 794) hC dL_act_787 (by decide) (fun c177 => ?_) (fun c177 => ?_)
                          · replace hf := oi_f c177 hf
                            refine r_iconst (pc := 794) (v := 0) hC dL_act_794 (by decide) ?_
                            cases hf
                            exact (dm_sub [] rfl hJ176)
                          · replace hf := oi_t c177 hf
                            refine r_iconst (pc := 790) (v := 1) hC dL_act_790 (by decide) ?_
                            refine r_goto (pc := 791) (tgt := 795) hC dL_act_791 (by decide) ?_
                            cases hf
                            exact (dm_sub [] rfl hJ176)
                        replace hf := ej158
                        clear ej158
                        refine r_if_ne (pc := 715) (tgt := 723) hC dL_act_715 (by decide) (fun c159 => ?_) (fun c159 => ?_)
                        · replace hf := oi_f c159 hf
                          refine r_bipush (pc := 723) (v := 9) hC dL_act_723 (by decide) ?_
                          cases hf
                          exact (dm_sub [3, 4, 5] rfl hJ158)
                        · replace hf := oi_t c159 hf
                          refine r_bipush (pc := 718) (v := 36) hC dL_act_718 (by decide) ?_
                          refine r_goto (pc := 720) (tgt := 725) hC dL_act_720 (by decide) ?_
                          cases hf
                          exact (dm_sub [3, 4, 5] rfl hJ158)
                      · replace hf := oi_t c155 hf
                        refine r_iconst (pc := 699) (v := 1) hC dL_act_699 (by decide) ?_
                        obtain ⟨v179, ev179, hf⟩ := ob hf
                        exact r_zret (pc := 700) hE hC ev179 (f1xI hf) ⟨Nat.le_of_ble_eq_true rfl, Nat.le_of_ble_eq_true rfl⟩ dL_act_700
                · replace hf := oi_f c41 hf
                  refine r_iconst (pc := 546) (v := 1) hC dL_act_546 (by decide) ?_
                  refine r_iload_n (pc := 547) hC dL_act_547 rfl 5 rfl ?_
                  refine r_iconst (pc := 548) (v := 3) hC dL_act_548 (by decide) ?_
                  refine r_ishr (pc := 549) hC dL_act_549 ?_
                  refine r_bipush (pc := 550) (v := 6) hC dL_act_550 (by decide) ?_
                  obtain ⟨q180, eq180, hf⟩ := ob hf
                  refine r_callS (pc := 552) (As := [DI (a2 >>> (3 &&& 31)), DI 6]) (rest := [DI 1]) (stk' := [DI q180, DI 1]) (k1_L_below eq180) hC wd_2_18 wd_2_19 wd_2_20 wd_1_0 md_L_below rfl ⟨rfl, rfl, Nat.le_of_ble_eq_true rfl, Nat.le_of_ble_eq_true rfl, Nat.le_of_ble_eq_true rfl, Nat.le_of_ble_eq_true rfl⟩ dL_act_552 rfl (Nat.le_of_ble_eq_true rfl) rfl ?_
                  refine r_iadd (pc := 555) hC dL_act_555 ?_
                  refine r_istore (pc := 556) (lv' := [(9, DI (1 + q180)), (8, DR v37), (7, DI q11), (6, DI j8), (0, DR a0), (1, DR a1), (2, DI a2), (3, DI v2), (4, DI v4), (5, DI j5)]) hC hN dL_act_556 (by decide) rfl ?_
                  refine r_iconst (pc := 558) (v := 1) hC dL_act_558 (by decide) ?_
                  refine r_iload_n (pc := 559) hC dL_act_559 rfl 6 rfl ?_
                  refine r_bipush (pc := 560) (v := 6) hC dL_act_560 (by decide) ?_
                  refine r_ishr (pc := 562) hC dL_act_562 ?_
                  refine r_bipush (pc := 563) (v := 6) hC dL_act_563 (by decide) ?_
                  obtain ⟨q181, eq181, hf⟩ := ob hf
                  refine r_callS (pc := 565) (As := [DI (a2 >>> (6 &&& 31)), DI 6]) (rest := [DI 1]) (stk' := [DI q181, DI 1]) (k1_L_below eq181) hC wd_2_18 wd_2_19 wd_2_20 wd_1_0 md_L_below rfl ⟨rfl, rfl, Nat.le_of_ble_eq_true rfl, Nat.le_of_ble_eq_true rfl, Nat.le_of_ble_eq_true rfl, Nat.le_of_ble_eq_true rfl⟩ dL_act_565 rfl (Nat.le_of_ble_eq_true rfl) rfl ?_
                  refine r_iadd (pc := 568) hC dL_act_568 ?_
                  refine r_istore (pc := 569) (lv' := [(10, DI (1 + q181)), (9, DI (1 + q180)), (8, DR v37), (7, DI q11), (6, DI j8), (0, DR a0), (1, DR a1), (2, DI a2), (3, DI v2), (4, DI v4), (5, DI j5)]) hC hN dL_act_569 (by decide) rfl ?_
                  refine r_iload (pc := 571) hC dL_act_571 9 rfl ?_
                  refine r_bipush (pc := 573) (v := 8) hC dL_act_573 (by decide) ?_
                  refine r_icmp_eq (pc := 575) (tgt := 594) hC dL_act_575 (by decide) (fun c182 => ?_) (fun c182 => ?_)
                  · replace hf := oi_t c182 hf
                    refine r_iconst (pc := 594) (v := 1) hC dL_act_594 (by decide) ?_
                    obtain ⟨v183, ev183, hf⟩ := ob hf
                    exact r_zret (pc := 595) hE hC ev183 (f1xI hf) ⟨Nat.le_of_ble_eq_true rfl, Nat.le_of_ble_eq_true rfl⟩ dL_act_595
                  · replace hf := oi_f c182 hf
                    refine r_aload (pc := 578) hC dL_act_578 2 rfl ?_
                    obtain ⟨v184, ev184, hf⟩ := ob hf
                    refine r_getI (pc := 580) CF5 (k := 0) hC (by decide) wd_2_36 dL_act_580 ev184 ?_
                    refine r_bipush (pc := 583) (v := 10) hC dL_act_583 (by decide) ?_
                    refine r_iload (pc := 585) hC dL_act_585 1 rfl ?_
                    refine r_imul (pc := 587) hC dL_act_587 ?_
                    refine r_iload (pc := 588) hC dL_act_588 0 rfl ?_
                    refine r_imul (pc := 590) hC dL_act_590 ?_
                    refine r_icmp_ge (pc := 591) (tgt := 596) hC dL_act_591 (by decide) (fun c185 => ?_) (fun c185 => ?_)
                    · replace hf := oi_t c185 hf
                      refine r_aload (pc := 596) hC dL_act_596 2 rfl ?_
                      refine r_dup (pc := 598) hC dL_act_598 rfl ?_
                      obtain ⟨v186, ev186, hf⟩ := ob hf
                      refine r_getI (pc := 599) CF5 (k := 0) hC (by decide) wd_2_36 dL_act_599 ev186 ?_
                      refine r_bipush (pc := 602) (v := 10) hC dL_act_602 (by decide) ?_
                      refine r_iload (pc := 604) hC dL_act_604 1 rfl ?_
                      refine r_imul (pc := 606) hC dL_act_606 ?_
                      refine r_iload (pc := 607) hC dL_act_607 0 rfl ?_
                      refine r_imul (pc := 609) hC dL_act_609 ?_
                      refine r_isub (pc := 610) hC dL_act_610 ?_
                      obtain ⟨s187, es187, hf⟩ := ob hf
                      refine r_put (pc := 611) CF5 (k := 0) hC (by decide) wd_2_36 rfl ⟨rfl, rfl⟩ dL_act_611 es187 ?_
                      refine r_aload_n (pc := 614) hC dL_act_614 rfl 6 rfl ?_
                      refine r_aload_n (pc := 615) hC dL_act_615 rfl 6 rfl ?_
                      obtain ⟨v188, ev188, hf⟩ := ob hf
                      refine r_getR (pc := 616) CF6 (k := 2) hC (by decide) wd_3_114 dL_act_616 ev188 ?_
                      refine r_iconst (pc := 619) (v := 5) hC dL_act_619 (by decide) ?_
                      obtain ⟨s189, es189, hf⟩ := ob hf
                      refine r_newa (pc := 620) (atype := .int) (t := .int) (kd := 0) (N := 5) (x := nI0 5) rfl (fun _ => rfl) (fun _ h => nomatch h) (fun _ => rfl) hC wd_1_41 (by decide) rfl (Nat.le_of_ble_eq_true rfl) ⟨Nat.le_of_ble_eq_true rfl, Nat.le_of_ble_eq_true rfl⟩ dL_act_620 ?_
                      rw [Option.some.inj es189]
                      refine r_dup (pc := 622) hC dL_act_622 rfl ?_
                      refine r_iconst (pc := 623) (v := 0) hC dL_act_623 (by decide) ?_
                      refine r_iload (pc := 624) hC dL_act_624 1 rfl ?_
                      obtain ⟨s190, es190, hf⟩ := ob hf
                      refine r_iastore (pc := 626) hC dL_act_626 es190 ?_
                      refine r_dup (pc := 627) hC dL_act_627 rfl ?_
                      refine r_iconst (pc := 628) (v := 1) hC dL_act_628 (by decide) ?_
                      refine r_iload (pc := 629) hC dL_act_629 0 rfl ?_
                      obtain ⟨s191, es191, hf⟩ := ob hf
                      refine r_iastore (pc := 631) hC dL_act_631 es191 ?_
                      refine r_dup (pc := 632) hC dL_act_632 rfl ?_
                      refine r_iconst (pc := 633) (v := 2) hC dL_act_633 (by decide) ?_
                      refine r_aload (pc := 634) hC dL_act_634 2 rfl ?_
                      obtain ⟨b192, gb192, hf⟩ := ob hf
                      obtain ⟨q193, eq193, hf⟩ := ob hf
                      refine r_callV (pc := 636) (As := []) (rest := [DI 2, DR (some s187.1), DR (some s187.1), DR v188, DR a1]) (stk' := [DI q193, DI 2, DR (some s187.1), DR (some s187.1), DR v188, DR a1]) (k1_X5_temper eq193) gb192 rfl hC wd_2_151 wd_2_4 wd_2_5 wd_2_6 wd_1_4 md_X5_temper rfl ⟨rfl, rfl, Nat.le_of_ble_eq_true rfl, Nat.le_of_ble_eq_true rfl, Nat.le_of_ble_eq_true rfl, Nat.le_of_ble_eq_true rfl⟩ dL_act_636 rfl (Nat.le_of_ble_eq_true rfl) rfl ?_
                      obtain ⟨s194, es194, hf⟩ := ob hf
                      refine r_iastore (pc := 639) hC dL_act_639 es194 ?_
                      refine r_dup (pc := 640) hC dL_act_640 rfl ?_
                      refine r_iconst (pc := 641) (v := 3) hC dL_act_641 (by decide) ?_
                      refine r_iconst (pc := 642) (v := 0) hC dL_act_642 (by decide) ?_
                      obtain ⟨s195, es195, hf⟩ := ob hf
                      refine r_iastore (pc := 643) hC dL_act_643 es195 ?_
                      refine r_dup (pc := 644) hC dL_act_644 rfl ?_
                      refine r_iconst (pc := 645) (v := 4) hC dL_act_645 (by decide) ?_
                      refine r_iconst (pc := 646) (v := 0) hC dL_act_646 (by decide) ?_
                      obtain ⟨s196, es196, hf⟩ := ob hf
                      refine r_iastore (pc := 647) hC dL_act_647 es196 ?_
                      obtain ⟨q197, eq197, hf⟩ := ob hf
                      refine r_callS (pc := 648) (As := [DR v188, DR (some s187.1)]) (rest := [DR a1]) (stk' := [DR q197.1, DR a1]) (k1_X6_with eq197) hC wd_2_177 wd_2_178 wd_2_179 wd_1_3 md_X6_with rfl ⟨rfl, rfl, Nat.le_of_ble_eq_true rfl, Nat.le_of_ble_eq_true rfl, Nat.le_of_ble_eq_true rfl, Nat.le_of_ble_eq_true rfl⟩ dL_act_648 rfl (Nat.le_of_ble_eq_true rfl) rfl ?_
                      obtain ⟨s198, es198, hf⟩ := ob hf
                      refine r_put (pc := 651) CF6 (k := 2) hC (by decide) wd_3_114 rfl (dm_fr (by exact Or.inr ⟨_, rfl⟩) _) dL_act_651 es198 ?_
                      refine r_aload_n (pc := 654) hC dL_act_654 rfl 5 rfl ?_
                      refine r_iload (pc := 655) hC dL_act_655 10 rfl ?_
                      refine r_iload (pc := 657) hC dL_act_657 1 rfl ?_
                      refine r_iload (pc := 659) hC dL_act_659 0 rfl ?_
                      obtain ⟨b199, gb199, hf⟩ := ob hf
                      obtain ⟨q200, eq200, hf⟩ := ob hf
                      refine r_callV (pc := 661) (As := [DI j5, DI (1 + q180), DI (1 + q181)]) (rest := []) (stk' := [DI q200.1]) (k0_X4_cast (nx eq200)) gb199 rfl hC wd_2_182 wd_2_183 wd_2_184 wd_2_185 wd_1_1 md_X4_cast rfl ⟨rfl, rfl, Nat.le_of_ble_eq_true rfl, Nat.le_of_ble_eq_true rfl, Nat.le_of_ble_eq_true rfl, Nat.le_of_ble_eq_true rfl⟩ dL_act_661 rfl (Nat.le_of_ble_eq_true rfl) rfl ?_
                      refine r_iload (pc := 664) hC dL_act_664 9 rfl ?_
                      obtain ⟨j201, ej201, hf⟩ := ob hf
                      have hJ201 : dm_W Y 3 20 q200.2 674 [] [DI j201] := by
                        obtain ⟨v203, ev203, hf⟩ := ob hf
                        exact r_zret (pc := 674) hE hC ev203 (f1xI hf) ⟨Nat.le_of_ble_eq_true rfl, Nat.le_of_ble_eq_true rfl⟩ dL_act_674
                      replace hf := ej201
                      clear ej201
                      refine r_icmp_ne (pc := 666) (tgt := 673) hC dL_act_666 (by decide) (fun c202 => ?_) (fun c202 => ?_)
                      · replace hf := oi_f c202 hf
                        refine r_iconst (pc := 673) (v := 0) hC dL_act_673 (by decide) ?_
                        cases hf
                        exact (dm_sub [] rfl hJ201)
                      · replace hf := oi_t c202 hf
                        refine r_iconst (pc := 669) (v := 1) hC dL_act_669 (by decide) ?_
                        refine r_goto (pc := 670) (tgt := 674) hC dL_act_670 (by decide) ?_
                        cases hf
                        exact (dm_sub [] rfl hJ201)
                    · replace hf := oi_f c185 hf
                      refine r_iconst (pc := 594) (v := 1) hC dL_act_594 (by decide) ?_
                      obtain ⟨v204, ev204, hf⟩ := ob hf
                      exact r_zret (pc := 595) hE hC ev204 (f1xI hf) ⟨Nat.le_of_ble_eq_true rfl, Nat.le_of_ble_eq_true rfl⟩ dL_act_595
              · replace hf := oi_t c40 hf
                refine r_iload_n (pc := 342) hC dL_act_342 rfl 5 rfl ?_
                refine r_iconst (pc := 343) (v := 4) hC dL_act_343 (by decide) ?_
                refine r_ishr (pc := 344) hC dL_act_344 ?_
                refine r_iload_n (pc := 345) hC dL_act_345 rfl 6 rfl ?_
                obtain ⟨q205, eq205, hf⟩ := ob hf
                refine r_callS (pc := 346) (As := [DI (a2 >>> (4 &&& 31)), DI v2]) (rest := []) (stk' := [DI q205]) (k1_L_below eq205) hC wd_2_18 wd_2_19 wd_2_20 wd_1_0 md_L_below rfl ⟨rfl, rfl, Nat.le_of_ble_eq_true rfl, Nat.le_of_ble_eq_true rfl, Nat.le_of_ble_eq_true rfl, Nat.le_of_ble_eq_true rfl⟩ dL_act_346 rfl (Nat.le_of_ble_eq_true rfl) rfl ?_
                refine r_istore (pc := 349) (lv' := [(9, DI q205), (8, DR v37), (7, DI q11), (6, DI j8), (0, DR a0), (1, DR a1), (2, DI a2), (3, DI v2), (4, DI v4), (5, DI j5)]) hC hN dL_act_349 (by decide) rfl ?_
                refine r_aload_n (pc := 351) hC dL_act_351 rfl 5 rfl ?_
                obtain ⟨v206, ev206, hf⟩ := ob hf
                refine r_getR (pc := 352) CF6 (k := 1) hC (by decide) wd_3_112 dL_act_352 ev206 ?_
                refine r_iload (pc := 355) hC dL_act_355 0 rfl ?_
                obtain ⟨v207, ev207, hf⟩ := ob hf
                refine r_aaload (pc := 357) (kd := 5) (fun _ => rfl) hC dL_act_357 ev207 ?_
                refine r_astore (pc := 358) (lv' := [(10, DR v207), (9, DI q205), (8, DR v37), (7, DI q11), (6, DI j8), (0, DR a0), (1, DR a1), (2, DI a2), (3, DI v2), (4, DI v4), (5, DI j5)]) hC hN dL_act_358 (by decide) rfl ?_
                refine r_aload (pc := 360) hC dL_act_360 2 rfl ?_
                obtain ⟨v208, ev208, hf⟩ := ob hf
                refine r_getI (pc := 362) CF5 (k := 0) hC (by decide) wd_2_36 dL_act_362 ev208 ?_
                refine r_aload (pc := 365) hC dL_act_365 0 rfl ?_
                obtain ⟨v209, ev209, hf⟩ := ob hf
                refine r_getI (pc := 367) CF5 (k := 0) hC (by decide) wd_2_36 dL_act_367 ev209 ?_
                refine r_iadd (pc := 370) hC dL_act_370 ?_
                refine r_istore (pc := 371) (lv' := [(11, DI (v208 + v209)), (10, DR v207), (9, DI q205), (8, DR v37), (7, DI q11), (6, DI j8), (0, DR a0), (1, DR a1), (2, DI a2), (3, DI v2), (4, DI v4), (5, DI j5)]) hC hN dL_act_371 (by decide) rfl ?_
                refine r_iload (pc := 373) hC dL_act_373 2 rfl ?_
                refine r_iload (pc := 375) hC dL_act_375 11 rfl ?_
                refine r_icmp_eq (pc := 377) (tgt := 393) hC dL_act_377 (by decide) (fun c210 => ?_) (fun c210 => ?_)
                · replace hf := oi_t c210 hf
                  refine r_iconst (pc := 393) (v := 1) hC dL_act_393 (by decide) ?_
                  obtain ⟨v211, ev211, hf⟩ := ob hf
                  exact r_zret (pc := 394) hE hC ev211 (f1xI hf) ⟨Nat.le_of_ble_eq_true rfl, Nat.le_of_ble_eq_true rfl⟩ dL_act_394
                · replace hf := oi_f c210 hf
                  refine r_iload (pc := 380) hC dL_act_380 0 rfl ?_
                  refine r_if_eq (pc := 382) (tgt := 393) hC dL_act_382 (by decide) (fun c212 => ?_) (fun c212 => ?_)
                  · replace hf := oi_t c212 hf
                    refine r_iconst (pc := 393) (v := 1) hC dL_act_393 (by decide) ?_
                    obtain ⟨v213, ev213, hf⟩ := ob hf
                    exact r_zret (pc := 394) hE hC ev213 (f1xI hf) ⟨Nat.le_of_ble_eq_true rfl, Nat.le_of_ble_eq_true rfl⟩ dL_act_394
                  · replace hf := oi_f c212 hf
                    refine r_iload (pc := 385) hC dL_act_385 0 rfl ?_
                    refine r_sipush (pc := 387) (v := 2000) hC dL_act_387 (by decide) ?_
                    refine r_icmp_le (pc := 390) (tgt := 395) hC dL_act_390 (by decide) (fun c214 => ?_) (fun c214 => ?_)
                    · replace hf := oi_t c214 hf
                      refine r_iconst (pc := 395) (v := 1) hC dL_act_395 (by decide) ?_
                      refine r_istore (pc := 396) (lv' := [(12, DI 1), (11, DI (v208 + v209)), (10, DR v207), (9, DI q205), (8, DR v37), (7, DI q11), (6, DI j8), (0, DR a0), (1, DR a1), (2, DI a2), (3, DI v2), (4, DI v4), (5, DI j5)]) hC hN dL_act_396 (by decide) rfl ?_
                      obtain ⟨b215, eb215, hf⟩ := ob hf
                      refine dm_sub (lv' := [(0, DR a0), (5, DI j5), (8, DR v37), (9, DI q205), (10, DR v207), (11, DI (v208 + v209)), (12, DI 1)]) [7, 12, 4, 3, 2, 1, 0] rfl ?_
                      refine dlp_W _ (fun (z215 : DSt × Int32) => dm_W Y 0 0 z215.1 398 [(0, DR a0), (5, DI j5), (8, DR v37), (9, DI q205), (10, DR v207), (11, DI (v208 + v209)), (12, DI z215.2)] []) (fun (b215 : DSt × Int32) => dm_W Y 0 0 b215.1 451 [(0, DR a0), (5, DI j5), (8, DR v37), (9, DI q205), (10, DR v207), (11, DI (v208 + v209)), (12, DI b215.2)] []) ?_ eb215 ?_
                      · intro z215 r hf hk
                        unfold fL_act_L398 at hf
                        refine r_iload (pc := 398) hC dL_act_398 6 rfl ?_
                        refine r_bipush (pc := 400) (v := 6) hC dL_act_400 (by decide) ?_
                        refine r_icmp_ge (pc := 402) (tgt := 451) hC dL_act_402 (by decide) (fun c216 => ?_) (fun c216 => ?_)
                        · replace hf := oi_t c216 hf
                          cases hf
                          exact dm_sub [0, 1, 2, 3, 4, 5, 6] rfl hk
                        · replace hf := oi_f c216 hf
                          refine r_aload (pc := 405) hC dL_act_405 2 rfl ?_
                          obtain ⟨v217, ev217, hf⟩ := ob hf
                          refine r_getR (pc := 407) CF5 (k := 2) hC (by decide) wd_2_42 dL_act_407 ev217 ?_
                          refine r_iload (pc := 410) hC dL_act_410 6 rfl ?_
                          refine r_aload (pc := 412) hC dL_act_412 2 rfl ?_
                          obtain ⟨v218, ev218, hf⟩ := ob hf
                          refine r_getR (pc := 414) CF5 (k := 2) hC (by decide) wd_2_42 dL_act_414 ev218 ?_
                          refine r_iload (pc := 417) hC dL_act_417 6 rfl ?_
                          obtain ⟨v219, ev219, hf⟩ := ob hf
                          refine r_iaload (pc := 419) hC dL_act_419 ev219 ?_
                          refine r_aload (pc := 420) hC dL_act_420 2 rfl ?_
                          obtain ⟨v220, ev220, hf⟩ := ob hf
                          refine r_getI (pc := 422) CF5 (k := 0) hC (by decide) wd_2_36 dL_act_422 ev220 ?_
                          refine r_imul (pc := 425) hC dL_act_425 ?_
                          refine r_aload (pc := 426) hC dL_act_426 4 rfl ?_
                          obtain ⟨v221, ev221, hf⟩ := ob hf
                          refine r_getR (pc := 428) CF5 (k := 2) hC (by decide) wd_2_42 dL_act_428 ev221 ?_
                          refine r_iload (pc := 431) hC dL_act_431 6 rfl ?_
                          obtain ⟨v222, ev222, hf⟩ := ob hf
                          refine r_iaload (pc := 433) hC dL_act_433 ev222 ?_
                          refine r_aload (pc := 434) hC dL_act_434 4 rfl ?_
                          obtain ⟨v223, ev223, hf⟩ := ob hf
                          refine r_getI (pc := 436) CF5 (k := 0) hC (by decide) wd_2_36 dL_act_436 ev223 ?_
                          refine r_imul (pc := 439) hC dL_act_439 ?_
                          refine r_iadd (pc := 440) hC dL_act_440 ?_
                          refine r_iload (pc := 441) hC dL_act_441 5 rfl ?_
                          obtain ⟨v224, ev224, hf⟩ := ob hf
                          refine r_idiv (pc := 443) hC dL_act_443 ev224 ?_
                          obtain ⟨s225, es225, hf⟩ := ob hf
                          refine r_iastore (pc := 444) hC dL_act_444 es225 ?_
                          refine r_iinc (pc := 445) (pos := 6) (v := (z215.2 + 1)) (lv' := [(12, DI (z215.2 + 1)), (0, DR a0), (5, DI j5), (8, DR v37), (9, DI q205), (10, DR v207), (11, DI (v208 + v209))]) hC hN dL_act_445 rfl rfl (by decide) rfl ?_
                          refine r_goto (pc := 448) (tgt := 398) hC dL_act_448 (by decide) ?_
                          cases hf
                          exact dm_sub [1, 2, 3, 4, 5, 6, 0] rfl hk
                      · refine r_aload (pc := 451) hC dL_act_451 2 rfl ?_
                        refine r_aload (pc := 453) hC dL_act_453 2 rfl ?_
                        obtain ⟨v226, ev226, hf⟩ := ob hf
                        refine r_getI (pc := 455) CF5 (k := 1) hC (by decide) wd_2_39 dL_act_455 ev226 ?_
                        refine r_aload (pc := 458) hC dL_act_458 2 rfl ?_
                        obtain ⟨v227, ev227, hf⟩ := ob hf
                        refine r_getI (pc := 460) CF5 (k := 0) hC (by decide) wd_2_36 dL_act_460 ev227 ?_
                        refine r_imul (pc := 463) hC dL_act_463 ?_
                        refine r_aload (pc := 464) hC dL_act_464 4 rfl ?_
                        obtain ⟨v228, ev228, hf⟩ := ob hf
                        refine r_getI (pc := 466) CF5 (k := 1) hC (by decide) wd_2_39 dL_act_466 ev228 ?_
                        refine r_aload (pc := 469) hC dL_act_469 4 rfl ?_
                        obtain ⟨v229, ev229, hf⟩ := ob hf
                        refine r_getI (pc := 471) CF5 (k := 0) hC (by decide) wd_2_36 dL_act_471 ev229 ?_
                        refine r_imul (pc := 474) hC dL_act_474 ?_
                        refine r_iadd (pc := 475) hC dL_act_475 ?_
                        refine r_iload (pc := 476) hC dL_act_476 5 rfl ?_
                        obtain ⟨v230, ev230, hf⟩ := ob hf
                        refine r_idiv (pc := 478) hC dL_act_478 ev230 ?_
                        obtain ⟨s231, es231, hf⟩ := ob hf
                        refine r_put (pc := 479) CF5 (k := 1) hC (by decide) wd_2_39 rfl ⟨rfl, rfl⟩ dL_act_479 es231 ?_
                        refine r_aload (pc := 482) hC dL_act_482 2 rfl ?_
                        refine r_iload (pc := 484) hC dL_act_484 5 rfl ?_
                        obtain ⟨s232, es232, hf⟩ := ob hf
                        refine r_put (pc := 486) CF5 (k := 0) hC (by decide) wd_2_36 rfl ⟨rfl, rfl⟩ dL_act_486 es232 ?_
                        refine r_aload (pc := 489) hC dL_act_489 4 rfl ?_
                        refine r_iconst (pc := 491) (v := 0) hC dL_act_491 (by decide) ?_
                        obtain ⟨s233, es233, hf⟩ := ob hf
                        refine r_put (pc := 492) CF5 (k := 0) hC (by decide) wd_2_36 rfl ⟨rfl, rfl⟩ dL_act_492 es233 ?_
                        refine r_iconst (pc := 495) (v := 1) hC dL_act_495 (by decide) ?_
                        refine r_istore (pc := 496) (lv' := [(12, DI 1), (0, DR a0), (5, DI j5), (8, DR v37), (9, DI q205), (10, DR v207), (11, DI (v208 + v209))]) hC hN dL_act_496 (by decide) rfl ?_
                        obtain ⟨b234, eb234, hf⟩ := ob hf
                        refine dm_sub (lv' := [(0, DR a0), (5, DI j5), (9, DI q205), (10, DR v207), (11, DI (v208 + v209)), (12, DI 1)]) [1, 2, 4, 5, 6, 0] rfl ?_
                        refine dlp_W _ (fun (z234 : DSt × Int32) => dm_W Y 0 0 z234.1 498 [(0, DR a0), (5, DI j5), (9, DI q205), (10, DR v207), (11, DI (v208 + v209)), (12, DI z234.2)] []) (fun (b234 : DSt × Int32) => dm_W Y 0 0 b234.1 520 [(0, DR a0), (5, DI j5), (9, DI q205), (10, DR v207), (11, DI (v208 + v209)), (12, DI b234.2)] []) ?_ eb234 ?_
                        · intro z234 r hf hk
                          unfold fL_act_L498 at hf
                          refine r_iload (pc := 498) hC dL_act_498 5 rfl ?_
                          refine r_bipush (pc := 500) (v := 6) hC dL_act_500 (by decide) ?_
                          refine r_icmp_ge (pc := 502) (tgt := 520) hC dL_act_502 (by decide) (fun c235 => ?_) (fun c235 => ?_)
                          · replace hf := oi_t c235 hf
                            cases hf
                            exact dm_sub [0, 1, 2, 3, 4, 5] rfl hk
                          · replace hf := oi_f c235 hf
                            refine r_aload (pc := 505) hC dL_act_505 3 rfl ?_
                            obtain ⟨v236, ev236, hf⟩ := ob hf
                            refine r_getR (pc := 507) CF5 (k := 2) hC (by decide) wd_2_42 dL_act_507 ev236 ?_
                            refine r_iload (pc := 510) hC dL_act_510 5 rfl ?_
                            refine r_iconst (pc := 512) (v := 0) hC dL_act_512 (by decide) ?_
                            obtain ⟨s237, es237, hf⟩ := ob hf
                            refine r_iastore (pc := 513) hC dL_act_513 es237 ?_
                            refine r_iinc (pc := 514) (pos := 5) (v := (z234.2 + 1)) (lv' := [(12, DI (z234.2 + 1)), (0, DR a0), (5, DI j5), (9, DI q205), (10, DR v207), (11, DI (v208 + v209))]) hC hN dL_act_514 rfl rfl (by decide) rfl ?_
                            refine r_goto (pc := 517) (tgt := 498) hC dL_act_517 (by decide) ?_
                            cases hf
                            exact dm_sub [1, 2, 3, 4, 5, 0] rfl hk
                        · refine r_aload_n (pc := 520) hC dL_act_520 rfl 0 rfl ?_
                          refine r_iload (pc := 521) hC dL_act_521 2 rfl ?_
                          refine r_iload (pc := 523) hC dL_act_523 1 rfl ?_
                          obtain ⟨b238, gb238, hf⟩ := ob hf
                          obtain ⟨q239, eq239, hf⟩ := ob hf
                          refine r_callV (pc := 525) (As := [DI q205, DI j5]) (rest := []) (stk' := [DI q239.1]) (k0_X4_pour (nx eq239)) gb238 rfl hC wd_2_160 wd_2_161 wd_2_162 wd_2_163 wd_1_1 md_X4_pour rfl ⟨rfl, rfl, Nat.le_of_ble_eq_true rfl, Nat.le_of_ble_eq_true rfl, Nat.le_of_ble_eq_true rfl, Nat.le_of_ble_eq_true rfl⟩ dL_act_525 rfl (Nat.le_of_ble_eq_true rfl) rfl ?_
                          refine r_iload (pc := 528) hC dL_act_528 4 rfl ?_
                          obtain ⟨j240, ej240, hf⟩ := ob hf
                          have hJ240 : dm_W Y 0 0 q239.2 538 [] [DI j240] := by
                            obtain ⟨v242, ev242, hf⟩ := ob hf
                            exact r_zret (pc := 538) hE hC ev242 (f1xI hf) ⟨Nat.le_of_ble_eq_true rfl, Nat.le_of_ble_eq_true rfl⟩ dL_act_538
                          replace hf := ej240
                          clear ej240
                          refine r_icmp_ne (pc := 530) (tgt := 537) hC dL_act_530 (by decide) (fun c241 => ?_) (fun c241 => ?_)
                          · replace hf := oi_f c241 hf
                            refine r_iconst (pc := 537) (v := 0) hC dL_act_537 (by decide) ?_
                            cases hf
                            exact (dm_sub [] rfl hJ240)
                          · replace hf := oi_t c241 hf
                            refine r_iconst (pc := 533) (v := 1) hC dL_act_533 (by decide) ?_
                            refine r_goto (pc := 534) (tgt := 538) hC dL_act_534 (by decide) ?_
                            cases hf
                            exact (dm_sub [] rfl hJ240)
                    · replace hf := oi_f c214 hf
                      refine r_iconst (pc := 393) (v := 1) hC dL_act_393 (by decide) ?_
                      obtain ⟨v243, ev243, hf⟩ := ob hf
                      exact r_zret (pc := 394) hE hC ev243 (f1xI hf) ⟨Nat.le_of_ble_eq_true rfl, Nat.le_of_ble_eq_true rfl⟩ dL_act_394
            · replace hf := oi_f c39 hf
              refine r_iconst (pc := 276) (v := 1) hC dL_act_276 (by decide) ?_
              refine r_iload_n (pc := 277) hC dL_act_277 rfl 5 rfl ?_
              refine r_iconst (pc := 278) (v := 3) hC dL_act_278 (by decide) ?_
              refine r_ishr (pc := 279) hC dL_act_279 ?_
              refine r_bipush (pc := 280) (v := 30) hC dL_act_280 (by decide) ?_
              obtain ⟨q244, eq244, hf⟩ := ob hf
              refine r_callS (pc := 282) (As := [DI (a2 >>> (3 &&& 31)), DI 30]) (rest := [DI 1]) (stk' := [DI q244, DI 1]) (k1_L_below eq244) hC wd_2_18 wd_2_19 wd_2_20 wd_1_0 md_L_below rfl ⟨rfl, rfl, Nat.le_of_ble_eq_true rfl, Nat.le_of_ble_eq_true rfl, Nat.le_of_ble_eq_true rfl, Nat.le_of_ble_eq_true rfl⟩ dL_act_282 rfl (Nat.le_of_ble_eq_true rfl) rfl ?_
              refine r_iadd (pc := 285) hC dL_act_285 ?_
              refine r_istore (pc := 286) (lv' := [(9, DI (1 + q244)), (8, DR v37), (7, DI q11), (6, DI j8), (0, DR a0), (1, DR a1), (2, DI a2), (3, DI v2), (4, DI v4), (5, DI j5)]) hC hN dL_act_286 (by decide) rfl ?_
              refine r_aload (pc := 288) hC dL_act_288 1 rfl ?_
              obtain ⟨v245, ev245, hf⟩ := ob hf
              refine r_getR (pc := 290) CF5 (k := 2) hC (by decide) wd_2_42 dL_act_290 ev245 ?_
              refine r_iconst (pc := 293) (v := 5) hC dL_act_293 (by decide) ?_
              refine r_dup2 (pc := 294) hC dL_act_294 rfl rfl ?_
              obtain ⟨v246, ev246, hf⟩ := ob hf
              refine r_iaload (pc := 295) hC dL_act_295 ev246 ?_
              refine r_iload (pc := 296) hC dL_act_296 0 rfl ?_
              refine r_bipush (pc := 298) (v := 100) hC dL_act_298 (by decide) ?_
              refine r_aload (pc := 300) hC dL_act_300 1 rfl ?_
              obtain ⟨b247, gb247, hf⟩ := ob hf
              obtain ⟨q248, eq248, hf⟩ := ob hf
              refine r_callV (pc := 302) (As := []) (rest := [DI 100, DI (1 + q244), DI v246, DI 5, DR v245]) (stk' := [DI q248, DI 100, DI (1 + q244), DI v246, DI 5, DR v245]) (k1_X5_all eq248) gb247 rfl hC wd_2_152 wd_2_146 wd_2_147 wd_2_148 wd_1_4 md_X5_all rfl ⟨rfl, rfl, Nat.le_of_ble_eq_true rfl, Nat.le_of_ble_eq_true rfl, Nat.le_of_ble_eq_true rfl, Nat.le_of_ble_eq_true rfl⟩ dL_act_302 rfl (Nat.le_of_ble_eq_true rfl) rfl ?_
              refine r_isub (pc := 305) hC dL_act_305 ?_
              refine r_min (pc := 306) hC wd_2_153 wd_1_182 wd_1_12 (wd_1_183) dL_act_306 ⟨Nat.le_of_ble_eq_true rfl, Nat.le_of_ble_eq_true rfl, Nat.le_of_ble_eq_true rfl, Nat.le_of_ble_eq_true rfl⟩ ?_
              refine r_iadd (pc := 309) hC dL_act_309 ?_
              obtain ⟨s249, es249, hf⟩ := ob hf
              refine r_iastore (pc := 310) hC dL_act_310 es249 ?_
              refine r_aload_n (pc := 311) hC dL_act_311 rfl 4 rfl ?_
              refine r_iload (pc := 312) hC dL_act_312 9 rfl ?_
              refine r_iload (pc := 314) hC dL_act_314 0 rfl ?_
              obtain ⟨b250, gb250, hf⟩ := ob hf
              obtain ⟨q251, eq251, hf⟩ := ob hf
              refine r_callV (pc := 316) (As := [DI j5, DI (1 + q244)]) (rest := []) (stk' := [DI q251.1]) (k0_X4_seed (nx eq251)) gb250 rfl hC wd_2_154 wd_2_155 wd_2_156 wd_2_157 wd_1_1 md_X4_seed rfl ⟨rfl, rfl, Nat.le_of_ble_eq_true rfl, Nat.le_of_ble_eq_true rfl, Nat.le_of_ble_eq_true rfl, Nat.le_of_ble_eq_true rfl⟩ dL_act_316 rfl (Nat.le_of_ble_eq_true rfl) rfl ?_
              refine r_aload (pc := 319) hC dL_act_319 1 rfl ?_
              obtain ⟨v252, ev252, hf⟩ := ob hf
              refine r_getR (pc := 321) CF5 (k := 2) hC (by decide) wd_2_42 dL_act_321 ev252 ?_
              refine r_iconst (pc := 324) (v := 5) hC dL_act_324 (by decide) ?_
              obtain ⟨v253, ev253, hf⟩ := ob hf
              refine r_iaload (pc := 325) hC dL_act_325 ev253 ?_
              obtain ⟨j254, ej254, hf⟩ := ob hf
              have hJ254 : dm_W Y 0 0 q251.2 334 [] [DI j254] := by
                obtain ⟨v256, ev256, hf⟩ := ob hf
                exact r_zret (pc := 334) hE hC ev256 (f1xI hf) ⟨Nat.le_of_ble_eq_true rfl, Nat.le_of_ble_eq_true rfl⟩ dL_act_334
              replace hf := ej254
              clear ej254
              refine r_icmp_ne (pc := 326) (tgt := 333) hC dL_act_326 (by decide) (fun c255 => ?_) (fun c255 => ?_)
              · replace hf := oi_f c255 hf
                refine r_iconst (pc := 333) (v := 0) hC dL_act_333 (by decide) ?_
                cases hf
                exact (dm_sub [] rfl hJ254)
              · replace hf := oi_t c255 hf
                refine r_iconst (pc := 329) (v := 1) hC dL_act_329 (by decide) ?_
                refine r_goto (pc := 330) (tgt := 334) hC dL_act_330 (by decide) ?_
                cases hf
                exact (dm_sub [] rfl hJ254)
          · replace hf := oi_f c38 hf
            refine r_iload (pc := 180) hC dL_act_180 1 rfl ?_
            refine r_iconst (pc := 182) (v := 1) hC dL_act_182 (by decide) ?_
            obtain ⟨j257, ej257, hf⟩ := ob hf
            have hJ257 : dm_W Y 0 0 st 211 [(0, DR a0), (2, DI a2), (5, DI j5), (8, DR v37)] [DI j257] := by
              refine r_istore (pc := 211) (lv' := [(9, DI j257), (0, DR a0), (2, DI a2), (5, DI j5), (8, DR v37)]) hC hN dL_act_211 (by decide) rfl ?_
              refine r_iconst (pc := 213) (v := 1) hC dL_act_213 (by decide) ?_
              refine r_iload_n (pc := 214) hC dL_act_214 rfl 2 rfl ?_
              refine r_iconst (pc := 215) (v := 5) hC dL_act_215 (by decide) ?_
              refine r_ishr (pc := 216) hC dL_act_216 ?_
              refine r_iload_n (pc := 217) hC dL_act_217 rfl 2 rfl ?_
              refine r_iconst (pc := 218) (v := 3) hC dL_act_218 (by decide) ?_
              obtain ⟨q261, eq261, hf⟩ := ob hf
              refine r_callS (pc := 219) (As := [DI a2, DI 3]) (rest := [DI (a2 >>> (5 &&& 31)), DI 1]) (stk' := [DI q261, DI (a2 >>> (5 &&& 31)), DI 1]) (k1_L_below eq261) hC wd_2_18 wd_2_19 wd_2_20 wd_1_0 md_L_below rfl ⟨rfl, rfl, Nat.le_of_ble_eq_true rfl, Nat.le_of_ble_eq_true rfl, Nat.le_of_ble_eq_true rfl, Nat.le_of_ble_eq_true rfl⟩ dL_act_219 rfl (Nat.le_of_ble_eq_true rfl) rfl ?_
              obtain ⟨j262, ej262, hf⟩ := ob hf
              have hJ262 : dm_W Y 0 0 st 232 [(0, DR a0), (5, DI j5), (8, DR v37), (9, DI j257)] [DI j262, DI (a2 >>> (5 &&& 31)), DI 1] := by
                obtain ⟨q264, eq264, hf⟩ := ob hf
                refine r_callS (pc := 232) (As := [DI (a2 >>> (5 &&& 31)), DI j262]) (rest := [DI 1]) (stk' := [DI q264, DI 1]) (k1_L_below eq264) hC wd_2_18 wd_2_19 wd_2_20 wd_1_0 md_L_below rfl ⟨rfl, rfl, Nat.le_of_ble_eq_true rfl, Nat.le_of_ble_eq_true rfl, Nat.le_of_ble_eq_true rfl, Nat.le_of_ble_eq_true rfl⟩ dL_act_232 rfl (Nat.le_of_ble_eq_true rfl) rfl ?_
                refine r_iadd (pc := 235) hC dL_act_235 ?_
                refine r_istore (pc := 236) (lv' := [(10, DI (1 + q264)), (0, DR a0), (5, DI j5), (8, DR v37), (9, DI j257)]) hC hN dL_act_236 (by decide) rfl ?_
                refine r_aload_n (pc := 238) hC dL_act_238 rfl 1 rfl ?_
                refine r_iload (pc := 239) hC dL_act_239 2 rfl ?_
                refine r_iload (pc := 241) hC dL_act_241 4 rfl ?_
                refine r_iload (pc := 243) hC dL_act_243 0 rfl ?_
                obtain ⟨b265, gb265, hf⟩ := ob hf
                obtain ⟨q266, eq266, hf⟩ := ob hf
                refine r_callV (pc := 245) (As := [DI j5, DI j257, DI (1 + q264)]) (rest := []) (stk' := [DI q266.1]) (k0_X4_warm (nx eq266)) gb265 rfl hC wd_2_107 wd_2_108 wd_2_109 wd_2_110 wd_1_1 md_X4_warm rfl ⟨rfl, rfl, Nat.le_of_ble_eq_true rfl, Nat.le_of_ble_eq_true rfl, Nat.le_of_ble_eq_true rfl, Nat.le_of_ble_eq_true rfl⟩ dL_act_245 rfl (Nat.le_of_ble_eq_true rfl) rfl ?_
                refine r_aload (pc := 248) hC dL_act_248 3 rfl ?_
                refine r_iload (pc := 250) hC dL_act_250 4 rfl ?_
                refine r_iload (pc := 252) hC dL_act_252 0 rfl ?_
                obtain ⟨b267, gb267, hf⟩ := ob hf
                obtain ⟨q268, eq268, hf⟩ := ob hf
                refine r_callV (pc := 254) (As := [DI j257, DI (1 + q264)]) (rest := [DI q266.1]) (stk' := [DR q268.1, DI q266.1]) (k1_X5_kept eq268) gb267 rfl hC wd_2_141 wd_2_142 wd_2_143 wd_2_144 wd_1_4 md_X5_kept rfl ⟨rfl, rfl, Nat.le_of_ble_eq_true rfl, Nat.le_of_ble_eq_true rfl, Nat.le_of_ble_eq_true rfl, Nat.le_of_ble_eq_true rfl⟩ dL_act_254 rfl (Nat.le_of_ble_eq_true rfl) rfl ?_
                obtain ⟨b269, gb269, hf⟩ := ob hf
                obtain ⟨q270, eq270, hf⟩ := ob hf
                refine r_callV (pc := 257) (As := []) (rest := [DI q266.1]) (stk' := [DI q270, DI q266.1]) (k1_X5_temper eq270) gb269 rfl hC wd_2_151 wd_2_4 wd_2_5 wd_2_6 wd_1_4 md_X5_temper rfl ⟨rfl, rfl, Nat.le_of_ble_eq_true rfl, Nat.le_of_ble_eq_true rfl, Nat.le_of_ble_eq_true rfl, Nat.le_of_ble_eq_true rfl⟩ dL_act_257 rfl (Nat.le_of_ble_eq_true rfl) rfl ?_
                obtain ⟨j271, ej271, hf⟩ := ob hf
                have hJ271 : dm_W Y 0 0 q268.2 268 [] [DI j271] := by
                  obtain ⟨v273, ev273, hf⟩ := ob hf
                  exact r_zret (pc := 268) hE hC ev273 (f1xI hf) ⟨Nat.le_of_ble_eq_true rfl, Nat.le_of_ble_eq_true rfl⟩ dL_act_268
                replace hf := ej271
                clear ej271
                refine r_icmp_ne (pc := 260) (tgt := 267) hC dL_act_260 (by decide) (fun c272 => ?_) (fun c272 => ?_)
                · replace hf := oi_f c272 hf
                  refine r_iconst (pc := 267) (v := 0) hC dL_act_267 (by decide) ?_
                  cases hf
                  exact (dm_sub [] rfl hJ271)
                · replace hf := oi_t c272 hf
                  refine r_iconst (pc := 263) (v := 1) hC dL_act_263 (by decide) ?_
                  refine r_goto (pc := 264) (tgt := 268) hC dL_act_264 (by decide) ?_
                  cases hf
                  exact (dm_sub [] rfl hJ271)
              replace hf := ej262
              clear ej262
              refine r_if_ne (pc := 222) (tgt := 230) hC dL_act_222 (by decide) (fun c263 => ?_) (fun c263 => ?_)
              · replace hf := oi_f c263 hf
                refine r_bipush (pc := 230) (v := 9) hC dL_act_230 (by decide) ?_
                cases hf
                exact (dm_sub [1, 3, 4, 0] rfl hJ262)
              · replace hf := oi_t c263 hf
                refine r_bipush (pc := 225) (v := 40) hC dL_act_225 (by decide) ?_
                refine r_goto (pc := 227) (tgt := 232) hC dL_act_227 (by decide) ?_
                cases hf
                exact (dm_sub [1, 3, 4, 0] rfl hJ262)
            replace hf := ej257
            clear ej257
            refine r_icmp_ne (pc := 183) (tgt := 200) hC dL_act_183 (by decide) (fun c258 => ?_) (fun c258 => ?_)
            · replace hf := oi_f c258 hf
              refine r_bipush (pc := 200) (v := 24) hC dL_act_200 (by decide) ?_
              refine r_iload_n (pc := 202) hC dL_act_202 rfl 5 rfl ?_
              refine r_iconst (pc := 203) (v := 3) hC dL_act_203 (by decide) ?_
              refine r_ishr (pc := 204) hC dL_act_204 ?_
              refine r_bipush (pc := 205) (v := 11) hC dL_act_205 (by decide) ?_
              obtain ⟨q259, eq259, hf⟩ := ob hf
              refine r_callS (pc := 207) (As := [DI (a2 >>> (3 &&& 31)), DI 11]) (rest := [DI 24]) (stk' := [DI q259, DI 24]) (k1_L_below eq259) hC wd_2_18 wd_2_19 wd_2_20 wd_1_0 md_L_below rfl ⟨rfl, rfl, Nat.le_of_ble_eq_true rfl, Nat.le_of_ble_eq_true rfl, Nat.le_of_ble_eq_true rfl, Nat.le_of_ble_eq_true rfl⟩ dL_act_207 rfl (Nat.le_of_ble_eq_true rfl) rfl ?_
              refine r_iadd (pc := 210) hC dL_act_210 ?_
              cases hf
              exact (dm_sub [3, 5, 8, 0] rfl hJ257)
            · replace hf := oi_t c258 hf
              refine r_bipush (pc := 186) (v := 15) hC dL_act_186 (by decide) ?_
              refine r_iload_n (pc := 188) hC dL_act_188 rfl 5 rfl ?_
              refine r_iconst (pc := 189) (v := 3) hC dL_act_189 (by decide) ?_
              refine r_ishr (pc := 190) hC dL_act_190 ?_
              refine r_bipush (pc := 191) (v := 36) hC dL_act_191 (by decide) ?_
              obtain ⟨q260, eq260, hf⟩ := ob hf
              refine r_callS (pc := 193) (As := [DI (a2 >>> (3 &&& 31)), DI 36]) (rest := [DI 15]) (stk' := [DI q260, DI 15]) (k1_L_below eq260) hC wd_2_18 wd_2_19 wd_2_20 wd_1_0 md_L_below rfl ⟨rfl, rfl, Nat.le_of_ble_eq_true rfl, Nat.le_of_ble_eq_true rfl, Nat.le_of_ble_eq_true rfl, Nat.le_of_ble_eq_true rfl⟩ dL_act_193 rfl (Nat.le_of_ble_eq_true rfl) rfl ?_
              refine r_iadd (pc := 196) hC dL_act_196 ?_
              refine r_goto (pc := 197) (tgt := 211) hC dL_act_197 (by decide) ?_
              cases hf
              exact (dm_sub [3, 5, 8, 0] rfl hJ257)
        · replace hf := oi_t c35 hf
          refine r_iload_n (pc := 69) hC dL_act_69 rfl 5 rfl ?_
          refine r_iconst (pc := 70) (v := 5) hC dL_act_70 (by decide) ?_
          refine r_icmp_ne (pc := 71) (tgt := 76) hC dL_act_71 (by decide) (fun c274 => ?_) (fun c274 => ?_)
          · replace hf := oi_f c274 hf
            refine r_iload_n (pc := 76) hC dL_act_76 rfl 5 rfl ?_
            refine r_iconst (pc := 77) (v := 1) hC dL_act_77 (by decide) ?_
            refine r_iadd (pc := 78) hC dL_act_78 ?_
            obtain ⟨s275, es275, hf⟩ := ob hf
            refine r_newqV (pc := 79) (E := "ChocolateMouldsLaw$Bowl") (kd := 5) (cap := 10) (fun _ => rfl) hC (by decide) wd_2_29 (by decide) ⟨Nat.le_of_ble_eq_true rfl, Nat.le_of_ble_eq_true rfl⟩ dL_act_79 es275 ?_
            refine r_astore (pc := 82) (lv' := [(8, DR (some st.1)), (7, DI q11), (6, DI j8), (0, DR a0), (1, DR a1), (2, DI a2), (3, DI v2), (4, DI v4), (5, DI j5)]) hC hN dL_act_82 (by decide) rfl ?_
            refine r_iconst (pc := 84) (v := 0) hC dL_act_84 (by decide) ?_
            refine r_istore (pc := 85) (lv' := [(9, DI 0), (8, DR (some st.1)), (7, DI q11), (6, DI j8), (0, DR a0), (1, DR a1), (2, DI a2), (3, DI v2), (4, DI v4), (5, DI j5)]) hC hN dL_act_85 (by decide) rfl ?_
            obtain ⟨b276, eb276, hf⟩ := ob hf
            refine dm_sub (lv' := [(0, DR a0), (1, DR a1), (2, DI a2), (3, DI v2), (8, DR (some st.1)), (9, DI 0)]) [4, 5, 6, 7, 1, 0] rfl ?_
            refine dlp_W _ (fun (z276 : DSt × Int32) => dm_W Y 1 10 z276.1 87 [(0, DR a0), (1, DR a1), (2, DI a2), (3, DI v2), (8, DR (some st.1)), (9, DI z276.2)] []) (fun (b276 : DSt × Int32) => dm_W Y 1 10 b276.1 111 [(0, DR a0), (1, DR a1), (2, DI a2), (3, DI v2), (8, DR (some st.1)), (9, DI b276.2)] []) ?_ eb276 ?_
            · intro z276 r hf hk
              unfold fL_act_L87 at hf
              refine r_iload (pc := 87) hC dL_act_87 5 rfl ?_
              refine r_iload_n (pc := 89) hC dL_act_89 rfl 3 rfl ?_
              refine r_icmp_ge (pc := 90) (tgt := 111) hC dL_act_90 (by decide) (fun c277 => ?_) (fun c277 => ?_)
              · replace hf := oi_t c277 hf
                cases hf
                exact dm_sub [0, 1, 2, 3, 4, 5] rfl hk
              · replace hf := oi_f c277 hf
                refine r_aload (pc := 93) hC dL_act_93 4 rfl ?_
                refine r_iload (pc := 95) hC dL_act_95 5 rfl ?_
                refine r_aload_n (pc := 97) hC dL_act_97 rfl 1 rfl ?_
                obtain ⟨v278, ev278, hf⟩ := ob hf
                refine r_getR (pc := 98) CF6 (k := 1) hC (by decide) wd_3_112 dL_act_98 ev278 ?_
                refine r_iload (pc := 101) hC dL_act_101 5 rfl ?_
                obtain ⟨v279, ev279, hf⟩ := ob hf
                refine r_aaload (pc := 103) (kd := 5) (fun _ => rfl) hC dL_act_103 ev279 ?_
                obtain ⟨s280, es280, hf⟩ := ob hf
                refine r_aastore (pc := 104) (kd := 5) (ci := 5) (fun _ => rfl) rfl hC dL_act_104 es280 ?_
                refine r_iinc (pc := 105) (pos := 5) (v := (z276.2 + 1)) (lv' := [(9, DI (z276.2 + 1)), (0, DR a0), (1, DR a1), (2, DI a2), (3, DI v2), (8, DR (some st.1))]) hC hN dL_act_105 rfl rfl (by decide) rfl ?_
                refine r_goto (pc := 108) (tgt := 87) hC dL_act_108 (by decide) ?_
                cases hf
                exact dm_sub [1, 2, 3, 4, 5, 0] rfl hk
            · refine r_aload (pc := 111) hC dL_act_111 4 rfl ?_
              refine r_iload_n (pc := 113) hC dL_act_113 rfl 3 rfl ?_
              obtain ⟨s281, es281, hf⟩ := ob hf
              refine r_new (pc := 114) CF5 (fs := [DI 0, DI 0, DR none]) hC wd_2_29 wd_2_31 wd_1_4 (fun j hj => by rcases (show j = 0 ∨ j = 1 ∨ j = 2 by omega) with rfl | rfl | rfl <;> rfl) ⟨Nat.le_of_ble_eq_true rfl, Nat.le_of_ble_eq_true rfl⟩ dL_act_114 ?_
              rw [Option.some.inj es281]
              refine r_dup (pc := 117) hC dL_act_117 rfl ?_
              obtain ⟨q282, eq282, hf⟩ := ob hf
              refine r_callIN (pc := 118) (As := []) (rest := [DR (some b276.1.1), DI v2, DR (some st.1)]) (stk' := [DR (some b276.1.1), DI v2, DR (some st.1)]) (host := "ChocolateMouldsLaw") (k1_X5_init eq282) hC (by decide +kernel) wd_2_33 rfl wd_2_34 wd_1_4 md_X5_init rfl ⟨rfl, rfl, Nat.le_of_ble_eq_true rfl, Nat.le_of_ble_eq_true rfl, Nat.le_of_ble_eq_true rfl, Nat.le_of_ble_eq_true rfl⟩ dL_act_118 rfl (Nat.le_of_ble_eq_true rfl) rfl ?_
              obtain ⟨s283, es283, hf⟩ := ob hf
              refine r_aastore (pc := 121) (kd := 5) (ci := 5) (fun _ => rfl) rfl hC dL_act_121 es283 ?_
              refine r_aload (pc := 122) hC dL_act_122 4 rfl ?_
              refine r_iload_n (pc := 124) hC dL_act_124 rfl 3 rfl ?_
              obtain ⟨v284, ev284, hf⟩ := ob hf
              refine r_aaload (pc := 125) (kd := 5) (fun _ => rfl) hC dL_act_125 ev284 ?_
              refine r_iload_n (pc := 126) hC dL_act_126 rfl 2 rfl ?_
              refine r_iconst (pc := 127) (v := 1) hC dL_act_127 (by decide) ?_
              refine r_ishr (pc := 128) hC dL_act_128 ?_
              refine r_sipush (pc := 129) (v := 2001) hC dL_act_129 (by decide) ?_
              obtain ⟨q285, eq285, hf⟩ := ob hf
              refine r_callS (pc := 132) (As := [DI (a2 >>> (1 &&& 31)), DI 2001]) (rest := [DR v284]) (stk' := [DI q285, DR v284]) (k1_L_below eq285) hC wd_2_18 wd_2_19 wd_2_20 wd_1_0 md_L_below rfl ⟨rfl, rfl, Nat.le_of_ble_eq_true rfl, Nat.le_of_ble_eq_true rfl, Nat.le_of_ble_eq_true rfl, Nat.le_of_ble_eq_true rfl⟩ dL_act_132 rfl (Nat.le_of_ble_eq_true rfl) rfl ?_
              obtain ⟨s286, es286, hf⟩ := ob hf
              refine r_put (pc := 135) CF5 (k := 0) hC (by decide) wd_2_36 rfl ⟨rfl, rfl⟩ dL_act_135 es286 ?_
              refine r_aload_n (pc := 138) hC dL_act_138 rfl 1 rfl ?_
              refine r_aload (pc := 139) hC dL_act_139 4 rfl ?_
              obtain ⟨s287, es287, hf⟩ := ob hf
              refine r_put (pc := 141) CF6 (k := 1) hC (by decide) wd_3_112 rfl (dm_fr (by exact Or.inr ⟨_, rfl⟩) _) dL_act_141 es287 ?_
              refine r_aload_n (pc := 144) hC dL_act_144 rfl 0 rfl ?_
              refine r_aload (pc := 145) hC dL_act_145 4 rfl ?_
              refine r_iload_n (pc := 147) hC dL_act_147 rfl 3 rfl ?_
              obtain ⟨v288, ev288, hf⟩ := ob hf
              refine r_aaload (pc := 148) (kd := 5) (fun _ => rfl) hC dL_act_148 ev288 ?_
              obtain ⟨v289, ev289, hf⟩ := ob hf
              refine r_getI (pc := 149) CF5 (k := 0) hC (by decide) wd_2_36 dL_act_149 ev289 ?_
              obtain ⟨b290, gb290, hf⟩ := ob hf
              obtain ⟨q291, eq291, hf⟩ := ob hf
              refine r_callV (pc := 152) (As := [DI v289]) (rest := []) (stk' := [DI q291.1]) (k0_X4_bowl (nx eq291)) gb290 rfl hC wd_2_51 wd_2_52 wd_2_53 wd_2_54 wd_1_1 md_X4_bowl rfl ⟨rfl, rfl, Nat.le_of_ble_eq_true rfl, Nat.le_of_ble_eq_true rfl, Nat.le_of_ble_eq_true rfl, Nat.le_of_ble_eq_true rfl⟩ dL_act_152 rfl (Nat.le_of_ble_eq_true rfl) rfl ?_
              refine r_iload_n (pc := 155) hC dL_act_155 rfl 3 rfl ?_
              obtain ⟨j292, ej292, hf⟩ := ob hf
              have hJ292 : dm_W Y 6 29 q291.2 164 [] [DI j292] := by
                obtain ⟨v294, ev294, hf⟩ := ob hf
                exact r_zret (pc := 164) hE hC ev294 (f1xI hf) ⟨Nat.le_of_ble_eq_true rfl, Nat.le_of_ble_eq_true rfl⟩ dL_act_164
              replace hf := ej292
              clear ej292
              refine r_icmp_ne (pc := 156) (tgt := 163) hC dL_act_156 (by decide) (fun c293 => ?_) (fun c293 => ?_)
              · replace hf := oi_f c293 hf
                refine r_iconst (pc := 163) (v := 0) hC dL_act_163 (by decide) ?_
                cases hf
                exact (dm_sub [] rfl hJ292)
              · replace hf := oi_t c293 hf
                refine r_iconst (pc := 159) (v := 1) hC dL_act_159 (by decide) ?_
                refine r_goto (pc := 160) (tgt := 164) hC dL_act_160 (by decide) ?_
                cases hf
                exact (dm_sub [] rfl hJ292)
          · replace hf := oi_t c274 hf
            refine r_iconst (pc := 74) (v := 1) hC dL_act_74 (by decide) ?_
            obtain ⟨v295, ev295, hf⟩ := ob hf
            exact r_zret (pc := 75) hE hC ev295 (f1xI hf) ⟨Nat.le_of_ble_eq_true rfl, Nat.le_of_ble_eq_true rfl⟩ dL_act_75
    replace hf := ej8
    clear ej8
    refine r_if_ne (pc := 32) (tgt := 39) hC dL_act_32 (by decide) (fun c9 => ?_) (fun c9 => ?_)
    · replace hf := oi_f c9 hf
      refine r_iload_n (pc := 39) hC dL_act_39 rfl 3 rfl ?_
      refine r_iconst (pc := 40) (v := 2) hC dL_act_40 (by decide) ?_
      refine r_ishr (pc := 41) hC dL_act_41 ?_
      refine r_iload (pc := 42) hC dL_act_42 5 rfl ?_
      obtain ⟨q10, eq10, hf⟩ := ob hf
      refine r_callS (pc := 44) (As := [DI (a2 >>> (2 &&& 31)), DI v4]) (rest := []) (stk' := [DI q10]) (k1_L_below eq10) hC wd_2_18 wd_2_19 wd_2_20 wd_1_0 md_L_below rfl ⟨rfl, rfl, Nat.le_of_ble_eq_true rfl, Nat.le_of_ble_eq_true rfl, Nat.le_of_ble_eq_true rfl, Nat.le_of_ble_eq_true rfl⟩ dL_act_44 rfl (Nat.le_of_ble_eq_true rfl) rfl ?_
      cases hf
      exact (dm_sub [1, 2, 3, 4, 5, 0] rfl hJ8)
    · replace hf := oi_t c9 hf
      refine r_iconst (pc := 35) (v := 0) hC dL_act_35 (by decide) ?_
      refine r_goto (pc := 36) (tgt := 47) hC dL_act_36 (by decide) ?_
      cases hf
      exact (dm_sub [1, 2, 3, 4, 5, 0] rfl hJ8)
  replace hf := ej5
  clear ej5
  refine r_if_ne (pc := 14) (tgt := 21) hC dL_act_14 (by decide) (fun c6 => ?_) (fun c6 => ?_)
  · replace hf := oi_f c6 hf
    refine r_iload_n (pc := 21) hC dL_act_21 rfl 4 rfl ?_
    refine r_iconst (pc := 22) (v := 1) hC dL_act_22 (by decide) ?_
    refine r_ishr (pc := 23) hC dL_act_23 ?_
    refine r_iload_n (pc := 24) hC dL_act_24 rfl 1 rfl ?_
    obtain ⟨q7, eq7, hf⟩ := ob hf
    refine r_callS (pc := 25) (As := [DI (a2 >>> (1 &&& 31)), DI v2]) (rest := []) (stk' := [DI q7]) (k1_L_below eq7) hC wd_2_18 wd_2_19 wd_2_20 wd_1_0 md_L_below rfl ⟨rfl, rfl, Nat.le_of_ble_eq_true rfl, Nat.le_of_ble_eq_true rfl, Nat.le_of_ble_eq_true rfl, Nat.le_of_ble_eq_true rfl⟩ dL_act_25 rfl (Nat.le_of_ble_eq_true rfl) rfl ?_
    cases hf
    exact (dm_sub [2, 3, 4, 1, 0] rfl hJ5)
  · replace hf := oi_t c6 hf
    refine r_iconst (pc := 17) (v := 0) hC dL_act_17 (by decide) ?_
    refine r_goto (pc := 18) (tgt := 28) hC dL_act_18 (by decide) ?_
    cases hf
    exact (dm_sub [2, 3, 4, 1, 0] rfl hJ5)
abbrev rmK1_L_build : Room := { frames := 6, cells := 3784, slots := 37834, locals := 146 }
set_option maxRecDepth 100000 in
set_option maxHeartbeats 8000000 in
theorem k1_L_build {xs : Nat → Int32} {L b : Nat} {st : DSt} {a0 : Option Nat} {v : Option Nat} {st1 : DSt} (hf : fL_build xs L st a0 = some (v, st1)) : dm_K1S b L xs yL_build cL_build 5 (some (.object "ChocolateMouldsLaw$Sim")) rmK1_L_build 3784 37834 [DR a0, DR (some b)] st (some (DR v)) st1 := by
  refine dm_k1s (by decide) rfl (Nat.le_of_ble_eq_true rfl) fun Y hC hN hSC hE => ?_
  unfold fL_build at hf
  refine dm_sub (lv' := [(0, DR a0), (1, DR (some b))]) ([0, 1]) rfl ?_
  obtain ⟨s1, es1, hf⟩ := ob hf
  refine r_new (pc := 0) CF6 (fs := [DI 0, DR none, DR none, DR none]) hC wd_3_103 wd_3_104 wd_1_3 (fun j hj => by rcases (show j = 0 ∨ j = 1 ∨ j = 2 ∨ j = 3 by omega) with rfl | rfl | rfl | rfl <;> rfl) ⟨Nat.le_of_ble_eq_true rfl, Nat.le_of_ble_eq_true rfl⟩ dL_build_0 ?_
  rw [Option.some.inj es1]
  refine r_dup (pc := 3) hC dL_build_3 rfl ?_
  obtain ⟨q2, eq2, hf⟩ := ob hf
  refine r_callIN (pc := 4) (As := []) (rest := [DR (some st.1)]) (stk' := [DR (some st.1)]) (host := "ChocolateMouldsLaw") (k1_X6_init eq2) hC (by decide +kernel) wd_3_106 rfl wd_3_107 wd_1_3 md_X6_init rfl ⟨rfl, rfl, Nat.le_of_ble_eq_true rfl, Nat.le_of_ble_eq_true rfl, Nat.le_of_ble_eq_true rfl, Nat.le_of_ble_eq_true rfl⟩ dL_build_4 rfl (Nat.le_of_ble_eq_true rfl) rfl ?_
  refine r_astore_n (pc := 7) (lv' := [(2, DR (some st.1)), (0, DR a0), (1, DR (some b))]) hC hN dL_build_7 rfl (by decide) rfl ?_
  refine r_bipush (pc := 8) (v := 20) hC dL_build_8 (by decide) ?_
  refine r_aload_n (pc := 10) hC dL_build_10 rfl 2 rfl ?_
  refine r_iconst (pc := 11) (v := 0) hC dL_build_11 (by decide) ?_
  obtain ⟨q3, eq3, hf⟩ := ob hf
  refine r_callSS (pc := 12) (As := [DR (some b), DI 0]) (rest := [DI 20]) (stk' := [DI q3, DI 20]) (k1_L_cell eq3) hSC hC wd_2_22 wd_2_23 wd_2_24 wd_1_0 md_L_cell rfl ⟨rfl, rfl, Nat.le_of_ble_eq_true rfl, Nat.le_of_ble_eq_true rfl, Nat.le_of_ble_eq_true rfl, Nat.le_of_ble_eq_true rfl⟩ dL_build_12 rfl (Nat.le_of_ble_eq_true rfl) rfl ?_
  refine r_bipush (pc := 15) (v := 40) hC dL_build_15 (by decide) ?_
  obtain ⟨q4, eq4, hf⟩ := ob hf
  refine r_callS (pc := 17) (As := [DI q3, DI 40]) (rest := [DI 20]) (stk' := [DI q4, DI 20]) (k1_L_below eq4) hC wd_2_18 wd_2_19 wd_2_20 wd_1_0 md_L_below rfl ⟨rfl, rfl, Nat.le_of_ble_eq_true rfl, Nat.le_of_ble_eq_true rfl, Nat.le_of_ble_eq_true rfl, Nat.le_of_ble_eq_true rfl⟩ dL_build_17 rfl (Nat.le_of_ble_eq_true rfl) rfl ?_
  refine r_iadd (pc := 20) hC dL_build_20 ?_
  refine r_istore_n (pc := 21) (lv' := [(3, DI (20 + q4)), (2, DR (some st.1)), (0, DR a0), (1, DR (some b))]) hC hN dL_build_21 rfl (by decide) rfl ?_
  refine r_iconst (pc := 22) (v := 0) hC dL_build_22 (by decide) ?_
  refine r_istore (pc := 23) (lv' := [(4, DI 0), (3, DI (20 + q4)), (2, DR (some st.1)), (0, DR a0), (1, DR (some b))]) hC hN dL_build_23 (by decide) rfl ?_
  obtain ⟨b5, eb5, hf⟩ := ob hf
  refine dm_sub (lv' := [(0, DR a0), (1, DR (some b)), (2, DR (some st.1)), (3, DI (20 + q4)), (4, DI 0)]) [3, 4, 2, 1, 0] rfl ?_
  refine dl_Wc (fL_build_L25 xs L st a0 q4) 63 630 (4 + 3780) (34 + 37800) (fun cs5 ss5 (z5 : DSt × Int32) => dm_W Y cs5 ss5 z5.1 25 [(0, DR a0), (1, DR (some b)), (2, DR (some st.1)), (3, DI (20 + q4)), (4, DI z5.2)] []) (fun cs5 ss5 (b5 : (DSt × Int32) ⊕ (Option Nat × DSt)) => match b5 with | .inl yb5 => dm_W Y cs5 ss5 yb5.1 71 [(0, DR a0), (1, DR (some b)), (2, DR (some st.1)), (3, DI (20 + q4)), (4, DI yb5.2)] [] | .inr r9 => some r9 = some (v, st1)) (fun _ _ _ _ b9 h1 h2 h => by rcases b9 with b9 | b9; exact dm_widen h1 h2 h; exact h) (fun _ _ _ _ _ h1 h2 h => dm_widen h1 h2 h) ?_ 60 _ _ _ _ eb5 (by omega) (by omega) ?_
  · intro cs5 ss5 z5 r hf hc5 hs5 hk
    unfold fL_build_L25 at hf
    refine r_iload (pc := 25) hC dL_build_25 4 rfl ?_
    refine r_iload_n (pc := 27) hC dL_build_27 rfl 3 rfl ?_
    refine r_icmp_ge (pc := 28) (tgt := 71) hC dL_build_28 (by decide) (fun c6 => ?_) (fun c6 => ?_)
    · replace hf := oi_t c6 hf
      cases hf
      exact dm_widen (by omega) (by omega) (dm_sub [0, 1, 2, 3, 4] rfl hk)
    · replace hf := oi_f c6 hf
      refine r_aload_n (pc := 31) hC dL_build_31 rfl 0 rfl ?_
      refine r_aload_n (pc := 32) hC dL_build_32 rfl 2 rfl ?_
      refine r_aload_n (pc := 33) hC dL_build_33 rfl 1 rfl ?_
      refine r_iload (pc := 34) hC dL_build_34 4 rfl ?_
      refine r_bipush (pc := 36) (v := 16) hC dL_build_36 (by decide) ?_
      obtain ⟨v7, ev7, hf⟩ := ob hf
      refine r_irem (pc := 38) hC dL_build_38 ev7 ?_
      obtain ⟨q8, eq8, hf⟩ := ob hf
      refine r_callSS (pc := 39) (As := [DR (some b), DI v7]) (rest := [DR (some st.1), DR a0]) (stk' := [DI q8, DR (some st.1), DR a0]) (k1_L_cell eq8) hSC hC wd_2_22 wd_2_23 wd_2_24 wd_1_0 md_L_cell rfl ⟨rfl, rfl, Nat.le_of_ble_eq_true rfl, Nat.le_of_ble_eq_true rfl, by show _ ≤ 3784; omega, by show _ ≤ 37834; omega⟩ dL_build_39 rfl (Nat.le_of_ble_eq_true rfl) rfl ?_
      refine r_iload (pc := 42) hC dL_build_42 4 rfl ?_
      refine r_bipush (pc := 44) (v := 16) hC dL_build_44 (by decide) ?_
      obtain ⟨v9, ev9, hf⟩ := ob hf
      refine r_idiv (pc := 46) hC dL_build_46 ev9 ?_
      refine r_iconst (pc := 47) (v := 3) hC dL_build_47 (by decide) ?_
      refine r_imul (pc := 48) hC dL_build_48 ?_
      refine r_ishr (pc := 49) hC dL_build_49 ?_
      refine r_sipush (pc := 50) (v := 467) hC dL_build_50 (by decide) ?_
      refine r_iload (pc := 53) hC dL_build_53 4 rfl ?_
      refine r_imul (pc := 55) hC dL_build_55 ?_
      refine r_iadd (pc := 56) hC dL_build_56 ?_
      obtain ⟨q10, eq10, hf⟩ := ob hf
      refine r_callS (pc := 57) (As := [DR a0, DR (some st.1), DI ((q8 >>> ((v9 * 3) &&& 31)) + (467 * z5.2))]) (rest := []) (stk' := [DI q10.1]) (k1_L_act eq10) hC wd_2_26 wd_2_27 wd_2_28 wd_1_0 md_L_act rfl ⟨rfl, rfl, Nat.le_of_ble_eq_true rfl, Nat.le_of_ble_eq_true rfl, by show _ ≤ 3784; omega, by show _ ≤ 37834; omega⟩ dL_build_57 rfl (Nat.le_of_ble_eq_true rfl) rfl ?_
      refine r_if_ne (pc := 60) (tgt := 65) hC dL_build_60 (by decide) (fun c11 => ?_) (fun c11 => ?_)
      · replace hf := oi_f c11 hf
        refine r_iinc (pc := 65) (pos := 4) (v := (z5.2 + 1)) (lv' := [(4, DI (z5.2 + 1)), (0, DR a0), (1, DR (some b)), (2, DR (some st.1)), (3, DI (20 + q4))]) hC hN dL_build_65 rfl rfl (by decide) rfl ?_
        refine r_goto (pc := 68) (tgt := 25) hC dL_build_68 (by decide) ?_
        cases hf
        exact dm_widen (by omega) (by omega) (dm_sub [1, 2, 3, 4, 0] rfl hk)
      · replace hf := oi_t c11 hf
        refine r_null (pc := 63) hC dL_build_63 ?_
        cases hf
        exact r_aret (pc := 64) (by exact Or.inl ⟨_, rfl⟩) hE hC (f1xR hk) ⟨by show _ ≤ 3784; omega, by show _ ≤ 37834; omega⟩ dL_build_64
  · rcases b5 with yb5 | r9
    · refine r_aload_n (pc := 71) hC dL_build_71 rfl 2 rfl ?_
      exact r_aret (pc := 72) (by exact Or.inl ⟨_, rfl⟩) hE hC (f1xR hf) ⟨Nat.le_of_ble_eq_true rfl, Nat.le_of_ble_eq_true rfl⟩ dL_build_72
    · exact hf
