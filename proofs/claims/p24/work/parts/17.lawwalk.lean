set_option maxRecDepth 100000 in
set_option maxHeartbeats 40000000 in
theorem law_walk {Y : DY} {b L : Nat} {xs : Nat → Int32} {st st1 : DSt} (hC : dm_C Y code R_law { frames := 12, cells := 600130, slots := 7301080, locals := 460 }) (hN : dm_N Y 16) (hLE : dm_LE Y b L xs) (hf : fL_law xs L st  = some ((1 : Int32), st1)) : dm_W Y 0 0 st 0 [(0, DR (some b))] [] := by
  have hSC := dm_LE_SC hLE
  unfold fL_law at hf
  obtain ⟨s1, es1, hf⟩ := ob hf
  refine r_new (pc := 0) CF4 (fs := [DR none, DR none, DR none, DI 0, DI 0, DI 0, DI 0, DR none, DR none, DR none, DR none]) hC wd_1_15 wd_1_16 wd_1_1 (fun j hj => by rcases (show j = 0 ∨ j = 1 ∨ j = 2 ∨ j = 3 ∨ j = 4 ∨ j = 5 ∨ j = 6 ∨ j = 7 ∨ j = 8 ∨ j = 9 ∨ j = 10 by omega) with rfl | rfl | rfl | rfl | rfl | rfl | rfl | rfl | rfl | rfl | rfl <;> rfl) ⟨by show _ ≤ 600130; omega, by show _ ≤ 7301080; omega⟩ dL_law_0 ?_
  rw [Option.some.inj es1]
  refine r_dup (pc := 3) hC dL_law_3 rfl ?_
  obtain ⟨q2, eq2, hf⟩ := ob hf
  refine r_callI (pc := 4) (As := []) (rest := [DR (some st.1)]) (stk' := [DR (some st.1)]) (k1_X4_init eq2) hC wd_1_17 wd_1_18 rfl wd_1_19 wd_1_1 md_X4_init rfl ⟨rfl, rfl, Nat.le_of_ble_eq_true rfl, Nat.le_of_ble_eq_true rfl, by show _ ≤ 600130; omega, by show _ ≤ 7301080; omega⟩ dL_law_4 rfl (Nat.le_of_ble_eq_true rfl) rfl ?_
  refine r_astore_n (pc := 7) (lv' := [(1, DR (some st.1)), (0, DR (some b))]) hC hN dL_law_7 rfl (by decide) rfl ?_
  refine r_aload_n (pc := 8) hC dL_law_8 rfl 0 rfl ?_
  refine r_aload_n (pc := 9) hC dL_law_9 rfl 1 rfl ?_
  obtain ⟨q3, eq3, hf⟩ := ob hf
  refine r_callSS (pc := 10) (As := [DR (some st.1), DR (some b)]) (rest := []) (stk' := [DR q3.1]) (k1_L_build eq3) hSC hC wd_3_100 wd_3_101 wd_3_102 wd_1_0 md_L_build rfl ⟨rfl, rfl, Nat.le_of_ble_eq_true rfl, Nat.le_of_ble_eq_true rfl, by show _ ≤ 600130; omega, by show _ ≤ 7301080; omega⟩ dL_law_10 rfl (Nat.le_of_ble_eq_true rfl) rfl ?_
  refine r_astore_n (pc := 13) (lv' := [(2, DR q3.1), (1, DR (some st.1)), (0, DR (some b))]) hC hN dL_law_13 rfl (by decide) rfl ?_
  refine r_aload_n (pc := 14) hC dL_law_14 rfl 0 rfl ?_
  refine r_ifnonnull (pc := 15) (tgt := 20) hC dL_law_15 (by decide) (fun n5 c4 => ?_) (fun c4 => ?_)
  · rw [c4] at hf ⊢
    dsimp only [oN] at hf
    refine r_iconst (pc := 20) (v := 0) hC dL_law_20 (by decide) ?_
    refine r_istore_n (pc := 21) (lv' := [(3, DI 0), (2, DR (some n5)), (1, DR (some st.1)), (0, DR (some b))]) hC hN dL_law_21 rfl (by decide) rfl ?_
    obtain ⟨b7, eb7, hf⟩ := ob hf
    refine dm_sub (lv' := [(0, DR (some b)), (1, DR (some st.1)), (2, DR (some n5)), (3, DI 0)]) [3, 2, 1, 0] rfl ?_
    refine dl_Wc (fL_law_L22 xs L st n5) 63 630 (3794 + 2583) (37892 + 25830) (fun cs7 ss7 (z7 : DSt × Int32) => dm_W Y cs7 ss7 z7.1 22 [(0, DR (some b)), (1, DR (some st.1)), (2, DR (some n5)), (3, DI z7.2)] []) (fun cs7 ss7 (b7 : (DSt × Int32) ⊕ (Int32 × DSt)) => match b7 with | .inl yb7 => dm_W Y cs7 ss7 yb7.1 948 [(0, DR (some b)), (1, DR (some st.1)), (2, DR (some n5)), (3, DI yb7.2)] [] | .inr r9 => some r9 = some ((1 : Int32), st1)) (fun _ _ _ _ b9 h1 h2 h => by rcases b9 with b9 | b9; exact dm_widen h1 h2 h; exact h) (fun _ _ _ _ _ h1 h2 h => dm_widen h1 h2 h) ?_ 41 _ _ _ _ eb7 (by omega) (by omega) ?_
    · intro cs7 ss7 z7 r hf hc7 hs7 hk
      unfold fL_law_L22 at hf
      refine r_iload_n (pc := 22) hC dL_law_22 rfl 3 rfl ?_
      refine r_bipush (pc := 23) (v := 40) hC dL_law_23 (by decide) ?_
      refine r_icmp_ge (pc := 25) (tgt := 948) hC dL_law_25 (by decide) (fun c8 => ?_) (fun c8 => ?_)
      · replace hf := oi_t c8 hf
        cases hf
        exact dm_widen (by omega) (by omega) (dm_sub [0, 1, 2, 3] rfl hk)
      · replace hf := oi_f c8 hf
        refine r_aload_n (pc := 28) hC dL_law_28 rfl 0 rfl ?_
        refine r_iload_n (pc := 29) hC dL_law_29 rfl 3 rfl ?_
        refine r_bipush (pc := 30) (v := 16) hC dL_law_30 (by decide) ?_
        obtain ⟨v9, ev9, hf⟩ := ob hf
        refine r_irem (pc := 32) hC dL_law_32 ev9 ?_
        obtain ⟨q10, eq10, hf⟩ := ob hf
        refine r_callSS (pc := 33) (As := [DR (some b), DI v9]) (rest := []) (stk' := [DI q10]) (k1_L_cell eq10) hSC hC wd_2_22 wd_2_23 wd_2_24 wd_1_0 md_L_cell rfl ⟨rfl, rfl, Nat.le_of_ble_eq_true rfl, Nat.le_of_ble_eq_true rfl, by show _ ≤ 600130; omega, by show _ ≤ 7301080; omega⟩ dL_law_33 rfl (Nat.le_of_ble_eq_true rfl) rfl ?_
        refine r_iload_n (pc := 36) hC dL_law_36 rfl 3 rfl ?_
        refine r_bipush (pc := 37) (v := 16) hC dL_law_37 (by decide) ?_
        obtain ⟨v11, ev11, hf⟩ := ob hf
        refine r_idiv (pc := 39) hC dL_law_39 ev11 ?_
        refine r_iconst (pc := 40) (v := 3) hC dL_law_40 (by decide) ?_
        refine r_imul (pc := 41) hC dL_law_41 ?_
        refine r_ishr (pc := 42) hC dL_law_42 ?_
        refine r_sipush (pc := 43) (v := 467) hC dL_law_43 (by decide) ?_
        refine r_iload_n (pc := 46) hC dL_law_46 rfl 3 rfl ?_
        refine r_imul (pc := 47) hC dL_law_47 ?_
        refine r_iadd (pc := 48) hC dL_law_48 ?_
        refine r_istore (pc := 49) (lv' := [(4, DI ((q10 >>> ((v11 * 3) &&& 31)) + (467 * z7.2))), (0, DR (some b)), (1, DR (some st.1)), (2, DR (some n5)), (3, DI z7.2)]) hC hN dL_law_49 (by decide) rfl ?_
        refine r_aload_n (pc := 51) hC dL_law_51 rfl 2 rfl ?_
        refine r_iconst (pc := 52) (v := 1) hC dL_law_52 (by decide) ?_
        obtain ⟨b12, gb12, hf⟩ := ob hf
        obtain ⟨q13, eq13, hf⟩ := ob hf
        refine r_callV (pc := 53) (As := [DI 1]) (rest := []) (stk' := [DI q13]) (k0_X4_count (nx eq13)) gb12 rfl hC wd_1_211 wd_1_212 wd_1_213 wd_1_214 wd_1_1 md_X4_count rfl ⟨rfl, rfl, Nat.le_of_ble_eq_true rfl, Nat.le_of_ble_eq_true rfl, by show _ ≤ 600130; omega, by show _ ≤ 7301080; omega⟩ dL_law_53 rfl (Nat.le_of_ble_eq_true rfl) rfl ?_
        refine r_istore (pc := 56) (lv' := [(5, DI q13), (4, DI ((q10 >>> ((v11 * 3) &&& 31)) + (467 * z7.2))), (0, DR (some b)), (1, DR (some st.1)), (2, DR (some n5)), (3, DI z7.2)]) hC hN dL_law_56 (by decide) rfl ?_
        refine r_iconst (pc := 58) (v := 0) hC dL_law_58 (by decide) ?_
        refine r_istore (pc := 59) (lv' := [(6, DI 0), (5, DI q13), (4, DI ((q10 >>> ((v11 * 3) &&& 31)) + (467 * z7.2))), (0, DR (some b)), (1, DR (some st.1)), (2, DR (some n5)), (3, DI z7.2)]) hC hN dL_law_59 (by decide) rfl ?_
        refine r_iconst (pc := 61) (v := 0) hC dL_law_61 (by decide) ?_
        refine r_istore (pc := 62) (lv' := [(7, DI 0), (6, DI 0), (5, DI q13), (4, DI ((q10 >>> ((v11 * 3) &&& 31)) + (467 * z7.2))), (0, DR (some b)), (1, DR (some st.1)), (2, DR (some n5)), (3, DI z7.2)]) hC hN dL_law_62 (by decide) rfl ?_
        obtain ⟨b14, eb14, hf⟩ := ob hf
        refine dm_sub (lv' := [(0, DR (some b)), (1, DR (some st.1)), (2, DR (some n5)), (3, DI z7.2), (4, DI ((q10 >>> ((v11 * 3) &&& 31)) + (467 * z7.2))), (5, DI q13), (6, DI 0), (7, DI 0)]) [4, 5, 6, 7, 3, 2, 1, 0] rfl ?_
        refine dlp_W _ (fun (z14 : Int32 × Int32) => dm_W Y (cs7 + 0) (ss7 + 0) z7.1 64 [(0, DR (some b)), (1, DR (some st.1)), (2, DR (some n5)), (3, DI z7.2), (4, DI ((q10 >>> ((v11 * 3) &&& 31)) + (467 * z7.2))), (5, DI q13), (6, DI z14.1), (7, DI z14.2)] []) (fun (b14 : Int32 × Int32) => dm_W Y (cs7 + 0) (ss7 + 0) z7.1 100 [(0, DR (some b)), (1, DR (some st.1)), (2, DR (some n5)), (3, DI z7.2), (4, DI ((q10 >>> ((v11 * 3) &&& 31)) + (467 * z7.2))), (5, DI q13), (6, DI b14.1), (7, DI b14.2)] []) ?_ eb14 ?_
        · intro z14 r hf hk
          unfold fL_law_L64 at hf
          refine r_iload (pc := 64) hC dL_law_64 7 rfl ?_
          refine r_aload_n (pc := 66) hC dL_law_66 rfl 1 rfl ?_
          refine r_iconst (pc := 67) (v := 3) hC dL_law_67 (by decide) ?_
          obtain ⟨b15, gb15, hf⟩ := ob hf
          obtain ⟨q16, eq16, hf⟩ := ob hf
          refine r_callV (pc := 68) (As := [DI 3]) (rest := [DI z14.2]) (stk' := [DI q16, DI z14.2]) (k0_X4_count (nx eq16)) gb15 rfl hC wd_1_211 wd_1_212 wd_1_213 wd_1_214 wd_1_1 md_X4_count rfl ⟨rfl, rfl, Nat.le_of_ble_eq_true rfl, Nat.le_of_ble_eq_true rfl, by show _ ≤ 600130; omega, by show _ ≤ 7301080; omega⟩ dL_law_68 rfl (Nat.le_of_ble_eq_true rfl) rfl ?_
          refine r_icmp_ge (pc := 71) (tgt := 100) hC dL_law_71 (by decide) (fun c17 => ?_) (fun c17 => ?_)
          · replace hf := oi_t c17 hf
            cases hf
            exact dm_sub [0, 1, 2, 3, 4, 5, 6, 7] rfl hk
          · replace hf := oi_f c17 hf
            refine r_iload (pc := 74) hC dL_law_74 6 rfl ?_
            refine r_aload_n (pc := 76) hC dL_law_76 rfl 1 rfl ?_
            refine r_iload (pc := 77) hC dL_law_77 7 rfl ?_
            refine r_iconst (pc := 79) (v := 2) hC dL_law_79 (by decide) ?_
            obtain ⟨b18, gb18, hf⟩ := ob hf
            obtain ⟨q19, eq19, hf⟩ := ob hf
            refine r_callV (pc := 80) (As := [DI z14.2, DI 2]) (rest := [DI z14.1]) (stk' := [DI q19, DI z14.1]) (k0_X4_order (nx eq19)) gb18 rfl hC wd_1_202 wd_1_203 wd_1_204 wd_1_205 wd_1_1 md_X4_order rfl ⟨rfl, rfl, Nat.le_of_ble_eq_true rfl, Nat.le_of_ble_eq_true rfl, by show _ ≤ 600130; omega, by show _ ≤ 7301080; omega⟩ dL_law_80 rfl (Nat.le_of_ble_eq_true rfl) rfl ?_
            refine r_aload_n (pc := 83) hC dL_law_83 rfl 1 rfl ?_
            refine r_iload (pc := 84) hC dL_law_84 7 rfl ?_
            refine r_iconst (pc := 86) (v := 0) hC dL_law_86 (by decide) ?_
            obtain ⟨b20, gb20, hf⟩ := ob hf
            obtain ⟨q21, eq21, hf⟩ := ob hf
            refine r_callV (pc := 87) (As := [DI z14.2, DI 0]) (rest := [DI q19, DI z14.1]) (stk' := [DI q21, DI q19, DI z14.1]) (k0_X4_order (nx eq21)) gb20 rfl hC wd_1_202 wd_1_203 wd_1_204 wd_1_205 wd_1_1 md_X4_order rfl ⟨rfl, rfl, Nat.le_of_ble_eq_true rfl, Nat.le_of_ble_eq_true rfl, by show _ ≤ 600130; omega, by show _ ≤ 7301080; omega⟩ dL_law_87 rfl (Nat.le_of_ble_eq_true rfl) rfl ?_
            refine r_imul (pc := 90) hC dL_law_90 ?_
            refine r_iadd (pc := 91) hC dL_law_91 ?_
            refine r_istore (pc := 92) (lv' := [(6, DI (z14.1 + (q19 * q21))), (0, DR (some b)), (1, DR (some st.1)), (2, DR (some n5)), (3, DI z7.2), (4, DI ((q10 >>> ((v11 * 3) &&& 31)) + (467 * z7.2))), (5, DI q13), (7, DI z14.2)]) hC hN dL_law_92 (by decide) rfl ?_
            refine r_iinc (pc := 94) (pos := 7) (v := (z14.2 + 1)) (lv' := [(7, DI (z14.2 + 1)), (6, DI (z14.1 + (q19 * q21))), (0, DR (some b)), (1, DR (some st.1)), (2, DR (some n5)), (3, DI z7.2), (4, DI ((q10 >>> ((v11 * 3) &&& 31)) + (467 * z7.2))), (5, DI q13)]) hC hN dL_law_94 rfl rfl (by decide) rfl ?_
            refine r_goto (pc := 97) (tgt := 64) hC dL_law_97 (by decide) ?_
            cases hf
            exact dm_sub [2, 3, 4, 5, 6, 7, 1, 0] rfl hk
        · refine r_aload_n (pc := 100) hC dL_law_100 rfl 1 rfl ?_
          refine r_iconst (pc := 101) (v := 5) hC dL_law_101 (by decide) ?_
          obtain ⟨b22, gb22, hf⟩ := ob hf
          obtain ⟨q23, eq23, hf⟩ := ob hf
          refine r_callV (pc := 102) (As := [DI 5]) (rest := []) (stk' := [DI q23]) (k0_X4_count (nx eq23)) gb22 rfl hC wd_1_211 wd_1_212 wd_1_213 wd_1_214 wd_1_1 md_X4_count rfl ⟨rfl, rfl, Nat.le_of_ble_eq_true rfl, Nat.le_of_ble_eq_true rfl, by show _ ≤ 600130; omega, by show _ ≤ 7301080; omega⟩ dL_law_102 rfl (Nat.le_of_ble_eq_true rfl) rfl ?_
          refine r_bipush (pc := 105) (v := 10) hC dL_law_105 (by decide) ?_
          refine r_aload_n (pc := 107) hC dL_law_107 rfl 1 rfl ?_
          refine r_bipush (pc := 108) (v := 6) hC dL_law_108 (by decide) ?_
          obtain ⟨b24, gb24, hf⟩ := ob hf
          obtain ⟨q25, eq25, hf⟩ := ob hf
          refine r_callV (pc := 110) (As := [DI 6]) (rest := [DI 10, DI q23]) (stk' := [DI q25, DI 10, DI q23]) (k0_X4_count (nx eq25)) gb24 rfl hC wd_1_211 wd_1_212 wd_1_213 wd_1_214 wd_1_1 md_X4_count rfl ⟨rfl, rfl, Nat.le_of_ble_eq_true rfl, Nat.le_of_ble_eq_true rfl, by show _ ≤ 600130; omega, by show _ ≤ 7301080; omega⟩ dL_law_110 rfl (Nat.le_of_ble_eq_true rfl) rfl ?_
          refine r_imul (pc := 113) hC dL_law_113 ?_
          refine r_iadd (pc := 114) hC dL_law_114 ?_
          refine r_bipush (pc := 115) (v := 10) hC dL_law_115 (by decide) ?_
          refine r_iload (pc := 117) hC dL_law_117 6 rfl ?_
          refine r_imul (pc := 119) hC dL_law_119 ?_
          refine r_iadd (pc := 120) hC dL_law_120 ?_
          refine r_istore (pc := 121) (lv' := [(7, DI ((q23 + (10 * q25)) + (10 * b14.1))), (0, DR (some b)), (1, DR (some st.1)), (2, DR (some n5)), (3, DI z7.2), (4, DI ((q10 >>> ((v11 * 3) &&& 31)) + (467 * z7.2))), (5, DI q13), (6, DI b14.1)]) hC hN dL_law_121 (by decide) rfl ?_
          refine r_aload_n (pc := 123) hC dL_law_123 rfl 2 rfl ?_
          refine r_iconst (pc := 124) (v := 4) hC dL_law_124 (by decide) ?_
          obtain ⟨b26, gb26, hf⟩ := ob hf
          obtain ⟨q27, eq27, hf⟩ := ob hf
          refine r_callV (pc := 125) (As := [DI 4]) (rest := []) (stk' := [DI q27]) (k0_X4_count (nx eq27)) gb26 rfl hC wd_1_211 wd_1_212 wd_1_213 wd_1_214 wd_1_1 md_X4_count rfl ⟨rfl, rfl, Nat.le_of_ble_eq_true rfl, Nat.le_of_ble_eq_true rfl, by show _ ≤ 600130; omega, by show _ ≤ 7301080; omega⟩ dL_law_125 rfl (Nat.le_of_ble_eq_true rfl) rfl ?_
          refine r_istore (pc := 128) (lv' := [(8, DI q27), (7, DI ((q23 + (10 * q25)) + (10 * b14.1))), (0, DR (some b)), (1, DR (some st.1)), (2, DR (some n5)), (3, DI z7.2), (4, DI ((q10 >>> ((v11 * 3) &&& 31)) + (467 * z7.2))), (5, DI q13), (6, DI b14.1)]) hC hN dL_law_128 (by decide) rfl ?_
          refine r_aload_n (pc := 130) hC dL_law_130 rfl 3 rfl ?_
          refine r_aload_n (pc := 131) hC dL_law_131 rfl 4 rfl ?_
          refine r_iload (pc := 132) hC dL_law_132 6 rfl ?_
          obtain ⟨q28, eq28, hf⟩ := ob hf
          refine r_callS (pc := 134) (As := [DR (some st.1), DR (some n5), DI ((q10 >>> ((v11 * 3) &&& 31)) + (467 * z7.2))]) (rest := []) (stk' := [DI q28.1]) (k1_L_act eq28) hC wd_2_26 wd_2_27 wd_2_28 wd_1_0 md_L_act rfl ⟨rfl, rfl, Nat.le_of_ble_eq_true rfl, Nat.le_of_ble_eq_true rfl, by show _ ≤ 600130; omega, by show _ ≤ 7301080; omega⟩ dL_law_134 rfl (Nat.le_of_ble_eq_true rfl) rfl ?_
          refine r_if_ne (pc := 137) (tgt := 142) hC dL_law_137 (by decide) (fun c29 => ?_) (fun c29 => ?_)
          · replace hf := oi_f c29 hf
            refine r_aload_n (pc := 142) hC dL_law_142 rfl 3 rfl ?_
            refine r_iconst (pc := 143) (v := 1) hC dL_law_143 (by decide) ?_
            obtain ⟨b30, gb30, hf⟩ := ob hf
            obtain ⟨q31, eq31, hf⟩ := ob hf
            refine r_callV (pc := 144) (As := [DI 1]) (rest := []) (stk' := [DI q31]) (k0_X4_count (nx eq31)) gb30 rfl hC wd_1_211 wd_1_212 wd_1_213 wd_1_214 wd_1_1 md_X4_count rfl ⟨rfl, rfl, Nat.le_of_ble_eq_true rfl, Nat.le_of_ble_eq_true rfl, by show _ ≤ 600130; omega, by show _ ≤ 7301080; omega⟩ dL_law_144 rfl (Nat.le_of_ble_eq_true rfl) rfl ?_
            refine r_iload (pc := 147) hC dL_law_147 7 rfl ?_
            obtain ⟨j32, ej32, hf⟩ := ob hf
            have hJ32 : dm_W Y (cs7 + 63) (ss7 + 630) q28.2 164 [(0, DR (some b)), (1, DR (some st.1)), (2, DR (some n5)), (3, DI z7.2), (4, DI ((q10 >>> ((v11 * 3) &&& 31)) + (467 * z7.2))), (7, DI j32), (8, DI q27)] [] := by
              refine r_iconst (pc := 164) (v := 0) hC dL_law_164 (by decide) ?_
              refine r_istore (pc := 165) (lv' := [(9, DI 0), (0, DR (some b)), (1, DR (some st.1)), (2, DR (some n5)), (3, DI z7.2), (4, DI ((q10 >>> ((v11 * 3) &&& 31)) + (467 * z7.2))), (7, DI j32), (8, DI q27)]) hC hN dL_law_165 (by decide) rfl ?_
              refine r_iconst (pc := 167) (v := 0) hC dL_law_167 (by decide) ?_
              refine r_istore (pc := 168) (lv' := [(10, DI 0), (9, DI 0), (0, DR (some b)), (1, DR (some st.1)), (2, DR (some n5)), (3, DI z7.2), (4, DI ((q10 >>> ((v11 * 3) &&& 31)) + (467 * z7.2))), (7, DI j32), (8, DI q27)]) hC hN dL_law_168 (by decide) rfl ?_
              obtain ⟨b36, eb36, hf⟩ := ob hf
              refine dm_sub (lv' := [(0, DR (some b)), (1, DR (some st.1)), (2, DR (some n5)), (3, DI z7.2), (4, DI ((q10 >>> ((v11 * 3) &&& 31)) + (467 * z7.2))), (7, DI j32), (8, DI q27), (9, DI 0), (10, DI 0)]) [2, 3, 4, 5, 6, 7, 8, 1, 0] rfl ?_
              refine dlp_W _ (fun (z36 : Int32 × Int32) => dm_W Y (cs7 + 63) (ss7 + 630) q28.2 170 [(0, DR (some b)), (1, DR (some st.1)), (2, DR (some n5)), (3, DI z7.2), (4, DI ((q10 >>> ((v11 * 3) &&& 31)) + (467 * z7.2))), (7, DI j32), (8, DI q27), (9, DI z36.1), (10, DI z36.2)] []) (fun (b36 : (Int32 × Int32) ⊕ (Int32 × DSt)) => match b36 with | .inl yb36 => dm_W Y (cs7 + 63) (ss7 + 630) q28.2 366 [(0, DR (some b)), (1, DR (some st.1)), (2, DR (some n5)), (3, DI z7.2), (4, DI ((q10 >>> ((v11 * 3) &&& 31)) + (467 * z7.2))), (7, DI j32), (8, DI q27), (9, DI yb36.1), (10, DI yb36.2)] [] | .inr r9 => some r9 = some ((1 : Int32), st1)) ?_ eb36 ?_
              · intro z36 r hf hk
                unfold fL_law_L170 at hf
                refine r_iload (pc := 170) hC dL_law_170 8 rfl ?_
                refine r_aload_n (pc := 172) hC dL_law_172 rfl 1 rfl ?_
                refine r_iconst (pc := 173) (v := 1) hC dL_law_173 (by decide) ?_
                obtain ⟨b37, gb37, hf⟩ := ob hf
                obtain ⟨q38, eq38, hf⟩ := ob hf
                refine r_callV (pc := 174) (As := [DI 1]) (rest := [DI z36.2]) (stk' := [DI q38, DI z36.2]) (k0_X4_count (nx eq38)) gb37 rfl hC wd_1_211 wd_1_212 wd_1_213 wd_1_214 wd_1_1 md_X4_count rfl ⟨rfl, rfl, Nat.le_of_ble_eq_true rfl, Nat.le_of_ble_eq_true rfl, by show _ ≤ 600130; omega, by show _ ≤ 7301080; omega⟩ dL_law_174 rfl (Nat.le_of_ble_eq_true rfl) rfl ?_
                refine r_icmp_ge (pc := 177) (tgt := 366) hC dL_law_177 (by decide) (fun c39 => ?_) (fun c39 => ?_)
                · replace hf := oi_t c39 hf
                  cases hf
                  exact dm_sub [0, 1, 2, 3, 4, 5, 6, 7, 8] rfl hk
                · replace hf := oi_f c39 hf
                  refine r_iconst (pc := 180) (v := 0) hC dL_law_180 (by decide) ?_
                  refine r_istore (pc := 181) (lv' := [(11, DI 0), (0, DR (some b)), (1, DR (some st.1)), (2, DR (some n5)), (3, DI z7.2), (4, DI ((q10 >>> ((v11 * 3) &&& 31)) + (467 * z7.2))), (7, DI j32), (8, DI q27), (9, DI z36.1), (10, DI z36.2)]) hC hN dL_law_181 (by decide) rfl ?_
                  refine r_iconst (pc := 183) (v := 1) hC dL_law_183 (by decide) ?_
                  refine r_istore (pc := 184) (lv' := [(12, DI 1), (11, DI 0), (0, DR (some b)), (1, DR (some st.1)), (2, DR (some n5)), (3, DI z7.2), (4, DI ((q10 >>> ((v11 * 3) &&& 31)) + (467 * z7.2))), (7, DI j32), (8, DI q27), (9, DI z36.1), (10, DI z36.2)]) hC hN dL_law_184 (by decide) rfl ?_
                  obtain ⟨b40, eb40, hf⟩ := ob hf
                  refine dm_sub (lv' := [(0, DR (some b)), (1, DR (some st.1)), (2, DR (some n5)), (3, DI z7.2), (4, DI ((q10 >>> ((v11 * 3) &&& 31)) + (467 * z7.2))), (7, DI j32), (8, DI q27), (9, DI z36.1), (10, DI z36.2), (11, DI 0), (12, DI 1)]) [2, 3, 4, 5, 6, 7, 8, 9, 10, 1, 0] rfl ?_
                  refine dlp_W _ (fun (z40 : Int32 × Int32) => dm_W Y (cs7 + 63) (ss7 + 630) q28.2 186 [(0, DR (some b)), (1, DR (some st.1)), (2, DR (some n5)), (3, DI z7.2), (4, DI ((q10 >>> ((v11 * 3) &&& 31)) + (467 * z7.2))), (7, DI j32), (8, DI q27), (9, DI z36.1), (10, DI z36.2), (11, DI z40.1), (12, DI z40.2)] []) (fun (b40 : (Int32 × Int32) ⊕ (Int32 × DSt)) => match b40 with | .inl yb40 => dm_W Y (cs7 + 63) (ss7 + 630) q28.2 225 [(0, DR (some b)), (1, DR (some st.1)), (2, DR (some n5)), (3, DI z7.2), (4, DI ((q10 >>> ((v11 * 3) &&& 31)) + (467 * z7.2))), (7, DI j32), (8, DI q27), (9, DI z36.1), (10, DI z36.2), (11, DI yb40.1), (12, DI yb40.2)] [] | .inr r9 => some r9 = some ((1 : Int32), st1)) ?_ eb40 ?_
                  · intro z40 r hf hk
                    unfold fL_law_L186 at hf
                    refine r_iload (pc := 186) hC dL_law_186 10 rfl ?_
                    refine r_bipush (pc := 188) (v := 6) hC dL_law_188 (by decide) ?_
                    refine r_icmp_ge (pc := 190) (tgt := 225) hC dL_law_190 (by decide) (fun c41 => ?_) (fun c41 => ?_)
                    · replace hf := oi_t c41 hf
                      cases hf
                      exact dm_sub [0, 1, 2, 3, 4, 5, 6, 7, 8, 9, 10] rfl hk
                    · replace hf := oi_f c41 hf
                      refine r_aload_n (pc := 193) hC dL_law_193 rfl 1 rfl ?_
                      refine r_iload (pc := 194) hC dL_law_194 8 rfl ?_
                      refine r_iload (pc := 196) hC dL_law_196 10 rfl ?_
                      obtain ⟨b42, gb42, hf⟩ := ob hf
                      obtain ⟨q43, eq43, hf⟩ := ob hf
                      refine r_callV (pc := 198) (As := [DI z36.2, DI z40.2]) (rest := []) (stk' := [DI q43]) (k0_X4_told (nx eq43)) gb42 rfl hC wd_1_164 wd_1_165 wd_1_166 wd_1_167 wd_1_1 md_X4_told rfl ⟨rfl, rfl, Nat.le_of_ble_eq_true rfl, Nat.le_of_ble_eq_true rfl, by show _ ≤ 600130; omega, by show _ ≤ 7301080; omega⟩ dL_law_198 rfl (Nat.le_of_ble_eq_true rfl) rfl ?_
                      refine r_if_ge (pc := 201) (tgt := 206) hC dL_law_201 (by decide) (fun c44 => ?_) (fun c44 => ?_)
                      · replace hf := oi_t c44 hf
                        refine r_iload (pc := 206) hC dL_law_206 9 rfl ?_
                        refine r_aload_n (pc := 208) hC dL_law_208 rfl 1 rfl ?_
                        refine r_iload (pc := 209) hC dL_law_209 8 rfl ?_
                        refine r_iload (pc := 211) hC dL_law_211 10 rfl ?_
                        obtain ⟨b45, gb45, hf⟩ := ob hf
                        obtain ⟨q46, eq46, hf⟩ := ob hf
                        refine r_callV (pc := 213) (As := [DI z36.2, DI z40.2]) (rest := [DI z40.1]) (stk' := [DI q46, DI z40.1]) (k0_X4_told (nx eq46)) gb45 rfl hC wd_1_164 wd_1_165 wd_1_166 wd_1_167 wd_1_1 md_X4_told rfl ⟨rfl, rfl, Nat.le_of_ble_eq_true rfl, Nat.le_of_ble_eq_true rfl, by show _ ≤ 600130; omega, by show _ ≤ 7301080; omega⟩ dL_law_213 rfl (Nat.le_of_ble_eq_true rfl) rfl ?_
                        refine r_iadd (pc := 216) hC dL_law_216 ?_
                        refine r_istore (pc := 217) (lv' := [(11, DI (z40.1 + q46)), (0, DR (some b)), (1, DR (some st.1)), (2, DR (some n5)), (3, DI z7.2), (4, DI ((q10 >>> ((v11 * 3) &&& 31)) + (467 * z7.2))), (7, DI j32), (8, DI q27), (9, DI z36.1), (10, DI z36.2), (12, DI z40.2)]) hC hN dL_law_217 (by decide) rfl ?_
                        refine r_iinc (pc := 219) (pos := 10) (v := (z40.2 + 1)) (lv' := [(12, DI (z40.2 + 1)), (11, DI (z40.1 + q46)), (0, DR (some b)), (1, DR (some st.1)), (2, DR (some n5)), (3, DI z7.2), (4, DI ((q10 >>> ((v11 * 3) &&& 31)) + (467 * z7.2))), (7, DI j32), (8, DI q27), (9, DI z36.1), (10, DI z36.2)]) hC hN dL_law_219 rfl rfl (by decide) rfl ?_
                        refine r_goto (pc := 222) (tgt := 186) hC dL_law_222 (by decide) ?_
                        cases hf
                        exact dm_sub [2, 3, 4, 5, 6, 7, 8, 9, 10, 1, 0] rfl hk
                      · replace hf := oi_f c44 hf
                        refine r_iconst (pc := 204) (v := 0) hC dL_law_204 (by decide) ?_
                        obtain ⟨v47, ev47, hf⟩ := ob hf
                        cases hf
                        have hz9 := (oZ_spec ev47).1
                        have hy9 : v47 = 1 := (Prod.mk.inj (Option.some.inj hk)).1
                        exact dm_to rfl (congrArg (fun q => [DI q]) (hz9.symm.trans hy9)) (r_lawret (pc := 205) hLE hC dL_law_205 (by show _ ≤ 600130; omega) (by show _ ≤ 7301080; omega))
                  · rcases b40 with yb40 | r9
                    · refine r_iconst (pc := 225) (v := 2) hC dL_law_225 (by decide) ?_
                      refine r_aload_n (pc := 226) hC dL_law_226 rfl 1 rfl ?_
                      refine r_iload (pc := 227) hC dL_law_227 8 rfl ?_
                      refine r_iconst (pc := 229) (v := 5) hC dL_law_229 (by decide) ?_
                      obtain ⟨b48, gb48, hf⟩ := ob hf
                      obtain ⟨q49, eq49, hf⟩ := ob hf
                      refine r_callV (pc := 230) (As := [DI z36.2, DI 5]) (rest := [DI 2]) (stk' := [DI q49, DI 2]) (k0_X4_told (nx eq49)) gb48 rfl hC wd_1_164 wd_1_165 wd_1_166 wd_1_167 wd_1_1 md_X4_told rfl ⟨rfl, rfl, Nat.le_of_ble_eq_true rfl, Nat.le_of_ble_eq_true rfl, by show _ ≤ 600130; omega, by show _ ≤ 7301080; omega⟩ dL_law_230 rfl (Nat.le_of_ble_eq_true rfl) rfl ?_
                      refine r_imul (pc := 233) hC dL_law_233 ?_
                      refine r_aload_n (pc := 234) hC dL_law_234 rfl 1 rfl ?_
                      refine r_iload (pc := 235) hC dL_law_235 8 rfl ?_
                      refine r_iconst (pc := 237) (v := 4) hC dL_law_237 (by decide) ?_
                      obtain ⟨b50, gb50, hf⟩ := ob hf
                      obtain ⟨q51, eq51, hf⟩ := ob hf
                      refine r_callV (pc := 238) (As := [DI z36.2, DI 4]) (rest := [DI (2 * q49)]) (stk' := [DI q51, DI (2 * q49)]) (k0_X4_told (nx eq51)) gb50 rfl hC wd_1_164 wd_1_165 wd_1_166 wd_1_167 wd_1_1 md_X4_told rfl ⟨rfl, rfl, Nat.le_of_ble_eq_true rfl, Nat.le_of_ble_eq_true rfl, by show _ ≤ 600130; omega, by show _ ≤ 7301080; omega⟩ dL_law_238 rfl (Nat.le_of_ble_eq_true rfl) rfl ?_
                      refine r_iadd (pc := 241) hC dL_law_241 ?_
                      refine r_aload_n (pc := 242) hC dL_law_242 rfl 1 rfl ?_
                      refine r_iload (pc := 243) hC dL_law_243 8 rfl ?_
                      refine r_iconst (pc := 245) (v := 3) hC dL_law_245 (by decide) ?_
                      obtain ⟨b52, gb52, hf⟩ := ob hf
                      obtain ⟨q53, eq53, hf⟩ := ob hf
                      refine r_callV (pc := 246) (As := [DI z36.2, DI 3]) (rest := [DI ((2 * q49) + q51)]) (stk' := [DI q53, DI ((2 * q49) + q51)]) (k0_X4_told (nx eq53)) gb52 rfl hC wd_1_164 wd_1_165 wd_1_166 wd_1_167 wd_1_1 md_X4_told rfl ⟨rfl, rfl, Nat.le_of_ble_eq_true rfl, Nat.le_of_ble_eq_true rfl, by show _ ≤ 600130; omega, by show _ ≤ 7301080; omega⟩ dL_law_246 rfl (Nat.le_of_ble_eq_true rfl) rfl ?_
                      refine r_isub (pc := 249) hC dL_law_249 ?_
                      refine r_aload_n (pc := 250) hC dL_law_250 rfl 1 rfl ?_
                      refine r_iload (pc := 251) hC dL_law_251 8 rfl ?_
                      refine r_iconst (pc := 253) (v := 2) hC dL_law_253 (by decide) ?_
                      obtain ⟨b54, gb54, hf⟩ := ob hf
                      obtain ⟨q55, eq55, hf⟩ := ob hf
                      refine r_callV (pc := 254) (As := [DI z36.2, DI 2]) (rest := [DI (((2 * q49) + q51) - q53)]) (stk' := [DI q55, DI (((2 * q49) + q51) - q53)]) (k0_X4_told (nx eq55)) gb54 rfl hC wd_1_164 wd_1_165 wd_1_166 wd_1_167 wd_1_1 md_X4_told rfl ⟨rfl, rfl, Nat.le_of_ble_eq_true rfl, Nat.le_of_ble_eq_true rfl, by show _ ≤ 600130; omega, by show _ ≤ 7301080; omega⟩ dL_law_254 rfl (Nat.le_of_ble_eq_true rfl) rfl ?_
                      refine r_isub (pc := 257) hC dL_law_257 ?_
                      refine r_aload_n (pc := 258) hC dL_law_258 rfl 1 rfl ?_
                      refine r_iload (pc := 259) hC dL_law_259 8 rfl ?_
                      refine r_iconst (pc := 261) (v := 1) hC dL_law_261 (by decide) ?_
                      obtain ⟨b56, gb56, hf⟩ := ob hf
                      obtain ⟨q57, eq57, hf⟩ := ob hf
                      refine r_callV (pc := 262) (As := [DI z36.2, DI 1]) (rest := [DI ((((2 * q49) + q51) - q53) - q55)]) (stk' := [DI q57, DI ((((2 * q49) + q51) - q53) - q55)]) (k0_X4_told (nx eq57)) gb56 rfl hC wd_1_164 wd_1_165 wd_1_166 wd_1_167 wd_1_1 md_X4_told rfl ⟨rfl, rfl, Nat.le_of_ble_eq_true rfl, Nat.le_of_ble_eq_true rfl, by show _ ≤ 600130; omega, by show _ ≤ 7301080; omega⟩ dL_law_262 rfl (Nat.le_of_ble_eq_true rfl) rfl ?_
                      refine r_isub (pc := 265) hC dL_law_265 ?_
                      refine r_istore (pc := 266) (lv' := [(12, DI (((((2 * q49) + q51) - q53) - q55) - q57)), (0, DR (some b)), (1, DR (some st.1)), (2, DR (some n5)), (3, DI z7.2), (4, DI ((q10 >>> ((v11 * 3) &&& 31)) + (467 * z7.2))), (7, DI j32), (8, DI q27), (9, DI z36.1), (10, DI z36.2), (11, DI yb40.1)]) hC hN dL_law_266 (by decide) rfl ?_
                      refine r_iload (pc := 268) hC dL_law_268 10 rfl ?_
                      refine r_bipush (pc := 270) (v := 100) hC dL_law_270 (by decide) ?_
                      refine r_icmp_gt (pc := 272) (tgt := 346) hC dL_law_272 (by decide) (fun c58 => ?_) (fun c58 => ?_)
                      · replace hf := oi_t c58 hf
                        refine r_iconst (pc := 346) (v := 0) hC dL_law_346 (by decide) ?_
                        obtain ⟨v59, ev59, hf⟩ := ob hf
                        cases hf
                        have hz9 := (oZ_spec ev59).1
                        have hy9 : v59 = 1 := (Prod.mk.inj (Option.some.inj hk)).1
                        exact dm_to rfl (congrArg (fun q => [DI q]) (hz9.symm.trans hy9)) (r_lawret (pc := 347) hLE hC dL_law_347 (by show _ ≤ 600130; omega) (by show _ ≤ 7301080; omega))
                      · replace hf := oi_f c58 hf
                        refine r_aload_n (pc := 275) hC dL_law_275 rfl 2 rfl ?_
                        refine r_iload (pc := 276) hC dL_law_276 9 rfl ?_
                        refine r_bipush (pc := 278) (v := 7) hC dL_law_278 (by decide) ?_
                        obtain ⟨b60, gb60, hf⟩ := ob hf
                        obtain ⟨q61, eq61, hf⟩ := ob hf
                        refine r_callV (pc := 280) (As := [DI z36.2, DI 7]) (rest := []) (stk' := [DI q61]) (k0_X4_told (nx eq61)) gb60 rfl hC wd_1_164 wd_1_165 wd_1_166 wd_1_167 wd_1_1 md_X4_told rfl ⟨rfl, rfl, Nat.le_of_ble_eq_true rfl, Nat.le_of_ble_eq_true rfl, by show _ ≤ 600130; omega, by show _ ≤ 7301080; omega⟩ dL_law_280 rfl (Nat.le_of_ble_eq_true rfl) rfl ?_
                        refine r_iconst (pc := 283) (v := 0) hC dL_law_283 (by decide) ?_
                        refine r_bipush (pc := 284) (v := 100) hC dL_law_284 (by decide) ?_
                        refine r_iload (pc := 286) hC dL_law_286 0 rfl ?_
                        refine r_min (pc := 288) hC wd_2_153 wd_1_182 wd_1_12 (wd_1_183) dL_law_288 ⟨Nat.le_of_ble_eq_true rfl, Nat.le_of_ble_eq_true rfl, by show _ ≤ 600130; omega, by show _ ≤ 7301080; omega⟩ ?_
                        refine r_max (pc := 291) hC wd_3_126 wd_1_162 wd_1_12 (wd_1_163) dL_law_291 ⟨Nat.le_of_ble_eq_true rfl, Nat.le_of_ble_eq_true rfl, by show _ ≤ 600130; omega, by show _ ≤ 7301080; omega⟩ ?_
                        refine r_icmp_ne (pc := 294) (tgt := 346) hC dL_law_294 (by decide) (fun c62 => ?_) (fun c62 => ?_)
                        · replace hf := oi_f c62 hf
                          refine r_iconst (pc := 346) (v := 0) hC dL_law_346 (by decide) ?_
                          obtain ⟨v63, ev63, hf⟩ := ob hf
                          cases hf
                          have hz9 := (oZ_spec ev63).1
                          have hy9 : v63 = 1 := (Prod.mk.inj (Option.some.inj hk)).1
                          exact dm_to rfl (congrArg (fun q => [DI q]) (hz9.symm.trans hy9)) (r_lawret (pc := 347) hLE hC dL_law_347 (by show _ ≤ 600130; omega) (by show _ ≤ 7301080; omega))
                        · replace hf := oi_t c62 hf
                          refine r_aload_n (pc := 297) hC dL_law_297 rfl 2 rfl ?_
                          refine r_iload (pc := 298) hC dL_law_298 9 rfl ?_
                          refine r_bipush (pc := 300) (v := 6) hC dL_law_300 (by decide) ?_
                          obtain ⟨b64, gb64, hf⟩ := ob hf
                          obtain ⟨q65, eq65, hf⟩ := ob hf
                          refine r_callV (pc := 302) (As := [DI z36.2, DI 6]) (rest := []) (stk' := [DI q65]) (k0_X4_told (nx eq65)) gb64 rfl hC wd_1_164 wd_1_165 wd_1_166 wd_1_167 wd_1_1 md_X4_told rfl ⟨rfl, rfl, Nat.le_of_ble_eq_true rfl, Nat.le_of_ble_eq_true rfl, by show _ ≤ 600130; omega, by show _ ≤ 7301080; omega⟩ dL_law_302 rfl (Nat.le_of_ble_eq_true rfl) rfl ?_
                          refine r_bipush (pc := 305) (v := 15) hC dL_law_305 (by decide) ?_
                          refine r_icmp_lt (pc := 307) (tgt := 346) hC dL_law_307 (by decide) (fun c66 => ?_) (fun c66 => ?_)
                          · replace hf := oi_t c66 hf
                            refine r_iconst (pc := 346) (v := 0) hC dL_law_346 (by decide) ?_
                            obtain ⟨v67, ev67, hf⟩ := ob hf
                            cases hf
                            have hz9 := (oZ_spec ev67).1
                            have hy9 : v67 = 1 := (Prod.mk.inj (Option.some.inj hk)).1
                            exact dm_to rfl (congrArg (fun q => [DI q]) (hz9.symm.trans hy9)) (r_lawret (pc := 347) hLE hC dL_law_347 (by show _ ≤ 600130; omega) (by show _ ≤ 7301080; omega))
                          · replace hf := oi_f c66 hf
                            refine r_aload_n (pc := 310) hC dL_law_310 rfl 2 rfl ?_
                            refine r_iload (pc := 311) hC dL_law_311 9 rfl ?_
                            refine r_bipush (pc := 313) (v := 6) hC dL_law_313 (by decide) ?_
                            obtain ⟨b68, gb68, hf⟩ := ob hf
                            obtain ⟨q69, eq69, hf⟩ := ob hf
                            refine r_callV (pc := 315) (As := [DI z36.2, DI 6]) (rest := []) (stk' := [DI q69]) (k0_X4_told (nx eq69)) gb68 rfl hC wd_1_164 wd_1_165 wd_1_166 wd_1_167 wd_1_1 md_X4_told rfl ⟨rfl, rfl, Nat.le_of_ble_eq_true rfl, Nat.le_of_ble_eq_true rfl, by show _ ≤ 600130; omega, by show _ ≤ 7301080; omega⟩ dL_law_315 rfl (Nat.le_of_ble_eq_true rfl) rfl ?_
                            refine r_bipush (pc := 318) (v := 50) hC dL_law_318 (by decide) ?_
                            refine r_icmp_gt (pc := 320) (tgt := 346) hC dL_law_320 (by decide) (fun c70 => ?_) (fun c70 => ?_)
                            · replace hf := oi_t c70 hf
                              refine r_iconst (pc := 346) (v := 0) hC dL_law_346 (by decide) ?_
                              obtain ⟨v71, ev71, hf⟩ := ob hf
                              cases hf
                              have hz9 := (oZ_spec ev71).1
                              have hy9 : v71 = 1 := (Prod.mk.inj (Option.some.inj hk)).1
                              exact dm_to rfl (congrArg (fun q => [DI q]) (hz9.symm.trans hy9)) (r_lawret (pc := 347) hLE hC dL_law_347 (by show _ ≤ 600130; omega) (by show _ ≤ 7301080; omega))
                            · replace hf := oi_f c70 hf
                              refine r_aload_n (pc := 323) hC dL_law_323 rfl 2 rfl ?_
                              refine r_iload (pc := 324) hC dL_law_324 9 rfl ?_
                              refine r_iconst (pc := 326) (v := 0) hC dL_law_326 (by decide) ?_
                              obtain ⟨b72, gb72, hf⟩ := ob hf
                              obtain ⟨q73, eq73, hf⟩ := ob hf
                              refine r_callV (pc := 327) (As := [DI z36.2, DI 0]) (rest := []) (stk' := [DI q73]) (k0_X4_told (nx eq73)) gb72 rfl hC wd_1_164 wd_1_165 wd_1_166 wd_1_167 wd_1_1 md_X4_told rfl ⟨rfl, rfl, Nat.le_of_ble_eq_true rfl, Nat.le_of_ble_eq_true rfl, by show _ ≤ 600130; omega, by show _ ≤ 7301080; omega⟩ dL_law_327 rfl (Nat.le_of_ble_eq_true rfl) rfl ?_
                              refine r_if_lt (pc := 330) (tgt := 346) hC dL_law_330 (by decide) (fun c74 => ?_) (fun c74 => ?_)
                              · replace hf := oi_t c74 hf
                                refine r_iconst (pc := 346) (v := 0) hC dL_law_346 (by decide) ?_
                                obtain ⟨v75, ev75, hf⟩ := ob hf
                                cases hf
                                have hz9 := (oZ_spec ev75).1
                                have hy9 : v75 = 1 := (Prod.mk.inj (Option.some.inj hk)).1
                                exact dm_to rfl (congrArg (fun q => [DI q]) (hz9.symm.trans hy9)) (r_lawret (pc := 347) hLE hC dL_law_347 (by show _ ≤ 600130; omega) (by show _ ≤ 7301080; omega))
                              · replace hf := oi_f c74 hf
                                refine r_aload_n (pc := 333) hC dL_law_333 rfl 2 rfl ?_
                                refine r_iload (pc := 334) hC dL_law_334 9 rfl ?_
                                refine r_iconst (pc := 336) (v := 0) hC dL_law_336 (by decide) ?_
                                obtain ⟨b76, gb76, hf⟩ := ob hf
                                obtain ⟨q77, eq77, hf⟩ := ob hf
                                refine r_callV (pc := 337) (As := [DI z36.2, DI 0]) (rest := []) (stk' := [DI q77]) (k0_X4_told (nx eq77)) gb76 rfl hC wd_1_164 wd_1_165 wd_1_166 wd_1_167 wd_1_1 md_X4_told rfl ⟨rfl, rfl, Nat.le_of_ble_eq_true rfl, Nat.le_of_ble_eq_true rfl, by show _ ≤ 600130; omega, by show _ ≤ 7301080; omega⟩ dL_law_337 rfl (Nat.le_of_ble_eq_true rfl) rfl ?_
                                refine r_sipush (pc := 340) (v := 2000) hC dL_law_340 (by decide) ?_
                                refine r_icmp_le (pc := 343) (tgt := 348) hC dL_law_343 (by decide) (fun c78 => ?_) (fun c78 => ?_)
                                · replace hf := oi_t c78 hf
                                  refine r_iload (pc := 348) hC dL_law_348 8 rfl ?_
                                  refine r_aload_n (pc := 350) hC dL_law_350 rfl 2 rfl ?_
                                  refine r_iload (pc := 351) hC dL_law_351 9 rfl ?_
                                  refine r_iconst (pc := 353) (v := 0) hC dL_law_353 (by decide) ?_
                                  obtain ⟨b79, gb79, hf⟩ := ob hf
                                  obtain ⟨q80, eq80, hf⟩ := ob hf
                                  refine r_callV (pc := 354) (As := [DI z36.2, DI 0]) (rest := [DI z36.1]) (stk' := [DI q80, DI z36.1]) (k0_X4_told (nx eq80)) gb79 rfl hC wd_1_164 wd_1_165 wd_1_166 wd_1_167 wd_1_1 md_X4_told rfl ⟨rfl, rfl, Nat.le_of_ble_eq_true rfl, Nat.le_of_ble_eq_true rfl, by show _ ≤ 600130; omega, by show _ ≤ 7301080; omega⟩ dL_law_354 rfl (Nat.le_of_ble_eq_true rfl) rfl ?_
                                  refine r_iadd (pc := 357) hC dL_law_357 ?_
                                  refine r_istore (pc := 358) (lv' := [(9, DI (z36.1 + q80)), (12, DI (((((2 * q49) + q51) - q53) - q55) - q57)), (0, DR (some b)), (1, DR (some st.1)), (2, DR (some n5)), (3, DI z7.2), (4, DI ((q10 >>> ((v11 * 3) &&& 31)) + (467 * z7.2))), (7, DI j32), (8, DI q27), (10, DI z36.2), (11, DI yb40.1)]) hC hN dL_law_358 (by decide) rfl ?_
                                  refine r_iinc (pc := 360) (pos := 9) (v := (z36.2 + 1)) (lv' := [(10, DI (z36.2 + 1)), (9, DI (z36.1 + q80)), (12, DI (((((2 * q49) + q51) - q53) - q55) - q57)), (0, DR (some b)), (1, DR (some st.1)), (2, DR (some n5)), (3, DI z7.2), (4, DI ((q10 >>> ((v11 * 3) &&& 31)) + (467 * z7.2))), (7, DI j32), (8, DI q27), (11, DI yb40.1)]) hC hN dL_law_360 rfl rfl (by decide) rfl ?_
                                  refine r_goto (pc := 363) (tgt := 170) hC dL_law_363 (by decide) ?_
                                  cases hf
                                  exact dm_sub [3, 4, 5, 6, 7, 8, 9, 1, 0] rfl hk
                                · replace hf := oi_f c78 hf
                                  refine r_iconst (pc := 346) (v := 0) hC dL_law_346 (by decide) ?_
                                  obtain ⟨v81, ev81, hf⟩ := ob hf
                                  cases hf
                                  have hz9 := (oZ_spec ev81).1
                                  have hy9 : v81 = 1 := (Prod.mk.inj (Option.some.inj hk)).1
                                  exact dm_to rfl (congrArg (fun q => [DI q]) (hz9.symm.trans hy9)) (r_lawret (pc := 347) hLE hC dL_law_347 (by show _ ≤ 600130; omega) (by show _ ≤ 7301080; omega))
                    · cases hf
                      exact hk
              · rcases b36 with yb36 | r9
                · refine r_iconst (pc := 366) (v := 0) hC dL_law_366 (by decide) ?_
                  refine r_istore (pc := 367) (lv' := [(10, DI 0), (0, DR (some b)), (1, DR (some st.1)), (2, DR (some n5)), (3, DI z7.2), (4, DI ((q10 >>> ((v11 * 3) &&& 31)) + (467 * z7.2))), (7, DI j32), (8, DI q27), (9, DI yb36.1)]) hC hN dL_law_367 (by decide) rfl ?_
                  refine r_iconst (pc := 369) (v := 0) hC dL_law_369 (by decide) ?_
                  refine r_istore (pc := 370) (lv' := [(11, DI 0), (10, DI 0), (0, DR (some b)), (1, DR (some st.1)), (2, DR (some n5)), (3, DI z7.2), (4, DI ((q10 >>> ((v11 * 3) &&& 31)) + (467 * z7.2))), (7, DI j32), (8, DI q27), (9, DI yb36.1)]) hC hN dL_law_370 (by decide) rfl ?_
                  refine r_iconst (pc := 372) (v := 0) hC dL_law_372 (by decide) ?_
                  refine r_istore (pc := 373) (lv' := [(12, DI 0), (11, DI 0), (10, DI 0), (0, DR (some b)), (1, DR (some st.1)), (2, DR (some n5)), (3, DI z7.2), (4, DI ((q10 >>> ((v11 * 3) &&& 31)) + (467 * z7.2))), (7, DI j32), (8, DI q27), (9, DI yb36.1)]) hC hN dL_law_373 (by decide) rfl ?_
                  obtain ⟨b82, eb82, hf⟩ := ob hf
                  refine dm_sub (lv' := [(0, DR (some b)), (1, DR (some st.1)), (2, DR (some n5)), (3, DI z7.2), (4, DI ((q10 >>> ((v11 * 3) &&& 31)) + (467 * z7.2))), (7, DI j32), (8, DI q27), (9, DI yb36.1), (10, DI 0), (11, DI 0), (12, DI 0)]) [3, 4, 5, 6, 7, 8, 9, 10, 2, 1, 0] rfl ?_
                  refine dlp_W _ (fun (z82 : Int32 × Int32 × Int32) => dm_W Y (cs7 + 63) (ss7 + 630) q28.2 375 [(0, DR (some b)), (1, DR (some st.1)), (2, DR (some n5)), (3, DI z7.2), (4, DI ((q10 >>> ((v11 * 3) &&& 31)) + (467 * z7.2))), (7, DI j32), (8, DI q27), (9, DI yb36.1), (10, DI z82.1), (11, DI z82.2.1), (12, DI z82.2.2)] []) (fun (b82 : (Int32 × Int32 × Int32) ⊕ (Int32 × DSt)) => match b82 with | .inl yb82 => dm_W Y (cs7 + 63) (ss7 + 630) q28.2 634 [(0, DR (some b)), (1, DR (some st.1)), (2, DR (some n5)), (3, DI z7.2), (4, DI ((q10 >>> ((v11 * 3) &&& 31)) + (467 * z7.2))), (7, DI j32), (8, DI q27), (9, DI yb36.1), (10, DI yb82.1), (11, DI yb82.2.1), (12, DI yb82.2.2)] [] | .inr r9 => some r9 = some ((1 : Int32), st1)) ?_ eb82 ?_
                  · intro z82 r hf hk
                    unfold fL_law_L375 at hf
                    refine r_iload (pc := 375) hC dL_law_375 10 rfl ?_
                    refine r_aload_n (pc := 377) hC dL_law_377 rfl 1 rfl ?_
                    refine r_iconst (pc := 378) (v := 2) hC dL_law_378 (by decide) ?_
                    obtain ⟨b83, gb83, hf⟩ := ob hf
                    obtain ⟨q84, eq84, hf⟩ := ob hf
                    refine r_callV (pc := 379) (As := [DI 2]) (rest := [DI z82.2.2]) (stk' := [DI q84, DI z82.2.2]) (k0_X4_count (nx eq84)) gb83 rfl hC wd_1_211 wd_1_212 wd_1_213 wd_1_214 wd_1_1 md_X4_count rfl ⟨rfl, rfl, Nat.le_of_ble_eq_true rfl, Nat.le_of_ble_eq_true rfl, by show _ ≤ 600130; omega, by show _ ≤ 7301080; omega⟩ dL_law_379 rfl (Nat.le_of_ble_eq_true rfl) rfl ?_
                    refine r_icmp_ge (pc := 382) (tgt := 634) hC dL_law_382 (by decide) (fun c85 => ?_) (fun c85 => ?_)
                    · replace hf := oi_t c85 hf
                      cases hf
                      exact dm_sub [0, 1, 2, 3, 4, 5, 6, 7, 8, 9, 10] rfl hk
                    · replace hf := oi_f c85 hf
                      refine r_aload_n (pc := 385) hC dL_law_385 rfl 1 rfl ?_
                      refine r_iload (pc := 386) hC dL_law_386 10 rfl ?_
                      refine r_bipush (pc := 388) (v := 6) hC dL_law_388 (by decide) ?_
                      obtain ⟨b86, gb86, hf⟩ := ob hf
                      obtain ⟨q87, eq87, hf⟩ := ob hf
                      refine r_callV (pc := 390) (As := [DI z82.2.2, DI 6]) (rest := []) (stk' := [DI q87]) (k0_X4_about (nx eq87)) gb86 rfl hC wd_1_185 wd_1_186 wd_1_187 wd_1_188 wd_1_1 md_X4_about rfl ⟨rfl, rfl, Nat.le_of_ble_eq_true rfl, Nat.le_of_ble_eq_true rfl, by show _ ≤ 600130; omega, by show _ ≤ 7301080; omega⟩ dL_law_390 rfl (Nat.le_of_ble_eq_true rfl) rfl ?_
                      refine r_istore (pc := 393) (lv' := [(13, DI q87), (0, DR (some b)), (1, DR (some st.1)), (2, DR (some n5)), (3, DI z7.2), (4, DI ((q10 >>> ((v11 * 3) &&& 31)) + (467 * z7.2))), (7, DI j32), (8, DI q27), (9, DI yb36.1), (10, DI z82.1), (11, DI z82.2.1), (12, DI z82.2.2)]) hC hN dL_law_393 (by decide) rfl ?_
                      refine r_aload_n (pc := 395) hC dL_law_395 rfl 2 rfl ?_
                      refine r_iload (pc := 396) hC dL_law_396 11 rfl ?_
                      refine r_iconst (pc := 398) (v := 5) hC dL_law_398 (by decide) ?_
                      obtain ⟨b88, gb88, hf⟩ := ob hf
                      obtain ⟨q89, eq89, hf⟩ := ob hf
                      refine r_callV (pc := 399) (As := [DI z82.2.2, DI 5]) (rest := []) (stk' := [DI q89]) (k0_X4_about (nx eq89)) gb88 rfl hC wd_1_185 wd_1_186 wd_1_187 wd_1_188 wd_1_1 md_X4_about rfl ⟨rfl, rfl, Nat.le_of_ble_eq_true rfl, Nat.le_of_ble_eq_true rfl, by show _ ≤ 600130; omega, by show _ ≤ 7301080; omega⟩ dL_law_399 rfl (Nat.le_of_ble_eq_true rfl) rfl ?_
                      refine r_istore (pc := 402) (lv' := [(14, DI q89), (13, DI q87), (0, DR (some b)), (1, DR (some st.1)), (2, DR (some n5)), (3, DI z7.2), (4, DI ((q10 >>> ((v11 * 3) &&& 31)) + (467 * z7.2))), (7, DI j32), (8, DI q27), (9, DI yb36.1), (10, DI z82.1), (11, DI z82.2.1), (12, DI z82.2.2)]) hC hN dL_law_402 (by decide) rfl ?_
                      refine r_aload_n (pc := 404) hC dL_law_404 rfl 3 rfl ?_
                      refine r_iload (pc := 405) hC dL_law_405 12 rfl ?_
                      refine r_iconst (pc := 407) (v := 0) hC dL_law_407 (by decide) ?_
                      obtain ⟨b90, gb90, hf⟩ := ob hf
                      obtain ⟨q91, eq91, hf⟩ := ob hf
                      refine r_callV (pc := 408) (As := [DI z82.2.2, DI 0]) (rest := []) (stk' := [DI q91]) (k0_X4_about (nx eq91)) gb90 rfl hC wd_1_185 wd_1_186 wd_1_187 wd_1_188 wd_1_1 md_X4_about rfl ⟨rfl, rfl, Nat.le_of_ble_eq_true rfl, Nat.le_of_ble_eq_true rfl, by show _ ≤ 600130; omega, by show _ ≤ 7301080; omega⟩ dL_law_408 rfl (Nat.le_of_ble_eq_true rfl) rfl ?_
                      refine r_iconst (pc := 411) (v := 1) hC dL_law_411 (by decide) ?_
                      refine r_icmp_lt (pc := 412) (tgt := 539) hC dL_law_412 (by decide) (fun c92 => ?_) (fun c92 => ?_)
                      · replace hf := oi_t c92 hf
                        refine r_iconst (pc := 539) (v := 0) hC dL_law_539 (by decide) ?_
                        obtain ⟨v93, ev93, hf⟩ := ob hf
                        cases hf
                        have hz9 := (oZ_spec ev93).1
                        have hy9 : v93 = 1 := (Prod.mk.inj (Option.some.inj hk)).1
                        exact dm_to rfl (congrArg (fun q => [DI q]) (hz9.symm.trans hy9)) (r_lawret (pc := 540) hLE hC dL_law_540 (by show _ ≤ 600130; omega) (by show _ ≤ 7301080; omega))
                      · replace hf := oi_f c92 hf
                        refine r_aload_n (pc := 415) hC dL_law_415 rfl 3 rfl ?_
                        refine r_iload (pc := 416) hC dL_law_416 12 rfl ?_
                        refine r_iconst (pc := 418) (v := 0) hC dL_law_418 (by decide) ?_
                        obtain ⟨b94, gb94, hf⟩ := ob hf
                        obtain ⟨q95, eq95, hf⟩ := ob hf
                        refine r_callV (pc := 419) (As := [DI z82.2.2, DI 0]) (rest := []) (stk' := [DI q95]) (k0_X4_about (nx eq95)) gb94 rfl hC wd_1_185 wd_1_186 wd_1_187 wd_1_188 wd_1_1 md_X4_about rfl ⟨rfl, rfl, Nat.le_of_ble_eq_true rfl, Nat.le_of_ble_eq_true rfl, by show _ ≤ 600130; omega, by show _ ≤ 7301080; omega⟩ dL_law_419 rfl (Nat.le_of_ble_eq_true rfl) rfl ?_
                        refine r_bipush (pc := 422) (v := 6) hC dL_law_422 (by decide) ?_
                        refine r_icmp_gt (pc := 424) (tgt := 539) hC dL_law_424 (by decide) (fun c96 => ?_) (fun c96 => ?_)
                        · replace hf := oi_t c96 hf
                          refine r_iconst (pc := 539) (v := 0) hC dL_law_539 (by decide) ?_
                          obtain ⟨v97, ev97, hf⟩ := ob hf
                          cases hf
                          have hz9 := (oZ_spec ev97).1
                          have hy9 : v97 = 1 := (Prod.mk.inj (Option.some.inj hk)).1
                          exact dm_to rfl (congrArg (fun q => [DI q]) (hz9.symm.trans hy9)) (r_lawret (pc := 540) hLE hC dL_law_540 (by show _ ≤ 600130; omega) (by show _ ≤ 7301080; omega))
                        · replace hf := oi_f c96 hf
                          refine r_aload_n (pc := 427) hC dL_law_427 rfl 3 rfl ?_
                          refine r_iload (pc := 428) hC dL_law_428 12 rfl ?_
                          refine r_iconst (pc := 430) (v := 1) hC dL_law_430 (by decide) ?_
                          obtain ⟨b98, gb98, hf⟩ := ob hf
                          obtain ⟨q99, eq99, hf⟩ := ob hf
                          refine r_callV (pc := 431) (As := [DI z82.2.2, DI 1]) (rest := []) (stk' := [DI q99]) (k0_X4_about (nx eq99)) gb98 rfl hC wd_1_185 wd_1_186 wd_1_187 wd_1_188 wd_1_1 md_X4_about rfl ⟨rfl, rfl, Nat.le_of_ble_eq_true rfl, Nat.le_of_ble_eq_true rfl, by show _ ≤ 600130; omega, by show _ ≤ 7301080; omega⟩ dL_law_431 rfl (Nat.le_of_ble_eq_true rfl) rfl ?_
                          refine r_iconst (pc := 434) (v := 1) hC dL_law_434 (by decide) ?_
                          refine r_icmp_lt (pc := 435) (tgt := 539) hC dL_law_435 (by decide) (fun c100 => ?_) (fun c100 => ?_)
                          · replace hf := oi_t c100 hf
                            refine r_iconst (pc := 539) (v := 0) hC dL_law_539 (by decide) ?_
                            obtain ⟨v101, ev101, hf⟩ := ob hf
                            cases hf
                            have hz9 := (oZ_spec ev101).1
                            have hy9 : v101 = 1 := (Prod.mk.inj (Option.some.inj hk)).1
                            exact dm_to rfl (congrArg (fun q => [DI q]) (hz9.symm.trans hy9)) (r_lawret (pc := 540) hLE hC dL_law_540 (by show _ ≤ 600130; omega) (by show _ ≤ 7301080; omega))
                          · replace hf := oi_f c100 hf
                            refine r_aload_n (pc := 438) hC dL_law_438 rfl 3 rfl ?_
                            refine r_iload (pc := 439) hC dL_law_439 12 rfl ?_
                            refine r_iconst (pc := 441) (v := 1) hC dL_law_441 (by decide) ?_
                            obtain ⟨b102, gb102, hf⟩ := ob hf
                            obtain ⟨q103, eq103, hf⟩ := ob hf
                            refine r_callV (pc := 442) (As := [DI z82.2.2, DI 1]) (rest := []) (stk' := [DI q103]) (k0_X4_about (nx eq103)) gb102 rfl hC wd_1_185 wd_1_186 wd_1_187 wd_1_188 wd_1_1 md_X4_about rfl ⟨rfl, rfl, Nat.le_of_ble_eq_true rfl, Nat.le_of_ble_eq_true rfl, by show _ ≤ 600130; omega, by show _ ≤ 7301080; omega⟩ dL_law_442 rfl (Nat.le_of_ble_eq_true rfl) rfl ?_
                            refine r_bipush (pc := 445) (v := 6) hC dL_law_445 (by decide) ?_
                            refine r_icmp_gt (pc := 447) (tgt := 539) hC dL_law_447 (by decide) (fun c104 => ?_) (fun c104 => ?_)
                            · replace hf := oi_t c104 hf
                              refine r_iconst (pc := 539) (v := 0) hC dL_law_539 (by decide) ?_
                              obtain ⟨v105, ev105, hf⟩ := ob hf
                              cases hf
                              have hz9 := (oZ_spec ev105).1
                              have hy9 : v105 = 1 := (Prod.mk.inj (Option.some.inj hk)).1
                              exact dm_to rfl (congrArg (fun q => [DI q]) (hz9.symm.trans hy9)) (r_lawret (pc := 540) hLE hC dL_law_540 (by show _ ≤ 600130; omega) (by show _ ≤ 7301080; omega))
                            · replace hf := oi_f c104 hf
                              refine r_iload (pc := 450) hC dL_law_450 0 rfl ?_
                              refine r_aload_n (pc := 452) hC dL_law_452 rfl 3 rfl ?_
                              refine r_iload (pc := 453) hC dL_law_453 12 rfl ?_
                              refine r_iconst (pc := 455) (v := 0) hC dL_law_455 (by decide) ?_
                              obtain ⟨b106, gb106, hf⟩ := ob hf
                              obtain ⟨q107, eq107, hf⟩ := ob hf
                              refine r_callV (pc := 456) (As := [DI z82.2.2, DI 0]) (rest := [DI q89]) (stk' := [DI q107, DI q89]) (k0_X4_about (nx eq107)) gb106 rfl hC wd_1_185 wd_1_186 wd_1_187 wd_1_188 wd_1_1 md_X4_about rfl ⟨rfl, rfl, Nat.le_of_ble_eq_true rfl, Nat.le_of_ble_eq_true rfl, by show _ ≤ 600130; omega, by show _ ≤ 7301080; omega⟩ dL_law_456 rfl (Nat.le_of_ble_eq_true rfl) rfl ?_
                              refine r_aload_n (pc := 459) hC dL_law_459 rfl 3 rfl ?_
                              refine r_iload (pc := 460) hC dL_law_460 12 rfl ?_
                              refine r_iconst (pc := 462) (v := 1) hC dL_law_462 (by decide) ?_
                              obtain ⟨b108, gb108, hf⟩ := ob hf
                              obtain ⟨q109, eq109, hf⟩ := ob hf
                              refine r_callV (pc := 463) (As := [DI z82.2.2, DI 1]) (rest := [DI q107, DI q89]) (stk' := [DI q109, DI q107, DI q89]) (k0_X4_about (nx eq109)) gb108 rfl hC wd_1_185 wd_1_186 wd_1_187 wd_1_188 wd_1_1 md_X4_about rfl ⟨rfl, rfl, Nat.le_of_ble_eq_true rfl, Nat.le_of_ble_eq_true rfl, by show _ ≤ 600130; omega, by show _ ≤ 7301080; omega⟩ dL_law_463 rfl (Nat.le_of_ble_eq_true rfl) rfl ?_
                              refine r_imul (pc := 466) hC dL_law_466 ?_
                              refine r_icmp_ne (pc := 467) (tgt := 539) hC dL_law_467 (by decide) (fun c110 => ?_) (fun c110 => ?_)
                              · replace hf := oi_f c110 hf
                                refine r_iconst (pc := 539) (v := 0) hC dL_law_539 (by decide) ?_
                                obtain ⟨v111, ev111, hf⟩ := ob hf
                                cases hf
                                have hz9 := (oZ_spec ev111).1
                                have hy9 : v111 = 1 := (Prod.mk.inj (Option.some.inj hk)).1
                                exact dm_to rfl (congrArg (fun q => [DI q]) (hz9.symm.trans hy9)) (r_lawret (pc := 540) hLE hC dL_law_540 (by show _ ≤ 600130; omega) (by show _ ≤ 7301080; omega))
                              · replace hf := oi_t c110 hf
                                refine r_aload_n (pc := 470) hC dL_law_470 rfl 3 rfl ?_
                                refine r_iload (pc := 471) hC dL_law_471 12 rfl ?_
                                refine r_iconst (pc := 473) (v := 2) hC dL_law_473 (by decide) ?_
                                obtain ⟨b112, gb112, hf⟩ := ob hf
                                obtain ⟨q113, eq113, hf⟩ := ob hf
                                refine r_callV (pc := 474) (As := [DI z82.2.2, DI 2]) (rest := []) (stk' := [DI q113]) (k0_X4_about (nx eq113)) gb112 rfl hC wd_1_185 wd_1_186 wd_1_187 wd_1_188 wd_1_1 md_X4_about rfl ⟨rfl, rfl, Nat.le_of_ble_eq_true rfl, Nat.le_of_ble_eq_true rfl, by show _ ≤ 600130; omega, by show _ ≤ 7301080; omega⟩ dL_law_474 rfl (Nat.le_of_ble_eq_true rfl) rfl ?_
                                refine r_if_lt (pc := 477) (tgt := 539) hC dL_law_477 (by decide) (fun c114 => ?_) (fun c114 => ?_)
                                · replace hf := oi_t c114 hf
                                  refine r_iconst (pc := 539) (v := 0) hC dL_law_539 (by decide) ?_
                                  obtain ⟨v115, ev115, hf⟩ := ob hf
                                  cases hf
                                  have hz9 := (oZ_spec ev115).1
                                  have hy9 : v115 = 1 := (Prod.mk.inj (Option.some.inj hk)).1
                                  exact dm_to rfl (congrArg (fun q => [DI q]) (hz9.symm.trans hy9)) (r_lawret (pc := 540) hLE hC dL_law_540 (by show _ ≤ 600130; omega) (by show _ ≤ 7301080; omega))
                                · replace hf := oi_f c114 hf
                                  refine r_aload_n (pc := 480) hC dL_law_480 rfl 3 rfl ?_
                                  refine r_iload (pc := 481) hC dL_law_481 12 rfl ?_
                                  refine r_iconst (pc := 483) (v := 2) hC dL_law_483 (by decide) ?_
                                  obtain ⟨b116, gb116, hf⟩ := ob hf
                                  obtain ⟨q117, eq117, hf⟩ := ob hf
                                  refine r_callV (pc := 484) (As := [DI z82.2.2, DI 2]) (rest := []) (stk' := [DI q117]) (k0_X4_about (nx eq117)) gb116 rfl hC wd_1_185 wd_1_186 wd_1_187 wd_1_188 wd_1_1 md_X4_about rfl ⟨rfl, rfl, Nat.le_of_ble_eq_true rfl, Nat.le_of_ble_eq_true rfl, by show _ ≤ 600130; omega, by show _ ≤ 7301080; omega⟩ dL_law_484 rfl (Nat.le_of_ble_eq_true rfl) rfl ?_
                                  refine r_bipush (pc := 487) (v := 100) hC dL_law_487 (by decide) ?_
                                  refine r_icmp_gt (pc := 489) (tgt := 539) hC dL_law_489 (by decide) (fun c118 => ?_) (fun c118 => ?_)
                                  · replace hf := oi_t c118 hf
                                    refine r_iconst (pc := 539) (v := 0) hC dL_law_539 (by decide) ?_
                                    obtain ⟨v119, ev119, hf⟩ := ob hf
                                    cases hf
                                    have hz9 := (oZ_spec ev119).1
                                    have hy9 : v119 = 1 := (Prod.mk.inj (Option.some.inj hk)).1
                                    exact dm_to rfl (congrArg (fun q => [DI q]) (hz9.symm.trans hy9)) (r_lawret (pc := 540) hLE hC dL_law_540 (by show _ ≤ 600130; omega) (by show _ ≤ 7301080; omega))
                                  · replace hf := oi_f c118 hf
                                    refine r_aload_n (pc := 492) hC dL_law_492 rfl 3 rfl ?_
                                    refine r_iload (pc := 493) hC dL_law_493 12 rfl ?_
                                    refine r_iconst (pc := 495) (v := 3) hC dL_law_495 (by decide) ?_
                                    obtain ⟨b120, gb120, hf⟩ := ob hf
                                    obtain ⟨q121, eq121, hf⟩ := ob hf
                                    refine r_callV (pc := 496) (As := [DI z82.2.2, DI 3]) (rest := []) (stk' := [DI q121]) (k0_X4_about (nx eq121)) gb120 rfl hC wd_1_185 wd_1_186 wd_1_187 wd_1_188 wd_1_1 md_X4_about rfl ⟨rfl, rfl, Nat.le_of_ble_eq_true rfl, Nat.le_of_ble_eq_true rfl, by show _ ≤ 600130; omega, by show _ ≤ 7301080; omega⟩ dL_law_496 rfl (Nat.le_of_ble_eq_true rfl) rfl ?_
                                    refine r_if_lt (pc := 499) (tgt := 539) hC dL_law_499 (by decide) (fun c122 => ?_) (fun c122 => ?_)
                                    · replace hf := oi_t c122 hf
                                      refine r_iconst (pc := 539) (v := 0) hC dL_law_539 (by decide) ?_
                                      obtain ⟨v123, ev123, hf⟩ := ob hf
                                      cases hf
                                      have hz9 := (oZ_spec ev123).1
                                      have hy9 : v123 = 1 := (Prod.mk.inj (Option.some.inj hk)).1
                                      exact dm_to rfl (congrArg (fun q => [DI q]) (hz9.symm.trans hy9)) (r_lawret (pc := 540) hLE hC dL_law_540 (by show _ ≤ 600130; omega) (by show _ ≤ 7301080; omega))
                                    · replace hf := oi_f c122 hf
                                      refine r_aload_n (pc := 502) hC dL_law_502 rfl 3 rfl ?_
                                      refine r_iload (pc := 503) hC dL_law_503 12 rfl ?_
                                      refine r_iconst (pc := 505) (v := 3) hC dL_law_505 (by decide) ?_
                                      obtain ⟨b124, gb124, hf⟩ := ob hf
                                      obtain ⟨q125, eq125, hf⟩ := ob hf
                                      refine r_callV (pc := 506) (As := [DI z82.2.2, DI 3]) (rest := []) (stk' := [DI q125]) (k0_X4_about (nx eq125)) gb124 rfl hC wd_1_185 wd_1_186 wd_1_187 wd_1_188 wd_1_1 md_X4_about rfl ⟨rfl, rfl, Nat.le_of_ble_eq_true rfl, Nat.le_of_ble_eq_true rfl, by show _ ≤ 600130; omega, by show _ ≤ 7301080; omega⟩ dL_law_506 rfl (Nat.le_of_ble_eq_true rfl) rfl ?_
                                      refine r_bipush (pc := 509) (v := 100) hC dL_law_509 (by decide) ?_
                                      refine r_icmp_gt (pc := 511) (tgt := 539) hC dL_law_511 (by decide) (fun c126 => ?_) (fun c126 => ?_)
                                      · replace hf := oi_t c126 hf
                                        refine r_iconst (pc := 539) (v := 0) hC dL_law_539 (by decide) ?_
                                        obtain ⟨v127, ev127, hf⟩ := ob hf
                                        cases hf
                                        have hz9 := (oZ_spec ev127).1
                                        have hy9 : v127 = 1 := (Prod.mk.inj (Option.some.inj hk)).1
                                        exact dm_to rfl (congrArg (fun q => [DI q]) (hz9.symm.trans hy9)) (r_lawret (pc := 540) hLE hC dL_law_540 (by show _ ≤ 600130; omega) (by show _ ≤ 7301080; omega))
                                      · replace hf := oi_f c126 hf
                                        refine r_aload_n (pc := 514) hC dL_law_514 rfl 3 rfl ?_
                                        refine r_iload (pc := 515) hC dL_law_515 12 rfl ?_
                                        refine r_iconst (pc := 517) (v := 4) hC dL_law_517 (by decide) ?_
                                        obtain ⟨b128, gb128, hf⟩ := ob hf
                                        obtain ⟨q129, eq129, hf⟩ := ob hf
                                        refine r_callV (pc := 518) (As := [DI z82.2.2, DI 4]) (rest := []) (stk' := [DI q129]) (k0_X4_about (nx eq129)) gb128 rfl hC wd_1_185 wd_1_186 wd_1_187 wd_1_188 wd_1_1 md_X4_about rfl ⟨rfl, rfl, Nat.le_of_ble_eq_true rfl, Nat.le_of_ble_eq_true rfl, by show _ ≤ 600130; omega, by show _ ≤ 7301080; omega⟩ dL_law_518 rfl (Nat.le_of_ble_eq_true rfl) rfl ?_
                                        refine r_if_lt (pc := 521) (tgt := 539) hC dL_law_521 (by decide) (fun c130 => ?_) (fun c130 => ?_)
                                        · replace hf := oi_t c130 hf
                                          refine r_iconst (pc := 539) (v := 0) hC dL_law_539 (by decide) ?_
                                          obtain ⟨v131, ev131, hf⟩ := ob hf
                                          cases hf
                                          have hz9 := (oZ_spec ev131).1
                                          have hy9 : v131 = 1 := (Prod.mk.inj (Option.some.inj hk)).1
                                          exact dm_to rfl (congrArg (fun q => [DI q]) (hz9.symm.trans hy9)) (r_lawret (pc := 540) hLE hC dL_law_540 (by show _ ≤ 600130; omega) (by show _ ≤ 7301080; omega))
                                        · replace hf := oi_f c130 hf
                                          refine r_aload_n (pc := 524) hC dL_law_524 rfl 3 rfl ?_
                                          refine r_iload (pc := 525) hC dL_law_525 12 rfl ?_
                                          refine r_iconst (pc := 527) (v := 4) hC dL_law_527 (by decide) ?_
                                          obtain ⟨b132, gb132, hf⟩ := ob hf
                                          obtain ⟨q133, eq133, hf⟩ := ob hf
                                          refine r_callV (pc := 528) (As := [DI z82.2.2, DI 4]) (rest := []) (stk' := [DI q133]) (k0_X4_about (nx eq133)) gb132 rfl hC wd_1_185 wd_1_186 wd_1_187 wd_1_188 wd_1_1 md_X4_about rfl ⟨rfl, rfl, Nat.le_of_ble_eq_true rfl, Nat.le_of_ble_eq_true rfl, by show _ ≤ 600130; omega, by show _ ≤ 7301080; omega⟩ dL_law_528 rfl (Nat.le_of_ble_eq_true rfl) rfl ?_
                                          refine r_aload_n (pc := 531) hC dL_law_531 rfl 3 rfl ?_
                                          refine r_iconst (pc := 532) (v := 0) hC dL_law_532 (by decide) ?_
                                          obtain ⟨b134, gb134, hf⟩ := ob hf
                                          obtain ⟨q135, eq135, hf⟩ := ob hf
                                          refine r_callV (pc := 533) (As := [DI 0]) (rest := [DI q133]) (stk' := [DI q135, DI q133]) (k0_X4_count (nx eq135)) gb134 rfl hC wd_1_211 wd_1_212 wd_1_213 wd_1_214 wd_1_1 md_X4_count rfl ⟨rfl, rfl, Nat.le_of_ble_eq_true rfl, Nat.le_of_ble_eq_true rfl, by show _ ≤ 600130; omega, by show _ ≤ 7301080; omega⟩ dL_law_533 rfl (Nat.le_of_ble_eq_true rfl) rfl ?_
                                          refine r_icmp_le (pc := 536) (tgt := 541) hC dL_law_536 (by decide) (fun c136 => ?_) (fun c136 => ?_)
                                          · replace hf := oi_t c136 hf
                                            refine r_iload (pc := 541) hC dL_law_541 1 rfl ?_
                                            refine r_if_lt (pc := 543) (tgt := 599) hC dL_law_543 (by decide) (fun c137 => ?_) (fun c137 => ?_)
                                            · replace hf := oi_t c137 hf
                                              refine r_iload (pc := 599) hC dL_law_599 10 rfl ?_
                                              refine r_iload (pc := 601) hC dL_law_601 0 rfl ?_
                                              refine r_iadd (pc := 603) hC dL_law_603 ?_
                                              refine r_istore (pc := 604) (lv' := [(10, DI (z82.1 + q89)), (14, DI q89), (13, DI q87), (0, DR (some b)), (1, DR (some st.1)), (2, DR (some n5)), (3, DI z7.2), (4, DI ((q10 >>> ((v11 * 3) &&& 31)) + (467 * z7.2))), (7, DI j32), (8, DI q27), (9, DI yb36.1), (11, DI z82.2.1), (12, DI z82.2.2)]) hC hN dL_law_604 (by decide) rfl ?_
                                              refine r_iload (pc := 606) hC dL_law_606 11 rfl ?_
                                              refine r_aload_n (pc := 608) hC dL_law_608 rfl 4 rfl ?_
                                              refine r_iload (pc := 609) hC dL_law_609 12 rfl ?_
                                              refine r_iconst (pc := 611) (v := 3) hC dL_law_611 (by decide) ?_
                                              obtain ⟨b138, gb138, hf⟩ := ob hf
                                              obtain ⟨q139, eq139, hf⟩ := ob hf
                                              refine r_callV (pc := 612) (As := [DI z82.2.2, DI 3]) (rest := [DI z82.2.1]) (stk' := [DI q139, DI z82.2.1]) (k0_X4_about (nx eq139)) gb138 rfl hC wd_1_185 wd_1_186 wd_1_187 wd_1_188 wd_1_1 md_X4_about rfl ⟨rfl, rfl, Nat.le_of_ble_eq_true rfl, Nat.le_of_ble_eq_true rfl, by show _ ≤ 600130; omega, by show _ ≤ 7301080; omega⟩ dL_law_612 rfl (Nat.le_of_ble_eq_true rfl) rfl ?_
                                              refine r_bipush (pc := 615) (v := 20) hC dL_law_615 (by decide) ?_
                                              obtain ⟨j140, ej140, hf⟩ := ob hf
                                              have hJ140 : dm_W Y (cs7 + 63) (ss7 + 630) q28.2 625 [(0, DR (some b)), (1, DR (some st.1)), (2, DR (some n5)), (3, DI z7.2), (4, DI ((q10 >>> ((v11 * 3) &&& 31)) + (467 * z7.2))), (7, DI j32), (8, DI q27), (9, DI yb36.1), (10, DI (z82.1 + q89)), (12, DI z82.2.2)] [DI j140, DI z82.2.1] := by
                                                refine r_iadd (pc := 625) hC dL_law_625 ?_
                                                refine r_istore (pc := 626) (lv' := [(11, DI (z82.2.1 + j140)), (0, DR (some b)), (1, DR (some st.1)), (2, DR (some n5)), (3, DI z7.2), (4, DI ((q10 >>> ((v11 * 3) &&& 31)) + (467 * z7.2))), (7, DI j32), (8, DI q27), (9, DI yb36.1), (10, DI (z82.1 + q89)), (12, DI z82.2.2)]) hC hN dL_law_626 (by decide) rfl ?_
                                                refine r_iinc (pc := 628) (pos := 10) (v := (z82.2.2 + 1)) (lv' := [(12, DI (z82.2.2 + 1)), (11, DI (z82.2.1 + j140)), (0, DR (some b)), (1, DR (some st.1)), (2, DR (some n5)), (3, DI z7.2), (4, DI ((q10 >>> ((v11 * 3) &&& 31)) + (467 * z7.2))), (7, DI j32), (8, DI q27), (9, DI yb36.1), (10, DI (z82.1 + q89))]) hC hN dL_law_628 rfl rfl (by decide) rfl ?_
                                                refine r_goto (pc := 631) (tgt := 375) hC dL_law_631 (by decide) ?_
                                                cases hf
                                                exact dm_sub [2, 3, 4, 5, 6, 7, 8, 9, 10, 1, 0] rfl hk
                                              replace hf := ej140
                                              clear ej140
                                              refine r_icmp_le (pc := 617) (tgt := 624) hC dL_law_617 (by decide) (fun c141 => ?_) (fun c141 => ?_)
                                              · replace hf := oi_t c141 hf
                                                refine r_iconst (pc := 624) (v := 0) hC dL_law_624 (by decide) ?_
                                                cases hf
                                                exact (dm_sub [3, 4, 5, 6, 7, 8, 9, 10, 0, 12] rfl hJ140)
                                              · replace hf := oi_f c141 hf
                                                refine r_iconst (pc := 620) (v := 1) hC dL_law_620 (by decide) ?_
                                                refine r_goto (pc := 621) (tgt := 625) hC dL_law_621 (by decide) ?_
                                                cases hf
                                                exact (dm_sub [3, 4, 5, 6, 7, 8, 9, 10, 0, 12] rfl hJ140)
                                            · replace hf := oi_f c137 hf
                                              refine r_aload_n (pc := 546) hC dL_law_546 rfl 3 rfl ?_
                                              refine r_iload (pc := 547) hC dL_law_547 1 rfl ?_
                                              refine r_iconst (pc := 549) (v := 0) hC dL_law_549 (by decide) ?_
                                              obtain ⟨b142, gb142, hf⟩ := ob hf
                                              obtain ⟨q143, eq143, hf⟩ := ob hf
                                              refine r_callV (pc := 550) (As := [DI q87, DI 0]) (rest := []) (stk' := [DI q143]) (k0_X4_order (nx eq143)) gb142 rfl hC wd_1_202 wd_1_203 wd_1_204 wd_1_205 wd_1_1 md_X4_order rfl ⟨rfl, rfl, Nat.le_of_ble_eq_true rfl, Nat.le_of_ble_eq_true rfl, by show _ ≤ 600130; omega, by show _ ≤ 7301080; omega⟩ dL_law_550 rfl (Nat.le_of_ble_eq_true rfl) rfl ?_
                                              refine r_iload (pc := 553) hC dL_law_553 0 rfl ?_
                                              refine r_icmp_ne (pc := 555) (tgt := 597) hC dL_law_555 (by decide) (fun c144 => ?_) (fun c144 => ?_)
                                              · replace hf := oi_f c144 hf
                                                refine r_iconst (pc := 597) (v := 0) hC dL_law_597 (by decide) ?_
                                                obtain ⟨v145, ev145, hf⟩ := ob hf
                                                cases hf
                                                have hz9 := (oZ_spec ev145).1
                                                have hy9 : v145 = 1 := (Prod.mk.inj (Option.some.inj hk)).1
                                                exact dm_to rfl (congrArg (fun q => [DI q]) (hz9.symm.trans hy9)) (r_lawret (pc := 598) hLE hC dL_law_598 (by show _ ≤ 600130; omega) (by show _ ≤ 7301080; omega))
                                              · replace hf := oi_t c144 hf
                                                refine r_aload_n (pc := 558) hC dL_law_558 rfl 3 rfl ?_
                                                refine r_iload (pc := 559) hC dL_law_559 1 rfl ?_
                                                refine r_iconst (pc := 561) (v := 2) hC dL_law_561 (by decide) ?_
                                                obtain ⟨b146, gb146, hf⟩ := ob hf
                                                obtain ⟨q147, eq147, hf⟩ := ob hf
                                                refine r_callV (pc := 562) (As := [DI q87, DI 2]) (rest := []) (stk' := [DI q147]) (k0_X4_order (nx eq147)) gb146 rfl hC wd_1_202 wd_1_203 wd_1_204 wd_1_205 wd_1_1 md_X4_order rfl ⟨rfl, rfl, Nat.le_of_ble_eq_true rfl, Nat.le_of_ble_eq_true rfl, by show _ ≤ 600130; omega, by show _ ≤ 7301080; omega⟩ dL_law_562 rfl (Nat.le_of_ble_eq_true rfl) rfl ?_
                                                refine r_if_ne (pc := 565) (tgt := 597) hC dL_law_565 (by decide) (fun c148 => ?_) (fun c148 => ?_)
                                                · replace hf := oi_f c148 hf
                                                  refine r_iconst (pc := 597) (v := 0) hC dL_law_597 (by decide) ?_
                                                  obtain ⟨v149, ev149, hf⟩ := ob hf
                                                  cases hf
                                                  have hz9 := (oZ_spec ev149).1
                                                  have hy9 : v149 = 1 := (Prod.mk.inj (Option.some.inj hk)).1
                                                  exact dm_to rfl (congrArg (fun q => [DI q]) (hz9.symm.trans hy9)) (r_lawret (pc := 598) hLE hC dL_law_598 (by show _ ≤ 600130; omega) (by show _ ≤ 7301080; omega))
                                                · replace hf := oi_t c148 hf
                                                  refine r_aload_n (pc := 568) hC dL_law_568 rfl 3 rfl ?_
                                                  refine r_iload (pc := 569) hC dL_law_569 1 rfl ?_
                                                  refine r_iconst (pc := 571) (v := 1) hC dL_law_571 (by decide) ?_
                                                  obtain ⟨b150, gb150, hf⟩ := ob hf
                                                  obtain ⟨q151, eq151, hf⟩ := ob hf
                                                  refine r_callV (pc := 572) (As := [DI q87, DI 1]) (rest := []) (stk' := [DI q151]) (k0_X4_order (nx eq151)) gb150 rfl hC wd_1_202 wd_1_203 wd_1_204 wd_1_205 wd_1_1 md_X4_order rfl ⟨rfl, rfl, Nat.le_of_ble_eq_true rfl, Nat.le_of_ble_eq_true rfl, by show _ ≤ 600130; omega, by show _ ≤ 7301080; omega⟩ dL_law_572 rfl (Nat.le_of_ble_eq_true rfl) rfl ?_
                                                  refine r_aload_n (pc := 575) hC dL_law_575 rfl 3 rfl ?_
                                                  refine r_iload (pc := 576) hC dL_law_576 12 rfl ?_
                                                  refine r_iconst (pc := 578) (v := 2) hC dL_law_578 (by decide) ?_
                                                  obtain ⟨b152, gb152, hf⟩ := ob hf
                                                  obtain ⟨q153, eq153, hf⟩ := ob hf
                                                  refine r_callV (pc := 579) (As := [DI z82.2.2, DI 2]) (rest := [DI q151]) (stk' := [DI q153, DI q151]) (k0_X4_about (nx eq153)) gb152 rfl hC wd_1_185 wd_1_186 wd_1_187 wd_1_188 wd_1_1 md_X4_about rfl ⟨rfl, rfl, Nat.le_of_ble_eq_true rfl, Nat.le_of_ble_eq_true rfl, by show _ ≤ 600130; omega, by show _ ≤ 7301080; omega⟩ dL_law_579 rfl (Nat.le_of_ble_eq_true rfl) rfl ?_
                                                  refine r_icmp_gt (pc := 582) (tgt := 597) hC dL_law_582 (by decide) (fun c154 => ?_) (fun c154 => ?_)
                                                  · replace hf := oi_t c154 hf
                                                    refine r_iconst (pc := 597) (v := 0) hC dL_law_597 (by decide) ?_
                                                    obtain ⟨v155, ev155, hf⟩ := ob hf
                                                    cases hf
                                                    have hz9 := (oZ_spec ev155).1
                                                    have hy9 : v155 = 1 := (Prod.mk.inj (Option.some.inj hk)).1
                                                    exact dm_to rfl (congrArg (fun q => [DI q]) (hz9.symm.trans hy9)) (r_lawret (pc := 598) hLE hC dL_law_598 (by show _ ≤ 600130; omega) (by show _ ≤ 7301080; omega))
                                                  · replace hf := oi_f c154 hf
                                                    refine r_aload_n (pc := 585) hC dL_law_585 rfl 3 rfl ?_
                                                    refine r_iload (pc := 586) hC dL_law_586 12 rfl ?_
                                                    refine r_iconst (pc := 588) (v := 3) hC dL_law_588 (by decide) ?_
                                                    obtain ⟨b156, gb156, hf⟩ := ob hf
                                                    obtain ⟨q157, eq157, hf⟩ := ob hf
                                                    refine r_callV (pc := 589) (As := [DI z82.2.2, DI 3]) (rest := []) (stk' := [DI q157]) (k0_X4_about (nx eq157)) gb156 rfl hC wd_1_185 wd_1_186 wd_1_187 wd_1_188 wd_1_1 md_X4_about rfl ⟨rfl, rfl, Nat.le_of_ble_eq_true rfl, Nat.le_of_ble_eq_true rfl, by show _ ≤ 600130; omega, by show _ ≤ 7301080; omega⟩ dL_law_589 rfl (Nat.le_of_ble_eq_true rfl) rfl ?_
                                                    refine r_bipush (pc := 592) (v := 20) hC dL_law_592 (by decide) ?_
                                                    refine r_icmp_le (pc := 594) (tgt := 599) hC dL_law_594 (by decide) (fun c158 => ?_) (fun c158 => ?_)
                                                    · replace hf := oi_t c158 hf
                                                      refine r_iload (pc := 599) hC dL_law_599 10 rfl ?_
                                                      refine r_iload (pc := 601) hC dL_law_601 0 rfl ?_
                                                      refine r_iadd (pc := 603) hC dL_law_603 ?_
                                                      refine r_istore (pc := 604) (lv' := [(10, DI (z82.1 + q89)), (14, DI q89), (13, DI q87), (0, DR (some b)), (1, DR (some st.1)), (2, DR (some n5)), (3, DI z7.2), (4, DI ((q10 >>> ((v11 * 3) &&& 31)) + (467 * z7.2))), (7, DI j32), (8, DI q27), (9, DI yb36.1), (11, DI z82.2.1), (12, DI z82.2.2)]) hC hN dL_law_604 (by decide) rfl ?_
                                                      refine r_iload (pc := 606) hC dL_law_606 11 rfl ?_
                                                      refine r_aload_n (pc := 608) hC dL_law_608 rfl 4 rfl ?_
                                                      refine r_iload (pc := 609) hC dL_law_609 12 rfl ?_
                                                      refine r_iconst (pc := 611) (v := 3) hC dL_law_611 (by decide) ?_
                                                      obtain ⟨b159, gb159, hf⟩ := ob hf
                                                      obtain ⟨q160, eq160, hf⟩ := ob hf
                                                      refine r_callV (pc := 612) (As := [DI z82.2.2, DI 3]) (rest := [DI z82.2.1]) (stk' := [DI q160, DI z82.2.1]) (k0_X4_about (nx eq160)) gb159 rfl hC wd_1_185 wd_1_186 wd_1_187 wd_1_188 wd_1_1 md_X4_about rfl ⟨rfl, rfl, Nat.le_of_ble_eq_true rfl, Nat.le_of_ble_eq_true rfl, by show _ ≤ 600130; omega, by show _ ≤ 7301080; omega⟩ dL_law_612 rfl (Nat.le_of_ble_eq_true rfl) rfl ?_
                                                      refine r_bipush (pc := 615) (v := 20) hC dL_law_615 (by decide) ?_
                                                      obtain ⟨j161, ej161, hf⟩ := ob hf
                                                      have hJ161 : dm_W Y (cs7 + 63) (ss7 + 630) q28.2 625 [(0, DR (some b)), (1, DR (some st.1)), (2, DR (some n5)), (3, DI z7.2), (4, DI ((q10 >>> ((v11 * 3) &&& 31)) + (467 * z7.2))), (7, DI j32), (8, DI q27), (9, DI yb36.1), (10, DI (z82.1 + q89)), (12, DI z82.2.2)] [DI j161, DI z82.2.1] := by
                                                        refine r_iadd (pc := 625) hC dL_law_625 ?_
                                                        refine r_istore (pc := 626) (lv' := [(11, DI (z82.2.1 + j161)), (0, DR (some b)), (1, DR (some st.1)), (2, DR (some n5)), (3, DI z7.2), (4, DI ((q10 >>> ((v11 * 3) &&& 31)) + (467 * z7.2))), (7, DI j32), (8, DI q27), (9, DI yb36.1), (10, DI (z82.1 + q89)), (12, DI z82.2.2)]) hC hN dL_law_626 (by decide) rfl ?_
                                                        refine r_iinc (pc := 628) (pos := 10) (v := (z82.2.2 + 1)) (lv' := [(12, DI (z82.2.2 + 1)), (11, DI (z82.2.1 + j161)), (0, DR (some b)), (1, DR (some st.1)), (2, DR (some n5)), (3, DI z7.2), (4, DI ((q10 >>> ((v11 * 3) &&& 31)) + (467 * z7.2))), (7, DI j32), (8, DI q27), (9, DI yb36.1), (10, DI (z82.1 + q89))]) hC hN dL_law_628 rfl rfl (by decide) rfl ?_
                                                        refine r_goto (pc := 631) (tgt := 375) hC dL_law_631 (by decide) ?_
                                                        cases hf
                                                        exact dm_sub [2, 3, 4, 5, 6, 7, 8, 9, 10, 1, 0] rfl hk
                                                      replace hf := ej161
                                                      clear ej161
                                                      refine r_icmp_le (pc := 617) (tgt := 624) hC dL_law_617 (by decide) (fun c162 => ?_) (fun c162 => ?_)
                                                      · replace hf := oi_t c162 hf
                                                        refine r_iconst (pc := 624) (v := 0) hC dL_law_624 (by decide) ?_
                                                        cases hf
                                                        exact (dm_sub [3, 4, 5, 6, 7, 8, 9, 10, 0, 12] rfl hJ161)
                                                      · replace hf := oi_f c162 hf
                                                        refine r_iconst (pc := 620) (v := 1) hC dL_law_620 (by decide) ?_
                                                        refine r_goto (pc := 621) (tgt := 625) hC dL_law_621 (by decide) ?_
                                                        cases hf
                                                        exact (dm_sub [3, 4, 5, 6, 7, 8, 9, 10, 0, 12] rfl hJ161)
                                                    · replace hf := oi_f c158 hf
                                                      refine r_iconst (pc := 597) (v := 0) hC dL_law_597 (by decide) ?_
                                                      obtain ⟨v163, ev163, hf⟩ := ob hf
                                                      cases hf
                                                      have hz9 := (oZ_spec ev163).1
                                                      have hy9 : v163 = 1 := (Prod.mk.inj (Option.some.inj hk)).1
                                                      exact dm_to rfl (congrArg (fun q => [DI q]) (hz9.symm.trans hy9)) (r_lawret (pc := 598) hLE hC dL_law_598 (by show _ ≤ 600130; omega) (by show _ ≤ 7301080; omega))
                                          · replace hf := oi_f c136 hf
                                            refine r_iconst (pc := 539) (v := 0) hC dL_law_539 (by decide) ?_
                                            obtain ⟨v164, ev164, hf⟩ := ob hf
                                            cases hf
                                            have hz9 := (oZ_spec ev164).1
                                            have hy9 : v164 = 1 := (Prod.mk.inj (Option.some.inj hk)).1
                                            exact dm_to rfl (congrArg (fun q => [DI q]) (hz9.symm.trans hy9)) (r_lawret (pc := 540) hLE hC dL_law_540 (by show _ ≤ 600130; omega) (by show _ ≤ 7301080; omega))
                  · rcases b82 with yb82 | r9
                    · refine r_iconst (pc := 634) (v := 0) hC dL_law_634 (by decide) ?_
                      refine r_istore (pc := 635) (lv' := [(6, DI 0), (0, DR (some b)), (1, DR (some st.1)), (2, DR (some n5)), (3, DI z7.2), (4, DI ((q10 >>> ((v11 * 3) &&& 31)) + (467 * z7.2))), (7, DI j32), (8, DI q27), (9, DI yb36.1), (10, DI yb82.1), (11, DI yb82.2.1), (12, DI yb82.2.2)]) hC hN dL_law_635 (by decide) rfl ?_
                      refine r_iconst (pc := 637) (v := 0) hC dL_law_637 (by decide) ?_
                      refine r_istore (pc := 638) (lv' := [(12, DI 0), (6, DI 0), (0, DR (some b)), (1, DR (some st.1)), (2, DR (some n5)), (3, DI z7.2), (4, DI ((q10 >>> ((v11 * 3) &&& 31)) + (467 * z7.2))), (7, DI j32), (8, DI q27), (9, DI yb36.1), (10, DI yb82.1), (11, DI yb82.2.1)]) hC hN dL_law_638 (by decide) rfl ?_
                      refine r_iconst (pc := 640) (v := 0) hC dL_law_640 (by decide) ?_
                      refine r_istore (pc := 641) (lv' := [(13, DI 0), (12, DI 0), (6, DI 0), (0, DR (some b)), (1, DR (some st.1)), (2, DR (some n5)), (3, DI z7.2), (4, DI ((q10 >>> ((v11 * 3) &&& 31)) + (467 * z7.2))), (7, DI j32), (8, DI q27), (9, DI yb36.1), (10, DI yb82.1), (11, DI yb82.2.1)]) hC hN dL_law_641 (by decide) rfl ?_
                      obtain ⟨b165, eb165, hf⟩ := ob hf
                      refine dm_sub (lv' := [(0, DR (some b)), (1, DR (some st.1)), (2, DR (some n5)), (3, DI z7.2), (4, DI ((q10 >>> ((v11 * 3) &&& 31)) + (467 * z7.2))), (6, DI 0), (7, DI j32), (8, DI q27), (9, DI yb36.1), (10, DI yb82.1), (11, DI yb82.2.1), (12, DI 0), (13, DI 0)]) [3, 4, 5, 6, 7, 2, 8, 9, 10, 11, 12, 1, 0] rfl ?_
                      refine dlp_W _ (fun (z165 : Int32 × Int32 × Int32) => dm_W Y (cs7 + 63) (ss7 + 630) q28.2 643 [(0, DR (some b)), (1, DR (some st.1)), (2, DR (some n5)), (3, DI z7.2), (4, DI ((q10 >>> ((v11 * 3) &&& 31)) + (467 * z7.2))), (6, DI z165.1), (7, DI j32), (8, DI q27), (9, DI yb36.1), (10, DI yb82.1), (11, DI yb82.2.1), (12, DI z165.2.1), (13, DI z165.2.2)] []) (fun (b165 : (Int32 × Int32 × Int32) ⊕ (Int32 × DSt)) => match b165 with | .inl yb165 => dm_W Y (cs7 + 63) (ss7 + 630) q28.2 784 [(0, DR (some b)), (1, DR (some st.1)), (2, DR (some n5)), (3, DI z7.2), (4, DI ((q10 >>> ((v11 * 3) &&& 31)) + (467 * z7.2))), (6, DI yb165.1), (7, DI j32), (8, DI q27), (9, DI yb36.1), (10, DI yb82.1), (11, DI yb82.2.1), (12, DI yb165.2.1), (13, DI yb165.2.2)] [] | .inr r9 => some r9 = some ((1 : Int32), st1)) ?_ eb165 ?_
                      · intro z165 r hf hk
                        unfold fL_law_L643 at hf
                        refine r_iload (pc := 643) hC dL_law_643 12 rfl ?_
                        refine r_aload_n (pc := 645) hC dL_law_645 rfl 1 rfl ?_
                        refine r_iconst (pc := 646) (v := 3) hC dL_law_646 (by decide) ?_
                        obtain ⟨b166, gb166, hf⟩ := ob hf
                        obtain ⟨q167, eq167, hf⟩ := ob hf
                        refine r_callV (pc := 647) (As := [DI 3]) (rest := [DI z165.2.2]) (stk' := [DI q167, DI z165.2.2]) (k0_X4_count (nx eq167)) gb166 rfl hC wd_1_211 wd_1_212 wd_1_213 wd_1_214 wd_1_1 md_X4_count rfl ⟨rfl, rfl, Nat.le_of_ble_eq_true rfl, Nat.le_of_ble_eq_true rfl, by show _ ≤ 600130; omega, by show _ ≤ 7301080; omega⟩ dL_law_647 rfl (Nat.le_of_ble_eq_true rfl) rfl ?_
                        refine r_icmp_ge (pc := 650) (tgt := 784) hC dL_law_650 (by decide) (fun c168 => ?_) (fun c168 => ?_)
                        · replace hf := oi_t c168 hf
                          cases hf
                          exact dm_sub [0, 1, 2, 3, 4, 5, 6, 7, 8, 9, 10, 11, 12] rfl hk
                        · replace hf := oi_f c168 hf
                          refine r_aload_n (pc := 653) hC dL_law_653 rfl 1 rfl ?_
                          refine r_iload (pc := 654) hC dL_law_654 12 rfl ?_
                          refine r_iconst (pc := 656) (v := 2) hC dL_law_656 (by decide) ?_
                          obtain ⟨b169, gb169, hf⟩ := ob hf
                          obtain ⟨q170, eq170, hf⟩ := ob hf
                          refine r_callV (pc := 657) (As := [DI z165.2.2, DI 2]) (rest := []) (stk' := [DI q170]) (k0_X4_order (nx eq170)) gb169 rfl hC wd_1_202 wd_1_203 wd_1_204 wd_1_205 wd_1_1 md_X4_order rfl ⟨rfl, rfl, Nat.le_of_ble_eq_true rfl, Nat.le_of_ble_eq_true rfl, by show _ ≤ 600130; omega, by show _ ≤ 7301080; omega⟩ dL_law_657 rfl (Nat.le_of_ble_eq_true rfl) rfl ?_
                          refine r_iconst (pc := 660) (v := 1) hC dL_law_660 (by decide) ?_
                          obtain ⟨j171, ej171, hf⟩ := ob hf
                          have hJ171 : dm_W Y (cs7 + 63) (ss7 + 630) q28.2 669 [(0, DR (some b)), (1, DR (some st.1)), (2, DR (some n5)), (3, DI z7.2), (4, DI ((q10 >>> ((v11 * 3) &&& 31)) + (467 * z7.2))), (6, DI z165.1), (7, DI j32), (8, DI q27), (9, DI yb36.1), (10, DI yb82.1), (11, DI yb82.2.1), (12, DI z165.2.1), (13, DI z165.2.2)] [DI j171] := by
                            refine r_istore (pc := 669) (lv' := [(14, DI j171), (0, DR (some b)), (1, DR (some st.1)), (2, DR (some n5)), (3, DI z7.2), (4, DI ((q10 >>> ((v11 * 3) &&& 31)) + (467 * z7.2))), (6, DI z165.1), (7, DI j32), (8, DI q27), (9, DI yb36.1), (10, DI yb82.1), (11, DI yb82.2.1), (12, DI z165.2.1), (13, DI z165.2.2)]) hC hN dL_law_669 (by decide) rfl ?_
                            refine r_iload (pc := 671) hC dL_law_671 0 rfl ?_
                            refine r_if_eq (pc := 673) (tgt := 718) hC dL_law_673 (by decide) (fun c173 => ?_) (fun c173 => ?_)
                            · replace hf := oi_t c173 hf
                              refine r_aload_n (pc := 718) hC dL_law_718 rfl 2 rfl ?_
                              refine r_iload (pc := 719) hC dL_law_719 13 rfl ?_
                              refine r_iconst (pc := 721) (v := 3) hC dL_law_721 (by decide) ?_
                              obtain ⟨b174, gb174, hf⟩ := ob hf
                              obtain ⟨q175, eq175, hf⟩ := ob hf
                              refine r_callV (pc := 722) (As := [DI z165.2.2, DI 3]) (rest := []) (stk' := [DI q175]) (k0_X4_order (nx eq175)) gb174 rfl hC wd_1_202 wd_1_203 wd_1_204 wd_1_205 wd_1_1 md_X4_order rfl ⟨rfl, rfl, Nat.le_of_ble_eq_true rfl, Nat.le_of_ble_eq_true rfl, by show _ ≤ 600130; omega, by show _ ≤ 7301080; omega⟩ dL_law_722 rfl (Nat.le_of_ble_eq_true rfl) rfl ?_
                              refine r_iconst (pc := 725) (v := (-1)) hC dL_law_725 (by decide) ?_
                              refine r_icmp_ne (pc := 726) (tgt := 740) hC dL_law_726 (by decide) (fun c176 => ?_) (fun c176 => ?_)
                              · replace hf := oi_f c176 hf
                                refine r_iconst (pc := 740) (v := 0) hC dL_law_740 (by decide) ?_
                                obtain ⟨v177, ev177, hf⟩ := ob hf
                                cases hf
                                have hz9 := (oZ_spec ev177).1
                                have hy9 : v177 = 1 := (Prod.mk.inj (Option.some.inj hk)).1
                                exact dm_to rfl (congrArg (fun q => [DI q]) (hz9.symm.trans hy9)) (r_lawret (pc := 741) hLE hC dL_law_741 (by show _ ≤ 600130; omega) (by show _ ≤ 7301080; omega))
                              · replace hf := oi_t c176 hf
                                refine r_aload_n (pc := 729) hC dL_law_729 rfl 2 rfl ?_
                                refine r_iload (pc := 730) hC dL_law_730 13 rfl ?_
                                refine r_iconst (pc := 732) (v := 4) hC dL_law_732 (by decide) ?_
                                obtain ⟨b178, gb178, hf⟩ := ob hf
                                obtain ⟨q179, eq179, hf⟩ := ob hf
                                refine r_callV (pc := 733) (As := [DI z165.2.2, DI 4]) (rest := []) (stk' := [DI q179]) (k0_X4_order (nx eq179)) gb178 rfl hC wd_1_202 wd_1_203 wd_1_204 wd_1_205 wd_1_1 md_X4_order rfl ⟨rfl, rfl, Nat.le_of_ble_eq_true rfl, Nat.le_of_ble_eq_true rfl, by show _ ≤ 600130; omega, by show _ ≤ 7301080; omega⟩ dL_law_733 rfl (Nat.le_of_ble_eq_true rfl) rfl ?_
                                refine r_iconst (pc := 736) (v := (-1)) hC dL_law_736 (by decide) ?_
                                refine r_icmp_eq (pc := 737) (tgt := 742) hC dL_law_737 (by decide) (fun c180 => ?_) (fun c180 => ?_)
                                · replace hf := oi_t c180 hf
                                  refine r_iload (pc := 742) hC dL_law_742 6 rfl ?_
                                  refine r_iload (pc := 744) hC dL_law_744 0 rfl ?_
                                  obtain ⟨j181, ej181, hf⟩ := ob hf
                                  have hJ181 : dm_W Y (cs7 + 63) (ss7 + 630) q28.2 760 [(0, DR (some b)), (1, DR (some st.1)), (2, DR (some n5)), (3, DI z7.2), (4, DI ((q10 >>> ((v11 * 3) &&& 31)) + (467 * z7.2))), (7, DI j32), (8, DI q27), (9, DI yb36.1), (10, DI yb82.1), (11, DI yb82.2.1), (12, DI z165.2.1), (13, DI z165.2.2), (14, DI j171)] [DI j181, DI z165.1] := by
                                    refine r_iadd (pc := 760) hC dL_law_760 ?_
                                    refine r_istore (pc := 761) (lv' := [(6, DI (z165.1 + j181)), (0, DR (some b)), (1, DR (some st.1)), (2, DR (some n5)), (3, DI z7.2), (4, DI ((q10 >>> ((v11 * 3) &&& 31)) + (467 * z7.2))), (7, DI j32), (8, DI q27), (9, DI yb36.1), (10, DI yb82.1), (11, DI yb82.2.1), (12, DI z165.2.1), (13, DI z165.2.2), (14, DI j171)]) hC hN dL_law_761 (by decide) rfl ?_
                                    refine r_iload (pc := 763) hC dL_law_763 11 rfl ?_
                                    refine r_iload (pc := 765) hC dL_law_765 13 rfl ?_
                                    obtain ⟨j185, ej185, hf⟩ := ob hf
                                    have hJ185 : dm_W Y (cs7 + 63) (ss7 + 630) q28.2 775 [(0, DR (some b)), (1, DR (some st.1)), (2, DR (some n5)), (3, DI z7.2), (4, DI ((q10 >>> ((v11 * 3) &&& 31)) + (467 * z7.2))), (6, DI (z165.1 + j181)), (7, DI j32), (8, DI q27), (9, DI yb36.1), (10, DI yb82.1), (11, DI yb82.2.1), (13, DI z165.2.2)] [DI j185, DI z165.2.1] := by
                                      refine r_iadd (pc := 775) hC dL_law_775 ?_
                                      refine r_istore (pc := 776) (lv' := [(12, DI (z165.2.1 + j185)), (0, DR (some b)), (1, DR (some st.1)), (2, DR (some n5)), (3, DI z7.2), (4, DI ((q10 >>> ((v11 * 3) &&& 31)) + (467 * z7.2))), (6, DI (z165.1 + j181)), (7, DI j32), (8, DI q27), (9, DI yb36.1), (10, DI yb82.1), (11, DI yb82.2.1), (13, DI z165.2.2)]) hC hN dL_law_776 (by decide) rfl ?_
                                      refine r_iinc (pc := 778) (pos := 12) (v := (z165.2.2 + 1)) (lv' := [(13, DI (z165.2.2 + 1)), (12, DI (z165.2.1 + j185)), (0, DR (some b)), (1, DR (some st.1)), (2, DR (some n5)), (3, DI z7.2), (4, DI ((q10 >>> ((v11 * 3) &&& 31)) + (467 * z7.2))), (6, DI (z165.1 + j181)), (7, DI j32), (8, DI q27), (9, DI yb36.1), (10, DI yb82.1), (11, DI yb82.2.1)]) hC hN dL_law_778 rfl rfl (by decide) rfl ?_
                                      refine r_goto (pc := 781) (tgt := 643) hC dL_law_781 (by decide) ?_
                                      cases hf
                                      exact dm_sub [2, 3, 4, 5, 6, 7, 8, 9, 10, 11, 12, 1, 0] rfl hk
                                    replace hf := ej185
                                    clear ej185
                                    refine r_if_eq (pc := 767) (tgt := 774) hC dL_law_767 (by decide) (fun c186 => ?_) (fun c186 => ?_)
                                    · replace hf := oi_t c186 hf
                                      refine r_iconst (pc := 774) (v := 0) hC dL_law_774 (by decide) ?_
                                      cases hf
                                      exact (dm_sub [1, 2, 3, 4, 5, 0, 6, 7, 8, 9, 10, 12] rfl hJ185)
                                    · replace hf := oi_f c186 hf
                                      refine r_iconst (pc := 770) (v := 1) hC dL_law_770 (by decide) ?_
                                      refine r_goto (pc := 771) (tgt := 775) hC dL_law_771 (by decide) ?_
                                      cases hf
                                      exact (dm_sub [1, 2, 3, 4, 5, 0, 6, 7, 8, 9, 10, 12] rfl hJ185)
                                  replace hf := ej181
                                  clear ej181
                                  refine r_if_eq (pc := 746) (tgt := 759) hC dL_law_746 (by decide) (fun c182 => ?_) (fun c182 => ?_)
                                  · replace hf := oi_t c182 hf
                                    refine r_iconst (pc := 759) (v := 0) hC dL_law_759 (by decide) ?_
                                    cases hf
                                    exact (dm_sub [1, 2, 3, 4, 5, 7, 8, 9, 10, 11, 12, 13, 0] rfl hJ181)
                                  · replace hf := oi_f c182 hf
                                    refine r_aload_n (pc := 749) hC dL_law_749 rfl 2 rfl ?_
                                    refine r_iload (pc := 750) hC dL_law_750 13 rfl ?_
                                    refine r_iconst (pc := 752) (v := 0) hC dL_law_752 (by decide) ?_
                                    obtain ⟨b183, gb183, hf⟩ := ob hf
                                    obtain ⟨q184, eq184, hf⟩ := ob hf
                                    refine r_callV (pc := 753) (As := [DI z165.2.2, DI 0]) (rest := [DI z165.1]) (stk' := [DI q184, DI z165.1]) (k0_X4_order (nx eq184)) gb183 rfl hC wd_1_202 wd_1_203 wd_1_204 wd_1_205 wd_1_1 md_X4_order rfl ⟨rfl, rfl, Nat.le_of_ble_eq_true rfl, Nat.le_of_ble_eq_true rfl, by show _ ≤ 600130; omega, by show _ ≤ 7301080; omega⟩ dL_law_753 rfl (Nat.le_of_ble_eq_true rfl) rfl ?_
                                    refine r_goto (pc := 756) (tgt := 760) hC dL_law_756 (by decide) ?_
                                    cases hf
                                    exact (dm_sub [1, 2, 3, 4, 5, 7, 8, 9, 10, 11, 12, 13, 0] rfl hJ181)
                                · replace hf := oi_f c180 hf
                                  refine r_iconst (pc := 740) (v := 0) hC dL_law_740 (by decide) ?_
                                  obtain ⟨v187, ev187, hf⟩ := ob hf
                                  cases hf
                                  have hz9 := (oZ_spec ev187).1
                                  have hy9 : v187 = 1 := (Prod.mk.inj (Option.some.inj hk)).1
                                  exact dm_to rfl (congrArg (fun q => [DI q]) (hz9.symm.trans hy9)) (r_lawret (pc := 741) hLE hC dL_law_741 (by show _ ≤ 600130; omega) (by show _ ≤ 7301080; omega))
                            · replace hf := oi_f c173 hf
                              refine r_aload_n (pc := 676) hC dL_law_676 rfl 2 rfl ?_
                              refine r_iload (pc := 677) hC dL_law_677 13 rfl ?_
                              refine r_iconst (pc := 679) (v := 3) hC dL_law_679 (by decide) ?_
                              obtain ⟨b188, gb188, hf⟩ := ob hf
                              obtain ⟨q189, eq189, hf⟩ := ob hf
                              refine r_callV (pc := 680) (As := [DI z165.2.2, DI 3]) (rest := []) (stk' := [DI q189]) (k0_X4_order (nx eq189)) gb188 rfl hC wd_1_202 wd_1_203 wd_1_204 wd_1_205 wd_1_1 md_X4_order rfl ⟨rfl, rfl, Nat.le_of_ble_eq_true rfl, Nat.le_of_ble_eq_true rfl, by show _ ≤ 600130; omega, by show _ ≤ 7301080; omega⟩ dL_law_680 rfl (Nat.le_of_ble_eq_true rfl) rfl ?_
                              refine r_aload_n (pc := 683) hC dL_law_683 rfl 2 rfl ?_
                              refine r_iload (pc := 684) hC dL_law_684 13 rfl ?_
                              refine r_iconst (pc := 686) (v := 1) hC dL_law_686 (by decide) ?_
                              obtain ⟨b190, gb190, hf⟩ := ob hf
                              obtain ⟨q191, eq191, hf⟩ := ob hf
                              refine r_callV (pc := 687) (As := [DI z165.2.2, DI 1]) (rest := [DI q189]) (stk' := [DI q191, DI q189]) (k0_X4_order (nx eq191)) gb190 rfl hC wd_1_202 wd_1_203 wd_1_204 wd_1_205 wd_1_1 md_X4_order rfl ⟨rfl, rfl, Nat.le_of_ble_eq_true rfl, Nat.le_of_ble_eq_true rfl, by show _ ≤ 600130; omega, by show _ ≤ 7301080; omega⟩ dL_law_687 rfl (Nat.le_of_ble_eq_true rfl) rfl ?_
                              refine r_icmp_lt (pc := 690) (tgt := 740) hC dL_law_690 (by decide) (fun c192 => ?_) (fun c192 => ?_)
                              · replace hf := oi_t c192 hf
                                refine r_iconst (pc := 740) (v := 0) hC dL_law_740 (by decide) ?_
                                obtain ⟨v193, ev193, hf⟩ := ob hf
                                cases hf
                                have hz9 := (oZ_spec ev193).1
                                have hy9 : v193 = 1 := (Prod.mk.inj (Option.some.inj hk)).1
                                exact dm_to rfl (congrArg (fun q => [DI q]) (hz9.symm.trans hy9)) (r_lawret (pc := 741) hLE hC dL_law_741 (by show _ ≤ 600130; omega) (by show _ ≤ 7301080; omega))
                              · replace hf := oi_f c192 hf
                                refine r_aload_n (pc := 693) hC dL_law_693 rfl 2 rfl ?_
                                refine r_iload (pc := 694) hC dL_law_694 13 rfl ?_
                                refine r_iconst (pc := 696) (v := 4) hC dL_law_696 (by decide) ?_
                                obtain ⟨b194, gb194, hf⟩ := ob hf
                                obtain ⟨q195, eq195, hf⟩ := ob hf
                                refine r_callV (pc := 697) (As := [DI z165.2.2, DI 4]) (rest := []) (stk' := [DI q195]) (k0_X4_order (nx eq195)) gb194 rfl hC wd_1_202 wd_1_203 wd_1_204 wd_1_205 wd_1_1 md_X4_order rfl ⟨rfl, rfl, Nat.le_of_ble_eq_true rfl, Nat.le_of_ble_eq_true rfl, by show _ ≤ 600130; omega, by show _ ≤ 7301080; omega⟩ dL_law_697 rfl (Nat.le_of_ble_eq_true rfl) rfl ?_
                                refine r_if_lt (pc := 700) (tgt := 740) hC dL_law_700 (by decide) (fun c196 => ?_) (fun c196 => ?_)
                                · replace hf := oi_t c196 hf
                                  refine r_iconst (pc := 740) (v := 0) hC dL_law_740 (by decide) ?_
                                  obtain ⟨v197, ev197, hf⟩ := ob hf
                                  cases hf
                                  have hz9 := (oZ_spec ev197).1
                                  have hy9 : v197 = 1 := (Prod.mk.inj (Option.some.inj hk)).1
                                  exact dm_to rfl (congrArg (fun q => [DI q]) (hz9.symm.trans hy9)) (r_lawret (pc := 741) hLE hC dL_law_741 (by show _ ≤ 600130; omega) (by show _ ≤ 7301080; omega))
                                · replace hf := oi_f c196 hf
                                  refine r_aload_n (pc := 703) hC dL_law_703 rfl 2 rfl ?_
                                  refine r_iload (pc := 704) hC dL_law_704 13 rfl ?_
                                  refine r_iconst (pc := 706) (v := 4) hC dL_law_706 (by decide) ?_
                                  obtain ⟨b198, gb198, hf⟩ := ob hf
                                  obtain ⟨q199, eq199, hf⟩ := ob hf
                                  refine r_callV (pc := 707) (As := [DI z165.2.2, DI 4]) (rest := []) (stk' := [DI q199]) (k0_X4_order (nx eq199)) gb198 rfl hC wd_1_202 wd_1_203 wd_1_204 wd_1_205 wd_1_1 md_X4_order rfl ⟨rfl, rfl, Nat.le_of_ble_eq_true rfl, Nat.le_of_ble_eq_true rfl, by show _ ≤ 600130; omega, by show _ ≤ 7301080; omega⟩ dL_law_707 rfl (Nat.le_of_ble_eq_true rfl) rfl ?_
                                  refine r_bipush (pc := 710) (v := 20) hC dL_law_710 (by decide) ?_
                                  refine r_icmp_le (pc := 712) (tgt := 742) hC dL_law_712 (by decide) (fun c200 => ?_) (fun c200 => ?_)
                                  · replace hf := oi_t c200 hf
                                    refine r_iload (pc := 742) hC dL_law_742 6 rfl ?_
                                    refine r_iload (pc := 744) hC dL_law_744 0 rfl ?_
                                    obtain ⟨j201, ej201, hf⟩ := ob hf
                                    have hJ201 : dm_W Y (cs7 + 63) (ss7 + 630) q28.2 760 [(0, DR (some b)), (1, DR (some st.1)), (2, DR (some n5)), (3, DI z7.2), (4, DI ((q10 >>> ((v11 * 3) &&& 31)) + (467 * z7.2))), (7, DI j32), (8, DI q27), (9, DI yb36.1), (10, DI yb82.1), (11, DI yb82.2.1), (12, DI z165.2.1), (13, DI z165.2.2), (14, DI j171)] [DI j201, DI z165.1] := by
                                      refine r_iadd (pc := 760) hC dL_law_760 ?_
                                      refine r_istore (pc := 761) (lv' := [(6, DI (z165.1 + j201)), (0, DR (some b)), (1, DR (some st.1)), (2, DR (some n5)), (3, DI z7.2), (4, DI ((q10 >>> ((v11 * 3) &&& 31)) + (467 * z7.2))), (7, DI j32), (8, DI q27), (9, DI yb36.1), (10, DI yb82.1), (11, DI yb82.2.1), (12, DI z165.2.1), (13, DI z165.2.2), (14, DI j171)]) hC hN dL_law_761 (by decide) rfl ?_
                                      refine r_iload (pc := 763) hC dL_law_763 11 rfl ?_
                                      refine r_iload (pc := 765) hC dL_law_765 13 rfl ?_
                                      obtain ⟨j205, ej205, hf⟩ := ob hf
                                      have hJ205 : dm_W Y (cs7 + 63) (ss7 + 630) q28.2 775 [(0, DR (some b)), (1, DR (some st.1)), (2, DR (some n5)), (3, DI z7.2), (4, DI ((q10 >>> ((v11 * 3) &&& 31)) + (467 * z7.2))), (6, DI (z165.1 + j201)), (7, DI j32), (8, DI q27), (9, DI yb36.1), (10, DI yb82.1), (11, DI yb82.2.1), (13, DI z165.2.2)] [DI j205, DI z165.2.1] := by
                                        refine r_iadd (pc := 775) hC dL_law_775 ?_
                                        refine r_istore (pc := 776) (lv' := [(12, DI (z165.2.1 + j205)), (0, DR (some b)), (1, DR (some st.1)), (2, DR (some n5)), (3, DI z7.2), (4, DI ((q10 >>> ((v11 * 3) &&& 31)) + (467 * z7.2))), (6, DI (z165.1 + j201)), (7, DI j32), (8, DI q27), (9, DI yb36.1), (10, DI yb82.1), (11, DI yb82.2.1), (13, DI z165.2.2)]) hC hN dL_law_776 (by decide) rfl ?_
                                        refine r_iinc (pc := 778) (pos := 12) (v := (z165.2.2 + 1)) (lv' := [(13, DI (z165.2.2 + 1)), (12, DI (z165.2.1 + j205)), (0, DR (some b)), (1, DR (some st.1)), (2, DR (some n5)), (3, DI z7.2), (4, DI ((q10 >>> ((v11 * 3) &&& 31)) + (467 * z7.2))), (6, DI (z165.1 + j201)), (7, DI j32), (8, DI q27), (9, DI yb36.1), (10, DI yb82.1), (11, DI yb82.2.1)]) hC hN dL_law_778 rfl rfl (by decide) rfl ?_
                                        refine r_goto (pc := 781) (tgt := 643) hC dL_law_781 (by decide) ?_
                                        cases hf
                                        exact dm_sub [2, 3, 4, 5, 6, 7, 8, 9, 10, 11, 12, 1, 0] rfl hk
                                      replace hf := ej205
                                      clear ej205
                                      refine r_if_eq (pc := 767) (tgt := 774) hC dL_law_767 (by decide) (fun c206 => ?_) (fun c206 => ?_)
                                      · replace hf := oi_t c206 hf
                                        refine r_iconst (pc := 774) (v := 0) hC dL_law_774 (by decide) ?_
                                        cases hf
                                        exact (dm_sub [1, 2, 3, 4, 5, 0, 6, 7, 8, 9, 10, 12] rfl hJ205)
                                      · replace hf := oi_f c206 hf
                                        refine r_iconst (pc := 770) (v := 1) hC dL_law_770 (by decide) ?_
                                        refine r_goto (pc := 771) (tgt := 775) hC dL_law_771 (by decide) ?_
                                        cases hf
                                        exact (dm_sub [1, 2, 3, 4, 5, 0, 6, 7, 8, 9, 10, 12] rfl hJ205)
                                    replace hf := ej201
                                    clear ej201
                                    refine r_if_eq (pc := 746) (tgt := 759) hC dL_law_746 (by decide) (fun c202 => ?_) (fun c202 => ?_)
                                    · replace hf := oi_t c202 hf
                                      refine r_iconst (pc := 759) (v := 0) hC dL_law_759 (by decide) ?_
                                      cases hf
                                      exact (dm_sub [1, 2, 3, 4, 5, 7, 8, 9, 10, 11, 12, 13, 0] rfl hJ201)
                                    · replace hf := oi_f c202 hf
                                      refine r_aload_n (pc := 749) hC dL_law_749 rfl 2 rfl ?_
                                      refine r_iload (pc := 750) hC dL_law_750 13 rfl ?_
                                      refine r_iconst (pc := 752) (v := 0) hC dL_law_752 (by decide) ?_
                                      obtain ⟨b203, gb203, hf⟩ := ob hf
                                      obtain ⟨q204, eq204, hf⟩ := ob hf
                                      refine r_callV (pc := 753) (As := [DI z165.2.2, DI 0]) (rest := [DI z165.1]) (stk' := [DI q204, DI z165.1]) (k0_X4_order (nx eq204)) gb203 rfl hC wd_1_202 wd_1_203 wd_1_204 wd_1_205 wd_1_1 md_X4_order rfl ⟨rfl, rfl, Nat.le_of_ble_eq_true rfl, Nat.le_of_ble_eq_true rfl, by show _ ≤ 600130; omega, by show _ ≤ 7301080; omega⟩ dL_law_753 rfl (Nat.le_of_ble_eq_true rfl) rfl ?_
                                      refine r_goto (pc := 756) (tgt := 760) hC dL_law_756 (by decide) ?_
                                      cases hf
                                      exact (dm_sub [1, 2, 3, 4, 5, 7, 8, 9, 10, 11, 12, 13, 0] rfl hJ201)
                                  · replace hf := oi_f c200 hf
                                    refine r_goto (pc := 715) (tgt := 740) hC dL_law_715 (by decide) ?_
                                    refine r_iconst (pc := 740) (v := 0) hC dL_law_740 (by decide) ?_
                                    obtain ⟨v207, ev207, hf⟩ := ob hf
                                    cases hf
                                    have hz9 := (oZ_spec ev207).1
                                    have hy9 : v207 = 1 := (Prod.mk.inj (Option.some.inj hk)).1
                                    exact dm_to rfl (congrArg (fun q => [DI q]) (hz9.symm.trans hy9)) (r_lawret (pc := 741) hLE hC dL_law_741 (by show _ ≤ 600130; omega) (by show _ ≤ 7301080; omega))
                          replace hf := ej171
                          clear ej171
                          refine r_icmp_ne (pc := 661) (tgt := 668) hC dL_law_661 (by decide) (fun c172 => ?_) (fun c172 => ?_)
                          · replace hf := oi_f c172 hf
                            refine r_iconst (pc := 668) (v := 0) hC dL_law_668 (by decide) ?_
                            cases hf
                            exact (dm_sub [0, 1, 2, 3, 4, 5, 6, 7, 8, 9, 10, 11, 12] rfl hJ171)
                          · replace hf := oi_t c172 hf
                            refine r_iconst (pc := 664) (v := 1) hC dL_law_664 (by decide) ?_
                            refine r_goto (pc := 665) (tgt := 669) hC dL_law_665 (by decide) ?_
                            cases hf
                            exact (dm_sub [0, 1, 2, 3, 4, 5, 6, 7, 8, 9, 10, 11, 12] rfl hJ171)
                      · rcases b165 with yb165 | r9
                        · refine r_iload (pc := 784) hC dL_law_784 8 rfl ?_
                          refine r_aload_n (pc := 786) hC dL_law_786 rfl 1 rfl ?_
                          refine r_iconst (pc := 787) (v := 5) hC dL_law_787 (by decide) ?_
                          obtain ⟨b208, gb208, hf⟩ := ob hf
                          obtain ⟨q209, eq209, hf⟩ := ob hf
                          refine r_callV (pc := 788) (As := [DI 5]) (rest := [DI yb36.1]) (stk' := [DI q209, DI yb36.1]) (k0_X4_count (nx eq209)) gb208 rfl hC wd_1_211 wd_1_212 wd_1_213 wd_1_214 wd_1_1 md_X4_count rfl ⟨rfl, rfl, Nat.le_of_ble_eq_true rfl, Nat.le_of_ble_eq_true rfl, by show _ ≤ 600130; omega, by show _ ≤ 7301080; omega⟩ dL_law_788 rfl (Nat.le_of_ble_eq_true rfl) rfl ?_
                          refine r_icmp_ne (pc := 791) (tgt := 852) hC dL_law_791 (by decide) (fun c210 => ?_) (fun c210 => ?_)
                          · replace hf := oi_f c210 hf
                            refine r_iconst (pc := 852) (v := 0) hC dL_law_852 (by decide) ?_
                            obtain ⟨v211, ev211, hf⟩ := ob hf
                            cases hf
                            have hz9 := (oZ_spec ev211).1
                            have hy9 : v211 = 1 := (Prod.mk.inj (Option.some.inj hk)).1
                            exact dm_to rfl (congrArg (fun q => [DI q]) (hz9.symm.trans hy9)) (r_lawret (pc := 853) hLE hC dL_law_853 (by show _ ≤ 600130; omega) (by show _ ≤ 7301080; omega))
                          · replace hf := oi_t c210 hf
                            refine r_iload (pc := 794) hC dL_law_794 9 rfl ?_
                            refine r_aload_n (pc := 796) hC dL_law_796 rfl 1 rfl ?_
                            refine r_bipush (pc := 797) (v := 6) hC dL_law_797 (by decide) ?_
                            obtain ⟨b212, gb212, hf⟩ := ob hf
                            obtain ⟨q213, eq213, hf⟩ := ob hf
                            refine r_callV (pc := 799) (As := [DI 6]) (rest := [DI yb82.1]) (stk' := [DI q213, DI yb82.1]) (k0_X4_count (nx eq213)) gb212 rfl hC wd_1_211 wd_1_212 wd_1_213 wd_1_214 wd_1_1 md_X4_count rfl ⟨rfl, rfl, Nat.le_of_ble_eq_true rfl, Nat.le_of_ble_eq_true rfl, by show _ ≤ 600130; omega, by show _ ≤ 7301080; omega⟩ dL_law_799 rfl (Nat.le_of_ble_eq_true rfl) rfl ?_
                            refine r_icmp_ne (pc := 802) (tgt := 852) hC dL_law_802 (by decide) (fun c214 => ?_) (fun c214 => ?_)
                            · replace hf := oi_f c214 hf
                              refine r_iconst (pc := 852) (v := 0) hC dL_law_852 (by decide) ?_
                              obtain ⟨v215, ev215, hf⟩ := ob hf
                              cases hf
                              have hz9 := (oZ_spec ev215).1
                              have hy9 : v215 = 1 := (Prod.mk.inj (Option.some.inj hk)).1
                              exact dm_to rfl (congrArg (fun q => [DI q]) (hz9.symm.trans hy9)) (r_lawret (pc := 853) hLE hC dL_law_853 (by show _ ≤ 600130; omega) (by show _ ≤ 7301080; omega))
                            · replace hf := oi_t c214 hf
                              refine r_iload (pc := 805) hC dL_law_805 10 rfl ?_
                              refine r_aload_n (pc := 807) hC dL_law_807 rfl 1 rfl ?_
                              refine r_bipush (pc := 808) (v := 7) hC dL_law_808 (by decide) ?_
                              obtain ⟨b216, gb216, hf⟩ := ob hf
                              obtain ⟨q217, eq217, hf⟩ := ob hf
                              refine r_callV (pc := 810) (As := [DI 7]) (rest := [DI yb82.2.1]) (stk' := [DI q217, DI yb82.2.1]) (k0_X4_count (nx eq217)) gb216 rfl hC wd_1_211 wd_1_212 wd_1_213 wd_1_214 wd_1_1 md_X4_count rfl ⟨rfl, rfl, Nat.le_of_ble_eq_true rfl, Nat.le_of_ble_eq_true rfl, by show _ ≤ 600130; omega, by show _ ≤ 7301080; omega⟩ dL_law_810 rfl (Nat.le_of_ble_eq_true rfl) rfl ?_
                              refine r_icmp_ne (pc := 813) (tgt := 852) hC dL_law_813 (by decide) (fun c218 => ?_) (fun c218 => ?_)
                              · replace hf := oi_f c218 hf
                                refine r_iconst (pc := 852) (v := 0) hC dL_law_852 (by decide) ?_
                                obtain ⟨v219, ev219, hf⟩ := ob hf
                                cases hf
                                have hz9 := (oZ_spec ev219).1
                                have hy9 : v219 = 1 := (Prod.mk.inj (Option.some.inj hk)).1
                                exact dm_to rfl (congrArg (fun q => [DI q]) (hz9.symm.trans hy9)) (r_lawret (pc := 853) hLE hC dL_law_853 (by show _ ≤ 600130; omega) (by show _ ≤ 7301080; omega))
                              · replace hf := oi_t c218 hf
                                refine r_iload (pc := 816) hC dL_law_816 11 rfl ?_
                                refine r_aload_n (pc := 818) hC dL_law_818 rfl 1 rfl ?_
                                refine r_iconst (pc := 819) (v := 4) hC dL_law_819 (by decide) ?_
                                obtain ⟨b220, gb220, hf⟩ := ob hf
                                obtain ⟨q221, eq221, hf⟩ := ob hf
                                refine r_callV (pc := 820) (As := [DI 4]) (rest := [DI yb165.2.1]) (stk' := [DI q221, DI yb165.2.1]) (k0_X4_count (nx eq221)) gb220 rfl hC wd_1_211 wd_1_212 wd_1_213 wd_1_214 wd_1_1 md_X4_count rfl ⟨rfl, rfl, Nat.le_of_ble_eq_true rfl, Nat.le_of_ble_eq_true rfl, by show _ ≤ 600130; omega, by show _ ≤ 7301080; omega⟩ dL_law_820 rfl (Nat.le_of_ble_eq_true rfl) rfl ?_
                                refine r_icmp_ne (pc := 823) (tgt := 852) hC dL_law_823 (by decide) (fun c222 => ?_) (fun c222 => ?_)
                                · replace hf := oi_f c222 hf
                                  refine r_iconst (pc := 852) (v := 0) hC dL_law_852 (by decide) ?_
                                  obtain ⟨v223, ev223, hf⟩ := ob hf
                                  cases hf
                                  have hz9 := (oZ_spec ev223).1
                                  have hy9 : v223 = 1 := (Prod.mk.inj (Option.some.inj hk)).1
                                  exact dm_to rfl (congrArg (fun q => [DI q]) (hz9.symm.trans hy9)) (r_lawret (pc := 853) hLE hC dL_law_853 (by show _ ≤ 600130; omega) (by show _ ≤ 7301080; omega))
                                · replace hf := oi_t c222 hf
                                  refine r_iload (pc := 826) hC dL_law_826 11 rfl ?_
                                  refine r_iload (pc := 828) hC dL_law_828 7 rfl ?_
                                  refine r_icmp_lt (pc := 830) (tgt := 852) hC dL_law_830 (by decide) (fun c224 => ?_) (fun c224 => ?_)
                                  · replace hf := oi_t c224 hf
                                    refine r_iconst (pc := 852) (v := 0) hC dL_law_852 (by decide) ?_
                                    obtain ⟨v225, ev225, hf⟩ := ob hf
                                    cases hf
                                    have hz9 := (oZ_spec ev225).1
                                    have hy9 : v225 = 1 := (Prod.mk.inj (Option.some.inj hk)).1
                                    exact dm_to rfl (congrArg (fun q => [DI q]) (hz9.symm.trans hy9)) (r_lawret (pc := 853) hLE hC dL_law_853 (by show _ ≤ 600130; omega) (by show _ ≤ 7301080; omega))
                                  · replace hf := oi_f c224 hf
                                    refine r_iload (pc := 833) hC dL_law_833 8 rfl ?_
                                    refine r_bipush (pc := 835) (v := 10) hC dL_law_835 (by decide) ?_
                                    refine r_iload (pc := 837) hC dL_law_837 9 rfl ?_
                                    refine r_imul (pc := 839) hC dL_law_839 ?_
                                    refine r_iadd (pc := 840) hC dL_law_840 ?_
                                    refine r_bipush (pc := 841) (v := 10) hC dL_law_841 (by decide) ?_
                                    refine r_iload (pc := 843) hC dL_law_843 5 rfl ?_
                                    refine r_imul (pc := 845) hC dL_law_845 ?_
                                    refine r_iadd (pc := 846) hC dL_law_846 ?_
                                    refine r_iload (pc := 847) hC dL_law_847 6 rfl ?_
                                    refine r_icmp_eq (pc := 849) (tgt := 854) hC dL_law_849 (by decide) (fun c226 => ?_) (fun c226 => ?_)
                                    · replace hf := oi_t c226 hf
                                      refine r_aload_n (pc := 854) hC dL_law_854 rfl 1 rfl ?_
                                      refine r_iconst (pc := 855) (v := 2) hC dL_law_855 (by decide) ?_
                                      obtain ⟨b227, gb227, hf⟩ := ob hf
                                      obtain ⟨q228, eq228, hf⟩ := ob hf
                                      refine r_callV (pc := 856) (As := [DI 2]) (rest := []) (stk' := [DI q228]) (k0_X4_count (nx eq228)) gb227 rfl hC wd_1_211 wd_1_212 wd_1_213 wd_1_214 wd_1_1 md_X4_count rfl ⟨rfl, rfl, Nat.le_of_ble_eq_true rfl, Nat.le_of_ble_eq_true rfl, by show _ ≤ 600130; omega, by show _ ≤ 7301080; omega⟩ dL_law_856 rfl (Nat.le_of_ble_eq_true rfl) rfl ?_
                                      refine r_if_ne (pc := 859) (tgt := 865) hC dL_law_859 (by decide) (fun c229 => ?_) (fun c229 => ?_)
                                      · replace hf := oi_f c229 hf
                                        refine r_iload (pc := 865) hC dL_law_865 4 rfl ?_
                                        refine r_iconst (pc := 867) (v := 1) hC dL_law_867 (by decide) ?_
                                        refine r_ishr (pc := 868) hC dL_law_868 ?_
                                        refine r_aload_n (pc := 869) hC dL_law_869 rfl 1 rfl ?_
                                        refine r_iconst (pc := 870) (v := 2) hC dL_law_870 (by decide) ?_
                                        obtain ⟨b230, gb230, hf⟩ := ob hf
                                        obtain ⟨q231, eq231, hf⟩ := ob hf
                                        refine r_callV (pc := 871) (As := [DI 2]) (rest := [DI (((q10 >>> ((v11 * 3) &&& 31)) + (467 * z7.2)) >>> (1 &&& 31))]) (stk' := [DI q231, DI (((q10 >>> ((v11 * 3) &&& 31)) + (467 * z7.2)) >>> (1 &&& 31))]) (k0_X4_count (nx eq231)) gb230 rfl hC wd_1_211 wd_1_212 wd_1_213 wd_1_214 wd_1_1 md_X4_count rfl ⟨rfl, rfl, Nat.le_of_ble_eq_true rfl, Nat.le_of_ble_eq_true rfl, by show _ ≤ 600130; omega, by show _ ≤ 7301080; omega⟩ dL_law_871 rfl (Nat.le_of_ble_eq_true rfl) rfl ?_
                                        obtain ⟨q232, eq232, hf⟩ := ob hf
                                        refine r_callS (pc := 874) (As := [DI (((q10 >>> ((v11 * 3) &&& 31)) + (467 * z7.2)) >>> (1 &&& 31)), DI q231]) (rest := []) (stk' := [DI q232]) (k1_L_below eq232) hC wd_2_18 wd_2_19 wd_2_20 wd_1_0 md_L_below rfl ⟨rfl, rfl, Nat.le_of_ble_eq_true rfl, Nat.le_of_ble_eq_true rfl, by show _ ≤ 600130; omega, by show _ ≤ 7301080; omega⟩ dL_law_874 rfl (Nat.le_of_ble_eq_true rfl) rfl ?_
                                        refine r_istore (pc := 877) (lv' := [(13, DI q232), (0, DR (some b)), (1, DR (some st.1)), (2, DR (some n5)), (3, DI z7.2), (4, DI ((q10 >>> ((v11 * 3) &&& 31)) + (467 * z7.2))), (6, DI yb165.1), (7, DI j32), (8, DI q27), (9, DI yb36.1), (10, DI yb82.1), (11, DI yb82.2.1), (12, DI yb165.2.1)]) hC hN dL_law_877 (by decide) rfl ?_
                                        refine r_aload_n (pc := 879) hC dL_law_879 rfl 2 rfl ?_
                                        refine r_iload (pc := 880) hC dL_law_880 0 rfl ?_
                                        refine r_iconst (pc := 882) (v := 3) hC dL_law_882 (by decide) ?_
                                        obtain ⟨b233, gb233, hf⟩ := ob hf
                                        obtain ⟨q234, eq234, hf⟩ := ob hf
                                        refine r_callV (pc := 883) (As := [DI q232, DI 3]) (rest := []) (stk' := [DI q234]) (k0_X4_about (nx eq234)) gb233 rfl hC wd_1_185 wd_1_186 wd_1_187 wd_1_188 wd_1_1 md_X4_about rfl ⟨rfl, rfl, Nat.le_of_ble_eq_true rfl, Nat.le_of_ble_eq_true rfl, by show _ ≤ 600130; omega, by show _ ≤ 7301080; omega⟩ dL_law_883 rfl (Nat.le_of_ble_eq_true rfl) rfl ?_
                                        refine r_istore (pc := 886) (lv' := [(14, DI q234), (13, DI q232), (0, DR (some b)), (1, DR (some st.1)), (2, DR (some n5)), (3, DI z7.2), (4, DI ((q10 >>> ((v11 * 3) &&& 31)) + (467 * z7.2))), (6, DI yb165.1), (7, DI j32), (8, DI q27), (9, DI yb36.1), (10, DI yb82.1), (11, DI yb82.2.1), (12, DI yb165.2.1)]) hC hN dL_law_886 (by decide) rfl ?_
                                        refine r_aload_n (pc := 888) hC dL_law_888 rfl 3 rfl ?_
                                        refine r_iload (pc := 889) hC dL_law_889 1 rfl ?_
                                        obtain ⟨b235, gb235, hf⟩ := ob hf
                                        obtain ⟨q236, eq236, hf⟩ := ob hf
                                        refine r_callV (pc := 891) (As := [DI q232]) (rest := []) (stk' := [DI q236.1]) (k0_X4_polish (nx eq236)) gb235 rfl hC wd_1_77 wd_1_78 wd_1_79 wd_1_80 wd_1_1 md_X4_polish rfl ⟨rfl, rfl, Nat.le_of_ble_eq_true rfl, Nat.le_of_ble_eq_true rfl, by show _ ≤ 600130; omega, by show _ ≤ 7301080; omega⟩ dL_law_891 rfl (Nat.le_of_ble_eq_true rfl) rfl ?_
                                        refine r_istore (pc := 894) (lv' := [(15, DI q236.1), (14, DI q234), (13, DI q232), (0, DR (some b)), (1, DR (some st.1)), (2, DR (some n5)), (3, DI z7.2), (4, DI ((q10 >>> ((v11 * 3) &&& 31)) + (467 * z7.2))), (6, DI yb165.1), (7, DI j32), (8, DI q27), (9, DI yb36.1), (10, DI yb82.1), (11, DI yb82.2.1), (12, DI yb165.2.1)]) hC hN dL_law_894 (by decide) rfl ?_
                                        refine r_aload_n (pc := 896) hC dL_law_896 rfl 5 rfl ?_
                                        obtain ⟨v237, ev237, hf⟩ := ob hf
                                        refine r_getR (pc := 897) CF6 (k := 2) hC (by decide) wd_3_114 dL_law_897 ev237 ?_
                                        refine r_iload (pc := 900) hC dL_law_900 2 rfl ?_
                                        obtain ⟨v238, ev238, hf⟩ := ob hf
                                        refine r_aaloadA (pc := 902) (kd := 6) (t := .int) (fun _ => rfl) hC dL_law_902 ev238 ?_
                                        refine r_iconst (pc := 903) (v := 3) hC dL_law_903 (by decide) ?_
                                        refine r_iconst (pc := 904) (v := 0) hC dL_law_904 (by decide) ?_
                                        refine r_iload (pc := 905) hC dL_law_905 1 rfl ?_
                                        refine r_bipush (pc := 907) (v := 15) hC dL_law_907 (by decide) ?_
                                        refine r_isub (pc := 909) hC dL_law_909 ?_
                                        refine r_max (pc := 910) hC wd_3_126 wd_1_162 wd_1_12 (wd_1_163) dL_law_910 ⟨Nat.le_of_ble_eq_true rfl, Nat.le_of_ble_eq_true rfl, by show _ ≤ 600130; omega, by show _ ≤ 7301080; omega⟩ ?_
                                        obtain ⟨s239, es239, hf⟩ := ob hf
                                        refine r_iastore (pc := 913) hC dL_law_913 es239 ?_
                                        refine r_iload (pc := 914) hC dL_law_914 0 rfl ?_
                                        refine r_iconst (pc := 916) (v := 0) hC dL_law_916 (by decide) ?_
                                        refine r_iload (pc := 917) hC dL_law_917 1 rfl ?_
                                        refine r_bipush (pc := 919) (v := 15) hC dL_law_919 (by decide) ?_
                                        refine r_isub (pc := 921) hC dL_law_921 ?_
                                        refine r_max (pc := 922) hC wd_3_126 wd_1_162 wd_1_12 (wd_1_163) dL_law_922 ⟨Nat.le_of_ble_eq_true rfl, Nat.le_of_ble_eq_true rfl, by show _ ≤ 600130; omega, by show _ ≤ 7301080; omega⟩ ?_
                                        refine r_icmp_ne (pc := 925) (tgt := 940) hC dL_law_925 (by decide) (fun c240 => ?_) (fun c240 => ?_)
                                        · replace hf := oi_f c240 hf
                                          refine r_iconst (pc := 940) (v := 0) hC dL_law_940 (by decide) ?_
                                          obtain ⟨v241, ev241, hf⟩ := ob hf
                                          cases hf
                                          have hz9 := (oZ_spec ev241).1
                                          have hy9 : v241 = 1 := (Prod.mk.inj (Option.some.inj hk)).1
                                          exact dm_to rfl (congrArg (fun q => [DI q]) (hz9.symm.trans hy9)) (r_lawret (pc := 941) hLE hC dL_law_941 (by show _ ≤ 600130; omega) (by show _ ≤ 7301080; omega))
                                        · replace hf := oi_t c240 hf
                                          refine r_aload_n (pc := 928) hC dL_law_928 rfl 4 rfl ?_
                                          refine r_iload (pc := 929) hC dL_law_929 2 rfl ?_
                                          refine r_iconst (pc := 931) (v := 3) hC dL_law_931 (by decide) ?_
                                          obtain ⟨b242, gb242, hf⟩ := ob hf
                                          obtain ⟨q243, eq243, hf⟩ := ob hf
                                          refine r_callV (pc := 932) (As := [DI q232, DI 3]) (rest := []) (stk' := [DI q243]) (k0_X4_about (nx eq243)) gb242 rfl hC wd_1_185 wd_1_186 wd_1_187 wd_1_188 wd_1_1 md_X4_about rfl ⟨rfl, rfl, Nat.le_of_ble_eq_true rfl, Nat.le_of_ble_eq_true rfl, by show _ ≤ 600130; omega, by show _ ≤ 7301080; omega⟩ dL_law_932 rfl (Nat.le_of_ble_eq_true rfl) rfl ?_
                                          refine r_iload (pc := 935) hC dL_law_935 0 rfl ?_
                                          refine r_icmp_eq (pc := 937) (tgt := 942) hC dL_law_937 (by decide) (fun c244 => ?_) (fun c244 => ?_)
                                          · replace hf := oi_t c244 hf
                                            refine r_iinc (pc := 942) (pos := 6) (v := (z7.2 + 1)) (lv' := [(3, DI (z7.2 + 1)), (15, DI q236.1), (14, DI q234), (13, DI q232), (0, DR (some b)), (1, DR (some st.1)), (2, DR (some n5)), (4, DI ((q10 >>> ((v11 * 3) &&& 31)) + (467 * z7.2))), (6, DI yb165.1), (7, DI j32), (8, DI q27), (9, DI yb36.1), (10, DI yb82.1), (11, DI yb82.2.1), (12, DI yb165.2.1)]) hC hN dL_law_942 rfl rfl (by decide) rfl ?_
                                            refine r_goto (pc := 945) (tgt := 22) hC dL_law_945 (by decide) ?_
                                            cases hf
                                            exact dm_widen (by omega) (by omega) (dm_sub [4, 5, 6, 0] rfl hk)
                                          · replace hf := oi_f c244 hf
                                            refine r_iconst (pc := 940) (v := 0) hC dL_law_940 (by decide) ?_
                                            obtain ⟨v245, ev245, hf⟩ := ob hf
                                            cases hf
                                            have hz9 := (oZ_spec ev245).1
                                            have hy9 : v245 = 1 := (Prod.mk.inj (Option.some.inj hk)).1
                                            exact dm_to rfl (congrArg (fun q => [DI q]) (hz9.symm.trans hy9)) (r_lawret (pc := 941) hLE hC dL_law_941 (by show _ ≤ 600130; omega) (by show _ ≤ 7301080; omega))
                                      · replace hf := oi_t c229 hf
                                        refine r_goto (pc := 862) (tgt := 942) hC dL_law_862 (by decide) ?_
                                        refine r_iinc (pc := 942) (pos := 3) (v := (z7.2 + 1)) (lv' := [(3, DI (z7.2 + 1)), (0, DR (some b)), (1, DR (some st.1)), (2, DR (some n5)), (4, DI ((q10 >>> ((v11 * 3) &&& 31)) + (467 * z7.2))), (6, DI yb165.1), (7, DI j32), (8, DI q27), (9, DI yb36.1), (10, DI yb82.1), (11, DI yb82.2.1), (12, DI yb165.2.1), (13, DI yb165.2.2)]) hC hN dL_law_942 rfl rfl (by decide) rfl ?_
                                        refine r_goto (pc := 945) (tgt := 22) hC dL_law_945 (by decide) ?_
                                        cases hf
                                        exact dm_widen (by omega) (by omega) (dm_sub [1, 2, 3, 0] rfl hk)
                                    · replace hf := oi_f c226 hf
                                      refine r_iconst (pc := 852) (v := 0) hC dL_law_852 (by decide) ?_
                                      obtain ⟨v246, ev246, hf⟩ := ob hf
                                      cases hf
                                      have hz9 := (oZ_spec ev246).1
                                      have hy9 : v246 = 1 := (Prod.mk.inj (Option.some.inj hk)).1
                                      exact dm_to rfl (congrArg (fun q => [DI q]) (hz9.symm.trans hy9)) (r_lawret (pc := 853) hLE hC dL_law_853 (by show _ ≤ 600130; omega) (by show _ ≤ 7301080; omega))
                        · cases hf
                          exact hk
                    · cases hf
                      exact hk
                · cases hf
                  exact hk
            replace hf := ej32
            clear ej32
            refine r_icmp_le (pc := 149) (tgt := 164) hC dL_law_149 (by decide) (fun c33 => ?_) (fun c33 => ?_)
            · replace hf := oi_t c33 hf
              cases hf
              exact (dm_sub [2, 3, 4, 5, 6, 1, 0] rfl hJ32)
            · replace hf := oi_f c33 hf
              refine r_iload (pc := 152) hC dL_law_152 1 rfl ?_
              refine r_aload_n (pc := 154) hC dL_law_154 rfl 3 rfl ?_
              refine r_iload (pc := 155) hC dL_law_155 7 rfl ?_
              refine r_iconst (pc := 157) (v := 0) hC dL_law_157 (by decide) ?_
              obtain ⟨b34, gb34, hf⟩ := ob hf
              obtain ⟨q35, eq35, hf⟩ := ob hf
              refine r_callV (pc := 158) (As := [DI q13, DI 0]) (rest := [DI ((q23 + (10 * q25)) + (10 * b14.1))]) (stk' := [DI q35, DI ((q23 + (10 * q25)) + (10 * b14.1))]) (k0_X4_told (nx eq35)) gb34 rfl hC wd_1_164 wd_1_165 wd_1_166 wd_1_167 wd_1_1 md_X4_told rfl ⟨rfl, rfl, Nat.le_of_ble_eq_true rfl, Nat.le_of_ble_eq_true rfl, by show _ ≤ 600130; omega, by show _ ≤ 7301080; omega⟩ dL_law_158 rfl (Nat.le_of_ble_eq_true rfl) rfl ?_
              refine r_iadd (pc := 161) hC dL_law_161 ?_
              refine r_istore (pc := 162) (lv' := [(7, DI (((q23 + (10 * q25)) + (10 * b14.1)) + q35)), (8, DI q27), (0, DR (some b)), (1, DR (some st.1)), (2, DR (some n5)), (3, DI z7.2), (4, DI ((q10 >>> ((v11 * 3) &&& 31)) + (467 * z7.2))), (5, DI q13), (6, DI b14.1)]) hC hN dL_law_162 (by decide) rfl ?_
              cases hf
              exact (dm_sub [2, 3, 4, 5, 6, 0, 1] rfl hJ32)
          · replace hf := oi_t c29 hf
            refine r_iconst (pc := 140) (v := 0) hC dL_law_140 (by decide) ?_
            obtain ⟨v247, ev247, hf⟩ := ob hf
            cases hf
            have hz9 := (oZ_spec ev247).1
            have hy9 : v247 = 1 := (Prod.mk.inj (Option.some.inj hk)).1
            exact dm_to rfl (congrArg (fun q => [DI q]) (hz9.symm.trans hy9)) (r_lawret (pc := 141) hLE hC dL_law_141 (by show _ ≤ 600130; omega) (by show _ ≤ 7301080; omega))
    · rcases b7 with yb7 | r9
      · refine r_aload_n (pc := 948) hC dL_law_948 rfl 2 rfl ?_
        refine r_aload_n (pc := 949) hC dL_law_949 rfl 1 rfl ?_
        obtain ⟨b248, gb248, hf⟩ := ob hf
        obtain ⟨q249, eq249, hf⟩ := ob hf
        refine r_callV (pc := 950) (As := [DR (some st.1)]) (rest := []) (stk' := [DI q249.1]) (k1_X6_isSame eq249) gb248 rfl hC wd_1_235 wd_1_236 wd_1_237 wd_1_238 wd_1_3 md_X6_isSame rfl ⟨rfl, rfl, Nat.le_of_ble_eq_true rfl, Nat.le_of_ble_eq_true rfl, by show _ ≤ 600130; omega, by show _ ≤ 7301080; omega⟩ dL_law_950 rfl (Nat.le_of_ble_eq_true rfl) rfl ?_
        obtain ⟨v250, ev250, hf⟩ := ob hf
        have hz9 := (oZ_spec ev250).1
        have hy9 : v250 = 1 := (Prod.mk.inj (Option.some.inj hf)).1
        exact dm_to rfl (congrArg (fun q => [DI q]) (hz9.symm.trans hy9)) (r_lawret (pc := 953) hLE hC dL_law_953 (by show _ ≤ 600130; omega) (by show _ ≤ 7301080; omega))
      · exact hf
  · rw [c4] at hf ⊢
    dsimp only [oN] at hf
    refine r_iconst (pc := 18) (v := 0) hC dL_law_18 (by decide) ?_
    obtain ⟨v6, ev6, hf⟩ := ob hf
    have hz9 := (oZ_spec ev6).1
    have hy9 : v6 = 1 := (Prod.mk.inj (Option.some.inj hf)).1
    exact dm_to rfl (congrArg (fun q => [DI q]) (hz9.symm.trans hy9)) (r_lawret (pc := 19) hLE hC dL_law_19 (by show _ ≤ 600130; omega) (by show _ ≤ 7301080; omega))
