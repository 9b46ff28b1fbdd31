def cd0 (E : String) : Option Int32 := if E = "java/lang/IllegalArgumentException" then some 1 else if E = "java/lang/IllegalStateException" then some 2 else none
def cd1 (E : String) : Option Int32 := if E = "java/lang/IndexOutOfBoundsException" then some 1 else if E = "java/lang/IllegalArgumentException" then some 2 else none
def cd2 (E : String) : Option Int32 := if E = "java/lang/IndexOutOfBoundsException" then some 1 else if E = "java/lang/IllegalArgumentException" then some 2 else if E = "java/lang/IllegalStateException" then some 3 else none
def cd3 (E : String) : Option Int32 := if E = "java/lang/IndexOutOfBoundsException" then some 1 else none
def cd4 (E : String) : Option Int32 := if E = "java/lang/IndexOutOfBoundsException" then some 1 else if E = "java/lang/IllegalStateException" then some 2 else none
def cd5 (E : String) : Option Int32 := if E = "java/lang/IllegalArgumentException" then some 1 else none
theorem md_L_bowl : dm_md yL_bowl 3 := by unfold dm_md; decide +kernel
theorem md_L_warm : dm_md yL_warm 5 := by unfold dm_md; decide +kernel
theorem md_L_seed : dm_md yL_seed 4 := by unfold dm_md; decide +kernel
theorem md_L_pour : dm_md yL_pour 4 := by unfold dm_md; decide +kernel
theorem md_L_cast : dm_md yL_cast 5 := by unfold dm_md; decide +kernel
theorem md_L_polish : dm_md yL_polish 3 := by unfold dm_md; decide +kernel
theorem md_L_split : dm_md yL_split 5 := by unfold dm_md; decide +kernel
theorem md_L_melt : dm_md yL_melt 4 := by unfold dm_md; decide +kernel
theorem md_L_box : dm_md yL_box 4 := by unfold dm_md; decide +kernel
theorem md_L_pass : dm_md yL_pass 4 := by unfold dm_md; decide +kernel
theorem md_L_told : dm_md yL_told 4 := by unfold dm_md; decide +kernel
theorem md_L_about : dm_md yL_about 4 := by unfold dm_md; decide +kernel
theorem md_L_order : dm_md yL_order 4 := by unfold dm_md; decide +kernel
theorem md_L_count : dm_md yL_count 3 := by unfold dm_md; decide +kernel
theorem md_L_would : dm_md yL_would 5 := by unfold dm_md; decide +kernel
theorem md_L_best : dm_md yL_best 5 := by unfold dm_md; decide +kernel
theorem md_L_until : dm_md yL_until 4 := by unfold dm_md; decide +kernel
abbrev rmW_L_bowl : Room := { frames := 7, cells := 3, slots := 10, locals := 104 }
set_option maxRecDepth 100000 in
set_option maxHeartbeats 4000000 in
theorem kw_L_bowl {st : DSt} {x : Nat} {a0 : Option Nat} {a1 : Int32} {a2 : Option Nat} {r0 : (String × DHp) ⊕ (Int32 × DSt)} (hb : oR st a0 4 = some x) (hf : fX4_bowl st x a1 = some r0) (hok : wrOK cd0 a2 (r0)) : dm_KW yL_bowl cL_bowl 4 (some .int) [(0, 9, 12, 13), (0, 9, 15, 15)] rmW_L_bowl 3 10 [DR a0, DI a1, DR a2] st (wrF cd0 a2 (r0)) := by
  refine dm_kw (by decide) rfl (Nat.le_of_ble_eq_true rfl) fun Y hC hN hE hT => ?_
  refine dm_sub (lv' := [(0, DR a0), (1, DI a1), (2, DR a2)]) ([0, 1, 2]) rfl ?_
  refine r_aload_n (pc := 0) hC dL_bowl_0 rfl 2 rfl ?_
  refine r_iconst (pc := 1) (v := 0) hC dL_bowl_1 (by decide) ?_
  refine r_aload_n (pc := 2) hC dL_bowl_2 rfl 0 rfl ?_
  refine r_iload_n (pc := 3) hC dL_bowl_3 rfl 1 rfl ?_
  rcases r0 with ⟨E0, h0⟩ | q0
  · obtain ⟨k0, hk0⟩ := hok
    by_cases c0 : E0 = "java/lang/IllegalArgumentException"
    · subst c0
      refine r_callVX (pc := 4) (As := [DI a1]) (rest := [DI 0, DR a2]) (k2_X4_bowl hf) hb rfl hC wd_2_34 wd_2_35 wd_2_36 wd_2_37 wd_1_1 md_X4_bowl rfl ⟨rfl, rfl, Nat.le_of_ble_eq_true rfl, Nat.le_of_ble_eq_true rfl, Nat.le_of_ble_eq_true rfl, Nat.le_of_ble_eq_true rfl⟩ dL_bowl_4 rfl (Nat.le_of_ble_eq_true rfl) (r_catch hC hT [] [(0, 9, 15, 15)] (0, 9, 12, 13) rfl (fun z hz => nomatch hz) (by decide) (by decide) wd_2_32 (by decide +kernel) (fun q9 sz => ?_)) (fun _ _ h => nomatch h)
      refine r_astore_n (pc := 12) (lv' := [(3, DR (some q9)), (0, DR a0), (1, DI a1), (2, DR a2)]) hC hN dL_bowl_12 rfl (by decide) rfl ?_
      refine r_iconst (pc := 13) (v := 1) hC dL_bowl_13 (by decide) ?_
      exact r_iret (pc := 14) hE hC ⟨1, (show cd0 "java/lang/IllegalArgumentException" = some 1 by decide), rfl, rfl⟩ ⟨Nat.le_of_ble_eq_true rfl, Nat.le_of_ble_eq_true rfl⟩ dL_bowl_14
    by_cases c1 : E0 = "java/lang/IllegalStateException"
    · subst c1
      refine r_callVX (pc := 4) (As := [DI a1]) (rest := [DI 0, DR a2]) (k2_X4_bowl hf) hb rfl hC wd_2_34 wd_2_35 wd_2_36 wd_2_37 wd_1_1 md_X4_bowl rfl ⟨rfl, rfl, Nat.le_of_ble_eq_true rfl, Nat.le_of_ble_eq_true rfl, Nat.le_of_ble_eq_true rfl, Nat.le_of_ble_eq_true rfl⟩ dL_bowl_4 rfl (Nat.le_of_ble_eq_true rfl) (r_catch hC hT [(0, 9, 12, 13)] [] (0, 9, 15, 15) rfl (fun z hz => by
        rcases (show z = (0, 9, 12, 13) from by simpa using hz) with rfl
        · exact ⟨by decide, _, wd_2_32, by decide +kernel⟩) (by decide) (by decide) wd_2_33 (by decide +kernel) (fun q9 sz => ?_)) (fun _ _ h => nomatch h)
      refine r_astore_n (pc := 15) (lv' := [(3, DR (some q9)), (0, DR a0), (1, DI a1), (2, DR a2)]) hC hN dL_bowl_15 rfl (by decide) rfl ?_
      refine r_iconst (pc := 16) (v := 2) hC dL_bowl_16 (by decide) ?_
      exact r_iret (pc := 17) hE hC ⟨2, (show cd0 "java/lang/IllegalStateException" = some 2 by decide), rfl, rfl⟩ ⟨Nat.le_of_ble_eq_true rfl, Nat.le_of_ble_eq_true rfl⟩ dL_bowl_17
    · exact absurd hk0 (by unfold cd0; simp [c0, c1])
  · obtain ⟨u0, hu0⟩ := hok
    refine r_callVX_ret (pc := 4) (As := [DI a1]) (rest := [DI 0, DR a2]) (stk' := [DI q0.1, DI 0, DR a2]) (k2_X4_bowl hf) hb rfl hC wd_2_34 wd_2_35 wd_2_36 wd_2_37 wd_1_1 md_X4_bowl rfl ⟨rfl, rfl, Nat.le_of_ble_eq_true rfl, Nat.le_of_ble_eq_true rfl, Nat.le_of_ble_eq_true rfl, Nat.le_of_ble_eq_true rfl⟩ dL_bowl_4 rfl (Nat.le_of_ble_eq_true rfl) rfl ?_
    refine r_i2l (pc := 7) hC dL_bowl_7 ?_
    refine r_lastore (pc := 8) hC dL_bowl_8 hu0 ?_
    refine r_goto (pc := 9) (tgt := 18) hC dL_bowl_9 (by decide) ?_
    refine r_iconst (pc := 18) (v := 0) hC dL_bowl_18 (by decide) ?_
    exact r_iret (pc := 19) hE hC ⟨hu0, rfl⟩ ⟨Nat.le_of_ble_eq_true rfl, Nat.le_of_ble_eq_true rfl⟩ dL_bowl_19
abbrev rmW_L_warm : Room := { frames := 8, cells := 2, slots := 12, locals := 128 }
set_option maxRecDepth 100000 in
set_option maxHeartbeats 4000000 in
theorem kw_L_warm {st : DSt} {x : Nat} {a0 : Option Nat} {a1 : Int32} {a2 : Int32} {a3 : Int32} {a4 : Option Nat} {r0 : (String × DHp) ⊕ (Int32 × DSt)} (hb : oR st a0 4 = some x) (hf : fX4_warm st x a1 a2 a3 = some r0) (hok : wrOK cd1 a4 (r0)) : dm_KW yL_warm cL_warm 6 (some .int) [(0, 12, 15, 21), (0, 12, 19, 13)] rmW_L_warm 2 12 [DR a0, DI a1, DI a2, DI a3, DR a4] st (wrF cd1 a4 (r0)) := by
  refine dm_kw (by decide) rfl (Nat.le_of_ble_eq_true rfl) fun Y hC hN hE hT => ?_
  refine dm_sub (lv' := [(0, DR a0), (1, DI a1), (2, DI a2), (3, DI a3), (4, DR a4)]) ([0, 1, 2, 3, 4]) rfl ?_
  refine r_aload (pc := 0) hC dL_warm_0 4 rfl ?_
  refine r_iconst (pc := 2) (v := 0) hC dL_warm_2 (by decide) ?_
  refine r_aload_n (pc := 3) hC dL_warm_3 rfl 0 rfl ?_
  refine r_iload_n (pc := 4) hC dL_warm_4 rfl 1 rfl ?_
  refine r_iload_n (pc := 5) hC dL_warm_5 rfl 2 rfl ?_
  refine r_iload_n (pc := 6) hC dL_warm_6 rfl 3 rfl ?_
  rcases r0 with ⟨E0, h0⟩ | q0
  · obtain ⟨k0, hk0⟩ := hok
    by_cases c0 : E0 = "java/lang/IndexOutOfBoundsException"
    · subst c0
      refine r_callVX (pc := 7) (As := [DI a1, DI a2, DI a3]) (rest := [DI 0, DR a4]) (k2_X4_warm hf) hb rfl hC wd_2_94 wd_2_95 wd_2_96 wd_2_97 wd_1_1 md_X4_warm rfl ⟨rfl, rfl, Nat.le_of_ble_eq_true rfl, Nat.le_of_ble_eq_true rfl, Nat.le_of_ble_eq_true rfl, Nat.le_of_ble_eq_true rfl⟩ dL_warm_7 rfl (Nat.le_of_ble_eq_true rfl) (r_catch hC hT [] [(0, 12, 19, 13)] (0, 12, 15, 21) rfl (fun z hz => nomatch hz) (by decide) (by decide) wd_2_93 (by decide +kernel) (fun q9 sz => ?_)) (fun _ _ h => nomatch h)
      refine r_astore (pc := 15) (lv' := [(5, DR (some q9)), (0, DR a0), (1, DI a1), (2, DI a2), (3, DI a3), (4, DR a4)]) hC hN dL_warm_15 (by decide) rfl ?_
      refine r_iconst (pc := 17) (v := 1) hC dL_warm_17 (by decide) ?_
      exact r_iret (pc := 18) hE hC ⟨1, (show cd1 "java/lang/IndexOutOfBoundsException" = some 1 by decide), rfl, rfl⟩ ⟨Nat.le_of_ble_eq_true rfl, Nat.le_of_ble_eq_true rfl⟩ dL_warm_18
    by_cases c1 : E0 = "java/lang/IllegalArgumentException"
    · subst c1
      refine r_callVX (pc := 7) (As := [DI a1, DI a2, DI a3]) (rest := [DI 0, DR a4]) (k2_X4_warm hf) hb rfl hC wd_2_94 wd_2_95 wd_2_96 wd_2_97 wd_1_1 md_X4_warm rfl ⟨rfl, rfl, Nat.le_of_ble_eq_true rfl, Nat.le_of_ble_eq_true rfl, Nat.le_of_ble_eq_true rfl, Nat.le_of_ble_eq_true rfl⟩ dL_warm_7 rfl (Nat.le_of_ble_eq_true rfl) (r_catch hC hT [(0, 12, 15, 21)] [] (0, 12, 19, 13) rfl (fun z hz => by
        rcases (show z = (0, 12, 15, 21) from by simpa using hz) with rfl
        · exact ⟨by decide, _, wd_2_93, by decide +kernel⟩) (by decide) (by decide) wd_2_32 (by decide +kernel) (fun q9 sz => ?_)) (fun _ _ h => nomatch h)
      refine r_astore (pc := 19) (lv' := [(5, DR (some q9)), (0, DR a0), (1, DI a1), (2, DI a2), (3, DI a3), (4, DR a4)]) hC hN dL_warm_19 (by decide) rfl ?_
      refine r_iconst (pc := 21) (v := 2) hC dL_warm_21 (by decide) ?_
      exact r_iret (pc := 22) hE hC ⟨2, (show cd1 "java/lang/IllegalArgumentException" = some 2 by decide), rfl, rfl⟩ ⟨Nat.le_of_ble_eq_true rfl, Nat.le_of_ble_eq_true rfl⟩ dL_warm_22
    · exact absurd hk0 (by unfold cd1; simp [c0, c1])
  · obtain ⟨u0, hu0⟩ := hok
    refine r_callVX_ret (pc := 7) (As := [DI a1, DI a2, DI a3]) (rest := [DI 0, DR a4]) (stk' := [DI q0.1, DI 0, DR a4]) (k2_X4_warm hf) hb rfl hC wd_2_94 wd_2_95 wd_2_96 wd_2_97 wd_1_1 md_X4_warm rfl ⟨rfl, rfl, Nat.le_of_ble_eq_true rfl, Nat.le_of_ble_eq_true rfl, Nat.le_of_ble_eq_true rfl, Nat.le_of_ble_eq_true rfl⟩ dL_warm_7 rfl (Nat.le_of_ble_eq_true rfl) rfl ?_
    refine r_i2l (pc := 10) hC dL_warm_10 ?_
    refine r_lastore (pc := 11) hC dL_warm_11 hu0 ?_
    refine r_goto (pc := 12) (tgt := 23) hC dL_warm_12 (by decide) ?_
    refine r_iconst (pc := 23) (v := 0) hC dL_warm_23 (by decide) ?_
    exact r_iret (pc := 24) hE hC ⟨hu0, rfl⟩ ⟨Nat.le_of_ble_eq_true rfl, Nat.le_of_ble_eq_true rfl⟩ dL_warm_24
abbrev rmW_L_seed : Room := { frames := 8, cells := 2, slots := 12, locals := 127 }
set_option maxRecDepth 100000 in
set_option maxHeartbeats 4000000 in
theorem kw_L_seed {st : DSt} {x : Nat} {a0 : Option Nat} {a1 : Int32} {a2 : Int32} {a3 : Option Nat} {r0 : (String × DHp) ⊕ (Int32 × DSt)} (hb : oR st a0 4 = some x) (hf : fX4_seed st x a1 a2 = some r0) (hok : wrOK cd1 a3 (r0)) : dm_KW yL_seed cL_seed 5 (some .int) [(0, 10, 13, 21), (0, 10, 17, 13)] rmW_L_seed 2 12 [DR a0, DI a1, DI a2, DR a3] st (wrF cd1 a3 (r0)) := by
  refine dm_kw (by decide) rfl (Nat.le_of_ble_eq_true rfl) fun Y hC hN hE hT => ?_
  refine dm_sub (lv' := [(0, DR a0), (1, DI a1), (2, DI a2), (3, DR a3)]) ([0, 1, 2, 3]) rfl ?_
  refine r_aload_n (pc := 0) hC dL_seed_0 rfl 3 rfl ?_
  refine r_iconst (pc := 1) (v := 0) hC dL_seed_1 (by decide) ?_
  refine r_aload_n (pc := 2) hC dL_seed_2 rfl 0 rfl ?_
  refine r_iload_n (pc := 3) hC dL_seed_3 rfl 1 rfl ?_
  refine r_iload_n (pc := 4) hC dL_seed_4 rfl 2 rfl ?_
  rcases r0 with ⟨E0, h0⟩ | q0
  · obtain ⟨k0, hk0⟩ := hok
    by_cases c0 : E0 = "java/lang/IndexOutOfBoundsException"
    · subst c0
      refine r_callVX (pc := 5) (As := [DI a1, DI a2]) (rest := [DI 0, DR a3]) (k2_X4_seed hf) hb rfl hC wd_2_131 wd_2_132 wd_2_133 wd_2_134 wd_1_1 md_X4_seed rfl ⟨rfl, rfl, Nat.le_of_ble_eq_true rfl, Nat.le_of_ble_eq_true rfl, Nat.le_of_ble_eq_true rfl, Nat.le_of_ble_eq_true rfl⟩ dL_seed_5 rfl (Nat.le_of_ble_eq_true rfl) (r_catch hC hT [] [(0, 10, 17, 13)] (0, 10, 13, 21) rfl (fun z hz => nomatch hz) (by decide) (by decide) wd_2_93 (by decide +kernel) (fun q9 sz => ?_)) (fun _ _ h => nomatch h)
      refine r_astore (pc := 13) (lv' := [(4, DR (some q9)), (0, DR a0), (1, DI a1), (2, DI a2), (3, DR a3)]) hC hN dL_seed_13 (by decide) rfl ?_
      refine r_iconst (pc := 15) (v := 1) hC dL_seed_15 (by decide) ?_
      exact r_iret (pc := 16) hE hC ⟨1, (show cd1 "java/lang/IndexOutOfBoundsException" = some 1 by decide), rfl, rfl⟩ ⟨Nat.le_of_ble_eq_true rfl, Nat.le_of_ble_eq_true rfl⟩ dL_seed_16
    by_cases c1 : E0 = "java/lang/IllegalArgumentException"
    · subst c1
      refine r_callVX (pc := 5) (As := [DI a1, DI a2]) (rest := [DI 0, DR a3]) (k2_X4_seed hf) hb rfl hC wd_2_131 wd_2_132 wd_2_133 wd_2_134 wd_1_1 md_X4_seed rfl ⟨rfl, rfl, Nat.le_of_ble_eq_true rfl, Nat.le_of_ble_eq_true rfl, Nat.le_of_ble_eq_true rfl, Nat.le_of_ble_eq_true rfl⟩ dL_seed_5 rfl (Nat.le_of_ble_eq_true rfl) (r_catch hC hT [(0, 10, 13, 21)] [] (0, 10, 17, 13) rfl (fun z hz => by
        rcases (show z = (0, 10, 13, 21) from by simpa using hz) with rfl
        · exact ⟨by decide, _, wd_2_93, by decide +kernel⟩) (by decide) (by decide) wd_2_32 (by decide +kernel) (fun q9 sz => ?_)) (fun _ _ h => nomatch h)
      refine r_astore (pc := 17) (lv' := [(4, DR (some q9)), (0, DR a0), (1, DI a1), (2, DI a2), (3, DR a3)]) hC hN dL_seed_17 (by decide) rfl ?_
      refine r_iconst (pc := 19) (v := 2) hC dL_seed_19 (by decide) ?_
      exact r_iret (pc := 20) hE hC ⟨2, (show cd1 "java/lang/IllegalArgumentException" = some 2 by decide), rfl, rfl⟩ ⟨Nat.le_of_ble_eq_true rfl, Nat.le_of_ble_eq_true rfl⟩ dL_seed_20
    · exact absurd hk0 (by unfold cd1; simp [c0, c1])
  · obtain ⟨u0, hu0⟩ := hok
    refine r_callVX_ret (pc := 5) (As := [DI a1, DI a2]) (rest := [DI 0, DR a3]) (stk' := [DI q0.1, DI 0, DR a3]) (k2_X4_seed hf) hb rfl hC wd_2_131 wd_2_132 wd_2_133 wd_2_134 wd_1_1 md_X4_seed rfl ⟨rfl, rfl, Nat.le_of_ble_eq_true rfl, Nat.le_of_ble_eq_true rfl, Nat.le_of_ble_eq_true rfl, Nat.le_of_ble_eq_true rfl⟩ dL_seed_5 rfl (Nat.le_of_ble_eq_true rfl) rfl ?_
    refine r_i2l (pc := 8) hC dL_seed_8 ?_
    refine r_lastore (pc := 9) hC dL_seed_9 hu0 ?_
    refine r_goto (pc := 10) (tgt := 21) hC dL_seed_10 (by decide) ?_
    refine r_iconst (pc := 21) (v := 0) hC dL_seed_21 (by decide) ?_
    exact r_iret (pc := 22) hE hC ⟨hu0, rfl⟩ ⟨Nat.le_of_ble_eq_true rfl, Nat.le_of_ble_eq_true rfl⟩ dL_seed_22
abbrev rmW_L_pour : Room := { frames := 8, cells := 3, slots := 18, locals := 129 }
set_option maxRecDepth 100000 in
set_option maxHeartbeats 4000000 in
theorem kw_L_pour {st : DSt} {x : Nat} {a0 : Option Nat} {a1 : Int32} {a2 : Int32} {a3 : Option Nat} {r0 : (String × DHp) ⊕ (Int32 × DSt)} (hb : oR st a0 4 = some x) (hf : fX4_pour st x a1 a2 = some r0) (hok : wrOK cd1 a3 (r0)) : dm_KW yL_pour cL_pour 5 (some .int) [(0, 10, 13, 21), (0, 10, 17, 13)] rmW_L_pour 3 18 [DR a0, DI a1, DI a2, DR a3] st (wrF cd1 a3 (r0)) := by
  refine dm_kw (by decide) rfl (Nat.le_of_ble_eq_true rfl) fun Y hC hN hE hT => ?_
  refine dm_sub (lv' := [(0, DR a0), (1, DI a1), (2, DI a2), (3, DR a3)]) ([0, 1, 2, 3]) rfl ?_
  refine r_aload_n (pc := 0) hC dL_pour_0 rfl 3 rfl ?_
  refine r_iconst (pc := 1) (v := 0) hC dL_pour_1 (by decide) ?_
  refine r_aload_n (pc := 2) hC dL_pour_2 rfl 0 rfl ?_
  refine r_iload_n (pc := 3) hC dL_pour_3 rfl 1 rfl ?_
  refine r_iload_n (pc := 4) hC dL_pour_4 rfl 2 rfl ?_
  rcases r0 with ⟨E0, h0⟩ | q0
  · obtain ⟨k0, hk0⟩ := hok
    by_cases c0 : E0 = "java/lang/IndexOutOfBoundsException"
    · subst c0
      refine r_callVX (pc := 5) (As := [DI a1, DI a2]) (rest := [DI 0, DR a3]) (k2_X4_pour hf) hb rfl hC wd_2_140 wd_2_141 wd_2_142 wd_2_143 wd_1_1 md_X4_pour rfl ⟨rfl, rfl, Nat.le_of_ble_eq_true rfl, Nat.le_of_ble_eq_true rfl, Nat.le_of_ble_eq_true rfl, Nat.le_of_ble_eq_true rfl⟩ dL_pour_5 rfl (Nat.le_of_ble_eq_true rfl) (r_catch hC hT [] [(0, 10, 17, 13)] (0, 10, 13, 21) rfl (fun z hz => nomatch hz) (by decide) (by decide) wd_2_93 (by decide +kernel) (fun q9 sz => ?_)) (fun _ _ h => nomatch h)
      refine r_astore (pc := 13) (lv' := [(4, DR (some q9)), (0, DR a0), (1, DI a1), (2, DI a2), (3, DR a3)]) hC hN dL_pour_13 (by decide) rfl ?_
      refine r_iconst (pc := 15) (v := 1) hC dL_pour_15 (by decide) ?_
      exact r_iret (pc := 16) hE hC ⟨1, (show cd1 "java/lang/IndexOutOfBoundsException" = some 1 by decide), rfl, rfl⟩ ⟨Nat.le_of_ble_eq_true rfl, Nat.le_of_ble_eq_true rfl⟩ dL_pour_16
    by_cases c1 : E0 = "java/lang/IllegalArgumentException"
    · subst c1
      refine r_callVX (pc := 5) (As := [DI a1, DI a2]) (rest := [DI 0, DR a3]) (k2_X4_pour hf) hb rfl hC wd_2_140 wd_2_141 wd_2_142 wd_2_143 wd_1_1 md_X4_pour rfl ⟨rfl, rfl, Nat.le_of_ble_eq_true rfl, Nat.le_of_ble_eq_true rfl, Nat.le_of_ble_eq_true rfl, Nat.le_of_ble_eq_true rfl⟩ dL_pour_5 rfl (Nat.le_of_ble_eq_true rfl) (r_catch hC hT [(0, 10, 13, 21)] [] (0, 10, 17, 13) rfl (fun z hz => by
        rcases (show z = (0, 10, 13, 21) from by simpa using hz) with rfl
        · exact ⟨by decide, _, wd_2_93, by decide +kernel⟩) (by decide) (by decide) wd_2_32 (by decide +kernel) (fun q9 sz => ?_)) (fun _ _ h => nomatch h)
      refine r_astore (pc := 17) (lv' := [(4, DR (some q9)), (0, DR a0), (1, DI a1), (2, DI a2), (3, DR a3)]) hC hN dL_pour_17 (by decide) rfl ?_
      refine r_iconst (pc := 19) (v := 2) hC dL_pour_19 (by decide) ?_
      exact r_iret (pc := 20) hE hC ⟨2, (show cd1 "java/lang/IllegalArgumentException" = some 2 by decide), rfl, rfl⟩ ⟨Nat.le_of_ble_eq_true rfl, Nat.le_of_ble_eq_true rfl⟩ dL_pour_20
    · exact absurd hk0 (by unfold cd1; simp [c0, c1])
  · obtain ⟨u0, hu0⟩ := hok
    refine r_callVX_ret (pc := 5) (As := [DI a1, DI a2]) (rest := [DI 0, DR a3]) (stk' := [DI q0.1, DI 0, DR a3]) (k2_X4_pour hf) hb rfl hC wd_2_140 wd_2_141 wd_2_142 wd_2_143 wd_1_1 md_X4_pour rfl ⟨rfl, rfl, Nat.le_of_ble_eq_true rfl, Nat.le_of_ble_eq_true rfl, Nat.le_of_ble_eq_true rfl, Nat.le_of_ble_eq_true rfl⟩ dL_pour_5 rfl (Nat.le_of_ble_eq_true rfl) rfl ?_
    refine r_i2l (pc := 8) hC dL_pour_8 ?_
    refine r_lastore (pc := 9) hC dL_pour_9 hu0 ?_
    refine r_goto (pc := 10) (tgt := 21) hC dL_pour_10 (by decide) ?_
    refine r_iconst (pc := 21) (v := 0) hC dL_pour_21 (by decide) ?_
    exact r_iret (pc := 22) hE hC ⟨hu0, rfl⟩ ⟨Nat.le_of_ble_eq_true rfl, Nat.le_of_ble_eq_true rfl⟩ dL_pour_22
abbrev rmW_L_cast : Room := { frames := 8, cells := 3, slots := 17, locals := 130 }
set_option maxRecDepth 100000 in
set_option maxHeartbeats 4000000 in
theorem kw_L_cast {st : DSt} {x : Nat} {a0 : Option Nat} {a1 : Int32} {a2 : Int32} {a3 : Int32} {a4 : Option Nat} {r0 : (String × DHp) ⊕ (Int32 × DSt)} (hb : oR st a0 4 = some x) (hf : fX4_cast st x a1 a2 a3 = some r0) (hok : wrOK cd2 a4 (r0)) : dm_KW yL_cast cL_cast 6 (some .int) [(0, 12, 15, 21), (0, 12, 19, 13), (0, 12, 23, 15)] rmW_L_cast 3 17 [DR a0, DI a1, DI a2, DI a3, DR a4] st (wrF cd2 a4 (r0)) := by
  refine dm_kw (by decide) rfl (Nat.le_of_ble_eq_true rfl) fun Y hC hN hE hT => ?_
  refine dm_sub (lv' := [(0, DR a0), (1, DI a1), (2, DI a2), (3, DI a3), (4, DR a4)]) ([0, 1, 2, 3, 4]) rfl ?_
  refine r_aload (pc := 0) hC dL_cast_0 4 rfl ?_
  refine r_iconst (pc := 2) (v := 0) hC dL_cast_2 (by decide) ?_
  refine r_aload_n (pc := 3) hC dL_cast_3 rfl 0 rfl ?_
  refine r_iload_n (pc := 4) hC dL_cast_4 rfl 1 rfl ?_
  refine r_iload_n (pc := 5) hC dL_cast_5 rfl 2 rfl ?_
  refine r_iload_n (pc := 6) hC dL_cast_6 rfl 3 rfl ?_
  rcases r0 with ⟨E0, h0⟩ | q0
  · obtain ⟨k0, hk0⟩ := hok
    by_cases c0 : E0 = "java/lang/IndexOutOfBoundsException"
    · subst c0
      refine r_callVX (pc := 7) (As := [DI a1, DI a2, DI a3]) (rest := [DI 0, DR a4]) (k2_X4_cast hf) hb rfl hC wd_2_160 wd_2_161 wd_2_162 wd_2_163 wd_1_1 md_X4_cast rfl ⟨rfl, rfl, Nat.le_of_ble_eq_true rfl, Nat.le_of_ble_eq_true rfl, Nat.le_of_ble_eq_true rfl, Nat.le_of_ble_eq_true rfl⟩ dL_cast_7 rfl (Nat.le_of_ble_eq_true rfl) (r_catch hC hT [] [(0, 12, 19, 13), (0, 12, 23, 15)] (0, 12, 15, 21) rfl (fun z hz => nomatch hz) (by decide) (by decide) wd_2_93 (by decide +kernel) (fun q9 sz => ?_)) (fun _ _ h => nomatch h)
      refine r_astore (pc := 15) (lv' := [(5, DR (some q9)), (0, DR a0), (1, DI a1), (2, DI a2), (3, DI a3), (4, DR a4)]) hC hN dL_cast_15 (by decide) rfl ?_
      refine r_iconst (pc := 17) (v := 1) hC dL_cast_17 (by decide) ?_
      exact r_iret (pc := 18) hE hC ⟨1, (show cd2 "java/lang/IndexOutOfBoundsException" = some 1 by decide), rfl, rfl⟩ ⟨Nat.le_of_ble_eq_true rfl, Nat.le_of_ble_eq_true rfl⟩ dL_cast_18
    by_cases c1 : E0 = "java/lang/IllegalArgumentException"
    · subst c1
      refine r_callVX (pc := 7) (As := [DI a1, DI a2, DI a3]) (rest := [DI 0, DR a4]) (k2_X4_cast hf) hb rfl hC wd_2_160 wd_2_161 wd_2_162 wd_2_163 wd_1_1 md_X4_cast rfl ⟨rfl, rfl, Nat.le_of_ble_eq_true rfl, Nat.le_of_ble_eq_true rfl, Nat.le_of_ble_eq_true rfl, Nat.le_of_ble_eq_true rfl⟩ dL_cast_7 rfl (Nat.le_of_ble_eq_true rfl) (r_catch hC hT [(0, 12, 15, 21)] [(0, 12, 23, 15)] (0, 12, 19, 13) rfl (fun z hz => by
        rcases (show z = (0, 12, 15, 21) from by simpa using hz) with rfl
        · exact ⟨by decide, _, wd_2_93, by decide +kernel⟩) (by decide) (by decide) wd_2_32 (by decide +kernel) (fun q9 sz => ?_)) (fun _ _ h => nomatch h)
      refine r_astore (pc := 19) (lv' := [(5, DR (some q9)), (0, DR a0), (1, DI a1), (2, DI a2), (3, DI a3), (4, DR a4)]) hC hN dL_cast_19 (by decide) rfl ?_
      refine r_iconst (pc := 21) (v := 2) hC dL_cast_21 (by decide) ?_
      exact r_iret (pc := 22) hE hC ⟨2, (show cd2 "java/lang/IllegalArgumentException" = some 2 by decide), rfl, rfl⟩ ⟨Nat.le_of_ble_eq_true rfl, Nat.le_of_ble_eq_true rfl⟩ dL_cast_22
    by_cases c2 : E0 = "java/lang/IllegalStateException"
    · subst c2
      refine r_callVX (pc := 7) (As := [DI a1, DI a2, DI a3]) (rest := [DI 0, DR a4]) (k2_X4_cast hf) hb rfl hC wd_2_160 wd_2_161 wd_2_162 wd_2_163 wd_1_1 md_X4_cast rfl ⟨rfl, rfl, Nat.le_of_ble_eq_true rfl, Nat.le_of_ble_eq_true rfl, Nat.le_of_ble_eq_true rfl, Nat.le_of_ble_eq_true rfl⟩ dL_cast_7 rfl (Nat.le_of_ble_eq_true rfl) (r_catch hC hT [(0, 12, 15, 21), (0, 12, 19, 13)] [] (0, 12, 23, 15) rfl (fun z hz => by
        rcases (show z = (0, 12, 15, 21) ∨ z = (0, 12, 19, 13) from by simpa using hz) with rfl | rfl
        · exact ⟨by decide, _, wd_2_93, by decide +kernel⟩
        · exact ⟨by decide, _, wd_2_32, by decide +kernel⟩) (by decide) (by decide) wd_2_33 (by decide +kernel) (fun q9 sz => ?_)) (fun _ _ h => nomatch h)
      refine r_astore (pc := 23) (lv' := [(5, DR (some q9)), (0, DR a0), (1, DI a1), (2, DI a2), (3, DI a3), (4, DR a4)]) hC hN dL_cast_23 (by decide) rfl ?_
      refine r_iconst (pc := 25) (v := 3) hC dL_cast_25 (by decide) ?_
      exact r_iret (pc := 26) hE hC ⟨3, (show cd2 "java/lang/IllegalStateException" = some 3 by decide), rfl, rfl⟩ ⟨Nat.le_of_ble_eq_true rfl, Nat.le_of_ble_eq_true rfl⟩ dL_cast_26
    · exact absurd hk0 (by unfold cd2; simp [c0, c1, c2])
  · obtain ⟨u0, hu0⟩ := hok
    refine r_callVX_ret (pc := 7) (As := [DI a1, DI a2, DI a3]) (rest := [DI 0, DR a4]) (stk' := [DI q0.1, DI 0, DR a4]) (k2_X4_cast hf) hb rfl hC wd_2_160 wd_2_161 wd_2_162 wd_2_163 wd_1_1 md_X4_cast rfl ⟨rfl, rfl, Nat.le_of_ble_eq_true rfl, Nat.le_of_ble_eq_true rfl, Nat.le_of_ble_eq_true rfl, Nat.le_of_ble_eq_true rfl⟩ dL_cast_7 rfl (Nat.le_of_ble_eq_true rfl) rfl ?_
    refine r_i2l (pc := 10) hC dL_cast_10 ?_
    refine r_lastore (pc := 11) hC dL_cast_11 hu0 ?_
    refine r_goto (pc := 12) (tgt := 27) hC dL_cast_12 (by decide) ?_
    refine r_iconst (pc := 27) (v := 0) hC dL_cast_27 (by decide) ?_
    exact r_iret (pc := 28) hE hC ⟨hu0, rfl⟩ ⟨Nat.le_of_ble_eq_true rfl, Nat.le_of_ble_eq_true rfl⟩ dL_cast_28
abbrev rmW_L_polish : Room := { frames := 8, cells := 1, slots := 6, locals := 126 }
set_option maxRecDepth 100000 in
set_option maxHeartbeats 4000000 in
theorem kw_L_polish {st : DSt} {x : Nat} {a0 : Option Nat} {a1 : Int32} {a2 : Option Nat} {r0 : (String × DHp) ⊕ (Int32 × DSt)} (hb : oR st a0 4 = some x) (hf : fX4_polish st x a1 = some r0) (hok : wrOK cd3 a2 (r0)) : dm_KW yL_polish cL_polish 4 (some .int) [(0, 9, 12, 21)] rmW_L_polish 1 6 [DR a0, DI a1, DR a2] st (wrF cd3 a2 (r0)) := by
  refine dm_kw (by decide) rfl (Nat.le_of_ble_eq_true rfl) fun Y hC hN hE hT => ?_
  refine dm_sub (lv' := [(0, DR a0), (1, DI a1), (2, DR a2)]) ([0, 1, 2]) rfl ?_
  refine r_aload_n (pc := 0) hC dL_polish_0 rfl 2 rfl ?_
  refine r_iconst (pc := 1) (v := 0) hC dL_polish_1 (by decide) ?_
  refine r_aload_n (pc := 2) hC dL_polish_2 rfl 0 rfl ?_
  refine r_iload_n (pc := 3) hC dL_polish_3 rfl 1 rfl ?_
  rcases r0 with ⟨E0, h0⟩ | q0
  · obtain ⟨k0, hk0⟩ := hok
    by_cases c0 : E0 = "java/lang/IndexOutOfBoundsException"
    · subst c0
      refine r_callVX (pc := 4) (As := [DI a1]) (rest := [DI 0, DR a2]) (k2_X4_polish hf) hb rfl hC wd_2_207 wd_2_208 wd_2_209 wd_2_210 wd_1_1 md_X4_polish rfl ⟨rfl, rfl, Nat.le_of_ble_eq_true rfl, Nat.le_of_ble_eq_true rfl, Nat.le_of_ble_eq_true rfl, Nat.le_of_ble_eq_true rfl⟩ dL_polish_4 rfl (Nat.le_of_ble_eq_true rfl) (r_catch hC hT [] [] (0, 9, 12, 21) rfl (fun z hz => nomatch hz) (by decide) (by decide) wd_2_93 (by decide +kernel) (fun q9 sz => ?_)) (fun _ _ h => nomatch h)
      refine r_astore_n (pc := 12) (lv' := [(3, DR (some q9)), (0, DR a0), (1, DI a1), (2, DR a2)]) hC hN dL_polish_12 rfl (by decide) rfl ?_
      refine r_iconst (pc := 13) (v := 1) hC dL_polish_13 (by decide) ?_
      exact r_iret (pc := 14) hE hC ⟨1, (show cd3 "java/lang/IndexOutOfBoundsException" = some 1 by decide), rfl, rfl⟩ ⟨Nat.le_of_ble_eq_true rfl, Nat.le_of_ble_eq_true rfl⟩ dL_polish_14
    · exact absurd hk0 (by unfold cd3; simp [c0])
  · obtain ⟨u0, hu0⟩ := hok
    refine r_callVX_ret (pc := 4) (As := [DI a1]) (rest := [DI 0, DR a2]) (stk' := [DI q0.1, DI 0, DR a2]) (k2_X4_polish hf) hb rfl hC wd_2_207 wd_2_208 wd_2_209 wd_2_210 wd_1_1 md_X4_polish rfl ⟨rfl, rfl, Nat.le_of_ble_eq_true rfl, Nat.le_of_ble_eq_true rfl, Nat.le_of_ble_eq_true rfl, Nat.le_of_ble_eq_true rfl⟩ dL_polish_4 rfl (Nat.le_of_ble_eq_true rfl) rfl ?_
    refine r_i2l (pc := 7) hC dL_polish_7 ?_
    refine r_lastore (pc := 8) hC dL_polish_8 hu0 ?_
    refine r_goto (pc := 9) (tgt := 15) hC dL_polish_9 (by decide) ?_
    refine r_iconst (pc := 15) (v := 0) hC dL_polish_15 (by decide) ?_
    exact r_iret (pc := 16) hE hC ⟨hu0, rfl⟩ ⟨Nat.le_of_ble_eq_true rfl, Nat.le_of_ble_eq_true rfl⟩ dL_polish_16
abbrev rmW_L_split : Room := { frames := 8, cells := 3, slots := 17, locals := 130 }
set_option maxRecDepth 100000 in
set_option maxHeartbeats 4000000 in
theorem kw_L_split {st : DSt} {x : Nat} {a0 : Option Nat} {a1 : Int32} {a2 : Int32} {a3 : Int32} {a4 : Option Nat} {r0 : (String × DHp) ⊕ (Int32 × DSt)} (hb : oR st a0 4 = some x) (hf : fX4_split st x a1 a2 a3 = some r0) (hok : wrOK cd4 a4 (r0)) : dm_KW yL_split cL_split 6 (some .int) [(0, 12, 15, 21), (0, 12, 19, 15)] rmW_L_split 3 17 [DR a0, DI a1, DI a2, DI a3, DR a4] st (wrF cd4 a4 (r0)) := by
  refine dm_kw (by decide) rfl (Nat.le_of_ble_eq_true rfl) fun Y hC hN hE hT => ?_
  refine dm_sub (lv' := [(0, DR a0), (1, DI a1), (2, DI a2), (3, DI a3), (4, DR a4)]) ([0, 1, 2, 3, 4]) rfl ?_
  refine r_aload (pc := 0) hC dL_split_0 4 rfl ?_
  refine r_iconst (pc := 2) (v := 0) hC dL_split_2 (by decide) ?_
  refine r_aload_n (pc := 3) hC dL_split_3 rfl 0 rfl ?_
  refine r_iload_n (pc := 4) hC dL_split_4 rfl 1 rfl ?_
  refine r_iload_n (pc := 5) hC dL_split_5 rfl 2 rfl ?_
  refine r_iload_n (pc := 6) hC dL_split_6 rfl 3 rfl ?_
  rcases r0 with ⟨E0, h0⟩ | q0
  · obtain ⟨k0, hk0⟩ := hok
    by_cases c0 : E0 = "java/lang/IndexOutOfBoundsException"
    · subst c0
      refine r_callVX (pc := 7) (As := [DI a1, DI a2, DI a3]) (rest := [DI 0, DR a4]) (k2_X4_split hf) hb rfl hC wd_2_214 wd_2_215 wd_2_216 wd_2_217 wd_1_1 md_X4_split rfl ⟨rfl, rfl, Nat.le_of_ble_eq_true rfl, Nat.le_of_ble_eq_true rfl, Nat.le_of_ble_eq_true rfl, Nat.le_of_ble_eq_true rfl⟩ dL_split_7 rfl (Nat.le_of_ble_eq_true rfl) (r_catch hC hT [] [(0, 12, 19, 15)] (0, 12, 15, 21) rfl (fun z hz => nomatch hz) (by decide) (by decide) wd_2_93 (by decide +kernel) (fun q9 sz => ?_)) (fun _ _ h => nomatch h)
      refine r_astore (pc := 15) (lv' := [(5, DR (some q9)), (0, DR a0), (1, DI a1), (2, DI a2), (3, DI a3), (4, DR a4)]) hC hN dL_split_15 (by decide) rfl ?_
      refine r_iconst (pc := 17) (v := 1) hC dL_split_17 (by decide) ?_
      exact r_iret (pc := 18) hE hC ⟨1, (show cd4 "java/lang/IndexOutOfBoundsException" = some 1 by decide), rfl, rfl⟩ ⟨Nat.le_of_ble_eq_true rfl, Nat.le_of_ble_eq_true rfl⟩ dL_split_18
    by_cases c1 : E0 = "java/lang/IllegalStateException"
    · subst c1
      refine r_callVX (pc := 7) (As := [DI a1, DI a2, DI a3]) (rest := [DI 0, DR a4]) (k2_X4_split hf) hb rfl hC wd_2_214 wd_2_215 wd_2_216 wd_2_217 wd_1_1 md_X4_split rfl ⟨rfl, rfl, Nat.le_of_ble_eq_true rfl, Nat.le_of_ble_eq_true rfl, Nat.le_of_ble_eq_true rfl, Nat.le_of_ble_eq_true rfl⟩ dL_split_7 rfl (Nat.le_of_ble_eq_true rfl) (r_catch hC hT [(0, 12, 15, 21)] [] (0, 12, 19, 15) rfl (fun z hz => by
        rcases (show z = (0, 12, 15, 21) from by simpa using hz) with rfl
        · exact ⟨by decide, _, wd_2_93, by decide +kernel⟩) (by decide) (by decide) wd_2_33 (by decide +kernel) (fun q9 sz => ?_)) (fun _ _ h => nomatch h)
      refine r_astore (pc := 19) (lv' := [(5, DR (some q9)), (0, DR a0), (1, DI a1), (2, DI a2), (3, DI a3), (4, DR a4)]) hC hN dL_split_19 (by decide) rfl ?_
      refine r_iconst (pc := 21) (v := 2) hC dL_split_21 (by decide) ?_
      exact r_iret (pc := 22) hE hC ⟨2, (show cd4 "java/lang/IllegalStateException" = some 2 by decide), rfl, rfl⟩ ⟨Nat.le_of_ble_eq_true rfl, Nat.le_of_ble_eq_true rfl⟩ dL_split_22
    · exact absurd hk0 (by unfold cd4; simp [c0, c1])
  · obtain ⟨u0, hu0⟩ := hok
    refine r_callVX_ret (pc := 7) (As := [DI a1, DI a2, DI a3]) (rest := [DI 0, DR a4]) (stk' := [DI q0.1, DI 0, DR a4]) (k2_X4_split hf) hb rfl hC wd_2_214 wd_2_215 wd_2_216 wd_2_217 wd_1_1 md_X4_split rfl ⟨rfl, rfl, Nat.le_of_ble_eq_true rfl, Nat.le_of_ble_eq_true rfl, Nat.le_of_ble_eq_true rfl, Nat.le_of_ble_eq_true rfl⟩ dL_split_7 rfl (Nat.le_of_ble_eq_true rfl) rfl ?_
    refine r_i2l (pc := 10) hC dL_split_10 ?_
    refine r_lastore (pc := 11) hC dL_split_11 hu0 ?_
    refine r_goto (pc := 12) (tgt := 23) hC dL_split_12 (by decide) ?_
    refine r_iconst (pc := 23) (v := 0) hC dL_split_23 (by decide) ?_
    exact r_iret (pc := 24) hE hC ⟨hu0, rfl⟩ ⟨Nat.le_of_ble_eq_true rfl, Nat.le_of_ble_eq_true rfl⟩ dL_split_24
abbrev rmW_L_melt : Room := { frames := 8, cells := 3, slots := 18, locals := 128 }
set_option maxRecDepth 100000 in
set_option maxHeartbeats 4000000 in
theorem kw_L_melt {st : DSt} {x : Nat} {a0 : Option Nat} {a1 : Int32} {a2 : Int32} {a3 : Option Nat} {r0 : (String × DHp) ⊕ (Int32 × DSt)} (hb : oR st a0 4 = some x) (hf : fX4_melt st x a1 a2 = some r0) (hok : wrOK cd1 a3 (r0)) : dm_KW yL_melt cL_melt 5 (some .int) [(0, 10, 13, 21), (0, 10, 17, 13)] rmW_L_melt 3 18 [DR a0, DI a1, DI a2, DR a3] st (wrF cd1 a3 (r0)) := by
  refine dm_kw (by decide) rfl (Nat.le_of_ble_eq_true rfl) fun Y hC hN hE hT => ?_
  refine dm_sub (lv' := [(0, DR a0), (1, DI a1), (2, DI a2), (3, DR a3)]) ([0, 1, 2, 3]) rfl ?_
  refine r_aload_n (pc := 0) hC dL_melt_0 rfl 3 rfl ?_
  refine r_iconst (pc := 1) (v := 0) hC dL_melt_1 (by decide) ?_
  refine r_aload_n (pc := 2) hC dL_melt_2 rfl 0 rfl ?_
  refine r_iload_n (pc := 3) hC dL_melt_3 rfl 1 rfl ?_
  refine r_iload_n (pc := 4) hC dL_melt_4 rfl 2 rfl ?_
  rcases r0 with ⟨E0, h0⟩ | q0
  · obtain ⟨k0, hk0⟩ := hok
    by_cases c0 : E0 = "java/lang/IndexOutOfBoundsException"
    · subst c0
      refine r_callVX (pc := 5) (As := [DI a1, DI a2]) (rest := [DI 0, DR a3]) (k2_X4_melt hf) hb rfl hC wd_2_232 wd_2_233 wd_2_234 wd_2_235 wd_1_1 md_X4_melt rfl ⟨rfl, rfl, Nat.le_of_ble_eq_true rfl, Nat.le_of_ble_eq_true rfl, Nat.le_of_ble_eq_true rfl, Nat.le_of_ble_eq_true rfl⟩ dL_melt_5 rfl (Nat.le_of_ble_eq_true rfl) (r_catch hC hT [] [(0, 10, 17, 13)] (0, 10, 13, 21) rfl (fun z hz => nomatch hz) (by decide) (by decide) wd_2_93 (by decide +kernel) (fun q9 sz => ?_)) (fun _ _ h => nomatch h)
      refine r_astore (pc := 13) (lv' := [(4, DR (some q9)), (0, DR a0), (1, DI a1), (2, DI a2), (3, DR a3)]) hC hN dL_melt_13 (by decide) rfl ?_
      refine r_iconst (pc := 15) (v := 1) hC dL_melt_15 (by decide) ?_
      exact r_iret (pc := 16) hE hC ⟨1, (show cd1 "java/lang/IndexOutOfBoundsException" = some 1 by decide), rfl, rfl⟩ ⟨Nat.le_of_ble_eq_true rfl, Nat.le_of_ble_eq_true rfl⟩ dL_melt_16
    by_cases c1 : E0 = "java/lang/IllegalArgumentException"
    · subst c1
      refine r_callVX (pc := 5) (As := [DI a1, DI a2]) (rest := [DI 0, DR a3]) (k2_X4_melt hf) hb rfl hC wd_2_232 wd_2_233 wd_2_234 wd_2_235 wd_1_1 md_X4_melt rfl ⟨rfl, rfl, Nat.le_of_ble_eq_true rfl, Nat.le_of_ble_eq_true rfl, Nat.le_of_ble_eq_true rfl, Nat.le_of_ble_eq_true rfl⟩ dL_melt_5 rfl (Nat.le_of_ble_eq_true rfl) (r_catch hC hT [(0, 10, 13, 21)] [] (0, 10, 17, 13) rfl (fun z hz => by
        rcases (show z = (0, 10, 13, 21) from by simpa using hz) with rfl
        · exact ⟨by decide, _, wd_2_93, by decide +kernel⟩) (by decide) (by decide) wd_2_32 (by decide +kernel) (fun q9 sz => ?_)) (fun _ _ h => nomatch h)
      refine r_astore (pc := 17) (lv' := [(4, DR (some q9)), (0, DR a0), (1, DI a1), (2, DI a2), (3, DR a3)]) hC hN dL_melt_17 (by decide) rfl ?_
      refine r_iconst (pc := 19) (v := 2) hC dL_melt_19 (by decide) ?_
      exact r_iret (pc := 20) hE hC ⟨2, (show cd1 "java/lang/IllegalArgumentException" = some 2 by decide), rfl, rfl⟩ ⟨Nat.le_of_ble_eq_true rfl, Nat.le_of_ble_eq_true rfl⟩ dL_melt_20
    · exact absurd hk0 (by unfold cd1; simp [c0, c1])
  · obtain ⟨u0, hu0⟩ := hok
    refine r_callVX_ret (pc := 5) (As := [DI a1, DI a2]) (rest := [DI 0, DR a3]) (stk' := [DI q0.1, DI 0, DR a3]) (k2_X4_melt hf) hb rfl hC wd_2_232 wd_2_233 wd_2_234 wd_2_235 wd_1_1 md_X4_melt rfl ⟨rfl, rfl, Nat.le_of_ble_eq_true rfl, Nat.le_of_ble_eq_true rfl, Nat.le_of_ble_eq_true rfl, Nat.le_of_ble_eq_true rfl⟩ dL_melt_5 rfl (Nat.le_of_ble_eq_true rfl) rfl ?_
    refine r_i2l (pc := 8) hC dL_melt_8 ?_
    refine r_lastore (pc := 9) hC dL_melt_9 hu0 ?_
    refine r_goto (pc := 10) (tgt := 21) hC dL_melt_10 (by decide) ?_
    refine r_iconst (pc := 21) (v := 0) hC dL_melt_21 (by decide) ?_
    exact r_iret (pc := 22) hE hC ⟨hu0, rfl⟩ ⟨Nat.le_of_ble_eq_true rfl, Nat.le_of_ble_eq_true rfl⟩ dL_melt_22
abbrev rmW_L_box : Room := { frames := 7, cells := 1, slots := 6, locals := 105 }
set_option maxRecDepth 100000 in
set_option maxHeartbeats 4000000 in
theorem kw_L_box {st : DSt} {x : Nat} {a0 : Option Nat} {a1 : Int32} {a2 : Int32} {a3 : Option Nat} {r0 : (String × DHp) ⊕ (Int32 × DSt)} (hb : oR st a0 4 = some x) (hf : fX4_box st x a1 a2 = some r0) (hok : wrOK cd0 a3 (r0)) : dm_KW yL_box cL_box 5 (some .int) [(0, 10, 13, 13), (0, 10, 17, 15)] rmW_L_box 1 6 [DR a0, DI a1, DI a2, DR a3] st (wrF cd0 a3 (r0)) := by
  refine dm_kw (by decide) rfl (Nat.le_of_ble_eq_true rfl) fun Y hC hN hE hT => ?_
  refine dm_sub (lv' := [(0, DR a0), (1, DI a1), (2, DI a2), (3, DR a3)]) ([0, 1, 2, 3]) rfl ?_
  refine r_aload_n (pc := 0) hC dL_box_0 rfl 3 rfl ?_
  refine r_iconst (pc := 1) (v := 0) hC dL_box_1 (by decide) ?_
  refine r_aload_n (pc := 2) hC dL_box_2 rfl 0 rfl ?_
  refine r_iload_n (pc := 3) hC dL_box_3 rfl 1 rfl ?_
  refine r_iload_n (pc := 4) hC dL_box_4 rfl 2 rfl ?_
  rcases r0 with ⟨E0, h0⟩ | q0
  · obtain ⟨k0, hk0⟩ := hok
    by_cases c0 : E0 = "java/lang/IllegalArgumentException"
    · subst c0
      refine r_callVX (pc := 5) (As := [DI a1, DI a2]) (rest := [DI 0, DR a3]) (k2_X4_box hf) hb rfl hC wd_3_0 wd_3_1 wd_3_2 wd_3_3 wd_1_1 md_X4_box rfl ⟨rfl, rfl, Nat.le_of_ble_eq_true rfl, Nat.le_of_ble_eq_true rfl, Nat.le_of_ble_eq_true rfl, Nat.le_of_ble_eq_true rfl⟩ dL_box_5 rfl (Nat.le_of_ble_eq_true rfl) (r_catch hC hT [] [(0, 10, 17, 15)] (0, 10, 13, 13) rfl (fun z hz => nomatch hz) (by decide) (by decide) wd_2_32 (by decide +kernel) (fun q9 sz => ?_)) (fun _ _ h => nomatch h)
      refine r_astore (pc := 13) (lv' := [(4, DR (some q9)), (0, DR a0), (1, DI a1), (2, DI a2), (3, DR a3)]) hC hN dL_box_13 (by decide) rfl ?_
      refine r_iconst (pc := 15) (v := 1) hC dL_box_15 (by decide) ?_
      exact r_iret (pc := 16) hE hC ⟨1, (show cd0 "java/lang/IllegalArgumentException" = some 1 by decide), rfl, rfl⟩ ⟨Nat.le_of_ble_eq_true rfl, Nat.le_of_ble_eq_true rfl⟩ dL_box_16
    by_cases c1 : E0 = "java/lang/IllegalStateException"
    · subst c1
      refine r_callVX (pc := 5) (As := [DI a1, DI a2]) (rest := [DI 0, DR a3]) (k2_X4_box hf) hb rfl hC wd_3_0 wd_3_1 wd_3_2 wd_3_3 wd_1_1 md_X4_box rfl ⟨rfl, rfl, Nat.le_of_ble_eq_true rfl, Nat.le_of_ble_eq_true rfl, Nat.le_of_ble_eq_true rfl, Nat.le_of_ble_eq_true rfl⟩ dL_box_5 rfl (Nat.le_of_ble_eq_true rfl) (r_catch hC hT [(0, 10, 13, 13)] [] (0, 10, 17, 15) rfl (fun z hz => by
        rcases (show z = (0, 10, 13, 13) from by simpa using hz) with rfl
        · exact ⟨by decide, _, wd_2_32, by decide +kernel⟩) (by decide) (by decide) wd_2_33 (by decide +kernel) (fun q9 sz => ?_)) (fun _ _ h => nomatch h)
      refine r_astore (pc := 17) (lv' := [(4, DR (some q9)), (0, DR a0), (1, DI a1), (2, DI a2), (3, DR a3)]) hC hN dL_box_17 (by decide) rfl ?_
      refine r_iconst (pc := 19) (v := 2) hC dL_box_19 (by decide) ?_
      exact r_iret (pc := 20) hE hC ⟨2, (show cd0 "java/lang/IllegalStateException" = some 2 by decide), rfl, rfl⟩ ⟨Nat.le_of_ble_eq_true rfl, Nat.le_of_ble_eq_true rfl⟩ dL_box_20
    · exact absurd hk0 (by unfold cd0; simp [c0, c1])
  · obtain ⟨u0, hu0⟩ := hok
    refine r_callVX_ret (pc := 5) (As := [DI a1, DI a2]) (rest := [DI 0, DR a3]) (stk' := [DI q0.1, DI 0, DR a3]) (k2_X4_box hf) hb rfl hC wd_3_0 wd_3_1 wd_3_2 wd_3_3 wd_1_1 md_X4_box rfl ⟨rfl, rfl, Nat.le_of_ble_eq_true rfl, Nat.le_of_ble_eq_true rfl, Nat.le_of_ble_eq_true rfl, Nat.le_of_ble_eq_true rfl⟩ dL_box_5 rfl (Nat.le_of_ble_eq_true rfl) rfl ?_
    refine r_i2l (pc := 8) hC dL_box_8 ?_
    refine r_lastore (pc := 9) hC dL_box_9 hu0 ?_
    refine r_goto (pc := 10) (tgt := 21) hC dL_box_10 (by decide) ?_
    refine r_iconst (pc := 21) (v := 0) hC dL_box_21 (by decide) ?_
    exact r_iret (pc := 22) hE hC ⟨hu0, rfl⟩ ⟨Nat.le_of_ble_eq_true rfl, Nat.le_of_ble_eq_true rfl⟩ dL_box_22
abbrev rmW_L_pass : Room := { frames := 8, cells := 2, slots := 12, locals := 128 }
set_option maxRecDepth 100000 in
set_option maxHeartbeats 4000000 in
theorem kw_L_pass {st : DSt} {x : Nat} {a0 : Option Nat} {a1 : Int32} {a2 : Int32} {a3 : Option Nat} {r0 : (String × DHp) ⊕ (Int32 × DSt)} (hb : oR st a0 4 = some x) (hf : fX4_pass st x a1 a2 = some r0) (hok : wrOK cd5 a3 (r0)) : dm_KW yL_pass cL_pass 5 (some .int) [(0, 10, 13, 13)] rmW_L_pass 2 12 [DR a0, DI a1, DI a2, DR a3] st (wrF cd5 a3 (r0)) := by
  refine dm_kw (by decide) rfl (Nat.le_of_ble_eq_true rfl) fun Y hC hN hE hT => ?_
  refine dm_sub (lv' := [(0, DR a0), (1, DI a1), (2, DI a2), (3, DR a3)]) ([0, 1, 2, 3]) rfl ?_
  refine r_aload_n (pc := 0) hC dL_pass_0 rfl 3 rfl ?_
  refine r_iconst (pc := 1) (v := 0) hC dL_pass_1 (by decide) ?_
  refine r_aload_n (pc := 2) hC dL_pass_2 rfl 0 rfl ?_
  refine r_iload_n (pc := 3) hC dL_pass_3 rfl 1 rfl ?_
  refine r_iload_n (pc := 4) hC dL_pass_4 rfl 2 rfl ?_
  rcases r0 with ⟨E0, h0⟩ | q0
  · obtain ⟨k0, hk0⟩ := hok
    by_cases c0 : E0 = "java/lang/IllegalArgumentException"
    · subst c0
      refine r_callVX (pc := 5) (As := [DI a1, DI a2]) (rest := [DI 0, DR a3]) (k2_X4_pass hf) hb rfl hC wd_3_35 wd_3_36 wd_3_37 wd_3_38 wd_1_1 md_X4_pass rfl ⟨rfl, rfl, Nat.le_of_ble_eq_true rfl, Nat.le_of_ble_eq_true rfl, Nat.le_of_ble_eq_true rfl, Nat.le_of_ble_eq_true rfl⟩ dL_pass_5 rfl (Nat.le_of_ble_eq_true rfl) (r_catch hC hT [] [] (0, 10, 13, 13) rfl (fun z hz => nomatch hz) (by decide) (by decide) wd_2_32 (by decide +kernel) (fun q9 sz => ?_)) (fun _ _ h => nomatch h)
      refine r_astore (pc := 13) (lv' := [(4, DR (some q9)), (0, DR a0), (1, DI a1), (2, DI a2), (3, DR a3)]) hC hN dL_pass_13 (by decide) rfl ?_
      refine r_iconst (pc := 15) (v := 1) hC dL_pass_15 (by decide) ?_
      exact r_iret (pc := 16) hE hC ⟨1, (show cd5 "java/lang/IllegalArgumentException" = some 1 by decide), rfl, rfl⟩ ⟨Nat.le_of_ble_eq_true rfl, Nat.le_of_ble_eq_true rfl⟩ dL_pass_16
    · exact absurd hk0 (by unfold cd5; simp [c0])
  · obtain ⟨u0, hu0⟩ := hok
    refine r_callVX_ret (pc := 5) (As := [DI a1, DI a2]) (rest := [DI 0, DR a3]) (stk' := [DI q0.1, DI 0, DR a3]) (k2_X4_pass hf) hb rfl hC wd_3_35 wd_3_36 wd_3_37 wd_3_38 wd_1_1 md_X4_pass rfl ⟨rfl, rfl, Nat.le_of_ble_eq_true rfl, Nat.le_of_ble_eq_true rfl, Nat.le_of_ble_eq_true rfl, Nat.le_of_ble_eq_true rfl⟩ dL_pass_5 rfl (Nat.le_of_ble_eq_true rfl) rfl ?_
    refine r_i2l (pc := 8) hC dL_pass_8 ?_
    refine r_lastore (pc := 9) hC dL_pass_9 hu0 ?_
    refine r_goto (pc := 10) (tgt := 17) hC dL_pass_10 (by decide) ?_
    refine r_iconst (pc := 17) (v := 0) hC dL_pass_17 (by decide) ?_
    exact r_iret (pc := 18) hE hC ⟨hu0, rfl⟩ ⟨Nat.le_of_ble_eq_true rfl, Nat.le_of_ble_eq_true rfl⟩ dL_pass_18
abbrev rmW_L_told : Room := { frames := 8, cells := 2, slots := 12, locals := 127 }
set_option maxRecDepth 100000 in
set_option maxHeartbeats 4000000 in
theorem kw_L_told {st : DSt} {x : Nat} {a0 : Option Nat} {a1 : Int32} {a2 : Int32} {a3 : Option Nat} {r0 : (String × DHp) ⊕ (Int32)} (hb : oR st a0 4 = some x) (hf : fX4_told st x a1 a2 = some r0) (hok : wrOK cd3 a3 (wrP st r0)) : dm_KW yL_told cL_told 5 (some .int) [(0, 10, 13, 21)] rmW_L_told 2 12 [DR a0, DI a1, DI a2, DR a3] st (wrF cd3 a3 (wrP st r0)) := by
  refine dm_kw (by decide) rfl (Nat.le_of_ble_eq_true rfl) fun Y hC hN hE hT => ?_
  refine dm_sub (lv' := [(0, DR a0), (1, DI a1), (2, DI a2), (3, DR a3)]) ([0, 1, 2, 3]) rfl ?_
  refine r_aload_n (pc := 0) hC dL_told_0 rfl 3 rfl ?_
  refine r_iconst (pc := 1) (v := 0) hC dL_told_1 (by decide) ?_
  refine r_aload_n (pc := 2) hC dL_told_2 rfl 0 rfl ?_
  refine r_iload_n (pc := 3) hC dL_told_3 rfl 1 rfl ?_
  refine r_iload_n (pc := 4) hC dL_told_4 rfl 2 rfl ?_
  rcases r0 with ⟨E0, h0⟩ | q0
  · obtain ⟨k0, hk0⟩ := hok
    by_cases c0 : E0 = "java/lang/IndexOutOfBoundsException"
    · subst c0
      refine r_callVX (pc := 5) (As := [DI a1, DI a2]) (rest := [DI 0, DR a3]) (k2_X4_told hf) hb rfl hC wd_3_56 wd_1_231 wd_1_232 wd_1_233 wd_1_1 md_X4_told rfl ⟨rfl, rfl, Nat.le_of_ble_eq_true rfl, Nat.le_of_ble_eq_true rfl, Nat.le_of_ble_eq_true rfl, Nat.le_of_ble_eq_true rfl⟩ dL_told_5 rfl (Nat.le_of_ble_eq_true rfl) (r_catch hC hT [] [] (0, 10, 13, 21) rfl (fun z hz => nomatch hz) (by decide) (by decide) wd_2_93 (by decide +kernel) (fun q9 sz => ?_)) (fun _ _ h => nomatch h)
      refine r_astore (pc := 13) (lv' := [(4, DR (some q9)), (0, DR a0), (1, DI a1), (2, DI a2), (3, DR a3)]) hC hN dL_told_13 (by decide) rfl ?_
      refine r_iconst (pc := 15) (v := 1) hC dL_told_15 (by decide) ?_
      exact r_iret (pc := 16) hE hC ⟨1, (show cd3 "java/lang/IndexOutOfBoundsException" = some 1 by decide), rfl, rfl⟩ ⟨Nat.le_of_ble_eq_true rfl, Nat.le_of_ble_eq_true rfl⟩ dL_told_16
    · exact absurd hk0 (by unfold cd3; simp [c0])
  · obtain ⟨u0, hu0⟩ := hok
    refine r_callVX_ret (pc := 5) (As := [DI a1, DI a2]) (rest := [DI 0, DR a3]) (stk' := [DI q0, DI 0, DR a3]) (k2_X4_told hf) hb rfl hC wd_3_56 wd_1_231 wd_1_232 wd_1_233 wd_1_1 md_X4_told rfl ⟨rfl, rfl, Nat.le_of_ble_eq_true rfl, Nat.le_of_ble_eq_true rfl, Nat.le_of_ble_eq_true rfl, Nat.le_of_ble_eq_true rfl⟩ dL_told_5 rfl (Nat.le_of_ble_eq_true rfl) rfl ?_
    refine r_i2l (pc := 8) hC dL_told_8 ?_
    refine r_lastore (pc := 9) hC dL_told_9 hu0 ?_
    refine r_goto (pc := 10) (tgt := 17) hC dL_told_10 (by decide) ?_
    refine r_iconst (pc := 17) (v := 0) hC dL_told_17 (by decide) ?_
    exact r_iret (pc := 18) hE hC ⟨hu0, rfl⟩ ⟨Nat.le_of_ble_eq_true rfl, Nat.le_of_ble_eq_true rfl⟩ dL_told_18
abbrev rmW_L_about : Room := { frames := 8, cells := 2, slots := 12, locals := 127 }
set_option maxRecDepth 100000 in
set_option maxHeartbeats 4000000 in
theorem kw_L_about {st : DSt} {x : Nat} {a0 : Option Nat} {a1 : Int32} {a2 : Int32} {a3 : Option Nat} {r0 : (String × DHp) ⊕ (Int32)} (hb : oR st a0 4 = some x) (hf : fX4_about st x a1 a2 = some r0) (hok : wrOK cd3 a3 (wrP st r0)) : dm_KW yL_about cL_about 5 (some .int) [(0, 10, 13, 21)] rmW_L_about 2 12 [DR a0, DI a1, DI a2, DR a3] st (wrF cd3 a3 (wrP st r0)) := by
  refine dm_kw (by decide) rfl (Nat.le_of_ble_eq_true rfl) fun Y hC hN hE hT => ?_
  refine dm_sub (lv' := [(0, DR a0), (1, DI a1), (2, DI a2), (3, DR a3)]) ([0, 1, 2, 3]) rfl ?_
  refine r_aload_n (pc := 0) hC dL_about_0 rfl 3 rfl ?_
  refine r_iconst (pc := 1) (v := 0) hC dL_about_1 (by decide) ?_
  refine r_aload_n (pc := 2) hC dL_about_2 rfl 0 rfl ?_
  refine r_iload_n (pc := 3) hC dL_about_3 rfl 1 rfl ?_
  refine r_iload_n (pc := 4) hC dL_about_4 rfl 2 rfl ?_
  rcases r0 with ⟨E0, h0⟩ | q0
  · obtain ⟨k0, hk0⟩ := hok
    by_cases c0 : E0 = "java/lang/IndexOutOfBoundsException"
    · subst c0
      refine r_callVX (pc := 5) (As := [DI a1, DI a2]) (rest := [DI 0, DR a3]) (k2_X4_about hf) hb rfl hC wd_3_60 wd_2_8 wd_2_9 wd_2_10 wd_1_1 md_X4_about rfl ⟨rfl, rfl, Nat.le_of_ble_eq_true rfl, Nat.le_of_ble_eq_true rfl, Nat.le_of_ble_eq_true rfl, Nat.le_of_ble_eq_true rfl⟩ dL_about_5 rfl (Nat.le_of_ble_eq_true rfl) (r_catch hC hT [] [] (0, 10, 13, 21) rfl (fun z hz => nomatch hz) (by decide) (by decide) wd_2_93 (by decide +kernel) (fun q9 sz => ?_)) (fun _ _ h => nomatch h)
      refine r_astore (pc := 13) (lv' := [(4, DR (some q9)), (0, DR a0), (1, DI a1), (2, DI a2), (3, DR a3)]) hC hN dL_about_13 (by decide) rfl ?_
      refine r_iconst (pc := 15) (v := 1) hC dL_about_15 (by decide) ?_
      exact r_iret (pc := 16) hE hC ⟨1, (show cd3 "java/lang/IndexOutOfBoundsException" = some 1 by decide), rfl, rfl⟩ ⟨Nat.le_of_ble_eq_true rfl, Nat.le_of_ble_eq_true rfl⟩ dL_about_16
    · exact absurd hk0 (by unfold cd3; simp [c0])
  · obtain ⟨u0, hu0⟩ := hok
    refine r_callVX_ret (pc := 5) (As := [DI a1, DI a2]) (rest := [DI 0, DR a3]) (stk' := [DI q0, DI 0, DR a3]) (k2_X4_about hf) hb rfl hC wd_3_60 wd_2_8 wd_2_9 wd_2_10 wd_1_1 md_X4_about rfl ⟨rfl, rfl, Nat.le_of_ble_eq_true rfl, Nat.le_of_ble_eq_true rfl, Nat.le_of_ble_eq_true rfl, Nat.le_of_ble_eq_true rfl⟩ dL_about_5 rfl (Nat.le_of_ble_eq_true rfl) rfl ?_
    refine r_i2l (pc := 8) hC dL_about_8 ?_
    refine r_lastore (pc := 9) hC dL_about_9 hu0 ?_
    refine r_goto (pc := 10) (tgt := 17) hC dL_about_10 (by decide) ?_
    refine r_iconst (pc := 17) (v := 0) hC dL_about_17 (by decide) ?_
    exact r_iret (pc := 18) hE hC ⟨hu0, rfl⟩ ⟨Nat.le_of_ble_eq_true rfl, Nat.le_of_ble_eq_true rfl⟩ dL_about_18
abbrev rmW_L_order : Room := { frames := 8, cells := 2, slots := 12, locals := 127 }
set_option maxRecDepth 100000 in
set_option maxHeartbeats 4000000 in
theorem kw_L_order {st : DSt} {x : Nat} {a0 : Option Nat} {a1 : Int32} {a2 : Int32} {a3 : Option Nat} {r0 : (String × DHp) ⊕ (Int32)} (hb : oR st a0 4 = some x) (hf : fX4_order st x a1 a2 = some r0) (hok : wrOK cd3 a3 (wrP st r0)) : dm_KW yL_order cL_order 5 (some .int) [(0, 10, 13, 21)] rmW_L_order 2 12 [DR a0, DI a1, DI a2, DR a3] st (wrF cd3 a3 (wrP st r0)) := by
  refine dm_kw (by decide) rfl (Nat.le_of_ble_eq_true rfl) fun Y hC hN hE hT => ?_
  refine dm_sub (lv' := [(0, DR a0), (1, DI a1), (2, DI a2), (3, DR a3)]) ([0, 1, 2, 3]) rfl ?_
  refine r_aload_n (pc := 0) hC dL_order_0 rfl 3 rfl ?_
  refine r_iconst (pc := 1) (v := 0) hC dL_order_1 (by decide) ?_
  refine r_aload_n (pc := 2) hC dL_order_2 rfl 0 rfl ?_
  refine r_iload_n (pc := 3) hC dL_order_3 rfl 1 rfl ?_
  refine r_iload_n (pc := 4) hC dL_order_4 rfl 2 rfl ?_
  rcases r0 with ⟨E0, h0⟩ | q0
  · obtain ⟨k0, hk0⟩ := hok
    by_cases c0 : E0 = "java/lang/IndexOutOfBoundsException"
    · subst c0
      refine r_callVX (pc := 5) (As := [DI a1, DI a2]) (rest := [DI 0, DR a3]) (k2_X4_order hf) hb rfl hC wd_3_64 wd_2_21 wd_2_22 wd_2_23 wd_1_1 md_X4_order rfl ⟨rfl, rfl, Nat.le_of_ble_eq_true rfl, Nat.le_of_ble_eq_true rfl, Nat.le_of_ble_eq_true rfl, Nat.le_of_ble_eq_true rfl⟩ dL_order_5 rfl (Nat.le_of_ble_eq_true rfl) (r_catch hC hT [] [] (0, 10, 13, 21) rfl (fun z hz => nomatch hz) (by decide) (by decide) wd_2_93 (by decide +kernel) (fun q9 sz => ?_)) (fun _ _ h => nomatch h)
      refine r_astore (pc := 13) (lv' := [(4, DR (some q9)), (0, DR a0), (1, DI a1), (2, DI a2), (3, DR a3)]) hC hN dL_order_13 (by decide) rfl ?_
      refine r_iconst (pc := 15) (v := 1) hC dL_order_15 (by decide) ?_
      exact r_iret (pc := 16) hE hC ⟨1, (show cd3 "java/lang/IndexOutOfBoundsException" = some 1 by decide), rfl, rfl⟩ ⟨Nat.le_of_ble_eq_true rfl, Nat.le_of_ble_eq_true rfl⟩ dL_order_16
    · exact absurd hk0 (by unfold cd3; simp [c0])
  · obtain ⟨u0, hu0⟩ := hok
    refine r_callVX_ret (pc := 5) (As := [DI a1, DI a2]) (rest := [DI 0, DR a3]) (stk' := [DI q0, DI 0, DR a3]) (k2_X4_order hf) hb rfl hC wd_3_64 wd_2_21 wd_2_22 wd_2_23 wd_1_1 md_X4_order rfl ⟨rfl, rfl, Nat.le_of_ble_eq_true rfl, Nat.le_of_ble_eq_true rfl, Nat.le_of_ble_eq_true rfl, Nat.le_of_ble_eq_true rfl⟩ dL_order_5 rfl (Nat.le_of_ble_eq_true rfl) rfl ?_
    refine r_i2l (pc := 8) hC dL_order_8 ?_
    refine r_lastore (pc := 9) hC dL_order_9 hu0 ?_
    refine r_goto (pc := 10) (tgt := 17) hC dL_order_10 (by decide) ?_
    refine r_iconst (pc := 17) (v := 0) hC dL_order_17 (by decide) ?_
    exact r_iret (pc := 18) hE hC ⟨hu0, rfl⟩ ⟨Nat.le_of_ble_eq_true rfl, Nat.le_of_ble_eq_true rfl⟩ dL_order_18
abbrev rmW_L_count : Room := { frames := 8, cells := 1, slots := 6, locals := 124 }
set_option maxRecDepth 100000 in
set_option maxHeartbeats 4000000 in
theorem kw_L_count {st : DSt} {x : Nat} {a0 : Option Nat} {a1 : Int32} {a2 : Option Nat} {r0 : (String × DHp) ⊕ (Int32)} (hb : oR st a0 4 = some x) (hf : fX4_count st x a1 = some r0) (hok : wrOK cd3 a2 (wrP st r0)) : dm_KW yL_count cL_count 4 (some .int) [(0, 9, 12, 21)] rmW_L_count 1 6 [DR a0, DI a1, DR a2] st (wrF cd3 a2 (wrP st r0)) := by
  refine dm_kw (by decide) rfl (Nat.le_of_ble_eq_true rfl) fun Y hC hN hE hT => ?_
  refine dm_sub (lv' := [(0, DR a0), (1, DI a1), (2, DR a2)]) ([0, 1, 2]) rfl ?_
  refine r_aload_n (pc := 0) hC dL_count_0 rfl 2 rfl ?_
  refine r_iconst (pc := 1) (v := 0) hC dL_count_1 (by decide) ?_
  refine r_aload_n (pc := 2) hC dL_count_2 rfl 0 rfl ?_
  refine r_iload_n (pc := 3) hC dL_count_3 rfl 1 rfl ?_
  rcases r0 with ⟨E0, h0⟩ | q0
  · obtain ⟨k0, hk0⟩ := hok
    by_cases c0 : E0 = "java/lang/IndexOutOfBoundsException"
    · subst c0
      refine r_callVX (pc := 4) (As := [DI a1]) (rest := [DI 0, DR a2]) (k2_X4_count hf) hb rfl hC wd_3_68 wd_1_135 wd_1_136 wd_1_137 wd_1_1 md_X4_count rfl ⟨rfl, rfl, Nat.le_of_ble_eq_true rfl, Nat.le_of_ble_eq_true rfl, Nat.le_of_ble_eq_true rfl, Nat.le_of_ble_eq_true rfl⟩ dL_count_4 rfl (Nat.le_of_ble_eq_true rfl) (r_catch hC hT [] [] (0, 9, 12, 21) rfl (fun z hz => nomatch hz) (by decide) (by decide) wd_2_93 (by decide +kernel) (fun q9 sz => ?_)) (fun _ _ h => nomatch h)
      refine r_astore_n (pc := 12) (lv' := [(3, DR (some q9)), (0, DR a0), (1, DI a1), (2, DR a2)]) hC hN dL_count_12 rfl (by decide) rfl ?_
      refine r_iconst (pc := 13) (v := 1) hC dL_count_13 (by decide) ?_
      exact r_iret (pc := 14) hE hC ⟨1, (show cd3 "java/lang/IndexOutOfBoundsException" = some 1 by decide), rfl, rfl⟩ ⟨Nat.le_of_ble_eq_true rfl, Nat.le_of_ble_eq_true rfl⟩ dL_count_14
    · exact absurd hk0 (by unfold cd3; simp [c0])
  · obtain ⟨u0, hu0⟩ := hok
    refine r_callVX_ret (pc := 4) (As := [DI a1]) (rest := [DI 0, DR a2]) (stk' := [DI q0, DI 0, DR a2]) (k2_X4_count hf) hb rfl hC wd_3_68 wd_1_135 wd_1_136 wd_1_137 wd_1_1 md_X4_count rfl ⟨rfl, rfl, Nat.le_of_ble_eq_true rfl, Nat.le_of_ble_eq_true rfl, Nat.le_of_ble_eq_true rfl, Nat.le_of_ble_eq_true rfl⟩ dL_count_4 rfl (Nat.le_of_ble_eq_true rfl) rfl ?_
    refine r_i2l (pc := 7) hC dL_count_7 ?_
    refine r_lastore (pc := 8) hC dL_count_8 hu0 ?_
    refine r_goto (pc := 9) (tgt := 15) hC dL_count_9 (by decide) ?_
    refine r_iconst (pc := 15) (v := 0) hC dL_count_15 (by decide) ?_
    exact r_iret (pc := 16) hE hC ⟨hu0, rfl⟩ ⟨Nat.le_of_ble_eq_true rfl, Nat.le_of_ble_eq_true rfl⟩ dL_count_16
abbrev rmW_L_would : Room := { frames := 8, cells := 2, slots := 12, locals := 128 }
set_option maxRecDepth 100000 in
set_option maxHeartbeats 4000000 in
theorem kw_L_would {st : DSt} {x : Nat} {a0 : Option Nat} {a1 : Int32} {a2 : Int32} {a3 : Int32} {a4 : Option Nat} {r0 : (String × DHp) ⊕ (Int32 × DSt)} (hb : oR st a0 4 = some x) (hf : fX4_would st x a1 a2 a3 = some r0) (hok : wrOK cd1 a4 (r0)) : dm_KW yL_would cL_would 6 (some .int) [(0, 12, 15, 21), (0, 12, 19, 13)] rmW_L_would 2 12 [DR a0, DI a1, DI a2, DI a3, DR a4] st (wrF cd1 a4 (r0)) := by
  refine dm_kw (by decide) rfl (Nat.le_of_ble_eq_true rfl) fun Y hC hN hE hT => ?_
  refine dm_sub (lv' := [(0, DR a0), (1, DI a1), (2, DI a2), (3, DI a3), (4, DR a4)]) ([0, 1, 2, 3, 4]) rfl ?_
  refine r_aload (pc := 0) hC dL_would_0 4 rfl ?_
  refine r_iconst (pc := 2) (v := 0) hC dL_would_2 (by decide) ?_
  refine r_aload_n (pc := 3) hC dL_would_3 rfl 0 rfl ?_
  refine r_iload_n (pc := 4) hC dL_would_4 rfl 1 rfl ?_
  refine r_iload_n (pc := 5) hC dL_would_5 rfl 2 rfl ?_
  refine r_iload_n (pc := 6) hC dL_would_6 rfl 3 rfl ?_
  rcases r0 with ⟨E0, h0⟩ | q0
  · obtain ⟨k0, hk0⟩ := hok
    by_cases c0 : E0 = "java/lang/IndexOutOfBoundsException"
    · subst c0
      refine r_callVX (pc := 7) (As := [DI a1, DI a2, DI a3]) (rest := [DI 0, DR a4]) (k2_X4_would hf) hb rfl hC wd_3_72 wd_3_73 wd_3_74 wd_3_75 wd_1_1 md_X4_would rfl ⟨rfl, rfl, Nat.le_of_ble_eq_true rfl, Nat.le_of_ble_eq_true rfl, Nat.le_of_ble_eq_true rfl, Nat.le_of_ble_eq_true rfl⟩ dL_would_7 rfl (Nat.le_of_ble_eq_true rfl) (r_catch hC hT [] [(0, 12, 19, 13)] (0, 12, 15, 21) rfl (fun z hz => nomatch hz) (by decide) (by decide) wd_2_93 (by decide +kernel) (fun q9 sz => ?_)) (fun _ _ h => nomatch h)
      refine r_astore (pc := 15) (lv' := [(5, DR (some q9)), (0, DR a0), (1, DI a1), (2, DI a2), (3, DI a3), (4, DR a4)]) hC hN dL_would_15 (by decide) rfl ?_
      refine r_iconst (pc := 17) (v := 1) hC dL_would_17 (by decide) ?_
      exact r_iret (pc := 18) hE hC ⟨1, (show cd1 "java/lang/IndexOutOfBoundsException" = some 1 by decide), rfl, rfl⟩ ⟨Nat.le_of_ble_eq_true rfl, Nat.le_of_ble_eq_true rfl⟩ dL_would_18
    by_cases c1 : E0 = "java/lang/IllegalArgumentException"
    · subst c1
      refine r_callVX (pc := 7) (As := [DI a1, DI a2, DI a3]) (rest := [DI 0, DR a4]) (k2_X4_would hf) hb rfl hC wd_3_72 wd_3_73 wd_3_74 wd_3_75 wd_1_1 md_X4_would rfl ⟨rfl, rfl, Nat.le_of_ble_eq_true rfl, Nat.le_of_ble_eq_true rfl, Nat.le_of_ble_eq_true rfl, Nat.le_of_ble_eq_true rfl⟩ dL_would_7 rfl (Nat.le_of_ble_eq_true rfl) (r_catch hC hT [(0, 12, 15, 21)] [] (0, 12, 19, 13) rfl (fun z hz => by
        rcases (show z = (0, 12, 15, 21) from by simpa using hz) with rfl
        · exact ⟨by decide, _, wd_2_93, by decide +kernel⟩) (by decide) (by decide) wd_2_32 (by decide +kernel) (fun q9 sz => ?_)) (fun _ _ h => nomatch h)
      refine r_astore (pc := 19) (lv' := [(5, DR (some q9)), (0, DR a0), (1, DI a1), (2, DI a2), (3, DI a3), (4, DR a4)]) hC hN dL_would_19 (by decide) rfl ?_
      refine r_iconst (pc := 21) (v := 2) hC dL_would_21 (by decide) ?_
      exact r_iret (pc := 22) hE hC ⟨2, (show cd1 "java/lang/IllegalArgumentException" = some 2 by decide), rfl, rfl⟩ ⟨Nat.le_of_ble_eq_true rfl, Nat.le_of_ble_eq_true rfl⟩ dL_would_22
    · exact absurd hk0 (by unfold cd1; simp [c0, c1])
  · obtain ⟨u0, hu0⟩ := hok
    refine r_callVX_ret (pc := 7) (As := [DI a1, DI a2, DI a3]) (rest := [DI 0, DR a4]) (stk' := [DI q0.1, DI 0, DR a4]) (k2_X4_would hf) hb rfl hC wd_3_72 wd_3_73 wd_3_74 wd_3_75 wd_1_1 md_X4_would rfl ⟨rfl, rfl, Nat.le_of_ble_eq_true rfl, Nat.le_of_ble_eq_true rfl, Nat.le_of_ble_eq_true rfl, Nat.le_of_ble_eq_true rfl⟩ dL_would_7 rfl (Nat.le_of_ble_eq_true rfl) rfl ?_
    refine r_i2l (pc := 10) hC dL_would_10 ?_
    refine r_lastore (pc := 11) hC dL_would_11 hu0 ?_
    refine r_goto (pc := 12) (tgt := 23) hC dL_would_12 (by decide) ?_
    refine r_iconst (pc := 23) (v := 0) hC dL_would_23 (by decide) ?_
    exact r_iret (pc := 24) hE hC ⟨hu0, rfl⟩ ⟨Nat.le_of_ble_eq_true rfl, Nat.le_of_ble_eq_true rfl⟩ dL_would_24
abbrev rmW_L_best : Room := { frames := 8, cells := 3, slots := 18, locals := 134 }
set_option maxRecDepth 100000 in
set_option maxHeartbeats 4000000 in
theorem kw_L_best {st : DSt} {x : Nat} {a0 : Option Nat} {a1 : Int32} {a2 : Int32} {a3 : Int32} {a4 : Option Nat} {r0 : (String × DHp) ⊕ (Int32 × DSt)} (hb : oR st a0 4 = some x) (hf : fX4_best st x a1 a2 a3 = some r0) (hok : wrOK cd1 a4 (r0)) : dm_KW yL_best cL_best 6 (some .int) [(0, 12, 15, 21), (0, 12, 19, 13)] rmW_L_best 3 18 [DR a0, DI a1, DI a2, DI a3, DR a4] st (wrF cd1 a4 (r0)) := by
  refine dm_kw (by decide) rfl (Nat.le_of_ble_eq_true rfl) fun Y hC hN hE hT => ?_
  refine dm_sub (lv' := [(0, DR a0), (1, DI a1), (2, DI a2), (3, DI a3), (4, DR a4)]) ([0, 1, 2, 3, 4]) rfl ?_
  refine r_aload (pc := 0) hC dL_best_0 4 rfl ?_
  refine r_iconst (pc := 2) (v := 0) hC dL_best_2 (by decide) ?_
  refine r_aload_n (pc := 3) hC dL_best_3 rfl 0 rfl ?_
  refine r_iload_n (pc := 4) hC dL_best_4 rfl 1 rfl ?_
  refine r_iload_n (pc := 5) hC dL_best_5 rfl 2 rfl ?_
  refine r_iload_n (pc := 6) hC dL_best_6 rfl 3 rfl ?_
  rcases r0 with ⟨E0, h0⟩ | q0
  · obtain ⟨k0, hk0⟩ := hok
    by_cases c0 : E0 = "java/lang/IndexOutOfBoundsException"
    · subst c0
      refine r_callVX (pc := 7) (As := [DI a1, DI a2, DI a3]) (rest := [DI 0, DR a4]) (k2_X4_best hf) hb rfl hC wd_3_83 wd_3_84 wd_3_85 wd_3_86 wd_1_1 md_X4_best rfl ⟨rfl, rfl, Nat.le_of_ble_eq_true rfl, Nat.le_of_ble_eq_true rfl, Nat.le_of_ble_eq_true rfl, Nat.le_of_ble_eq_true rfl⟩ dL_best_7 rfl (Nat.le_of_ble_eq_true rfl) (r_catch hC hT [] [(0, 12, 19, 13)] (0, 12, 15, 21) rfl (fun z hz => nomatch hz) (by decide) (by decide) wd_2_93 (by decide +kernel) (fun q9 sz => ?_)) (fun _ _ h => nomatch h)
      refine r_astore (pc := 15) (lv' := [(5, DR (some q9)), (0, DR a0), (1, DI a1), (2, DI a2), (3, DI a3), (4, DR a4)]) hC hN dL_best_15 (by decide) rfl ?_
      refine r_iconst (pc := 17) (v := 1) hC dL_best_17 (by decide) ?_
      exact r_iret (pc := 18) hE hC ⟨1, (show cd1 "java/lang/IndexOutOfBoundsException" = some 1 by decide), rfl, rfl⟩ ⟨Nat.le_of_ble_eq_true rfl, Nat.le_of_ble_eq_true rfl⟩ dL_best_18
    by_cases c1 : E0 = "java/lang/IllegalArgumentException"
    · subst c1
      refine r_callVX (pc := 7) (As := [DI a1, DI a2, DI a3]) (rest := [DI 0, DR a4]) (k2_X4_best hf) hb rfl hC wd_3_83 wd_3_84 wd_3_85 wd_3_86 wd_1_1 md_X4_best rfl ⟨rfl, rfl, Nat.le_of_ble_eq_true rfl, Nat.le_of_ble_eq_true rfl, Nat.le_of_ble_eq_true rfl, Nat.le_of_ble_eq_true rfl⟩ dL_best_7 rfl (Nat.le_of_ble_eq_true rfl) (r_catch hC hT [(0, 12, 15, 21)] [] (0, 12, 19, 13) rfl (fun z hz => by
        rcases (show z = (0, 12, 15, 21) from by simpa using hz) with rfl
        · exact ⟨by decide, _, wd_2_93, by decide +kernel⟩) (by decide) (by decide) wd_2_32 (by decide +kernel) (fun q9 sz => ?_)) (fun _ _ h => nomatch h)
      refine r_astore (pc := 19) (lv' := [(5, DR (some q9)), (0, DR a0), (1, DI a1), (2, DI a2), (3, DI a3), (4, DR a4)]) hC hN dL_best_19 (by decide) rfl ?_
      refine r_iconst (pc := 21) (v := 2) hC dL_best_21 (by decide) ?_
      exact r_iret (pc := 22) hE hC ⟨2, (show cd1 "java/lang/IllegalArgumentException" = some 2 by decide), rfl, rfl⟩ ⟨Nat.le_of_ble_eq_true rfl, Nat.le_of_ble_eq_true rfl⟩ dL_best_22
    · exact absurd hk0 (by unfold cd1; simp [c0, c1])
  · obtain ⟨u0, hu0⟩ := hok
    refine r_callVX_ret (pc := 7) (As := [DI a1, DI a2, DI a3]) (rest := [DI 0, DR a4]) (stk' := [DI q0.1, DI 0, DR a4]) (k2_X4_best hf) hb rfl hC wd_3_83 wd_3_84 wd_3_85 wd_3_86 wd_1_1 md_X4_best rfl ⟨rfl, rfl, Nat.le_of_ble_eq_true rfl, Nat.le_of_ble_eq_true rfl, Nat.le_of_ble_eq_true rfl, Nat.le_of_ble_eq_true rfl⟩ dL_best_7 rfl (Nat.le_of_ble_eq_true rfl) rfl ?_
    refine r_i2l (pc := 10) hC dL_best_10 ?_
    refine r_lastore (pc := 11) hC dL_best_11 hu0 ?_
    refine r_goto (pc := 12) (tgt := 23) hC dL_best_12 (by decide) ?_
    refine r_iconst (pc := 23) (v := 0) hC dL_best_23 (by decide) ?_
    exact r_iret (pc := 24) hE hC ⟨hu0, rfl⟩ ⟨Nat.le_of_ble_eq_true rfl, Nat.le_of_ble_eq_true rfl⟩ dL_best_24
abbrev rmW_L_until : Room := { frames := 8, cells := 2, slots := 12, locals := 128 }
set_option maxRecDepth 100000 in
set_option maxHeartbeats 4000000 in
theorem kw_L_until {st : DSt} {x : Nat} {a0 : Option Nat} {a1 : Int32} {a2 : Int32} {a3 : Option Nat} {r0 : (String × DHp) ⊕ (Int32)} (hb : oR st a0 4 = some x) (hf : fX4_until st x a1 a2 = some r0) (hok : wrOK cd1 a3 (wrP st r0)) : dm_KW yL_until cL_until 5 (some .int) [(0, 10, 13, 21), (0, 10, 17, 13)] rmW_L_until 2 12 [DR a0, DI a1, DI a2, DR a3] st (wrF cd1 a3 (wrP st r0)) := by
  refine dm_kw (by decide) rfl (Nat.le_of_ble_eq_true rfl) fun Y hC hN hE hT => ?_
  refine dm_sub (lv' := [(0, DR a0), (1, DI a1), (2, DI a2), (3, DR a3)]) ([0, 1, 2, 3]) rfl ?_
  refine r_aload_n (pc := 0) hC dL_until_0 rfl 3 rfl ?_
  refine r_iconst (pc := 1) (v := 0) hC dL_until_1 (by decide) ?_
  refine r_aload_n (pc := 2) hC dL_until_2 rfl 0 rfl ?_
  refine r_iload_n (pc := 3) hC dL_until_3 rfl 1 rfl ?_
  refine r_iload_n (pc := 4) hC dL_until_4 rfl 2 rfl ?_
  rcases r0 with ⟨E0, h0⟩ | q0
  · obtain ⟨k0, hk0⟩ := hok
    by_cases c0 : E0 = "java/lang/IndexOutOfBoundsException"
    · subst c0
      refine r_callVX (pc := 5) (As := [DI a1, DI a2]) (rest := [DI 0, DR a3]) (k2_X4_until hf) hb rfl hC wd_3_91 wd_3_92 wd_3_93 wd_3_94 wd_1_1 md_X4_until rfl ⟨rfl, rfl, Nat.le_of_ble_eq_true rfl, Nat.le_of_ble_eq_true rfl, Nat.le_of_ble_eq_true rfl, Nat.le_of_ble_eq_true rfl⟩ dL_until_5 rfl (Nat.le_of_ble_eq_true rfl) (r_catch hC hT [] [(0, 10, 17, 13)] (0, 10, 13, 21) rfl (fun z hz => nomatch hz) (by decide) (by decide) wd_2_93 (by decide +kernel) (fun q9 sz => ?_)) (fun _ _ h => nomatch h)
      refine r_astore (pc := 13) (lv' := [(4, DR (some q9)), (0, DR a0), (1, DI a1), (2, DI a2), (3, DR a3)]) hC hN dL_until_13 (by decide) rfl ?_
      refine r_iconst (pc := 15) (v := 1) hC dL_until_15 (by decide) ?_
      exact r_iret (pc := 16) hE hC ⟨1, (show cd1 "java/lang/IndexOutOfBoundsException" = some 1 by decide), rfl, rfl⟩ ⟨Nat.le_of_ble_eq_true rfl, Nat.le_of_ble_eq_true rfl⟩ dL_until_16
    by_cases c1 : E0 = "java/lang/IllegalArgumentException"
    · subst c1
      refine r_callVX (pc := 5) (As := [DI a1, DI a2]) (rest := [DI 0, DR a3]) (k2_X4_until hf) hb rfl hC wd_3_91 wd_3_92 wd_3_93 wd_3_94 wd_1_1 md_X4_until rfl ⟨rfl, rfl, Nat.le_of_ble_eq_true rfl, Nat.le_of_ble_eq_true rfl, Nat.le_of_ble_eq_true rfl, Nat.le_of_ble_eq_true rfl⟩ dL_until_5 rfl (Nat.le_of_ble_eq_true rfl) (r_catch hC hT [(0, 10, 13, 21)] [] (0, 10, 17, 13) rfl (fun z hz => by
        rcases (show z = (0, 10, 13, 21) from by simpa using hz) with rfl
        · exact ⟨by decide, _, wd_2_93, by decide +kernel⟩) (by decide) (by decide) wd_2_32 (by decide +kernel) (fun q9 sz => ?_)) (fun _ _ h => nomatch h)
      refine r_astore (pc := 17) (lv' := [(4, DR (some q9)), (0, DR a0), (1, DI a1), (2, DI a2), (3, DR a3)]) hC hN dL_until_17 (by decide) rfl ?_
      refine r_iconst (pc := 19) (v := 2) hC dL_until_19 (by decide) ?_
      exact r_iret (pc := 20) hE hC ⟨2, (show cd1 "java/lang/IllegalArgumentException" = some 2 by decide), rfl, rfl⟩ ⟨Nat.le_of_ble_eq_true rfl, Nat.le_of_ble_eq_true rfl⟩ dL_until_20
    · exact absurd hk0 (by unfold cd1; simp [c0, c1])
  · obtain ⟨u0, hu0⟩ := hok
    refine r_callVX_ret (pc := 5) (As := [DI a1, DI a2]) (rest := [DI 0, DR a3]) (stk' := [DI q0, DI 0, DR a3]) (k2_X4_until hf) hb rfl hC wd_3_91 wd_3_92 wd_3_93 wd_3_94 wd_1_1 md_X4_until rfl ⟨rfl, rfl, Nat.le_of_ble_eq_true rfl, Nat.le_of_ble_eq_true rfl, Nat.le_of_ble_eq_true rfl, Nat.le_of_ble_eq_true rfl⟩ dL_until_5 rfl (Nat.le_of_ble_eq_true rfl) rfl ?_
    refine r_i2l (pc := 8) hC dL_until_8 ?_
    refine r_lastore (pc := 9) hC dL_until_9 hu0 ?_
    refine r_goto (pc := 10) (tgt := 21) hC dL_until_10 (by decide) ?_
    refine r_iconst (pc := 21) (v := 0) hC dL_until_21 (by decide) ?_
    exact r_iret (pc := 22) hE hC ⟨hu0, rfl⟩ ⟨Nat.le_of_ble_eq_true rfl, Nat.le_of_ble_eq_true rfl⟩ dL_until_22
