/-! CAST AND SPLIT -/
section OPCAST
variable {st : DSt} {ad : Nat → Nat} {day : Int32} {nb ns nx : Nat} {gB wB : Nat → Int32} {cB sS bX : Nat → Nat → Int32} {f6 f7 g8 g9 : Nat → Int32} {Q : Nat → Option DCel} {l : Nat → Int64} {thr md : Int32} {pb ps px : Nat} {mB mS mX k15 k16 t17 t18 : Nat → Int32}
theorem op_cast (h : NH st ad (CT ad day nb ns nx gB wB cB sS bX f6 f7 g8 g9 ((MQT ad l thr day nb ns nx mB mS mX k15 k16 t17 t18)))) (hR : RELS nb ns nx gB wB cB sS bX mB mS mX) (p a b : Int32) : JO cd2 (ad 0) (ad 10) (ad 11) (fX4_cast st (ad 0) p a b) (fun u => fX5_cast u (ad 11) p a b) := by
  obtain ⟨hb, hs, hx, rB, rS, rX, rZ⟩ := id hR
  unfold fX4_cast
  rw [ob_of _ (q_oR h)]
  rcases hp : ixO p nb with _ | i
  · rw [xt_of _ (c_bowlAt_f h hp)]
    refine ⟨_, rfl, JOr_bad k2_io (by decide) h hR fun u hu => ?_⟩
    obtain ⟨s1, e1, h1⟩ := x_thr hu 0
    obtain ⟨s2, e2, h2⟩ := x_fail h1 1
    unfold fX5_cast
    rw [ob_of _ e1, ob_of _ (m_oR h1), ob_of _ (m_isBowl_f h1 hp hb), if_pos rfl, ob_of _ (m_oR h1), ob_of _ e2]
    exact ⟨_, _, rfl, h2⟩
  obtain ⟨hi, hpe⟩ := ixO_some hp
  obtain ⟨r1, r2, r3, r4, r5, r6⟩ := rB i hi
  have bad : ∀ u, ((a < 1 ∨ 6 < a) ∨ (b < 1 ∨ 6 < b)) → NH u ad (CT ad day nb ns nx gB wB cB sS bX f6 f7 g8 g9 ((MQT ad l thr day nb ns nx mB mS mX k15 k16 t17 t18))) → ∃ y s', fX5_cast u (ad 11) p a b = some (y, s') ∧ NH s' ad (CT ad day nb ns nx gB wB cB sS bX f6 f7 g8 g9 ((MQT ad l (2) day nb ns nx mB mS mX k15 k16 t17 t18))) := fun u hw hu => by
    obtain ⟨s1, e1, h1⟩ := x_thr hu 0
    obtain ⟨s2, e2, h2⟩ := x_fail h1 2
    unfold fX5_cast
    by_cases h0 : a < 1 ∨ 6 < a
    · rw [ob_of _ e1, ob_of _ (m_oR h1), ob_of _ (m_isBowl_t h1 hp hb), if_neg n10, ob_of _ (isIn_f h0), if_pos rfl, ob_of _ (m_oR h1), ob_of _ e2]
      exact ⟨_, _, rfl, h2⟩
    · have h0' := not_or.mp h0
      rw [ob_of _ e1, ob_of _ (m_oR h1), ob_of _ (m_isBowl_t h1 hp hb), if_neg n10, ob_of _ (isIn_t h0'.1 h0'.2), if_neg n10, ob_of _ (isIn_f (hw.resolve_left h0)), if_pos rfl, ob_of _ (m_oR h1), ob_of _ e2]
      exact ⟨_, _, rfl, h2⟩
  rw [xb_of _ (c_bowlAt_t h hp hb)]
  by_cases w1 : a < 1
  · rw [if_pos w1]
    exact ⟨_, rfl, JOr_bad k2_ia (by decide) h hR fun u hu => bad u (Or.inl (Or.inl w1)) hu⟩
  rw [if_neg w1]
  by_cases w2 : 6 < a
  · rw [if_pos w2]
    exact ⟨_, rfl, JOr_bad k2_ia (by decide) h hR fun u hu => bad u (Or.inl (Or.inr w2)) hu⟩
  rw [if_neg w2]
  by_cases w3 : b < 1
  · rw [if_pos w3]
    exact ⟨_, rfl, JOr_bad k2_ia (by decide) h hR fun u hu => bad u (Or.inr (Or.inl w3)) hu⟩
  rw [if_neg w3]
  by_cases w4 : ¬ b ≤ 6
  · rw [if_neg w4]
    exact ⟨_, rfl, JOr_bad k2_ia (by decide) h hR fun u hu => bad u (Or.inr (Or.inr (Int32.not_le.mp w4))) hu⟩
  have w4 := Decidable.not_not.mp w4
  rw [if_pos w4]
  have e1i : (1 : Int32).toInt = 1 := by decide
  have e6i : (6 : Int32).toInt = 6 := by decide
  have e10i : (10 : Int32).toInt = 10 := by decide
  have a1 : 1 ≤ a.toInt := by rw [i_lt, e1i] at w1; omega
  have a2 : a.toInt ≤ 6 := by rw [i_lt, e6i] at w2; omega
  have b1 : 1 ≤ b.toInt := by rw [i_lt, e1i] at w3; omega
  have b2 : b.toInt ≤ 6 := by rw [i_le, e6i] at w4; omega
  have ab0 := Int.mul_nonneg (show 0 ≤ a.toInt by omega) (show 0 ≤ b.toInt by omega)
  have ab6 := Int.mul_le_mul a2 b2 (by omega) (by omega)
  have eab : (a * b).toInt = a.toInt * b.toInt := i_mul (by omega) (by omega)
  have eabt : (a * b * 10).toInt = a.toInt * b.toInt * 10 := by rw [i_mul] <;> rw [eab, e10i] <;> omega
  have ecm : (10 * a) * b = a * b * 10 := by rw [Int32.mul_assoc, Int32.mul_comm]
  obtain ⟨s3, n3, h3⟩ := h.mk (c := 60 + ns) (c_s0 (Nat.le_refl _)) (.inr (3, [DI 0, DI 0, DI 0, DI 0, DI 0]))
  unfold CT at h3
  rw [reg_u6] at h3
  have hA : ∀ c, c ≠ 60 + ns → va_up ad (60 + ns) st.1 c = ad c := fun c hc => va_up_n _ _ hc
  have a60 : va_up ad (60 + ns) st.1 (60 + ns) = st.1 := va_up_s _ _ _
  have g4 : gR s3 (some (ad (20 + i))) 0 0 = some (some (ad (30 + i))) := by
    rw [← hA (20 + i) (by omega)]
    exact l_gR h3 ((reg_2 (by omega)).trans (if_pos hi)) 0 rfl
  have g5 : oR s3 (some (ad (30 + i))) 2 = some (ad (30 + i)) := by
    rw [← hA (30 + i) (by omega)]
    exact l_oR h3 ((reg_3 (by omega)).trans (if_pos hi))
  have g6 : fX2_temper s3 (ad (30 + i)) = some (temF (cB i)) := by
    rw [← hA (30 + i) (by omega)]
    exact s_temper h3 (a := 40 + i) (by rw [hA (40 + i) (by omega)]; exact (reg_3 (by omega)).trans (if_pos hi)) ((reg_4 (by omega)).trans (if_pos hi))
  obtain ⟨s4, e4, h4⟩ := pV_ex h3 (c := 60 + ns) (reg_6.trans (va_up_s _ _ _)) a60 1 (DI a) (by show 1 < 5; decide)
  rw [reg_u6, bx_uu] at h4
  obtain ⟨s5, e5, h5⟩ := pV_ex h4 (c := 60 + ns) (reg_6.trans (va_up_s _ _ _)) a60 2 (DI b) (by show 2 < 5; decide)
  rw [reg_u6, bx_uu] at h5
  obtain ⟨s7, e7, h7⟩ := pV_ex h5 (c := 60 + ns) (reg_6.trans (va_up_s _ _ _)) a60 0 (DI (temF (cB i))) (by show 0 < 5; decide)
  rw [reg_u6, bx_uu] at h7
  have ei : fX3_init s3 st.1 a b (temF (cB i)) = some s7 := by
    unfold fX3_init
    rw [ob_of _ e4, ob_of _ e5, ob_of _ e7]
  have gg8 : gI s7 (some (ad (20 + i))) 0 1 = some (gB i) := by
    rw [← hA (20 + i) (by omega)]
    exact l_gI h7 ((reg_2 (by omega)).trans (if_pos hi)) 1 rfl
  have g9' : oR s7 (some st.1) 3 = some st.1 := by
    rw [← a60]
    exact l_oR h7 (c := 60 + ns) (reg_6.trans (va_up_s _ _ _))
  have g1 : gI s7 (some st.1) 3 1 = some a := by
    rw [← a60]
    exact l_gI h7 (c := 60 + ns) (reg_6.trans (va_up_s _ _ _)) 1 rfl
  have g2 : gI s7 (some st.1) 3 2 = some b := by
    rw [← a60]
    exact l_gI h7 (c := 60 + ns) (reg_6.trans (va_up_s _ _ _)) 2 rfl
  have g10 : fX3_grams s7 st.1 = some (a * b * 10) := by
    unfold fX3_grams fX3_squares
    rw [ob_of _ g9', ob_of _ g1, ob_of _ g2]
    rfl
  rw [ob_of _ (congrArg some n3), ob_of _ g4, ob_of _ g5, ob_of _ g6, ob_of _ ei, ob_of _ gg8, ob_of _ g9', ob_of _ g10]
  have bad3 : ∀ u, (ns = 8 ∨ ¬ a * b * 10 ≤ gB i) → NH u ad (CT ad day nb ns nx gB wB cB sS bX f6 f7 g8 g9 ((MQT ad l thr day nb ns nx mB mS mX k15 k16 t17 t18))) → ∃ y s', fX5_cast u (ad 11) p a b = some (y, s') ∧ NH s' ad (CT ad day nb ns nx gB wB cB sS bX f6 f7 g8 g9 ((MQT ad l (3) day nb ns nx mB mS mX k15 k16 t17 t18))) := fun u hw hu => by
    obtain ⟨s1, e1, h1⟩ := x_thr hu 0
    obtain ⟨s2, e2, h2⟩ := x_fail h1 3
    unfold fX5_cast
    by_cases h0 : ns = 8
    · rw [ob_of _ e1, ob_of _ (m_oR h1), ob_of _ (m_isBowl_t h1 hp hb), if_neg n10, ob_of _ (isIn_t w1 w2), if_neg n10, ob_of _ (isIn_t w3 (Int32.not_lt.mpr w4)), if_neg n10, ob_of _ (m_ns h1), if_pos (show nI ns = 8 by rw [h0]; rfl), ob_of _ (m_oR h1), ob_of _ e2]
      exact ⟨_, _, rfl, h2⟩
    · rw [ob_of _ e1, ob_of _ (m_oR h1), ob_of _ (m_isBowl_t h1 hp hb), if_neg n10, ob_of _ (isIn_t w1 w2), if_neg n10, ob_of _ (isIn_t w3 (Int32.not_lt.mpr w4)), if_neg n10, ob_of _ (m_ns h1), if_neg (show ¬ nI ns = 8 from fun e => h0 ((nI_eq (b := 8) (by omega) (by omega)).mp e)), ob_of _ (m_oR h1), ob_of _ (m_bo (q := 0) h1 hpe (k := 0) rfl (by omega) (by omega)), if_neg (show ¬ (10 * a) * b ≤ mB (7 * i + 0) by rw [ecm]; show ¬ a * b * 10 ≤ mB (7 * i); rw [← r1]; exact hw.resolve_left h0), ob_of _ (m_oR h1), ob_of _ e2]
      exact ⟨_, _, rfl, h2⟩
  by_cases w5 : ¬ a * b * 10 ≤ gB i
  · rw [if_neg w5]
    exact ⟨_, rfl, JOr_bad k2_is (by decide) (c_noSlab h7) hR fun u hu => bad3 u (Or.inr w5) hu⟩
  have w5 := Decidable.not_not.mp w5
  have ex : (.inr (3, [DI (temF (cB i)), DI a, DI b, DI 0, DI 0]) : DCel) = OS (fun k => if k = 0 then a else if k = 1 then b else if k = 2 then temF (cB i) else 0) := rfl
  by_cases w6 : ns = 8
  · have h7' := c_noSlab h7
    rw [if_pos w5, ob_of _ (q_oR h7'), xt_of _ (c_addFull h7' w6 _)]
    exact ⟨_, rfl, JOr_bad k2_is (by decide) h7' hR fun u hu => bad3 u (Or.inl w6) hu⟩
  have h7 : NH s7 (va_up ad (60 + ns) st.1) (reg (T0 ad day nb ns nx f6 f7 g8 g9) (MQT ad l thr day nb ns nx mB mS mX k15 k16 t17 t18) (T2 ad nb gB wB) (T3 ad nb) (T4 nb cB) (T5 nx bX) (va_up (T6 ns sS) ns (some (OS (fun k => if k = 0 then a else if k = 1 then b else if k = 2 then temF (cB i) else 0))))) := h7
  obtain ⟨s9, e9, hA20, -, -, -, h9⟩ := c_addSlab h7 hb (by omega) hx
  have g0 : oR s7 (some (ad 0)) 4 = some (ad 0) := q_oR (c_noSlab h7)
  have g13 : gI s9 (some (ad (20 + i))) 0 1 = some (gB i) := by
    rw [← hA (20 + i) (by omega)]
    exact q_bg h9 hi hb
  have g14 : oR s9 (some st.1) 3 = some st.1 := by
    rw [← a60]
    exact q_so h9 (by omega)
  have g15 : fX3_grams s9 st.1 = some (a * b * 10) := by
    have q := q_sg h9 (i := ns) (by omega)
    rw [a60, va_up_s] at q
    exact q
  obtain ⟨s10, e10, h10⟩ := w_g h9 hi hb (gB i - a * b * 10)
  rw [hA (20 + i) (by omega)] at e10
  rw [if_pos w5, ob_of _ g0, xb_of _ e9, ob_of _ g13, ob_of _ g14, ob_of _ g15, ob_of _ e10]
  rw [← MQT_same hA20] at h10
  refine ⟨_, rfl, ?_⟩
  rw [← hA20 0 (by decide), ← hA20 10 (by decide), ← hA20 11 (by decide)]
  refine JOr_good h10 rfl rfl rfl fun u l' hu => ?_
  have em : (10 * a) * b ≤ mB (7 * i + 0) := by rw [ecm]; show a * b * 10 ≤ mB (7 * i); rw [← r1]; exact w5
  obtain ⟨s1, e1, h1⟩ := x_thr hu 0
  obtain ⟨s2, e2, h2⟩ := x_bo h1 hpe (q := 0) (k := 0) rfl (by omega) (by omega) (mB (7 * i + 0) - (10 * a) * b)
  obtain ⟨s3', e3, h3'⟩ := m_temperOf h2 hpe (by omega)
  have et : temF (fun k => upd mB (7 * i + 0) (mB (7 * i + 0) - (10 * a) * b) (7 * i + k)) = temF (cB i) := EQ5.tem fun k k1 k2 => by
    show upd _ _ _ (7 * i + k) = _
    rw [upd_n _ _ (by omega)]
    exact (r3 k k1 k2).symm
  rw [et] at e3
  obtain ⟨s4', e4', h4'⟩ := x_put h3' (p := nI ns) (i := ns) rfl (by omega) a b (temF (cB i)) 0 0
  obtain ⟨s5', e5', h5'⟩ := x_ns h4' (ns + 1) (nI_1 ns)
  unfold fX5_cast
  rw [ob_of _ e1, ob_of _ (m_oR h1), ob_of _ (m_isBowl_t h1 hp hb), if_neg n10, ob_of _ (isIn_t w1 w2), if_neg n10, ob_of _ (isIn_t w3 (Int32.not_lt.mpr w4)), if_neg n10, ob_of _ (m_ns h1), if_neg (show ¬ nI ns = 8 from fun e => w6 ((nI_eq (b := 8) (by omega) (by omega)).mp e)), ob_of _ (m_oR h1), ob_of _ (m_bo (q := 0) h1 hpe (k := 0) rfl (by omega) (by omega)), if_pos em, ob_of _ (m_oR h1), ob_of _ (m_bo (q := 0) h1 hpe (k := 0) rfl (by omega) (by omega)), ob_of _ (m_oR h1), ob_of _ e2, ob_of _ (m_ns h2), ob_of _ (m_oR h2), ob_of _ e3, ob_of _ (m_oR h3'), ob_of _ e4', ob_of _ (m_ns h4'), ob_of _ e5', ob_of _ (m_ns h5'), nI_pred]
  have hR1 : RELS nb ns nx (upd gB i (gB i - a * b * 10)) wB cB sS bX (upd mB (7 * i + 0) (mB (7 * i + 0) - (10 * a) * b)) mS mX := by
    refine hR.B i hb (fun j hj => ⟨hj, by omega⟩) (fun j hj _ => hj) (fun j hj => upd_n _ _ hj) (fun _ _ => rfl) (fun _ _ => rfl) (fun j k hj hk => upd_n _ _ (by omega)) ⟨?_, ?_, fun k k1 k2 => ?_, r4, ?_, ?_⟩
    · rw [upd_s, ecm, r1]
      exact (upd_s _ _ _).symm
    · rw [upd_n _ _ (by omega), r2]
    · show _ = upd _ _ _ (7 * i + k)
      rw [upd_n _ _ (by omega)]
      exact r3 k k1 k2
    · rw [i_le, eabt] at w5
      rw [upd_s, i_sub] <;> rw [eabt] <;> omega
    · rw [i_le, eabt] at w5
      rw [upd_s, i_sub] <;> rw [eabt] <;> omega
  refine ⟨_, rfl, _, _, _, _, _, _, _, h5', hR1.S ns (by omega) (fun j j1 j2 => by omega) (fun j hj => va_up_n _ _ hj) (fun j k hj hk => putN_o hj hk) ⟨fun k hk => ?_, ?_⟩⟩
  · rw [va_up_s, putN_i hk]
    rcases (show k = 0 ∨ k = 1 ∨ k = 2 ∨ k = 3 ∨ k = 4 by omega) with rfl | rfl | rfl | rfl | rfl <;> rfl
  · rw [va_up_s]
    exact ⟨⟨a1, a2⟩, ⟨b1, b2⟩, temF_in _, show 0 ≤ (0 : Int32).toInt ∧ (0 : Int32).toInt ≤ 100 by decide⟩
/-- the part behind, and the slab cut down -/
theorem c_split0 {i : Nat} {m : Int32} (h : NH st ad (CT ad day nb ns nx gB wB cB sS bX f6 f7 g8 g9 ((MQT ad l thr md pb ps px mB mS mX k15 k16 t17 t18)))) (hb : nb ≤ 5) (hs : ns < 8) (hx : nx ≤ 6) (hi : i < ns) : ∃ s5, fX3_partBehind st (ad (60 + i)) m 0 = some (some st.1, s5) ∧ NH s5 ad (CT ad day nb ns nx gB wB cB sS bX f6 f7 g8 g9 ((MQT ad l thr md pb ps px mB mS mX k15 k16 t17 t18))) ∧ ∃ s9, fX4_addSlab s5 (ad 0) (some st.1) = some (.inr (nI ns, s9)) ∧ ∃ ad' s10, (∀ c, c < 20 → ad' c = ad c) ∧ oR s9 (some (ad (60 + i))) 3 = some (ad (60 + i)) ∧ fX3_cutDownTo s9 (ad (60 + i)) m 0 = some s10 ∧ NH s10 ad' (CT (ad') day nb (ns + 1) nx gB wB cB (va_up (va_up sS ns (upd (sS i) 0 (sS i 0 - m))) i (upd (sS i) 0 m)) bX f6 f7 g8 g9 ((MQT ad l thr md pb ps px mB mS mX k15 k16 t17 t18))) := by
  obtain ⟨s1, n1, h1⟩ := h.mk (c := 60 + ns) (c_s0 (Nat.le_refl _)) (.inr (3, [DI 0, DI 0, DI 0, DI 0, DI 0]))
  unfold CT at h1
  rw [reg_u6] at h1
  have hA : ∀ c, c ≠ 60 + ns → va_up ad (60 + ns) st.1 c = ad c := fun c hc => va_up_n _ _ hc
  have a60 : va_up ad (60 + ns) st.1 (60 + ns) = st.1 := va_up_s _ _ _
  have look : ∀ {s : DSt} {e : DCel} (k : Nat) {v : Int32}, NH s (va_up ad (60 + ns) st.1) (reg (T0 ad day nb ns nx f6 f7 g8 g9) (MQT ad l thr md pb ps px mB mS mX k15 k16 t17 t18) (T2 ad nb gB wB) (T3 ad nb) (T4 nb cB) (T5 nx bX) (va_up (T6 ns sS) ns (some e))) → ([DI (sS i 2), DI (sS i 0), DI (sS i 1), DI (sS i 3), DI (sS i 4)] : List DV)[k]? = some (DI v) → gI s (some (ad (60 + i))) 3 k = some v := fun k v hh hv => by
    rw [← hA (60 + i) (by omega)]
    exact l_gI hh (reg_6.trans ((va_up_n _ _ (by omega)).trans (if_pos hi))) k hv
  obtain ⟨s2, e2, h2⟩ := pV_ex h1 (c := 60 + ns) (reg_6.trans (va_up_s _ _ _)) a60 1 (DI (sS i 0 - m)) (by show 1 < 5; decide)
  rw [reg_u6, bx_uu] at h2
  obtain ⟨s3, e3, h3⟩ := pV_ex h2 (c := 60 + ns) (reg_6.trans (va_up_s _ _ _)) a60 2 (DI (sS i 1)) (by show 2 < 5; decide)
  rw [reg_u6, bx_uu] at h3
  obtain ⟨s4, e4, h4⟩ := pV_ex h3 (c := 60 + ns) (reg_6.trans (va_up_s _ _ _)) a60 0 (DI (sS i 2)) (by show 0 < 5; decide)
  rw [reg_u6, bx_uu] at h4
  obtain ⟨s6, e6, h6⟩ := pV_ex h4 (c := 60 + ns) (reg_6.trans (va_up_s _ _ _)) a60 3 (DI (sS i 3)) (by show 3 < 5; decide)
  rw [reg_u6, bx_uu] at h6
  obtain ⟨s7, e7, h7⟩ := pV_ex h6 (c := 60 + ns) (reg_6.trans (va_up_s _ _ _)) a60 4 (DI (sS i 4)) (by show 4 < 5; decide)
  rw [reg_u6, bx_uu] at h7
  have ei : fX3_init s1 st.1 (sS i 0 - m) (sS i 1) (sS i 2) = some s4 := by
    unfold fX3_init
    rw [ob_of _ e2, ob_of _ e3, ob_of _ e4]
  have ep : fX3_partBehind st (ad (60 + i)) m 0 = some (some st.1, s7) := by
    unfold fX3_partBehind
    rw [if_pos rfl, ob_of _ (congrArg some n1), ob_of _ (look 1 h1 rfl), ob_of _ (look 2 h1 rfl), ob_of _ (look 0 h1 rfl), ob_of _ ei, ob_of _ (look 3 h4 rfl), ob_of _ e6, ob_of _ (look 4 h6 rfl), ob_of _ e7]
  have h7 : NH s7 (va_up ad (60 + ns) st.1) (reg (T0 ad day nb ns nx f6 f7 g8 g9) (MQT ad l thr md pb ps px mB mS mX k15 k16 t17 t18) (T2 ad nb gB wB) (T3 ad nb) (T4 nb cB) (T5 nx bX) (va_up (T6 ns sS) ns (some (OS (upd (sS i) 0 (sS i 0 - m)))))) := h7
  obtain ⟨s9, e9, hA20, -, -, -, h9⟩ := c_addSlab h7 hb hs hx
  have e10 := w_s1 h9 (i := i) (by omega) m
  obtain ⟨s10, e10, h10⟩ := e10
  rw [va_up_n _ _ (show i ≠ ns by omega)] at h10
  rw [hA (60 + i) (by omega)] at e10
  refine ⟨s7, ep, c_noSlab h7, s9, e9, _, s10, hA20, ?_, ?_, h10⟩
  · rw [← hA (60 + i) (by omega)]
    exact q_so h9 (by omega)
  · unfold fX3_cutDownTo
    rw [if_pos rfl, ob_of _ e10]
theorem op_split0 (h : NH st ad (CT ad day nb ns nx gB wB cB sS bX f6 f7 g8 g9 ((MQT ad l thr day nb ns nx mB mS mX k15 k16 t17 t18)))) (hR : RELS nb ns nx gB wB cB sS bX mB mS mX) (p m : Int32) : JO cd4 (ad 0) (ad 10) (ad 11) (fX4_split st (ad 0) p m 0) (fun u => fX5_split u (ad 11) p m 0) := by
  obtain ⟨hb, hs, hx, rB, rS, rX, rZ⟩ := id hR
  unfold fX4_split
  rw [ob_of _ (q_oR h)]
  rcases hp : ixO p ns with _ | i
  · rw [xt_of _ (c_slabAt_f h hp)]
    refine ⟨_, rfl, JOr_bad k4_io (by decide) h hR fun u hu => ?_⟩
    obtain ⟨s1, e1, h1⟩ := x_thr hu 0
    obtain ⟨s2, e2, h2⟩ := x_fail h1 1
    unfold fX5_split
    rw [ob_of _ e1, if_pos rfl, ob_of _ (m_oR h1), ob_of _ (m_isSlab_f h1 hp hs), if_pos rfl, ob_of _ (m_oR h1), ob_of _ e2]
    exact ⟨_, _, rfl, h2⟩
  obtain ⟨hi, hpe⟩ := ixO_some hp
  obtain ⟨r1, r2, r3, r4, r5⟩ := id (rS i hi)
  rw [xb_of _ (c_slabAt_t h hp hs), if_pos rfl, ob_of _ (q_s1 h hi)]
  have e1i : (1 : Int32).toInt = 1 := by decide
  have eq1 : (sS i 0 - 1).toInt = (sS i 0).toInt - 1 := by rw [i_sub] <;> rw [e1i] <;> omega
  have bad : ∀ u, (m < 1 ∨ ¬ m < sS i 0) → NH u ad (CT ad day nb ns nx gB wB cB sS bX f6 f7 g8 g9 ((MQT ad l thr day nb ns nx mB mS mX k15 k16 t17 t18))) → ∃ y s', fX5_split u (ad 11) p m 0 = some (y, s') ∧ NH s' ad (CT ad day nb ns nx gB wB cB sS bX f6 f7 g8 g9 ((MQT ad l (1) day nb ns nx mB mS mX k15 k16 t17 t18))) := fun u hw hu => by
    obtain ⟨s1, e1, h1⟩ := x_thr hu 0
    obtain ⟨s2, e2, h2⟩ := x_fail h1 1
    unfold fX5_split
    rw [ob_of _ e1, if_pos rfl, ob_of _ (m_oR h1), ob_of _ (m_isSlab_t h1 hp hs), if_neg n10, ob_of _ (m_oR h1), ob_of _ (m_sl (q := 0) (k := 0) h1 hpe rfl (by omega) (by omega)), ← r1 0 (by omega), ob_of _ (isIn_f (hw.imp id fun q => by rw [i_lt, eq1]; rw [i_lt] at q; omega)), if_pos rfl, ob_of _ (m_oR h1), ob_of _ e2]
    exact ⟨_, _, rfl, h2⟩
  by_cases w1 : m < 1
  · rw [if_pos w1]
    exact ⟨_, rfl, JOr_bad k4_io (by decide) h hR fun u hu => bad u (Or.inl w1) hu⟩
  rw [if_neg w1]
  by_cases w2 : ¬ m < sS i 0
  · rw [if_neg w2]
    exact ⟨_, rfl, JOr_bad k4_io (by decide) h hR fun u hu => bad u (Or.inr w2) hu⟩
  have w2 := Decidable.not_not.mp w2
  rw [if_pos w2, ob_of _ (q_so h hi)]
  have w2' : ¬ sS i 0 - 1 < m := by
    rw [i_lt, eq1]
    rw [i_lt] at w2
    omega
  by_cases w3 : ns = 8
  · have ep : ∃ s5, fX3_partBehind st (ad (60 + i)) m 0 = some (some st.1, s5) ∧ NH s5 ad (CT ad day nb ns nx gB wB cB sS bX f6 f7 g8 g9 ((MQT ad l thr day nb ns nx mB mS mX k15 k16 t17 t18))) := by
      obtain ⟨s1, n1, h1⟩ := h.mk (c := 60 + ns) (c_s0 (Nat.le_refl _)) (.inr (3, [DI 0, DI 0, DI 0, DI 0, DI 0]))
      unfold CT at h1
      rw [reg_u6] at h1
      have hA : ∀ c, c ≠ 60 + ns → va_up ad (60 + ns) st.1 c = ad c := fun c hc => va_up_n _ _ hc
      have a60 : va_up ad (60 + ns) st.1 (60 + ns) = st.1 := va_up_s _ _ _
      have look : ∀ {s : DSt} {e : DCel} (k : Nat) {v : Int32}, NH s (va_up ad (60 + ns) st.1) (reg (T0 ad day nb ns nx f6 f7 g8 g9) (MQT ad l thr day nb ns nx mB mS mX k15 k16 t17 t18) (T2 ad nb gB wB) (T3 ad nb) (T4 nb cB) (T5 nx bX) (va_up (T6 ns sS) ns (some e))) → ([DI (sS i 2), DI (sS i 0), DI (sS i 1), DI (sS i 3), DI (sS i 4)] : List DV)[k]? = some (DI v) → gI s (some (ad (60 + i))) 3 k = some v := fun k v hh hv => by
        rw [← hA (60 + i) (by omega)]
        exact l_gI hh (reg_6.trans ((va_up_n _ _ (by omega)).trans (if_pos hi))) k hv
      obtain ⟨s2, e2, h2⟩ := pV_ex h1 (c := 60 + ns) (reg_6.trans (va_up_s _ _ _)) a60 1 (DI (sS i 0 - m)) (by show 1 < 5; decide)
      rw [reg_u6, bx_uu] at h2
      obtain ⟨s3, e3, h3⟩ := pV_ex h2 (c := 60 + ns) (reg_6.trans (va_up_s _ _ _)) a60 2 (DI (sS i 1)) (by show 2 < 5; decide)
      rw [reg_u6, bx_uu] at h3
      obtain ⟨s4, e4, h4⟩ := pV_ex h3 (c := 60 + ns) (reg_6.trans (va_up_s _ _ _)) a60 0 (DI (sS i 2)) (by show 0 < 5; decide)
      rw [reg_u6, bx_uu] at h4
      obtain ⟨s6, e6, h6⟩ := pV_ex h4 (c := 60 + ns) (reg_6.trans (va_up_s _ _ _)) a60 3 (DI (sS i 3)) (by show 3 < 5; decide)
      rw [reg_u6, bx_uu] at h6
      obtain ⟨s7, e7, h7⟩ := pV_ex h6 (c := 60 + ns) (reg_6.trans (va_up_s _ _ _)) a60 4 (DI (sS i 4)) (by show 4 < 5; decide)
      rw [reg_u6, bx_uu] at h7
      have ei : fX3_init s1 st.1 (sS i 0 - m) (sS i 1) (sS i 2) = some s4 := by
        unfold fX3_init
        rw [ob_of _ e2, ob_of _ e3, ob_of _ e4]
      refine ⟨s7, ?_, c_noSlab h7⟩
      unfold fX3_partBehind
      rw [if_pos rfl, ob_of _ (congrArg some n1), ob_of _ (look 1 h1 rfl), ob_of _ (look 2 h1 rfl), ob_of _ (look 0 h1 rfl), ob_of _ ei, ob_of _ (look 3 h4 rfl), ob_of _ e6, ob_of _ (look 4 h6 rfl), ob_of _ e7]
    obtain ⟨s5, e5, h5⟩ := ep
    rw [ob_of _ e5, ob_of _ (q_oR h5), xt_of _ (c_addFull h5 w3 _)]
    refine ⟨_, rfl, JOr_bad k4_is (by decide) h5 hR fun u hu => ?_⟩
    obtain ⟨s1, e1, h1⟩ := x_thr hu 0
    obtain ⟨s2, e2, h2⟩ := x_fail h1 2
    unfold fX5_split
    rw [ob_of _ e1, if_pos rfl, ob_of _ (m_oR h1), ob_of _ (m_isSlab_t h1 hp hs), if_neg n10, ob_of _ (m_oR h1), ob_of _ (m_sl (q := 0) (k := 0) h1 hpe rfl (by omega) (by omega)), ← r1 0 (by omega), ob_of _ (isIn_t w1 w2'), if_neg n10, ob_of _ (m_ns h1), if_pos (show nI ns = 8 by rw [w3]; rfl), ob_of _ (m_oR h1), ob_of _ e2]
    exact ⟨_, _, rfl, h2⟩
  obtain ⟨s5, e5, h5, s9, e9, ad', s10, hA20, e10, e11, h11⟩ := c_split0 (m := m) h hb (by omega) hx hi
  rw [ob_of _ e5, ob_of _ (q_oR h5), xb_of _ e9, ob_of _ e10, ob_of _ e11]
  rw [← MQT_same hA20] at h11
  refine ⟨_, rfl, ?_⟩
  rw [← hA20 0 (by decide), ← hA20 10 (by decide), ← hA20 11 (by decide)]
  refine JOr_good h11 rfl rfl rfl fun u l' hu => ?_
  obtain ⟨s1, f1, h1⟩ := x_thr hu 0
  have g3 := l_cp h1 (c0 := 13) (c1 := 13) m_c13 m_c13 (sp := 5 * nI i) (dp := 5 * nI ns) (n := 5) (5 * i) (5 * ns) 5 (nI_mul 5 i) (nI_mul 5 ns) rfl (by omega) (by omega) (by omega) (by omega)
  have h2 := x_13 _ (h1.set (c := 13) m_c13 (ARR 40 (va_cpy mS mS (5 * i) (5 * ns) 5)))
  generalize setN s1 (ad' 13) _ = s2 at g3 h2
  have ci : va_cpy mS mS (5 * i) (5 * ns) 5 (5 * i + 0) = mS (5 * i + 0) := if_neg (by omega)
  obtain ⟨s3, f3, h3⟩ := x_sl h2 (p := nI ns) (i := ns) (q := 0) (k := 0) rfl rfl (by omega) (by omega) (mS (5 * i + 0) - m)
  obtain ⟨s4, f4, h4⟩ := x_sl h3 hpe (q := 0) (k := 0) rfl (by omega) (by omega) m
  obtain ⟨s6, f6', h6⟩ := x_ns h4 (ns + 1) (nI_1 ns)
  rw [r1 0 (by omega)] at w2'
  unfold fX5_split
  subst hpe
  rw [ob_of _ f1, if_pos rfl, ob_of _ (m_oR h1), ob_of _ (m_isSlab_t h1 hp hs), if_neg n10, ob_of _ (m_oR h1), ob_of _ (m_sl (q := 0) (k := 0) h1 rfl rfl (by omega) (by omega)), ob_of _ (isIn_t w1 w2'), if_neg n10, ob_of _ (m_ns h1), if_neg (show ¬ nI ns = 8 from fun e => w3 ((nI_eq (b := 8) (by omega) (by omega)).mp e)), ob_of _ (m_r6 h1), ob_of _ (m_r6 h1), ob_of _ (m_ns h1), ob_of _ g3, ob_of _ (m_ns h2), ob_of _ (m_oR h2), ob_of _ (m_sl (q := 0) (k := 0) h2 rfl rfl (by omega) (by omega)), ci, ob_of _ (m_oR h2), ob_of _ f3, ob_of _ (m_oR h3), ob_of _ f4, ob_of _ (m_ns h4), ob_of _ f6', ob_of _ (m_ns h6), nI_pred]
  have em : (sS i 0 - m).toInt = (sS i 0).toInt - m.toInt := by
    rw [i_lt, e1i] at w1
    rw [i_lt] at w2
    rw [i_sub] <;> omega
  have hR1 : RELS nb (ns + 1) nx gB wB cB (va_up sS ns (upd (sS i) 0 (sS i 0 - m))) bX mB (upd (va_cpy mS mS (5 * i) (5 * ns) 5) (5 * ns + 0) (mS (5 * i + 0) - m)) mX := by
    refine hR.S ns (by omega) (fun j j1 j2 => by omega) (fun j hj => va_up_n _ _ hj) (fun j k hj hk => by rw [upd_n _ _ (by omega)]; exact if_neg (by omega)) ⟨fun k hk => ?_, ?_⟩
    · rw [va_up_s]
      by_cases k0 : k = 0
      · rw [k0, upd_s, upd_s, r1 0 (by omega)]
      · rw [upd_n _ _ k0, upd_n _ _ (by omega), r1 k hk]
        refine Eq.symm ((if_pos ⟨by omega, by omega⟩).trans ?_)
        congr 1
        omega
    · rw [va_up_s]
      rw [i_lt, e1i] at w1
      rw [i_lt] at w2
      exact ⟨by rw [upd_s, em]; omega, r3, r4, r5⟩
  refine ⟨_, rfl, _, _, _, _, _, _, _, h6, hR1.S i (by omega) (fun j j1 j2 => j1) (fun j hj => va_up_n _ _ hj) (fun j k hj hk => upd_n _ _ (by omega)) ⟨fun k hk => ?_, ?_⟩⟩
  · rw [va_up_s]
    by_cases k0 : k = 0
    · rw [k0, upd_s, upd_s]
    · rw [upd_n _ _ k0, upd_n _ _ (by omega), upd_n _ _ (by omega), r1 k hk]
      exact (if_neg (by omega)).symm
  · rw [va_up_s]
    rw [i_lt, e1i] at w1
    rw [i_lt] at w2
    exact ⟨by rw [upd_s]; omega, r3, r4, r5⟩
/-- the part behind, and the slab cut down -/
theorem c_split1 {i : Nat} {m : Int32} (h : NH st ad (CT ad day nb ns nx gB wB cB sS bX f6 f7 g8 g9 ((MQT ad l thr md pb ps px mB mS mX k15 k16 t17 t18)))) (hb : nb ≤ 5) (hs : ns < 8) (hx : nx ≤ 6) (hi : i < ns) : ∃ s5, fX3_partBehind st (ad (60 + i)) m 1 = some (some st.1, s5) ∧ NH s5 ad (CT ad day nb ns nx gB wB cB sS bX f6 f7 g8 g9 ((MQT ad l thr md pb ps px mB mS mX k15 k16 t17 t18))) ∧ ∃ s9, fX4_addSlab s5 (ad 0) (some st.1) = some (.inr (nI ns, s9)) ∧ ∃ ad' s10, (∀ c, c < 20 → ad' c = ad c) ∧ oR s9 (some (ad (60 + i))) 3 = some (ad (60 + i)) ∧ fX3_cutDownTo s9 (ad (60 + i)) m 1 = some s10 ∧ NH s10 ad' (CT (ad') day nb (ns + 1) nx gB wB cB (va_up (va_up sS ns (upd (sS i) 1 (sS i 1 - m))) i (upd (sS i) 1 m)) bX f6 f7 g8 g9 ((MQT ad l thr md pb ps px mB mS mX k15 k16 t17 t18))) := by
  obtain ⟨s1, n1, h1⟩ := h.mk (c := 60 + ns) (c_s0 (Nat.le_refl _)) (.inr (3, [DI 0, DI 0, DI 0, DI 0, DI 0]))
  unfold CT at h1
  rw [reg_u6] at h1
  have hA : ∀ c, c ≠ 60 + ns → va_up ad (60 + ns) st.1 c = ad c := fun c hc => va_up_n _ _ hc
  have a60 : va_up ad (60 + ns) st.1 (60 + ns) = st.1 := va_up_s _ _ _
  have look : ∀ {s : DSt} {e : DCel} (k : Nat) {v : Int32}, NH s (va_up ad (60 + ns) st.1) (reg (T0 ad day nb ns nx f6 f7 g8 g9) (MQT ad l thr md pb ps px mB mS mX k15 k16 t17 t18) (T2 ad nb gB wB) (T3 ad nb) (T4 nb cB) (T5 nx bX) (va_up (T6 ns sS) ns (some e))) → ([DI (sS i 2), DI (sS i 0), DI (sS i 1), DI (sS i 3), DI (sS i 4)] : List DV)[k]? = some (DI v) → gI s (some (ad (60 + i))) 3 k = some v := fun k v hh hv => by
    rw [← hA (60 + i) (by omega)]
    exact l_gI hh (reg_6.trans ((va_up_n _ _ (by omega)).trans (if_pos hi))) k hv
  obtain ⟨s2, e2, h2⟩ := pV_ex h1 (c := 60 + ns) (reg_6.trans (va_up_s _ _ _)) a60 1 (DI (sS i 0)) (by show 1 < 5; decide)
  rw [reg_u6, bx_uu] at h2
  obtain ⟨s3, e3, h3⟩ := pV_ex h2 (c := 60 + ns) (reg_6.trans (va_up_s _ _ _)) a60 2 (DI (sS i 1 - m)) (by show 2 < 5; decide)
  rw [reg_u6, bx_uu] at h3
  obtain ⟨s4, e4, h4⟩ := pV_ex h3 (c := 60 + ns) (reg_6.trans (va_up_s _ _ _)) a60 0 (DI (sS i 2)) (by show 0 < 5; decide)
  rw [reg_u6, bx_uu] at h4
  obtain ⟨s6, e6, h6⟩ := pV_ex h4 (c := 60 + ns) (reg_6.trans (va_up_s _ _ _)) a60 3 (DI (sS i 3)) (by show 3 < 5; decide)
  rw [reg_u6, bx_uu] at h6
  obtain ⟨s7, e7, h7⟩ := pV_ex h6 (c := 60 + ns) (reg_6.trans (va_up_s _ _ _)) a60 4 (DI (sS i 4)) (by show 4 < 5; decide)
  rw [reg_u6, bx_uu] at h7
  have ei : fX3_init s1 st.1 (sS i 0) (sS i 1 - m) (sS i 2) = some s4 := by
    unfold fX3_init
    rw [ob_of _ e2, ob_of _ e3, ob_of _ e4]
  have ep : fX3_partBehind st (ad (60 + i)) m 1 = some (some st.1, s7) := by
    unfold fX3_partBehind
    rw [if_neg n10, ob_of _ (congrArg some n1), ob_of _ (look 1 h1 rfl), ob_of _ (look 2 h1 rfl), ob_of _ (look 0 h1 rfl), ob_of _ ei, ob_of _ (look 3 h4 rfl), ob_of _ e6, ob_of _ (look 4 h6 rfl), ob_of _ e7]
  have h7 : NH s7 (va_up ad (60 + ns) st.1) (reg (T0 ad day nb ns nx f6 f7 g8 g9) (MQT ad l thr md pb ps px mB mS mX k15 k16 t17 t18) (T2 ad nb gB wB) (T3 ad nb) (T4 nb cB) (T5 nx bX) (va_up (T6 ns sS) ns (some (OS (upd (sS i) 1 (sS i 1 - m)))))) := h7
  obtain ⟨s9, e9, hA20, -, -, -, h9⟩ := c_addSlab h7 hb hs hx
  have e10 := w_s2 h9 (i := i) (by omega) m
  obtain ⟨s10, e10, h10⟩ := e10
  rw [va_up_n _ _ (show i ≠ ns by omega)] at h10
  rw [hA (60 + i) (by omega)] at e10
  refine ⟨s7, ep, c_noSlab h7, s9, e9, _, s10, hA20, ?_, ?_, h10⟩
  · rw [← hA (60 + i) (by omega)]
    exact q_so h9 (by omega)
  · unfold fX3_cutDownTo
    rw [if_neg n10, ob_of _ e10]
theorem op_split1 (h : NH st ad (CT ad day nb ns nx gB wB cB sS bX f6 f7 g8 g9 ((MQT ad l thr day nb ns nx mB mS mX k15 k16 t17 t18)))) (hR : RELS nb ns nx gB wB cB sS bX mB mS mX) (p m : Int32) : JO cd4 (ad 0) (ad 10) (ad 11) (fX4_split st (ad 0) p m 1) (fun u => fX5_split u (ad 11) p m 1) := by
  obtain ⟨hb, hs, hx, rB, rS, rX, rZ⟩ := id hR
  unfold fX4_split
  rw [ob_of _ (q_oR h)]
  rcases hp : ixO p ns with _ | i
  · rw [xt_of _ (c_slabAt_f h hp)]
    refine ⟨_, rfl, JOr_bad k4_io (by decide) h hR fun u hu => ?_⟩
    obtain ⟨s1, e1, h1⟩ := x_thr hu 0
    obtain ⟨s2, e2, h2⟩ := x_fail h1 1
    unfold fX5_split
    rw [ob_of _ e1, if_neg n10, ob_of _ (m_oR h1), ob_of _ (m_isSlab_f h1 hp hs), if_pos rfl, ob_of _ (m_oR h1), ob_of _ e2]
    exact ⟨_, _, rfl, h2⟩
  obtain ⟨hi, hpe⟩ := ixO_some hp
  obtain ⟨r1, r2, r3, r4, r5⟩ := id (rS i hi)
  rw [xb_of _ (c_slabAt_t h hp hs), if_neg n10, ob_of _ (q_s2 h hi)]
  have e1i : (1 : Int32).toInt = 1 := by decide
  have eq1 : (sS i 1 - 1).toInt = (sS i 1).toInt - 1 := by rw [i_sub] <;> rw [e1i] <;> omega
  have bad : ∀ u, (m < 1 ∨ ¬ m < sS i 1) → NH u ad (CT ad day nb ns nx gB wB cB sS bX f6 f7 g8 g9 ((MQT ad l thr day nb ns nx mB mS mX k15 k16 t17 t18))) → ∃ y s', fX5_split u (ad 11) p m 1 = some (y, s') ∧ NH s' ad (CT ad day nb ns nx gB wB cB sS bX f6 f7 g8 g9 ((MQT ad l (1) day nb ns nx mB mS mX k15 k16 t17 t18))) := fun u hw hu => by
    obtain ⟨s1, e1, h1⟩ := x_thr hu 0
    obtain ⟨s2, e2, h2⟩ := x_fail h1 1
    unfold fX5_split
    rw [ob_of _ e1, if_neg n10, ob_of _ (m_oR h1), ob_of _ (m_isSlab_t h1 hp hs), if_neg n10, ob_of _ (m_oR h1), ob_of _ (m_sl (q := 1) (k := 1) h1 hpe rfl (by omega) (by omega)), ← r1 1 (by omega), ob_of _ (isIn_f (hw.imp id fun q => by rw [i_lt, eq1]; rw [i_lt] at q; omega)), if_pos rfl, ob_of _ (m_oR h1), ob_of _ e2]
    exact ⟨_, _, rfl, h2⟩
  by_cases w1 : m < 1
  · rw [if_pos w1]
    exact ⟨_, rfl, JOr_bad k4_io (by decide) h hR fun u hu => bad u (Or.inl w1) hu⟩
  rw [if_neg w1]
  by_cases w2 : ¬ m < sS i 1
  · rw [if_neg w2]
    exact ⟨_, rfl, JOr_bad k4_io (by decide) h hR fun u hu => bad u (Or.inr w2) hu⟩
  have w2 := Decidable.not_not.mp w2
  rw [if_pos w2, ob_of _ (q_so h hi)]
  have w2' : ¬ sS i 1 - 1 < m := by
    rw [i_lt, eq1]
    rw [i_lt] at w2
    omega
  by_cases w3 : ns = 8
  · have ep : ∃ s5, fX3_partBehind st (ad (60 + i)) m 1 = some (some st.1, s5) ∧ NH s5 ad (CT ad day nb ns nx gB wB cB sS bX f6 f7 g8 g9 ((MQT ad l thr day nb ns nx mB mS mX k15 k16 t17 t18))) := by
      obtain ⟨s1, n1, h1⟩ := h.mk (c := 60 + ns) (c_s0 (Nat.le_refl _)) (.inr (3, [DI 0, DI 0, DI 0, DI 0, DI 0]))
      unfold CT at h1
      rw [reg_u6] at h1
      have hA : ∀ c, c ≠ 60 + ns → va_up ad (60 + ns) st.1 c = ad c := fun c hc => va_up_n _ _ hc
      have a60 : va_up ad (60 + ns) st.1 (60 + ns) = st.1 := va_up_s _ _ _
      have look : ∀ {s : DSt} {e : DCel} (k : Nat) {v : Int32}, NH s (va_up ad (60 + ns) st.1) (reg (T0 ad day nb ns nx f6 f7 g8 g9) (MQT ad l thr day nb ns nx mB mS mX k15 k16 t17 t18) (T2 ad nb gB wB) (T3 ad nb) (T4 nb cB) (T5 nx bX) (va_up (T6 ns sS) ns (some e))) → ([DI (sS i 2), DI (sS i 0), DI (sS i 1), DI (sS i 3), DI (sS i 4)] : List DV)[k]? = some (DI v) → gI s (some (ad (60 + i))) 3 k = some v := fun k v hh hv => by
        rw [← hA (60 + i) (by omega)]
        exact l_gI hh (reg_6.trans ((va_up_n _ _ (by omega)).trans (if_pos hi))) k hv
      obtain ⟨s2, e2, h2⟩ := pV_ex h1 (c := 60 + ns) (reg_6.trans (va_up_s _ _ _)) a60 1 (DI (sS i 0)) (by show 1 < 5; decide)
      rw [reg_u6, bx_uu] at h2
      obtain ⟨s3, e3, h3⟩ := pV_ex h2 (c := 60 + ns) (reg_6.trans (va_up_s _ _ _)) a60 2 (DI (sS i 1 - m)) (by show 2 < 5; decide)
      rw [reg_u6, bx_uu] at h3
      obtain ⟨s4, e4, h4⟩ := pV_ex h3 (c := 60 + ns) (reg_6.trans (va_up_s _ _ _)) a60 0 (DI (sS i 2)) (by show 0 < 5; decide)
      rw [reg_u6, bx_uu] at h4
      obtain ⟨s6, e6, h6⟩ := pV_ex h4 (c := 60 + ns) (reg_6.trans (va_up_s _ _ _)) a60 3 (DI (sS i 3)) (by show 3 < 5; decide)
      rw [reg_u6, bx_uu] at h6
      obtain ⟨s7, e7, h7⟩ := pV_ex h6 (c := 60 + ns) (reg_6.trans (va_up_s _ _ _)) a60 4 (DI (sS i 4)) (by show 4 < 5; decide)
      rw [reg_u6, bx_uu] at h7
      have ei : fX3_init s1 st.1 (sS i 0) (sS i 1 - m) (sS i 2) = some s4 := by
        unfold fX3_init
        rw [ob_of _ e2, ob_of _ e3, ob_of _ e4]
      refine ⟨s7, ?_, c_noSlab h7⟩
      unfold fX3_partBehind
      rw [if_neg n10, ob_of _ (congrArg some n1), ob_of _ (look 1 h1 rfl), ob_of _ (look 2 h1 rfl), ob_of _ (look 0 h1 rfl), ob_of _ ei, ob_of _ (look 3 h4 rfl), ob_of _ e6, ob_of _ (look 4 h6 rfl), ob_of _ e7]
    obtain ⟨s5, e5, h5⟩ := ep
    rw [ob_of _ e5, ob_of _ (q_oR h5), xt_of _ (c_addFull h5 w3 _)]
    refine ⟨_, rfl, JOr_bad k4_is (by decide) h5 hR fun u hu => ?_⟩
    obtain ⟨s1, e1, h1⟩ := x_thr hu 0
    obtain ⟨s2, e2, h2⟩ := x_fail h1 2
    unfold fX5_split
    rw [ob_of _ e1, if_neg n10, ob_of _ (m_oR h1), ob_of _ (m_isSlab_t h1 hp hs), if_neg n10, ob_of _ (m_oR h1), ob_of _ (m_sl (q := 1) (k := 1) h1 hpe rfl (by omega) (by omega)), ← r1 1 (by omega), ob_of _ (isIn_t w1 w2'), if_neg n10, ob_of _ (m_ns h1), if_pos (show nI ns = 8 by rw [w3]; rfl), ob_of _ (m_oR h1), ob_of _ e2]
    exact ⟨_, _, rfl, h2⟩
  obtain ⟨s5, e5, h5, s9, e9, ad', s10, hA20, e10, e11, h11⟩ := c_split1 (m := m) h hb (by omega) hx hi
  rw [ob_of _ e5, ob_of _ (q_oR h5), xb_of _ e9, ob_of _ e10, ob_of _ e11]
  rw [← MQT_same hA20] at h11
  refine ⟨_, rfl, ?_⟩
  rw [← hA20 0 (by decide), ← hA20 10 (by decide), ← hA20 11 (by decide)]
  refine JOr_good h11 rfl rfl rfl fun u l' hu => ?_
  obtain ⟨s1, f1, h1⟩ := x_thr hu 0
  have g3 := l_cp h1 (c0 := 13) (c1 := 13) m_c13 m_c13 (sp := 5 * nI i) (dp := 5 * nI ns) (n := 5) (5 * i) (5 * ns) 5 (nI_mul 5 i) (nI_mul 5 ns) rfl (by omega) (by omega) (by omega) (by omega)
  have h2 := x_13 _ (h1.set (c := 13) m_c13 (ARR 40 (va_cpy mS mS (5 * i) (5 * ns) 5)))
  generalize setN s1 (ad' 13) _ = s2 at g3 h2
  have ci : va_cpy mS mS (5 * i) (5 * ns) 5 (5 * i + 1) = mS (5 * i + 1) := if_neg (by omega)
  obtain ⟨s3, f3, h3⟩ := x_sl h2 (p := nI ns) (i := ns) (q := 1) (k := 1) rfl rfl (by omega) (by omega) (mS (5 * i + 1) - m)
  obtain ⟨s4, f4, h4⟩ := x_sl h3 hpe (q := 1) (k := 1) rfl (by omega) (by omega) m
  obtain ⟨s6, f6', h6⟩ := x_ns h4 (ns + 1) (nI_1 ns)
  rw [r1 1 (by omega)] at w2'
  unfold fX5_split
  subst hpe
  rw [ob_of _ f1, if_neg n10, ob_of _ (m_oR h1), ob_of _ (m_isSlab_t h1 hp hs), if_neg n10, ob_of _ (m_oR h1), ob_of _ (m_sl (q := 1) (k := 1) h1 rfl rfl (by omega) (by omega)), ob_of _ (isIn_t w1 w2'), if_neg n10, ob_of _ (m_ns h1), if_neg (show ¬ nI ns = 8 from fun e => w3 ((nI_eq (b := 8) (by omega) (by omega)).mp e)), ob_of _ (m_r6 h1), ob_of _ (m_r6 h1), ob_of _ (m_ns h1), ob_of _ g3, ob_of _ (m_ns h2), ob_of _ (m_oR h2), ob_of _ (m_sl (q := 1) (k := 1) h2 rfl rfl (by omega) (by omega)), ci, ob_of _ (m_oR h2), ob_of _ f3, ob_of _ (m_oR h3), ob_of _ f4, ob_of _ (m_ns h4), ob_of _ f6', ob_of _ (m_ns h6), nI_pred]
  have em : (sS i 1 - m).toInt = (sS i 1).toInt - m.toInt := by
    rw [i_lt, e1i] at w1
    rw [i_lt] at w2
    rw [i_sub] <;> omega
  have hR1 : RELS nb (ns + 1) nx gB wB cB (va_up sS ns (upd (sS i) 1 (sS i 1 - m))) bX mB (upd (va_cpy mS mS (5 * i) (5 * ns) 5) (5 * ns + 1) (mS (5 * i + 1) - m)) mX := by
    refine hR.S ns (by omega) (fun j j1 j2 => by omega) (fun j hj => va_up_n _ _ hj) (fun j k hj hk => by rw [upd_n _ _ (by omega)]; exact if_neg (by omega)) ⟨fun k hk => ?_, ?_⟩
    · rw [va_up_s]
      by_cases k0 : k = 1
      · rw [k0, upd_s, upd_s, r1 1 (by omega)]
      · rw [upd_n _ _ k0, upd_n _ _ (by omega), r1 k hk]
        refine Eq.symm ((if_pos ⟨by omega, by omega⟩).trans ?_)
        congr 1
        omega
    · rw [va_up_s]
      rw [i_lt, e1i] at w1
      rw [i_lt] at w2
      exact ⟨r2, by rw [upd_s, em]; omega, r4, r5⟩
  refine ⟨_, rfl, _, _, _, _, _, _, _, h6, hR1.S i (by omega) (fun j j1 j2 => j1) (fun j hj => va_up_n _ _ hj) (fun j k hj hk => upd_n _ _ (by omega)) ⟨fun k hk => ?_, ?_⟩⟩
  · rw [va_up_s]
    by_cases k0 : k = 1
    · rw [k0, upd_s, upd_s]
    · rw [upd_n _ _ k0, upd_n _ _ (by omega), upd_n _ _ (by omega), r1 k hk]
      exact (if_neg (by omega)).symm
  · rw [va_up_s]
    rw [i_lt, e1i] at w1
    rw [i_lt] at w2
    exact ⟨r2, by rw [upd_s]; omega, r4, r5⟩
end OPCAST
