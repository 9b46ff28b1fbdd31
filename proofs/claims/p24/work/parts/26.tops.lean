/-! THE CLASS'S CALLS, where nothing is refused -/
section TOPS
variable {st : DSt} {ad : Nat → Nat} {day : Int32} {nb ns nx : Nat} {gB wB : Nat → Int32} {cB sS bX : Nat → Nat → Int32} {f6 f7 g8 g9 : Nat → Int32} {Q : Nat → Option DCel} {i j : Nat} {p q : Int32}
theorem t_warm (h : NH st ad (CT ad day nb ns nx gB wB cB sS bX f6 f7 g8 g9 Q)) (hb : nb ≤ 5) (hp : ixO p nb = some i) (hB : BC (cB i)) {a : Int32} {n : Nat} (w1 : ¬ a < 15) (w2 : ¬ 50 < a) (n1 : 1 ≤ n) (n2 : n ≤ 40) : ∃ st', fX4_warm st (ad 0) p a (nI n) = some (.inr (temF (turN a (cB i) n), st')) ∧ NH st' ad (CT ad day nb ns nx gB (upd wB i a) (va_up cB i (turN a (cB i) n)) sS bX f6 f7 g8 g9 Q) := by
  obtain ⟨hi, hpe⟩ := ixO_some hp
  obtain ⟨s4, e4, h4⟩ := w_w h hi hb a
  obtain ⟨s5, e5, h5⟩ := s_keepAt a (n := n) (by omega) hB h4 (c_c hi hb) (c_a hi hb)
  have h5 := w_c _ h5 hi hb
  unfold fX4_warm
  rw [ob_of _ (q_oR h), xb_of _ (c_bowlAt_t h hp hb), xb_of _ (c_warming_t w1 w2 (show ¬ nI n < 1 by rw [i_lt, i_nI (by omega), show (1 : Int32).toInt = 1 by decide]; omega) (show ¬ 40 < nI n from nI_nlt (a := 40) (by omega) (by omega))), ob_of _ e4, ob_of _ (q_bc h4 hi hb), ob_of _ (q_co h4 hi hb), ob_of _ e5, ob_of _ (q_bc h5 hi hb), ob_of _ (q_co h5 hi hb), ob_of _ (s_temper h5 (c_c hi hb) (c_a hi hb)), va_up_s]
  exact ⟨_, rfl, h5⟩
theorem t_seed (h : NH st ad (CT ad day nb ns nx gB wB cB sS bX f6 f7 g8 g9 Q)) (hb : nb ≤ 5) (hp : ixO p nb = some i) (hB : BC (cB i)) {a : Int32} (w1 : ¬ a < 1) (w2 : a ≤ 30) : ∃ st', fX4_seed st (ad 0) p a = some (.inr (cB i 5 + jmin (100 - sumN (cB i) 5) a, st')) ∧ NH st' ad (CT ad day nb ns nx gB wB (va_up cB i (upd (cB i) 5 (cB i 5 + jmin (100 - sumN (cB i) 5) a))) sS bX f6 f7 g8 g9 Q) := by
  obtain ⟨hi, hpe⟩ := ixO_some hp
  obtain ⟨s5, e5, h5⟩ := s_increase h (c_c hi hb) (c_a hi hb) (s := 5) (by omega) a
  have i1 := w1
  have i2 := w2
  rw [i_lt, show (1 : Int32).toInt = 1 by decide] at i1
  rw [i_le, show (30 : Int32).toInt = 30 by decide] at i2
  obtain ⟨q1, q2, q3⟩ := hB.inc (s := 5) (m := a) (by omega) (by omega) (by omega) (by omega)
  rw [q1] at h5
  have h5 := w_c _ h5 hi hb
  have e5 : fX2_increase st (ad (30 + i)) 5 a = some s5 := e5
  unfold fX4_seed
  rw [ob_of _ (q_oR h), xb_of _ (c_bowlAt_t h hp hb), if_neg w1, if_pos w2, ob_of _ (q_bc h hi hb), ob_of _ (q_co h hi hb), ob_of _ e5, ob_of _ (q_bc h5 hi hb), ob_of _ (q_cr h5 hi hb), ob_of _ (q_ca (p := 5) (k := 5) h5 hi hb rfl (by omega)), va_up_s, upd_s]
  exact ⟨_, rfl, h5⟩
theorem t_pour (h : NH st ad (CT ad day nb ns nx gB wB cB sS bX f6 f7 g8 g9 Q)) (hb : nb ≤ 5) (hp : ixO p nb = some i) (hq : ixO q nb = some j) (c1 : ¬ p = q) (c2 : ¬ gB i + gB j = 0) (c3 : gB i + gB j ≤ 2000) (gi : 0 ≤ (gB i).toInt ∧ (gB i).toInt ≤ 2000) (gj : 0 ≤ (gB j).toInt ∧ (gB j).toInt ≤ 2000) : ∃ st', fX4_pour st (ad 0) p q = some (.inr (gB j + gB i, st')) ∧ NH st' ad (CT ad day nb ns nx (upd (upd gB j (gB j + gB i)) i 0) (upd wB j (mixV (wB j) (wB i) (gB j) (gB i))) (va_up (va_up cB j (likN (cB j) (fun m => mixV (cB j m) (cB i m) (gB j) (gB i)) 5)) i (likN (cB i) (fun _ => 0) 5)) sS bX f6 f7 g8 g9 Q) := by
  obtain ⟨hi, hpe⟩ := ixO_some hp
  obtain ⟨hj, hqe⟩ := ixO_some hq
  have hij : i ≠ j := fun e => c1 (by rw [hpe, hqe, e])
  have es : (gB i + gB j).toInt = (gB i).toInt + (gB j).toInt := i_add (by omega) (by omega)
  have e2000 : (2000 : Int32).toInt = 2000 := by decide
  have s1 : 0 < (gB i).toInt + (gB j).toInt := by
    have c2' := c2
    rw [i_eq, es, toInt_0] at c2'
    omega
  have es' : (gB j + gB i).toInt = (gB j).toInt + (gB i).toInt := i_add (by omega) (by omega)
  obtain ⟨s3, e3, h3⟩ := c_takeIn h hi hj hij hb (by rw [i_lt, es', toInt_0]; omega)
  unfold fX4_pour
  rw [ob_of _ (q_oR h), xb_of _ (c_bowlAt_t h hp hb), ob_of _ (q_oR h), xb_of _ (c_bowlAt_t h hq hb), ob_of _ (q_bg h hi hb), ob_of _ (q_bg h hj hb), if_neg c1, if_neg c2, if_pos c3, ob_of _ (q_bo h hj hb), ob_of _ e3, ob_of _ (q_bg h3 hj hb), upd_n _ _ (Ne.symm hij), upd_s]
  exact ⟨_, rfl, h3⟩
theorem t_polish (h : NH st ad (CT ad day nb ns nx gB wB cB sS bX f6 f7 g8 g9 Q)) (hs : ns ≤ 8) (hp : ixO p ns = some i) : ∃ st', fX4_polish st (ad 0) p = some (.inr (jmax 0 (sS i 3 - 15), st')) ∧ NH st' ad (CT ad day nb ns nx gB wB cB (va_up sS i (upd (sS i) 3 (jmax 0 (sS i 3 - 15)))) bX f6 f7 g8 g9 Q) := by
  obtain ⟨hi, hpe⟩ := ixO_some hp
  obtain ⟨s5, e5, h5⟩ := w_s3 h hi (jmax 0 (sS i 3 - 15))
  have eb : fX3_bloomBehindPolish st (ad (60 + i)) = some (jmax 0 (sS i 3 - 15)) := by
    unfold fX3_bloomBehindPolish
    rw [ob_of _ (q_s3 h hi)]
  unfold fX4_polish
  rw [ob_of _ (q_oR h), xb_of _ (c_slabAt_t h hp hs), ob_of _ (q_so h hi), ob_of _ eb, ob_of _ e5, ob_of _ (q_s3 h5 hi), va_up_s, upd_s]
  exact ⟨_, rfl, h5⟩
theorem t_pass (h : NH st ad (CT ad day nb ns nx gB wB cB sS bX f6 f7 g8 g9 Q)) (hs : ns ≤ 8) {a n : Int32} (a1 : ¬ a < 10) (a2 : ¬ 40 < a) (n1 : ¬ n < 1) (n2 : n ≤ 60) : ∃ st', fX4_pass st (ad 0) a n = some (.inr (foldN (cntB (agC a n sS ns 8)) ns 0, st')) ∧ NH st' ad (CT ad (day + n) nb ns nx gB wB cB (agC a n sS ns 8) bX f6 f7 g8 g9 Q) := by
  obtain ⟨b, e1, h1⟩ := c_passL a n h hs
  obtain ⟨s2, e2, h2⟩ := w_day h1 (day + n)
  unfold fX4_pass
  rw [xb_of _ (c_room_t a1 a2), if_neg n1, if_pos n2, ob_of _ (q_rs h), ob_of _ (q_aNs h), ob_of _ e1, ob_of _ (q_day h1), ob_of _ e2, ob_of _ (q_oR h2), ob_of _ (c_bloomed h2 hs)]
  exact ⟨_, rfl, h2⟩
theorem t_cast (h : NH st ad (CT ad day nb ns nx gB wB cB sS bX f6 f7 g8 g9 Q)) (hb : nb ≤ 5) (hs : ns < 8) (hx : nx ≤ 6) (hp : ixO p nb = some i) {a b : Int32} (w1 : ¬ a < 1) (w2 : ¬ 6 < a) (w3 : ¬ b < 1) (w4 : b ≤ 6) (w5 : a * b * 10 ≤ gB i) : ∃ st' ad', fX4_cast st (ad 0) p a b = some (.inr (nI ns, st')) ∧ (∀ c, c < 20 ∨ 100 ≤ c → ad' c = ad c) ∧ NH st' ad' (CT (ad') day nb (ns + 1) nx (upd gB i (gB i - a * b * 10)) wB cB (va_up sS ns (fun k => if k = 0 then a else if k = 1 then b else if k = 2 then temF (cB i) else 0)) bX f6 f7 g8 g9 Q) := by
  obtain ⟨hi, hpe⟩ := ixO_some hp
  obtain ⟨s3, n3, h3⟩ := h.mk (c := 60 + ns) (c_s0 (Nat.le_refl _) (by omega)) (.inr (3, [DI 0, DI 0, DI 0, DI 0, DI 0]))
  unfold CT at h3
  rw [reg_u6] at h3
  have hA : ∀ c, c ≠ 60 + ns → va_up ad (60 + ns) st.1 c = ad c := fun c hc => va_up_n _ _ hc
  have a60 : va_up ad (60 + ns) st.1 (60 + ns) = st.1 := va_up_s _ _ _
  have g4 : gR s3 (some (ad (20 + i))) 0 0 = some (some (ad (30 + i))) := by
    rw [← hA (20 + i) (by omega)]
    exact l_gR h3 ((reg_2 (by omega)).trans (if_pos hi)) 0 rfl
  have g5 : oR s3 (some (ad (30 + i))) 2 = some (ad (30 + i)) := by
    rw [← hA (30 + i) (by omega)]
    exact l_oR h3 ((reg_3 (by omega)).trans (if_pos hi))
  have g6 : fX2_temper s3 (ad (30 + i)) = some (temF (cB i)) := by
    rw [← hA (30 + i) (by omega)]
    exact s_temper h3 (a := 40 + i) (by rw [hA (40 + i) (by omega)]; exact (reg_3 (by omega)).trans (if_pos hi)) ((reg_4 (by omega)).trans (if_pos hi))
  obtain ⟨s4, e4, h4⟩ := pV_ex h3 (c := 60 + ns) (reg_6.trans (va_up_s _ _ _)) a60 1 (DI a) (by show 1 < 5; decide)
  rw [reg_u6, bx_uu] at h4
  obtain ⟨s5, e5, h5⟩ := pV_ex h4 (c := 60 + ns) (reg_6.trans (va_up_s _ _ _)) a60 2 (DI b) (by show 2 < 5; decide)
  rw [reg_u6, bx_uu] at h5
  obtain ⟨s7, e7, h7⟩ := pV_ex h5 (c := 60 + ns) (reg_6.trans (va_up_s _ _ _)) a60 0 (DI (temF (cB i))) (by show 0 < 5; decide)
  rw [reg_u6, bx_uu] at h7
  have ei : fX3_init s3 st.1 a b (temF (cB i)) = some s7 := by
    unfold fX3_init
    rw [ob_of _ e4, ob_of _ e5, ob_of _ e7]
  have gg8 : gI s7 (some (ad (20 + i))) 0 1 = some (gB i) := by
    rw [← hA (20 + i) (by omega)]
    exact l_gI h7 ((reg_2 (by omega)).trans (if_pos hi)) 1 rfl
  have g9' : oR s7 (some st.1) 3 = some st.1 := by
    rw [← a60]
    exact l_oR h7 (c := 60 + ns) (reg_6.trans (va_up_s _ _ _))
  have g1 : gI s7 (some st.1) 3 1 = some a := by
    rw [← a60]
    exact l_gI h7 (c := 60 + ns) (reg_6.trans (va_up_s _ _ _)) 1 rfl
  have g2 : gI s7 (some st.1) 3 2 = some b := by
    rw [← a60]
    exact l_gI h7 (c := 60 + ns) (reg_6.trans (va_up_s _ _ _)) 2 rfl
  have g10 : fX3_grams s7 st.1 = some (a * b * 10) := by
    unfold fX3_grams fX3_squares
    rw [ob_of _ g9', ob_of _ g1, ob_of _ g2]
    rfl
  have h7 : NH s7 (va_up ad (60 + ns) st.1) (reg (T0 ad day nb ns nx f6 f7 g8 g9) Q (T2 ad nb gB wB) (T3 ad nb) (T4 nb cB) (T5 nx bX) (va_up (T6 ns sS Q) ns (some (OS (fun k => if k = 0 then a else if k = 1 then b else if k = 2 then temF (cB i) else 0))))) := h7
  obtain ⟨s9, e9, hA20, -, -, -, h9⟩ := c_addSlab h7 hb (by omega) hx
  have g0 : oR s7 (some (ad 0)) 4 = some (ad 0) := q_oR (c_noSlab h7 (by omega))
  have g13 : gI s9 (some (ad (20 + i))) 0 1 = some (gB i) := by
    rw [← hA (20 + i) (by omega)]
    exact q_bg h9 hi hb
  have g14 : oR s9 (some st.1) 3 = some st.1 := by
    rw [← a60]
    exact q_so h9 (by omega)
  have g15 : fX3_grams s9 st.1 = some (a * b * 10) := by
    have q := q_sg h9 (i := ns) (by omega)
    rw [a60, va_up_s] at q
    exact q
  obtain ⟨s10, e10, h10⟩ := w_g h9 hi hb (gB i - a * b * 10)
  rw [hA (20 + i) (by omega)] at e10
  refine ⟨s10, _, ?_, hA20, h10⟩
  unfold fX4_cast
  rw [ob_of _ (q_oR h), xb_of _ (c_bowlAt_t h hp hb), if_neg w1, if_neg w2, if_neg w3, if_pos w4, ob_of _ (congrArg some n3), ob_of _ g4, ob_of _ g5, ob_of _ g6, ob_of _ ei, ob_of _ gg8, ob_of _ g9', ob_of _ g10, if_pos w5, ob_of _ g0, xb_of _ e9, ob_of _ g13, ob_of _ g14, ob_of _ g15, ob_of _ e10]
theorem t_split0 {m : Int32} (h : NH st ad (CT ad day nb ns nx gB wB cB sS bX f6 f7 g8 g9 Q)) (hb : nb ≤ 5) (hs : ns < 8) (hx : nx ≤ 6) (hp : ixO p ns = some i) (w1 : ¬ m < 1) (w2 : m < sS i 0) : ∃ st' ad', fX4_split st (ad 0) p m 0 = some (.inr (nI ns, st')) ∧ (∀ c, c < 20 ∨ 100 ≤ c → ad' c = ad c) ∧ NH st' ad' (CT (ad') day nb (ns + 1) nx gB wB cB (va_up (va_up sS ns (upd (sS i) 0 (sS i 0 - m))) i (upd (sS i) 0 m)) bX f6 f7 g8 g9 Q) := by
  obtain ⟨hi, hpe⟩ := ixO_some hp
  obtain ⟨s5, e5, h5, s9, e9, ad', s10, hA20, e10, e11, h11⟩ := c_split0 (m := m) h hb hs hx hi
  refine ⟨s10, ad', ?_, hA20, h11⟩
  unfold fX4_split
  rw [ob_of _ (q_oR h), xb_of _ (c_slabAt_t h hp (by omega)), if_pos rfl, ob_of _ (q_s1 h hi), if_neg w1, if_pos w2, ob_of _ (q_so h hi), ob_of _ e5, ob_of _ (q_oR h5), xb_of _ e9, ob_of _ e10, ob_of _ e11]
theorem t_split1 {m : Int32} (h : NH st ad (CT ad day nb ns nx gB wB cB sS bX f6 f7 g8 g9 Q)) (hb : nb ≤ 5) (hs : ns < 8) (hx : nx ≤ 6) (hp : ixO p ns = some i) (w1 : ¬ m < 1) (w2 : m < sS i 1) : ∃ st' ad', fX4_split st (ad 0) p m 1 = some (.inr (nI ns, st')) ∧ (∀ c, c < 20 ∨ 100 ≤ c → ad' c = ad c) ∧ NH st' ad' (CT (ad') day nb (ns + 1) nx gB wB cB (va_up (va_up sS ns (upd (sS i) 1 (sS i 1 - m))) i (upd (sS i) 1 m)) bX f6 f7 g8 g9 Q) := by
  obtain ⟨hi, hpe⟩ := ixO_some hp
  obtain ⟨s5, e5, h5, s9, e9, ad', s10, hA20, e10, e11, h11⟩ := c_split1 (m := m) h hb hs hx hi
  refine ⟨s10, ad', ?_, hA20, h11⟩
  unfold fX4_split
  rw [ob_of _ (q_oR h), xb_of _ (c_slabAt_t h hp (by omega)), if_neg n10, ob_of _ (q_s2 h hi), if_neg w1, if_pos w2, ob_of _ (q_so h hi), ob_of _ e5, ob_of _ (q_oR h5), xb_of _ e9, ob_of _ e10, ob_of _ e11]
theorem t_melt (h : NH st ad (CT ad day nb ns nx gB wB cB sS bX f6 f7 g8 g9 Q)) (hb : nb ≤ 5) (hs : ns ≤ 8) (hx : nx ≤ 6) (hp : ixO p ns = some i) (hq : ixO q nb = some j) (w : gB j + sS i 0 * sS i 1 * 10 ≤ 2000) : ∃ st', fX4_melt st (ad 0) p q = some (.inr (gB j + sS i 0 * sS i 1 * 10, st')) ∧ NH st' (rnA ad (fun t => if t < i then t else t + 1)) (CT (rnA ad (fun t => if t < i then t else t + 1)) day nb (ns - 1) nx (upd gB j (gB j + sS i 0 * sS i 1 * 10)) wB cB (fun t => sS (if t < i then t else t + 1)) bX f6 f7 g8 g9 Q) := by
  obtain ⟨hi, hpe⟩ := ixO_some hp
  obtain ⟨hj, hqe⟩ := ixO_some hq
  obtain ⟨s9, e9, h9⟩ := w_g h hj hb (gB j + sS i 0 * sS i 1 * 10)
  have h9' : NH s9 ad (va_up (CT ad day nb ns nx (upd gB j (gB j + sS i 0 * sS i 1 * 10)) wB cB sS bX f6 f7 g8 g9 Q) 2 (some (ARO 3 8 (nR ad 60 ns)))) := h9.start (a := 2) rfl
  obtain ⟨s11, e11, h11⟩ := y_sRs h9' hpe (by omega) (v := none) (Or.inl rfl)
  have hN0 : EN (fun _ => false) ns ns (fun t => t) := ⟨Nat.le_refl _, fun t ht => ⟨ht, rfl⟩, fun t t' h _ => h, fun j hj _ => ⟨j, hj, rfl⟩⟩
  have hN := (hN0.drop hi).1
  obtain ⟨s13, e13, h13⟩ := c_close h11 hb hs hx hN (fun j => by
    by_cases z : j = i
    · rw [z, va_up_s, if_neg (fun y => by rw [va_up_s] at y; cases y.2)]
    · rw [va_up_n _ _ z]
      unfold nR
      by_cases z2 : j < ns
      · rw [if_pos z2, if_pos ⟨z2, va_up_n _ _ z⟩]
      · rw [if_neg z2, if_neg (fun y => z2 y.1)])
  have g14 : gI s13 (some (ad (20 + j))) 0 1 = some (gB j + sS i 0 * sS i 1 * 10) := by
    have q := q_bg h13 hj hb
    rw [upd_s, rnA_lt (by omega)] at q
    exact q
  refine ⟨s13, ?_, h13⟩
  unfold fX4_melt
  rw [ob_of _ (q_oR h), xb_of _ (c_slabAt_t h hp hs), ob_of _ (q_so h hi), ob_of _ (q_sg h hi), ob_of _ (q_oR h), xb_of _ (c_bowlAt_t h hq hb), ob_of _ (q_bg h hj hb), if_pos w, ob_of _ (q_bg h hj hb), ob_of _ e9, ob_of _ (q_rs h9), ob_of _ e11, ob_of _ (y_oR h11), ob_of _ e13, ob_of _ g14]
end TOPS
