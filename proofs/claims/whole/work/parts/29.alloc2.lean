/-! BOWL, BOX, CAST, SPLIT ON BOTH SIDES -/
theorem nI_mul (a b : Nat) : nI a * nI b = nI (a * b) := (Int32.ofNat_mul a b).symm
theorem sI_ex {st : DSt} {ad : Nat → Nat} {ct : Nat → Option DCel} {c a kd n : Nat} {f : Nat → Int32} (h : NH st ad ct) (hc : ct c = some (.inl (kd, (n, .inl f)))) (ha : ad c = a) {i : Int32} (k : Nat) (hi : i = nI k) (hk : k < n) (hn : n < 2 ^ 31) (x : Int32) : ∃ s', sI st (some a) kd i x = some s' ∧ NH s' ad (va_up ct c (some (.inl (kd, (n, .inl (upd f k x)))))) := by
  subst ha
  exact ⟨_, l_sI h hc k hi hk hn x, h.set hc _⟩
def putN (mS : Nat → Int32) (i : Nat) (a b c d e : Int32) : Nat → Int32 := upd (upd (upd (upd (upd mS (5 * i + 0) a) (5 * i + 1) b) (5 * i + 2) c) (5 * i + 3) d) (5 * i + 4) e
section MALLOC
variable {st : DSt} {ad : Nat → Nat} {l : Nat → Int64} {thr day : Int32} {nb ns nx : Nat} {mB mS mX k15 k16 t17 t18 : Nat → Int32} {r0 r2 r3 r4 r5 r6 : Nat → Option DCel} {i : Nat} {p : Int32}
theorem x_put (h : NH st ad (MT ad l thr day nb ns nx mB mS mX k15 k16 t17 t18 r0 r2 r3 r4 r5 r6)) (hp : p = nI i) (hi : i < 8) (a b c d e : Int32) : ∃ st', fX5_put st (ad 11) p a b c d e = some st' ∧ NH st' ad (MT ad l thr day nb ns nx mB (putN mS i a b c d e) mX k15 k16 t17 t18 r0 r2 r3 r4 r5 r6) := by
  obtain ⟨s1, e1, h1⟩ := x_sl h hp (q := 0) (k := 0) rfl hi (by omega) a
  obtain ⟨s2, e2, h2⟩ := x_sl h1 hp (q := 1) (k := 1) rfl hi (by omega) b
  obtain ⟨s3, e3, h3⟩ := x_sl h2 hp (q := 2) (k := 2) rfl hi (by omega) c
  obtain ⟨s4, e4, h4⟩ := x_sl h3 hp (q := 3) (k := 3) rfl hi (by omega) d
  obtain ⟨s5, e5, h5⟩ := x_sl h4 hp (q := 4) (k := 4) rfl hi (by omega) e
  unfold fX5_put
  rw [ob_of _ (m_oR h), ob_of _ e1, ob_of _ (m_oR h1), ob_of _ e2, ob_of _ (m_oR h2), ob_of _ e3, ob_of _ (m_oR h3), ob_of _ e4, ob_of _ (m_oR h4), ob_of _ e5]
  exact ⟨_, rfl, h5⟩
theorem putN_i {mS : Nat → Int32} {i : Nat} {a b c d e : Int32} {k : Nat} (hk : k < 5) : putN mS i a b c d e (5 * i + k) = if k = 0 then a else if k = 1 then b else if k = 2 then c else if k = 3 then d else e := by
  unfold putN
  rcases (show k = 0 ∨ k = 1 ∨ k = 2 ∨ k = 3 ∨ k = 4 by omega) with rfl | rfl | rfl | rfl | rfl
  · rw [upd_n _ _ (by omega), upd_n _ _ (by omega), upd_n _ _ (by omega), upd_n _ _ (by omega), upd_s]; rfl
  · rw [upd_n _ _ (by omega), upd_n _ _ (by omega), upd_n _ _ (by omega), upd_s]; rfl
  · rw [upd_n _ _ (by omega), upd_n _ _ (by omega), upd_s]; rfl
  · rw [upd_n _ _ (by omega), upd_s]; rfl
  · rw [upd_s]; rfl
theorem putN_o {mS : Nat → Int32} {i : Nat} {a b c d e : Int32} {j k : Nat} (hj : j ≠ i) (hk : k < 5) : putN mS i a b c d e (5 * j + k) = mS (5 * j + k) := by
  unfold putN
  rw [upd_n _ _ (by omega), upd_n _ _ (by omega), upd_n _ _ (by omega), upd_n _ _ (by omega), upd_n _ _ (by omega)]
end MALLOC
section OPALLOC
variable {st : DSt} {ad : Nat → Nat} {day : Int32} {nb ns nx : Nat} {gB wB : Nat → Int32} {cB sS bX : Nat → Nat → Int32} {f6 f7 g8 g9 : Nat → Int32} {Q : Nat → Option DCel} {l : Nat → Int64} {thr md : Int32} {pb ps px : Nat} {mB mS mX k15 k16 t17 t18 : Nat → Int32}
theorem op_bowl (h : NH st ad (CT ad day nb ns nx gB wB cB sS bX f6 f7 g8 g9 ((MQT ad l thr day nb ns nx mB mS mX k15 k16 t17 t18)))) (hR : RELS nb ns nx gB wB cB sS bX mB mS mX) (g : Int32) : JO cd0 (ad 0) (ad 10) (ad 11) (fX4_bowl st (ad 0) g) (fun u => fX5_bowl u (ad 11) g) := by
  obtain ⟨hb, hs, hx, rB, rS, rX, rZ⟩ := id hR
  have bad : ∀ u, (g < 0 ∨ 2000 < g) → NH u ad (CT ad day nb ns nx gB wB cB sS bX f6 f7 g8 g9 ((MQT ad l thr day nb ns nx mB mS mX k15 k16 t17 t18))) → ∃ y s', fX5_bowl u (ad 11) g = some (y, s') ∧ NH s' ad (CT ad day nb ns nx gB wB cB sS bX f6 f7 g8 g9 ((MQT ad l (1) day nb ns nx mB mS mX k15 k16 t17 t18))) := fun u hw hu => by
    obtain ⟨s1, e1, h1⟩ := x_thr hu 0
    obtain ⟨s2, e2, h2⟩ := x_fail h1 1
    unfold fX5_bowl
    rw [ob_of _ e1, ob_of _ (isIn_f hw), if_pos rfl, ob_of _ (m_oR h1), ob_of _ e2]
    exact ⟨_, _, rfl, h2⟩
  by_cases w1 : g < 0
  · have e : fX4_bowl st (ad 0) g = some (.inl ("java/lang/IllegalArgumentException", st.2)) := if_pos w1
    exact ⟨_, e, JOr_bad k0_ia (by decide) h hR fun u hu => bad u (Or.inl w1) hu⟩
  by_cases w2 : g ≤ 2000
  · by_cases w3 : nb = 5
    · have e : fX4_bowl st (ad 0) g = some (.inl ("java/lang/IllegalStateException", st.2)) := by
        unfold fX4_bowl
        rw [if_neg w1, if_pos w2, ob_of _ (q_nb h), if_neg (show ¬ nI nb < 5 by rw [w3]; decide)]
      refine ⟨_, e, JOr_bad k0_is (by decide) h hR fun u hu => ?_⟩
      obtain ⟨s1, e1, h1⟩ := x_thr hu 0
      obtain ⟨s2, e2, h2⟩ := x_fail h1 2
      unfold fX5_bowl
      rw [ob_of _ e1, ob_of _ (isIn_t w1 (Int32.not_lt.mpr w2)), if_neg n10, ob_of _ (m_nb h1), if_pos (show nI nb = 5 by rw [w3]; rfl), ob_of _ (m_oR h1), ob_of _ e2]
      exact ⟨_, _, rfl, h2⟩
    · obtain ⟨s9, ad', e9, hA, h9⟩ := c_newBowl h (by omega) hs hx w1 w2
      rw [← MQT_same hA] at h9
      refine ⟨_, e9, ?_⟩
      rw [← hA 0 (by decide), ← hA 10 (by decide), ← hA 11 (by decide)]
      refine JOr_good h9 rfl rfl rfl fun u l' hu => ?_
      obtain ⟨s1, e1, h1⟩ := x_thr hu 0
      obtain ⟨s2, e2, h2⟩ := x_bo h1 (p := nI nb) (i := nb) (q := 0) (k := 0) rfl rfl (by omega) (by omega) g
      obtain ⟨s3, e3, h3⟩ := x_bo h2 (p := nI nb) (i := nb) (q := 6) (k := 6) rfl rfl (by omega) (by omega) 20
      obtain ⟨s4, e4, h4⟩ := x_nb h3 (nb + 1) (nI_1 nb)
      unfold fX5_bowl
      rw [ob_of _ e1, ob_of _ (isIn_t w1 (Int32.not_lt.mpr w2)), if_neg n10, ob_of _ (m_nb h1), if_neg (show ¬ nI nb = 5 from fun e => w3 ((nI_eq (b := 5) (by omega) (by omega)).mp e)), ob_of _ (m_nb h1), ob_of _ (m_oR h1), ob_of _ e2, ob_of _ (m_nb h2), ob_of _ (m_oR h2), ob_of _ e3, ob_of _ (m_nb h3), ob_of _ e4, ob_of _ (m_nb h4), nI_pred]
      refine ⟨_, rfl, _, _, _, _, _, _, _, h4, hR.B nb (by omega) (fun j hj => ⟨by omega, by omega⟩) (fun j j1 j2 => by omega) (fun j hj => upd_n _ _ hj) (fun j hj => upd_n _ _ hj) (fun j hj => va_up_n _ _ hj) (fun j k hj hk => by rw [upd_n _ _ (by omega), upd_n _ _ (by omega)]) ⟨?_, ?_, fun k k1 k2 => ?_, ?_, ?_, ?_⟩⟩
      · rw [upd_s, upd_n _ _ (by omega)]
        exact (upd_s _ _ _).symm
      · rw [upd_s, upd_s]
      · rw [va_up_s]
        show 0 = upd _ _ _ (7 * nb + k)
        rw [upd_n _ _ (by omega), upd_n _ _ (by omega), rZ nb (Nat.le_refl _) (by omega) k k1 k2]
      · rw [va_up_s]
        exact BC.of (by decide) (by decide) (by decide) (by decide) (by decide) (by decide)
      · rw [upd_s]
        rw [i_lt, toInt_0] at w1
        omega
      · rw [upd_s]
        rw [i_le, show (2000 : Int32).toInt = 2000 by decide] at w2
        omega
  · have e : fX4_bowl st (ad 0) g = some (.inl ("java/lang/IllegalArgumentException", st.2)) := (if_neg w1).trans (if_neg w2)
    exact ⟨_, e, JOr_bad k0_ia (by decide) h hR fun u hu => bad u (Or.inr (Int32.not_le.mp w2)) hu⟩
theorem op_box (h : NH st ad (CT ad day nb ns nx gB wB cB sS bX f6 f7 g8 g9 ((MQT ad l thr day nb ns nx mB mS mX k15 k16 t17 t18)))) (hR : RELS nb ns nx gB wB cB sS bX mB mS mX) (a b : Int32) : JO cd0 (ad 0) (ad 10) (ad 11) (fX4_box st (ad 0) a b) (fun u => fX5_box u (ad 11) a b) := by
  obtain ⟨hb, hs, hx, rB, rS, rX, rZ⟩ := id hR
  have bad : ∀ u, ((a < 1 ∨ 36 < a) ∨ (b < 0 ∨ 100 < b)) → NH u ad (CT ad day nb ns nx gB wB cB sS bX f6 f7 g8 g9 ((MQT ad l thr day nb ns nx mB mS mX k15 k16 t17 t18))) → ∃ y s', fX5_box u (ad 11) a b = some (y, s') ∧ NH s' ad (CT ad day nb ns nx gB wB cB sS bX f6 f7 g8 g9 ((MQT ad l (1) day nb ns nx mB mS mX k15 k16 t17 t18))) := fun u hw hu => by
    obtain ⟨s1, e1, h1⟩ := x_thr hu 0
    obtain ⟨s2, e2, h2⟩ := x_fail h1 1
    unfold fX5_box
    by_cases h0 : a < 1 ∨ 36 < a
    · rw [ob_of _ e1, ob_of _ (isIn_f h0), if_pos rfl, ob_of _ (m_oR h1), ob_of _ e2]
      exact ⟨_, _, rfl, h2⟩
    · have h0' := not_or.mp h0
      rw [ob_of _ e1, ob_of _ (isIn_t h0'.1 h0'.2), if_neg n10, ob_of _ (isIn_f (hw.resolve_left h0)), if_pos rfl, ob_of _ (m_oR h1), ob_of _ e2]
      exact ⟨_, _, rfl, h2⟩
  by_cases w1 : a < 1
  · have e : fX4_box st (ad 0) a b = some (.inl ("java/lang/IllegalArgumentException", st.2)) := if_pos w1
    exact ⟨_, e, JOr_bad k0_ia (by decide) h hR fun u hu => bad u (Or.inl (Or.inl w1)) hu⟩
  by_cases w2 : 36 < a
  · have e : fX4_box st (ad 0) a b = some (.inl ("java/lang/IllegalArgumentException", st.2)) := (if_neg w1).trans (if_pos w2)
    exact ⟨_, e, JOr_bad k0_ia (by decide) h hR fun u hu => bad u (Or.inl (Or.inr w2)) hu⟩
  by_cases w3 : b < 0
  · have e : fX4_box st (ad 0) a b = some (.inl ("java/lang/IllegalArgumentException", st.2)) := (if_neg w1).trans ((if_neg w2).trans (if_pos w3))
    exact ⟨_, e, JOr_bad k0_ia (by decide) h hR fun u hu => bad u (Or.inr (Or.inl w3)) hu⟩
  by_cases w4 : b ≤ 100
  · by_cases w5 : nx = 6
    · have e : fX4_box st (ad 0) a b = some (.inl ("java/lang/IllegalStateException", st.2)) := by
        unfold fX4_box
        rw [if_neg w1, if_neg w2, if_neg w3, if_pos w4, ob_of _ (q_nx h), if_neg (show ¬ nI nx < 6 by rw [w5]; decide)]
      refine ⟨_, e, JOr_bad k0_is (by decide) h hR fun u hu => ?_⟩
      obtain ⟨s1, e1, h1⟩ := x_thr hu 0
      obtain ⟨s2, e2, h2⟩ := x_fail h1 2
      unfold fX5_box
      rw [ob_of _ e1, ob_of _ (isIn_t w1 w2), if_neg n10, ob_of _ (isIn_t w3 (Int32.not_lt.mpr w4)), if_neg n10, ob_of _ (m_nx h1), if_pos (show nI nx = 6 by rw [w5]; rfl), ob_of _ (m_oR h1), ob_of _ e2]
      exact ⟨_, _, rfl, h2⟩
    · obtain ⟨s9, ad9, e9, hA9, h9⟩ := c_newBox h hb hs (by omega) w1 w2 w3 w4
      rw [← MQT_same hA9] at h9
      refine ⟨_, e9, ?_⟩
      rw [← hA9 0 (by decide), ← hA9 10 (by decide), ← hA9 11 (by decide)]
      refine JOr_good h9 rfl rfl rfl fun u l' hu => ?_
      obtain ⟨s1, e1, h1⟩ := x_thr hu 0
      obtain ⟨s7, n7, h7⟩ := h1.mk (c := 19) rfl (.inl (0, nI0 5))
      have hA : ∀ c, c ≠ 19 → va_up ad9 19 s1.1 c = ad9 c := fun c hc => va_up_n _ _ hc
      have a19 : va_up ad9 19 s1.1 19 = s1.1 := va_up_s _ _ _
      generalize va_up ad9 19 s1.1 = ad' at h7 hA a19
      obtain ⟨s8, e8, h8⟩ := sI_ex h7 (c := 19) (va_up_s _ _ _) a19 (i := 0) 0 rfl (by omega) (by omega) a
      rw [bx_uu] at h8
      obtain ⟨s10, e10, h10⟩ := sI_ex h8 (c := 19) (va_up_s _ _ _) a19 (i := 1) 1 rfl (by omega) (by omega) b
      rw [bx_uu] at h10
      obtain ⟨s11, e11, h11⟩ := sI_ex h10 (c := 19) (va_up_s _ _ _) a19 (i := 2) 2 rfl (by omega) (by omega) 0
      rw [bx_uu] at h11
      obtain ⟨s12, e12, h12⟩ := sI_ex h11 (c := 19) (va_up_s _ _ _) a19 (i := 3) 3 rfl (by omega) (by omega) (-1)
      rw [bx_uu] at h12
      obtain ⟨s13, e13, h13⟩ := sI_ex h12 (c := 19) (va_up_s _ _ _) a19 (i := 4) 4 rfl (by omega) (by omega) (-1)
      rw [bx_uu] at h13
      have g1 : gR s13 (some (ad9 11)) 5 7 = some (some (ad9 14)) := by
        rw [← hA 11 (by omega)]
        exact l_gR (c := 11) h13 (by rw [va_up_n _ _ (by omega)]; rfl) 7 rfl
      have g2 : gI s13 (some (ad9 11)) 5 4 = some (nI nx) := by
        rw [← hA 11 (by omega)]
        exact l_gI (c := 11) h13 (by rw [va_up_n _ _ (by omega)]; rfl) 4 rfl
      have l14 := show va_up (MT ad9 (l') (0) day nb ns nx mB mS mX k15 k16 t17 t18 (T0 ad9 day nb ns (nx + 1) f6 f7 g8 g9) (T2 ad9 nb gB wB) (T3 ad9 nb) (T4 nb cB) (T5 (nx + 1) (va_up bX nx (fun k => if k = 0 then a else if k = 1 then b else if k = 2 then 0 else -1))) (T6 ns sS)) 19 (some (ARR 5 (upd (upd (upd (upd (upd (fun _ => 0) 0 a) 1 b) 2 0) 3 (-1)) 4 (-1)))) 14 = some (ARR 30 mX) by rw [va_up_n _ _ (by omega)]; rfl
      have g3 := l_cp h13 (c0 := 19) (c1 := 14) (va_up_s _ _ _) l14 (sp := 0) (dp := 5 * nI nx) (n := 5) 0 (5 * nx) 5 rfl (nI_mul 5 nx) rfl (by omega) (by omega) (by omega) (by omega)
      have h14 := h13.set l14 (ARR 30 (va_cpy (upd (upd (upd (upd (upd (fun _ => 0) 0 a) 1 b) 2 0) 3 (-1)) 4 (-1)) mX 0 (5 * nx) 5))
      rw [a19, hA 14 (by omega)] at g3
      rw [hA 14 (by omega)] at h14
      generalize setN s13 (ad9 14) _ = s14 at g3 h14
      have h15 : NH s14 ad' (va_up (MT ad9 (l') (0) day nb ns nx mB mS mX k15 k16 t17 t18 (T0 ad9 day nb ns (nx + 1) f6 f7 g8 g9) (T2 ad9 nb gB wB) (T3 ad9 nb) (T4 nb cB) (T5 (nx + 1) (va_up bX nx (fun k => if k = 0 then a else if k = 1 then b else if k = 2 then 0 else -1))) (T6 ns sS)) 14 (some (ARR 30 (va_cpy (upd (upd (upd (upd (upd (fun _ => 0) 0 a) 1 b) 2 0) 3 (-1)) 4 (-1)) mX 0 (5 * nx) 5)))) := h14.drop fun d e hd => by
        by_cases d14 : d = 14
        · rw [d14, va_up_s] at hd ⊢
          exact hd
        · rw [va_up_n _ _ d14] at hd ⊢
          by_cases d19 : d = 19
          · rw [d19] at hd
            cases (show none = some e from hd)
          · rw [va_up_n _ _ d19]
            exact hd
      have h16 := x_14 _ (h15.adr (ad' := ad9) fun d e hd => (hA d fun d19 => by
        rw [d19, va_up_n _ _ (by omega)] at hd
        cases (show none = some e from hd)).symm)
      obtain ⟨s17, e17, h17⟩ := x_nx h16 (nx + 1) (nI_1 nx)
      unfold fX5_box
      rw [ob_of _ e1, ob_of _ (isIn_t w1 w2), if_neg n10, ob_of _ (isIn_t w3 (Int32.not_lt.mpr w4)), if_neg n10, ob_of _ (m_nx h1), if_neg (show ¬ nI nx = 6 from fun e => w5 ((nI_eq (b := 6) (by omega) (by omega)).mp e)), ob_of _ (congrArg some n7), ob_of _ e8, ob_of _ e10, ob_of _ e11, ob_of _ e12, ob_of _ e13, ob_of _ g1, ob_of _ g2, ob_of _ g3, ob_of _ (m_nx h16), ob_of _ e17, ob_of _ (m_nx h17), nI_pred]
      refine ⟨_, rfl, _, _, _, _, _, _, _, h17, hR.X nx (by omega) (fun j j1 j2 => by omega) (fun j hj => va_up_n _ _ hj) (fun j k hj hk => if_neg (by omega)) ⟨fun k hk => ?_, ?_⟩⟩
      · rw [va_up_s]
        refine Eq.symm ((if_pos ⟨by omega, by omega⟩).trans ?_)
        rw [show 0 + (5 * nx + k - 5 * nx) = k by omega]
        rcases (show k = 0 ∨ k = 1 ∨ k = 2 ∨ k = 3 ∨ k = 4 by omega) with rfl | rfl | rfl | rfl | rfl <;> rfl
      · rw [va_up_s]
        exact Or.inl rfl
  · have e : fX4_box st (ad 0) a b = some (.inl ("java/lang/IllegalArgumentException", st.2)) := (if_neg w1).trans ((if_neg w2).trans ((if_neg w3).trans (if_neg w4)))
    exact ⟨_, e, JOr_bad k0_ia (by decide) h hR fun u hu => bad u (Or.inr (Or.inr (Int32.not_le.mp w4))) hu⟩
end OPALLOC
