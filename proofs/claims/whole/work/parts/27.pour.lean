/-! POUR -/
def mixV (x y a b : Int32) : Int32 := ((x * a) + (y * b)) / (a + b)
theorem mixV_in {x y a b : Int32} (x1 : 0 ≤ x.toInt) (x2 : x.toInt ≤ 100) (y1 : 0 ≤ y.toInt) (y2 : y.toInt ≤ 100) (a1 : 0 ≤ a.toInt) (a2 : a.toInt ≤ 2000) (b1 : 0 ≤ b.toInt) (b2 : b.toInt ≤ 2000) (hs : 0 < a.toInt + b.toInt) : 0 ≤ (mixV x y a b).toInt ∧ (mixV x y a b).toInt * (a.toInt + b.toInt) ≤ x.toInt * a.toInt + y.toInt * b.toInt := by
  have m1 := Int.mul_nonneg x1 a1
  have m2 := Int.mul_nonneg y1 b1
  have m3 := Int.mul_le_mul x2 a2 a1 (by omega)
  have m4 := Int.mul_le_mul y2 b2 b1 (by omega)
  have e1 : (x * a).toInt = x.toInt * a.toInt := i_mul (by omega) (by omega)
  have e2 : (y * b).toInt = y.toInt * b.toInt := i_mul (by omega) (by omega)
  have e3 : ((x * a) + (y * b)).toInt = x.toInt * a.toInt + y.toInt * b.toInt := by rw [i_add] <;> rw [e1, e2] <;> omega
  have e4 : (a + b).toInt = a.toInt + b.toInt := i_add (by omega) (by omega)
  unfold mixV
  rw [i_div (by rw [e3]; omega) (by rw [e4]; omega), e3, e4]
  exact ⟨Int.ediv_nonneg (by omega) (by omega), Int.ediv_mul_le _ (by omega)⟩
theorem BC.mix {f g : Nat → Int32} (hf : BC f) (hg : BC g) {a b : Int32} (a1 : 0 ≤ a.toInt) (a2 : a.toInt ≤ 2000) (b1 : 0 ≤ b.toInt) (b2 : b.toInt ≤ 2000) (hs : 0 < a.toInt + b.toInt) : BC (fun k => mixV (f k) (g k) a b) := by
  have M := fun k (k1 : 1 ≤ k) (k2 : k ≤ 5) => mixV_in (hf.one k1 k2).1 (hf.one k1 k2).2 (hg.one k1 k2).1 (hg.one k1 k2).2 a1 a2 b1 b2 hs
  obtain ⟨p1, q1⟩ := M 1 (by omega) (by omega)
  obtain ⟨p2, q2⟩ := M 2 (by omega) (by omega)
  obtain ⟨p3, q3⟩ := M 3 (by omega) (by omega)
  obtain ⟨p4, q4⟩ := M 4 (by omega) (by omega)
  obtain ⟨p5, q5⟩ := M 5 (by omega) (by omega)
  have f1 := Int.mul_le_mul_of_nonneg_right hf.2 a1
  have g1 := Int.mul_le_mul_of_nonneg_right hg.2 b1
  rw [Int.add_mul, Int.add_mul, Int.add_mul, Int.add_mul] at f1 g1
  refine BC.of p1 p2 p3 p4 p5 ?_
  refine Int.le_of_mul_le_mul_right ?_ hs
  rw [Int.add_mul, Int.add_mul, Int.add_mul, Int.add_mul]
  have e : (100 : Int) * (a.toInt + b.toInt) = 100 * a.toInt + 100 * b.toInt := Int.mul_add _ _ _
  rw [e]
  omega
theorem wb_i (mB : Nat → Int32) (i : Nat) (g : Nat → Int32) {k n : Nat} (h1 : 1 ≤ k) (h2 : k ≤ n) : wbN mB i g n (7 * i + k) = g k := by
  show (if _ then _ else _) = _
  rw [if_pos ⟨by omega, by omega⟩]
  congr 1
  omega
theorem wb_o (mB : Nat → Int32) (i : Nat) (g : Nat → Int32) {d n : Nat} (h : d ≤ 7 * i ∨ 7 * i + n < d) : wbN mB i g n d = mB d := if_neg (by omega)
def zrN (mB : Nat → Int32) (i k : Nat) : Nat → Int32 := fun d => if 7 * i ≤ d ∧ d < 7 * i + k then 0 else mB d
theorem zrN_0 (mB : Nat → Int32) (i : Nat) : zrN mB i 0 = mB := by
  funext d
  exact if_neg (by omega)
theorem zrN_s (mB : Nat → Int32) (i k : Nat) : upd (zrN mB i k) (7 * i + k) 0 = zrN mB i (k + 1) := by
  funext d
  by_cases hd : d = 7 * i + k
  · rw [hd, upd_s]
    exact (if_pos ⟨by omega, by omega⟩).symm
  · rw [upd_n _ _ hd]
    by_cases h1 : 7 * i ≤ d ∧ d < 7 * i + k
    · exact (if_pos h1).trans (if_pos ⟨h1.1, by omega⟩).symm
    · exact (if_neg h1).trans (if_neg (by omega)).symm
theorem up2_id {α : Type} (f : Nat → α) (i : Nat) : va_up f i (f i) = f := by
  funext j
  by_cases h : j = i
  · rw [h, va_up_s]
  · rw [va_up_n _ _ h]
section CPOUR
variable {st : DSt} {ad : Nat → Nat} {day : Int32} {nb ns nx : Nat} {gB wB : Nat → Int32} {cB sS bX : Nat → Nat → Int32} {f6 f7 g8 g9 : Nat → Int32} {Q : Nat → Option DCel} {i j : Nat} {p : Int32}
theorem c_mixed (h : NH st ad (CT ad day nb ns nx gB wB cB sS bX f6 f7 g8 g9 Q)) (hj : j < nb) (hb : nb ≤ 5) (x y g : Int32) (h0 : 0 < gB j + g) : fX0_mixed st (ad (20 + j)) x y g = some (mixV x y (gB j) g) := by
  unfold fX0_mixed
  rw [ob_of _ (q_bg h hj hb), if_pos h0, ob_of _ (q_bg h hj hb), ob_of _ (oD_of (fun q => by rw [q] at h0; exact absurd h0 (by decide)))]
  rfl
theorem c_takeL (h : NH st ad (CT ad day nb ns nx gB wB cB sS bX f6 f7 g8 g9 Q)) (hi : i < nb) (hj : j < nb) (hij : i ≠ j) (hb : nb ≤ 5) (h0 : 0 < gB j + gB i) : ∃ b, dlp (fX0_takeIn_L2 (ad (20 + j)) (some (ad (20 + i)))) (st, 1) = some b ∧ NH b.1 ad (CT ad day nb ns nx gB wB (va_up cB j (likN (cB j) (fun m => mixV (cB j m) (cB i m) (gB j) (gB i)) 5)) sS bX f6 f7 g8 g9 Q) := by
  obtain ⟨b, g1, g2⟩ := dlp_run (fX0_takeIn_L2 (ad (20 + j)) (some (ad (20 + i)))) (fun k z => z.2 = nI (k + 1) ∧ NH z.1 ad (CT ad day nb ns nx gB wB (va_up cB j (likN (cB j) (fun m => mixV (cB j m) (cB i m) (gB j) (gB i)) k)) sS bX f6 f7 g8 g9 Q)) (fun b => NH b.1 ad (CT ad day nb ns nx gB wB (va_up cB j (likN (cB j) (fun m => mixV (cB j m) (cB i m) (gB j) (gB i)) 5)) sS bX f6 f7 g8 g9 Q)) 5 (fun k z hk hz => by
    obtain ⟨z1, z2⟩ := z
    obtain ⟨rfl, hz⟩ := hz
    dsimp only at hz
    by_cases h5 : k = 5
    · subst h5
      exact Or.inr ⟨_, if_pos (show (5 : Int32) < nI 6 by decide), hz⟩
    · refine Or.inl ?_
      unfold fX0_takeIn_L2
      dsimp only
      rw [if_neg (show ¬ (5 : Int32) < nI (k + 1) from nI_nlt (a := 5) (by omega) (by omega)), ob_of _ (q_bc hz hj hb), ob_of _ (q_cr hz hj hb), ob_of _ (q_bc hz hj hb), ob_of _ (q_cr hz hj hb), ob_of _ (q_ca hz hj hb rfl (by omega)), ob_of _ (q_bc hz hi hb), ob_of _ (q_cr hz hi hb), ob_of _ (q_ca hz hi hb rfl (by omega)), ob_of _ (q_bg hz hi hb), ob_of _ (q_bo hz hj hb), va_up_s, va_up_n _ _ hij, show likN (cB j) (fun m => mixV (cB j m) (cB i m) (gB j) (gB i)) k (k + 1) = cB j (k + 1) from if_neg (by omega), ob_of _ (c_mixed hz hj hb _ _ _ h0), ob_of _ (l_sI hz (c_a hj hb) (k + 1) rfl (by omega) (by omega) _)]
      refine ⟨_, rfl, by omega, nI_1 _, ?_⟩
      have q := w_c _ (hz.set (c_a hj hb) (ARR 6 (upd (va_up cB j (likN (cB j) (fun m => mixV (cB j m) (cB i m) (gB j) (gB i)) k) j) (k + 1) (mixV (cB j (k + 1)) (cB i (k + 1)) (gB j) (gB i))))) hj hb
      rw [bx_uu, va_up_s, likN_s (cB j) (fun m => mixV (cB j m) (cB i m) (gB j) (gB i)) k] at q
      dsimp only
      rw [va_up_s, likN_s (cB j) (fun m => mixV (cB j m) (cB i m) (gB j) (gB i)) k]
      exact q) (st, 1) ⟨rfl, by
        dsimp only
        rw [likN_0, up2_id cB j]
        exact h⟩
  exact ⟨b, g1, g2⟩
theorem c_takeIn (h : NH st ad (CT ad day nb ns nx gB wB cB sS bX f6 f7 g8 g9 Q)) (hi : i < nb) (hj : j < nb) (hij : i ≠ j) (hb : nb ≤ 5) (h0 : 0 < gB j + gB i) : ∃ st', fX0_takeIn st (ad (20 + j)) (some (ad (20 + i))) = some st' ∧ NH st' ad (CT ad day nb ns nx (upd (upd gB j (gB j + gB i)) i 0) (upd wB j (mixV (wB j) (wB i) (gB j) (gB i))) (va_up (va_up cB j (likN (cB j) (fun m => mixV (cB j m) (cB i m) (gB j) (gB i)) 5)) i (likN (cB i) (fun _ => 0) 5)) sS bX f6 f7 g8 g9 Q) := by
  obtain ⟨b1, e1, h1⟩ := c_takeL h hi hj hij hb h0
  obtain ⟨s2, e2, h2⟩ := w_w h1 hj hb (mixV (wB j) (wB i) (gB j) (gB i))
  obtain ⟨s3, e3, h3⟩ := w_g h2 hj hb (gB j + gB i)
  obtain ⟨s4, e4, h4⟩ := w_g h3 hi hb 0
  obtain ⟨s5, e5, h5⟩ := s_vanish h4 (c_c hi hb) (c_a hi hb)
  have h5 := w_c _ h5 hi hb
  rw [va_up_n _ _ hij] at h5
  unfold fX0_takeIn
  rw [ob_of _ e1, ob_of _ (q_bw h1 hj hb), ob_of _ (q_bw h1 hi hb), ob_of _ (q_bg h1 hi hb), ob_of _ (q_bo h1 hj hb), ob_of _ (c_mixed h1 hj hb _ _ _ h0), ob_of _ e2, ob_of _ (q_bg h2 hj hb), ob_of _ (q_bg h2 hi hb), ob_of _ e3, ob_of _ e4, ob_of _ (q_bc h4 hi hb), ob_of _ (q_co h4 hi hb), ob_of _ e5]
  exact ⟨_, rfl, h5⟩
end CPOUR
section MPOUR
variable {st : DSt} {ad : Nat → Nat} {l : Nat → Int64} {thr day : Int32} {nb ns nx : Nat} {mB mS mX k15 k16 t17 t18 : Nat → Int32} {r0 r2 r3 r4 r5 r6 : Nat → Option DCel} {i j : Nat} {p q : Int32}
theorem m_pourL (h : NH st ad (MT ad l thr day nb ns nx mB mS mX k15 k16 t17 t18 r0 r2 r3 r4 r5 r6)) (hp : p = nI i) (hq : q = nI j) (hi : i < 5) (hj : j < 5) (hij : i ≠ j) (h0 : ¬ mB (7 * i) + mB (7 * j) = 0) : ∃ b, dlp (fX5_pour_L66 (ad 11) p q (mB (7 * i)) (mB (7 * j))) (st, 1) = some b ∧ NH b.1 ad (MT ad l thr day nb ns nx (wbN mB j (fun m => ((mB (7 * j + m) * mB (7 * j)) + (mB (7 * i + m) * mB (7 * i))) / (mB (7 * i) + mB (7 * j))) 6) mS mX k15 k16 t17 t18 r0 r2 r3 r4 r5 r6) := by
  obtain ⟨b, g1, g2⟩ := dlp_run (fX5_pour_L66 (ad 11) p q (mB (7 * i)) (mB (7 * j))) (fun k z => z.2 = nI (k + 1) ∧ NH z.1 ad (MT ad l thr day nb ns nx (wbN mB j (fun m => ((mB (7 * j + m) * mB (7 * j)) + (mB (7 * i + m) * mB (7 * i))) / (mB (7 * i) + mB (7 * j))) k) mS mX k15 k16 t17 t18 r0 r2 r3 r4 r5 r6)) (fun b => NH b.1 ad (MT ad l thr day nb ns nx (wbN mB j (fun m => ((mB (7 * j + m) * mB (7 * j)) + (mB (7 * i + m) * mB (7 * i))) / (mB (7 * i) + mB (7 * j))) 6) mS mX k15 k16 t17 t18 r0 r2 r3 r4 r5 r6)) 6 (fun k z hk hz => by
    obtain ⟨z1, z2⟩ := z
    obtain ⟨rfl, hz⟩ := hz
    dsimp only at hz
    by_cases h5 : k = 6
    · subst h5
      exact Or.inr ⟨_, if_pos (show (6 : Int32) < nI 7 by decide), hz⟩
    · refine Or.inl ?_
      unfold fX5_pour_L66
      dsimp only
      rw [if_neg (show ¬ (6 : Int32) < nI (k + 1) from nI_nlt (a := 6) (by omega) (by omega)), ob_of _ (m_oR hz), ob_of _ (m_bo hz hq (k := k + 1) rfl hj (by omega)), ob_of _ (m_oR hz), ob_of _ (m_bo (q := 0) hz hq (k := 0) rfl hj (by omega)), ob_of _ (m_oR hz), ob_of _ (m_bo hz hp (k := k + 1) rfl hi (by omega)), ob_of _ (m_oR hz), ob_of _ (m_bo (q := 0) hz hp (k := 0) rfl hi (by omega)), wb_o _ _ _ (by omega), wb_o _ _ _ (by omega), wb_o _ _ _ (by omega), wb_o _ _ _ (by omega), ob_of _ (oD_of h0), ob_of _ (m_oR hz)]
      obtain ⟨s1, e1, h1⟩ := x_bo hz hq (k := k + 1) rfl hj (by omega) (((mB (7 * j + (k + 1)) * mB (7 * j + 0)) + (mB (7 * i + (k + 1)) * mB (7 * i + 0))) / (mB (7 * i) + mB (7 * j)))
      rw [ob_of _ e1]
      rw [show upd (wbN mB j (fun m => ((mB (7 * j + m) * mB (7 * j)) + (mB (7 * i + m) * mB (7 * i))) / (mB (7 * i) + mB (7 * j))) k) (7 * j + (k + 1)) (((mB (7 * j + (k + 1)) * mB (7 * j + 0)) + (mB (7 * i + (k + 1)) * mB (7 * i + 0))) / (mB (7 * i) + mB (7 * j))) = _ from wbN_s mB j (fun m => ((mB (7 * j + m) * mB (7 * j)) + (mB (7 * i + m) * mB (7 * i))) / (mB (7 * i) + mB (7 * j))) k] at h1
      exact ⟨_, rfl, by omega, nI_1 _, h1⟩) (st, 1) ⟨rfl, by rw [wbN_0]; exact h⟩
  exact ⟨b, g1, g2⟩
theorem m_zero (h : NH st ad (MT ad l thr day nb ns nx mB mS mX k15 k16 t17 t18 r0 r2 r3 r4 r5 r6)) (hp : p = nI i) (hi : i < 5) : ∃ b, dlp (fX5_pour_L127 (ad 11) p) (st, 0) = some b ∧ NH b.1 ad (MT ad l thr day nb ns nx (zrN mB i 6) mS mX k15 k16 t17 t18 r0 r2 r3 r4 r5 r6) := by
  obtain ⟨b, g1, g2⟩ := dlp_run (fX5_pour_L127 (ad 11) p) (fun k z => z.2 = nI k ∧ NH z.1 ad (MT ad l thr day nb ns nx (zrN mB i k) mS mX k15 k16 t17 t18 r0 r2 r3 r4 r5 r6)) (fun b => NH b.1 ad (MT ad l thr day nb ns nx (zrN mB i 6) mS mX k15 k16 t17 t18 r0 r2 r3 r4 r5 r6)) 6 (fun k z hk hz => by
    obtain ⟨z1, z2⟩ := z
    obtain ⟨rfl, hz⟩ := hz
    dsimp only at hz
    by_cases h5 : k = 6
    · subst h5
      exact Or.inr ⟨_, if_pos (show (6 : Int32) ≤ nI 6 by decide), hz⟩
    · refine Or.inl ?_
      obtain ⟨s1, e1, h1⟩ := x_bo hz hp (k := k) rfl hi (by omega) 0
      rw [zrN_s] at h1
      unfold fX5_pour_L127
      dsimp only
      rw [if_neg (show ¬ (6 : Int32) ≤ nI k from nI_ge (b := 6) (by omega) (by omega)), ob_of _ (m_oR hz), ob_of _ e1]
      exact ⟨_, rfl, by omega, nI_1 _, h1⟩) (st, 0) ⟨rfl, by rw [zrN_0]; exact h⟩
  exact ⟨b, g1, g2⟩
end MPOUR
section OPPOUR
variable {st : DSt} {ad : Nat → Nat} {day : Int32} {nb ns nx : Nat} {gB wB : Nat → Int32} {cB sS bX : Nat → Nat → Int32} {f6 f7 g8 g9 : Nat → Int32} {Q : Nat → Option DCel} {l : Nat → Int64} {thr md : Int32} {pb ps px : Nat} {mB mS mX k15 k16 t17 t18 : Nat → Int32}
theorem op_pour (h : NH st ad (CT ad day nb ns nx gB wB cB sS bX f6 f7 g8 g9 ((MQT ad l thr day nb ns nx mB mS mX k15 k16 t17 t18)))) (hR : RELS nb ns nx gB wB cB sS bX mB mS mX) (p q : Int32) : JO cd1 (ad 0) (ad 10) (ad 11) (fX4_pour st (ad 0) p q) (fun u => fX5_pour u (ad 11) p q) := by
  obtain ⟨hb, hs, hx, rB, rS, rX, rZ⟩ := id hR
  unfold fX4_pour
  rw [ob_of _ (q_oR h)]
  rcases hp : ixO p nb with _ | i
  · rw [xt_of _ (c_bowlAt_f h hp)]
    refine ⟨_, rfl, JOr_bad k1_io (by decide) h hR fun u hu => ?_⟩
    obtain ⟨s1, e1, h1⟩ := x_thr hu 0
    obtain ⟨s2, e2, h2⟩ := x_fail h1 1
    unfold fX5_pour
    rw [ob_of _ e1, ob_of _ (m_oR h1), ob_of _ (m_isBowl_f h1 hp hb), if_pos rfl, ob_of _ (m_oR h1), ob_of _ e2]
    exact ⟨_, _, rfl, h2⟩
  rw [xb_of _ (c_bowlAt_t h hp hb), ob_of _ (q_oR h)]
  rcases hq : ixO q nb with _ | j
  · rw [xt_of _ (c_bowlAt_f h hq)]
    refine ⟨_, rfl, JOr_bad k1_io (by decide) h hR fun u hu => ?_⟩
    obtain ⟨s1, e1, h1⟩ := x_thr hu 0
    obtain ⟨s2, e2, h2⟩ := x_fail h1 1
    unfold fX5_pour
    rw [ob_of _ e1, ob_of _ (m_oR h1), ob_of _ (m_isBowl_t h1 hp hb), if_neg n10, ob_of _ (m_oR h1), ob_of _ (m_isBowl_f h1 hq hb), if_pos rfl, ob_of _ (m_oR h1), ob_of _ e2]
    exact ⟨_, _, rfl, h2⟩
  obtain ⟨hi, hpe⟩ := ixO_some hp
  obtain ⟨hj, hqe⟩ := ixO_some hq
  obtain ⟨r1, r2, r3, r4, r5, r6⟩ := rB i hi
  obtain ⟨t1, t2, t3, t4, t5, t6⟩ := rB j hj
  rw [xb_of _ (c_bowlAt_t h hq hb), ob_of _ (q_bg h hi hb), ob_of _ (q_bg h hj hb)]
  by_cases c1 : p = q
  · rw [if_pos c1]
    refine ⟨_, rfl, JOr_bad k1_ia (by decide) h hR fun u hu => ?_⟩
    obtain ⟨s1, e1, h1⟩ := x_thr hu 0
    obtain ⟨s2, e2, h2⟩ := x_fail h1 2
    unfold fX5_pour
    rw [ob_of _ e1, ob_of _ (m_oR h1), ob_of _ (m_isBowl_t h1 hp hb), if_neg n10, ob_of _ (m_oR h1), ob_of _ (m_isBowl_t h1 hq hb), if_neg n10, ob_of _ (m_oR h1), ob_of _ (m_bo (q := 0) h1 hpe (k := 0) rfl (by omega) (by omega)), ob_of _ (m_oR h1), ob_of _ (m_bo (q := 0) h1 hqe (k := 0) rfl (by omega) (by omega)), if_pos c1, ob_of _ (m_oR h1), ob_of _ e2]
    exact ⟨_, _, rfl, h2⟩
  have hij : i ≠ j := fun e => c1 (by rw [hpe, hqe, e])
  rw [if_neg c1]
  by_cases c2 : gB i + gB j = 0
  · rw [if_pos c2]
    refine ⟨_, rfl, JOr_bad k1_ia (by decide) h hR fun u hu => ?_⟩
    obtain ⟨s1, e1, h1⟩ := x_thr hu 0
    obtain ⟨s2, e2, h2⟩ := x_fail h1 2
    unfold fX5_pour
    rw [ob_of _ e1, ob_of _ (m_oR h1), ob_of _ (m_isBowl_t h1 hp hb), if_neg n10, ob_of _ (m_oR h1), ob_of _ (m_isBowl_t h1 hq hb), if_neg n10, ob_of _ (m_oR h1), ob_of _ (m_bo (q := 0) h1 hpe (k := 0) rfl (by omega) (by omega)), ob_of _ (m_oR h1), ob_of _ (m_bo (q := 0) h1 hqe (k := 0) rfl (by omega) (by omega)), if_neg c1, if_pos (show mB (7 * i + 0) + mB (7 * j + 0) = 0 by show mB (7 * i) + mB (7 * j) = 0; rw [← r1, ← t1]; exact c2), ob_of _ (m_oR h1), ob_of _ e2]
    exact ⟨_, _, rfl, h2⟩
  rw [if_neg c2]
  by_cases c3 : gB i + gB j ≤ 2000
  · have es : (gB i + gB j).toInt = (gB i).toInt + (gB j).toInt := i_add (by omega) (by omega)
    have e2000 : (2000 : Int32).toInt = 2000 := by decide
    have s1 : 0 < (gB i).toInt + (gB j).toInt := by
      rw [i_eq, es, toInt_0] at c2
      omega
    have s2 : (gB i).toInt + (gB j).toInt ≤ 2000 := by
      rw [i_le, es, e2000] at c3
      exact c3
    have es' : (gB j + gB i).toInt = (gB j).toInt + (gB i).toInt := i_add (by omega) (by omega)
    obtain ⟨s3, e3, h3⟩ := c_takeIn h hi hj hij hb (by rw [i_lt, es', toInt_0]; omega)
    rw [if_pos c3, ob_of _ (q_bo h hj hb), ob_of _ e3, ob_of _ (q_bg h3 hj hb), upd_n _ _ (Ne.symm hij), upd_s]
    refine ⟨_, rfl, JOr_good h3 rfl rfl rfl fun u l' hu => ?_⟩
    have c2' : ¬ mB (7 * i) + mB (7 * j) = 0 := by rw [← r1, ← t1]; exact c2
    have c3' : mB (7 * i) + mB (7 * j) ≤ 2000 := by rw [← r1, ← t1]; exact c3
    obtain ⟨s1, e1, h1⟩ := x_thr hu 0
    obtain ⟨b4, e4, h4⟩ := m_pourL h1 hpe hqe (by omega) (by omega) hij c2'
    obtain ⟨s5, e5, h5⟩ := x_bo h4 hqe (q := 0) (k := 0) rfl (by omega) (by omega) (mB (7 * i) + mB (7 * j))
    obtain ⟨b6, e6, h6⟩ := m_zero h5 hpe (by omega)
    unfold fX5_pour
    rw [ob_of _ e1, ob_of _ (m_oR h1), ob_of _ (m_isBowl_t h1 hp hb), if_neg n10, ob_of _ (m_oR h1), ob_of _ (m_isBowl_t h1 hq hb), if_neg n10, ob_of _ (m_oR h1), ob_of _ (m_bo (q := 0) h1 hpe (k := 0) rfl (by omega) (by omega)), ob_of _ (m_oR h1), ob_of _ (m_bo (q := 0) h1 hqe (k := 0) rfl (by omega) (by omega)), if_neg c1, if_neg (show ¬ mB (7 * i + 0) + mB (7 * j + 0) = 0 from c2'), if_pos (show mB (7 * i + 0) + mB (7 * j + 0) ≤ 2000 from c3')]
    rw [show fX5_pour_L66 (ad 11) p q (mB (7 * i + 0)) (mB (7 * j + 0)) = fX5_pour_L66 (ad 11) p q (mB (7 * i)) (mB (7 * j)) from rfl, ob_of _ e4, ob_of _ (m_oR h4), show mB (7 * i + 0) + mB (7 * j + 0) = mB (7 * i) + mB (7 * j) from rfl, ob_of _ e5, ob_of _ e6]
    refine ⟨_, by rw [r1, t1, Int32.add_comm], _, _, _, _, _, _, _, h6, ?_⟩
    have hR1 : RELS nb ns nx (upd gB j (gB j + gB i)) (upd wB j (mixV (wB j) (wB i) (gB j) (gB i))) (va_up cB j (likN (cB j) (fun m => mixV (cB j m) (cB i m) (gB j) (gB i)) 5)) sS bX (upd (wbN mB j (fun m => ((mB (7 * j + m) * mB (7 * j)) + (mB (7 * i + m) * mB (7 * i))) / (mB (7 * i) + mB (7 * j))) 6) (7 * j + 0) (mB (7 * i) + mB (7 * j))) mS mX := by
      refine hR.B j hb (fun j hj => ⟨hj, by omega⟩) (fun j hj _ => hj) (fun j hj => upd_n _ _ hj) (fun j hj => upd_n _ _ hj) (fun j hj => va_up_n _ _ hj) (fun m k hm hk => by rw [upd_n _ _ (by omega), wb_o _ _ _ (by omega)]) ⟨?_, ?_, fun k k1 k2 => ?_, ?_, ?_, ?_⟩
      · rw [upd_s, t1, r1, Int32.add_comm]
        exact (upd_s _ _ _).symm
      · rw [upd_s, upd_n _ _ (by omega), wb_i _ _ _ (by omega) (by omega)]
        show mixV (wB j) (wB i) (gB j) (gB i) = _
        unfold mixV
        rw [t2, r2, t1, r1, Int32.add_comm (mB (7 * j)) (mB (7 * i))]
      · rw [va_up_s]
        show _ = upd _ _ _ (7 * j + k)
        rw [upd_n _ _ (by omega), wb_i _ _ _ k1 (by omega), likN_5 _ _ k k1 k2]
        show mixV (cB j k) (cB i k) (gB j) (gB i) = _
        unfold mixV
        rw [t3 k k1 k2, r3 k k1 k2, t1, r1, Int32.add_comm (mB (7 * j)) (mB (7 * i))]
      · rw [va_up_s]
        exact (t4.mix r4 t5 t6 r5 r6 (by omega)).congr (likN_5 _ _)
      · rw [upd_s, es']; omega
      · rw [upd_s, es']; omega
    refine hR1.B i hb (fun j hj => ⟨hj, by omega⟩) (fun j hj _ => hj) (fun j hj => upd_n _ _ hj) (fun _ _ => rfl) (fun j hj => va_up_n _ _ hj) (fun m k hm hk => if_neg (by omega)) ⟨?_, ?_, fun k k1 k2 => ?_, ?_, ?_, ?_⟩
    · rw [upd_s]; exact (if_pos ⟨by omega, by omega⟩).symm
    · rw [upd_n _ _ hij, r2]
      refine Eq.symm ((if_neg (by omega)).trans ?_)
      rw [upd_n _ _ (by omega), wb_o _ _ _ (by omega)]
    · rw [va_up_s, likN_5 _ _ k k1 k2]
      exact (if_pos ⟨by omega, by omega⟩).symm
    · rw [va_up_s]
      exact (show BC (fun _ => (0 : Int32)) from BC.of (by decide) (by decide) (by decide) (by decide) (by decide) (by decide)).congr (likN_5 _ _)
    · rw [upd_s]; decide
    · rw [upd_s]; decide
  · rw [if_neg c3]
    refine ⟨_, rfl, JOr_bad k1_ia (by decide) h hR fun u hu => ?_⟩
    obtain ⟨s1, e1, h1⟩ := x_thr hu 0
    obtain ⟨s2, e2, h2⟩ := x_fail h1 2
    unfold fX5_pour
    rw [ob_of _ e1, ob_of _ (m_oR h1), ob_of _ (m_isBowl_t h1 hp hb), if_neg n10, ob_of _ (m_oR h1), ob_of _ (m_isBowl_t h1 hq hb), if_neg n10, ob_of _ (m_oR h1), ob_of _ (m_bo (q := 0) h1 hpe (k := 0) rfl (by omega) (by omega)), ob_of _ (m_oR h1), ob_of _ (m_bo (q := 0) h1 hqe (k := 0) rfl (by omega) (by omega)), if_neg c1, if_neg (show ¬ mB (7 * i + 0) + mB (7 * j + 0) = 0 by show ¬ mB (7 * i) + mB (7 * j) = 0; rw [← r1, ← t1]; exact c2), if_neg (show ¬ mB (7 * i + 0) + mB (7 * j + 0) ≤ 2000 by show ¬ mB (7 * i) + mB (7 * j) ≤ 2000; rw [← r1, ← t1]; exact c3), ob_of _ (m_oR h1), ob_of _ e2]
    exact ⟨_, _, rfl, h2⟩
end OPPOUR
