/-! THE CALLS THAT TELL; pass, until, pour -/
theorem toldV_eq {i : Nat} {gB wB : Nat → Int32} {cB : Nat → Nat → Int32} {mB : Nat → Int32} (r : ROW1 i gB wB cB mB) {k : Nat} : toldV (gB i) (wB i) (cB i) k = toldV (mB (7 * i)) (mB (7 * i + 6)) (rowB mB i) k := by
  obtain ⟨r1, r2, r3, -⟩ := r
  unfold toldV
  rw [← r1, ← r2]
  by_cases h0 : k = 0
  · rw [if_pos h0, if_pos h0]
  · rw [if_neg h0, if_neg h0]
    by_cases h5 : k ≤ 5
    · rw [if_pos h5, if_pos h5]; exact r3 k (by omega) h5
    · rw [if_neg h5, if_neg h5, r3.tem]
      rfl
theorem fitB_eq {b s b' s' : Nat → Int32} {bl bl' : Int32} (hb : ∀ k, k < 5 → b k = b' k) (hs : ∀ k, k < 5 → s k = s' k) (h : bl = bl') : fitB b s bl = fitB b' s' bl' := by
  unfold fitB suitB
  rw [hb 0 (by omega), hb 1 (by omega), hb 2 (by omega), hs 0 (by omega), hs 1 (by omega), hs 2 (by omega), h]
theorem aboutV_eq {i nx : Nat} {sS bX : Nat → Nat → Int32} {mS mX : Nat → Int32} (r : ROWS i sS mS) (rX : ∀ j, j < nx → ROWX j bX mX) {k : Nat} : aboutV (sS i) bX nx k = aboutV (rowS mS i) (rowS mX) nx k := by
  obtain ⟨r1, -⟩ := r
  unfold aboutV
  by_cases h0 : k < 5
  · rw [if_pos h0, if_pos h0]; exact r1 k h0
  · rw [if_neg h0, if_neg h0]
    by_cases h5 : k = 5
    · rw [if_pos h5, if_pos h5, r1 0 (by omega), r1 1 (by omega)]; rfl
    · rw [if_neg h5, if_neg h5, firstN_ext fun j hj => fitB_eq (rX j hj).1 r1 (r1 3 (by omega))]; rfl
theorem countV_eq {day : Int32} {nb ns nx : Nat} {gB wB : Nat → Int32} {cB sS bX : Nat → Nat → Int32} {mB mS mX : Nat → Int32} (h : RELS nb ns nx gB wB cB sS bX mB mS mX) {k : Nat} : countV day nb ns nx gB sS bX k = countV day nb ns nx (fun i => mB (7 * i)) (rowS mS) (rowS mX) k := by
  obtain ⟨h1, h2, h3, h4, h5, h6, -⟩ := h
  unfold countV
  rw [foldN_congr (g := cntX bX) (g' := cntX (rowS mX)) fun k hk a => by unfold cntX; rw [(h6 k hk).1 2 (by omega)]; rfl]
  rw [foldN_congr (g := cntG gB) (g' := cntG (fun i => mB (7 * i))) fun k hk a => by unfold cntG; rw [(h4 k hk).1]]
  rw [foldN_congr (g := cntQ sS) (g' := cntQ (rowS mS)) fun k hk a => by unfold cntQ; rw [(h5 k hk).1 0 (by omega), (h5 k hk).1 1 (by omega)]; rfl]
  rw [foldN_congr (g := cntB sS) (g' := cntB (rowS mS)) fun k hk a => by unfold cntB; rw [(h5 k hk).1 3 (by omega)]; rfl]
def moreV (t a : Int32) : Int32 := (100 - t) / 10 + (2 * (jmax 0 (a - 24)))
theorem moreV_in {t a : Int32} (h1 : 0 ≤ t.toInt) (h2 : t.toInt ≤ 100) (h3 : 10 ≤ a.toInt) (h4 : a.toInt ≤ 40) : 0 ≤ (moreV t a).toInt ∧ (moreV t a).toInt ≤ 42 := by
  have e1 : (100 - t).toInt = 100 - t.toInt := by rw [i_sub] <;> rw [toInt_100] <;> omega
  have e10 : (10 : Int32).toInt = 10 := by decide
  have e24 : (24 : Int32).toInt = 24 := by decide
  have e2 : ((100 - t) / 10).toInt = (100 - t.toInt) / 10 := by rw [i_div (by rw [e1]; omega) (by rw [e10]; omega), e1, e10]
  have e3 : (a - 24).toInt = a.toInt - 24 := by rw [i_sub] <;> rw [e24] <;> omega
  have e4 : (jmax 0 (a - 24)).toInt = max 0 (a.toInt - 24) := by rw [i_max, e3, toInt_0]
  have e5 : (2 * (jmax 0 (a - 24))).toInt = 2 * max 0 (a.toInt - 24) := by rw [i_mul] <;> rw [e4, toInt_2] <;> omega
  unfold moreV
  rw [i_add] <;> rw [e2, e5] <;> omega
def ageF (a n : Int32) (x : Nat → Int32) : Nat → Int32 := upd (upd x 3 (jmin 100 (x 3 + (n * moreV (x 2) a)))) 4 (x 4 + n)
def agC (a n : Int32) (sS : Nat → Nat → Int32) (ns k : Nat) : Nat → Nat → Int32 := fun j => if j < k ∧ j < ns then ageF a n (sS j) else sS j
def agM (a n : Int32) (mS : Nat → Int32) (k : Nat) : Nat → Int32 := fun d => if d < 5 * k then ageF a n (rowS mS (d / 5)) (d % 5) else mS d
theorem agM_s (a n : Int32) (mS : Nat → Int32) (k : Nat) : upd (upd (agM a n mS k) (5 * k + 3) (jmin 100 (mS (5 * k + 3) + (n * moreV (mS (5 * k + 2)) a)))) (5 * k + 4) (mS (5 * k + 4) + n) = agM a n mS (k + 1) := by
  funext d
  by_cases h1 : d < 5 * k
  · rw [upd_n _ _ (by omega), upd_n _ _ (by omega)]
    exact (if_pos h1).trans (if_pos (show d < 5 * (k + 1) by omega)).symm
  · by_cases h2 : d < 5 * (k + 1)
    · refine Eq.trans ?_ (if_pos h2).symm
      rw [show d / 5 = k by omega]
      have e : d = 5 * k + d % 5 := by omega
      unfold ageF
      by_cases h3 : d = 5 * k + 4
      · rw [h3, upd_s, show (5 * k + 4) % 5 = 4 by omega, upd_s]; rfl
      · rw [upd_n _ _ h3, upd_n (j := d % 5) _ _ (by omega)]
        by_cases h4 : d = 5 * k + 3
        · rw [h4, upd_s, show (5 * k + 3) % 5 = 3 by omega, upd_s]; rfl
        · rw [upd_n _ _ h4, upd_n (j := d % 5) _ _ (by omega)]
          refine (if_neg h1).trans ?_
          show mS d = mS (5 * k + d % 5)
          rw [← e]
    · rw [upd_n _ _ (by omega), upd_n _ _ (by omega)]
      exact (if_neg h1).trans (if_neg h2).symm
theorem agM_0 (a n : Int32) (mS : Nat → Int32) : agM a n mS 0 = mS := by
  funext d
  exact if_neg (by omega)
theorem agM_i (a n : Int32) (mS : Nat → Int32) {ns i k : Nat} (hi : i < ns) (hk : k < 5) : agM a n mS ns (5 * i + k) = ageF a n (rowS mS i) k := by
  refine (if_pos (show 5 * i + k < 5 * ns by omega)).trans ?_
  rw [show (5 * i + k) / 5 = i by omega, show (5 * i + k) % 5 = k by omega]
section MPASS
variable {st : DSt} {ad : Nat → Nat} {l : Nat → Int64} {thr day : Int32} {nb ns nx : Nat} {mB mS mX k15 k16 t17 t18 : Nat → Int32} {r0 r2 r3 r4 r5 r6 : Nat → Option DCel} {i : Nat} {p : Int32}
theorem m_more (h : NH st ad (MT ad l thr day nb ns nx mB mS mX k15 k16 t17 t18 r0 r2 r3 r4 r5 r6)) (hp : p = nI i) (hi : i < 8) (a : Int32) : fX5_more st (ad 11) p a = some (moreV (mS (5 * i + 2)) a) := by
  unfold fX5_more
  rw [ob_of _ (m_oR h), ob_of _ (m_sl (q := 2) (k := 2) h hp rfl hi (by omega)), ob_of _ (oD_of (by decide))]
  rfl
theorem m_passL (a n : Int32) (h : NH st ad (MT ad l thr day nb ns nx mB mS mX k15 k16 t17 t18 r0 r2 r3 r4 r5 r6)) (hs : ns ≤ 8) : ∃ b, dlp (fX5_pass_L34 (ad 11) a n) (st, 0) = some b ∧ NH b.1 ad (MT ad l thr day nb ns nx mB (agM a n mS ns) mX k15 k16 t17 t18 r0 r2 r3 r4 r5 r6) := by
  obtain ⟨b, g1, g2⟩ := dlp_run (fX5_pass_L34 (ad 11) a n) (fun k z => z.2 = nI k ∧ NH z.1 ad (MT ad l thr day nb ns nx mB (agM a n mS k) mX k15 k16 t17 t18 r0 r2 r3 r4 r5 r6)) (fun b => NH b.1 ad (MT ad l thr day nb ns nx mB (agM a n mS ns) mX k15 k16 t17 t18 r0 r2 r3 r4 r5 r6)) ns (fun k z hk hz => by
    obtain ⟨z1, z2⟩ := z
    obtain ⟨rfl, hz⟩ := hz
    dsimp only at hz
    unfold fX5_pass_L34
    dsimp only
    rw [ob_of _ (m_ns hz)]
    by_cases h5 : k = ns
    · subst h5
      rw [if_pos (Int32.le_refl _)]
      exact Or.inr ⟨_, rfl, hz⟩
    · refine Or.inl ?_
      have e3 : agM a n mS k (5 * k + 3) = mS (5 * k + 3) := if_neg (by omega)
      have e2 : agM a n mS k (5 * k + 2) = mS (5 * k + 2) := if_neg (by omega)
      have e4 : agM a n mS k (5 * k + 4) = mS (5 * k + 4) := if_neg (by omega)
      obtain ⟨s1, q1, h1⟩ := x_sl hz (p := nI k) (q := 3) (k := 3) rfl rfl (by omega) (by omega) (jmin 100 (mS (5 * k + 3) + (n * moreV (mS (5 * k + 2)) a)))
      obtain ⟨s2, q2, h2⟩ := x_sl h1 (p := nI k) (q := 4) (k := 4) rfl rfl (by omega) (by omega) (mS (5 * k + 4) + n)
      rw [agM_s] at h2
      rw [if_neg (nI_ge (by omega) (by omega)), ob_of _ (m_oR hz), ob_of _ (m_sl (q := 3) (k := 3) hz rfl rfl (by omega) (by omega)), ob_of _ (m_oR hz), ob_of _ (m_more hz rfl (by omega) a), e3, e2, ob_of _ (m_oR hz), ob_of _ q1, ob_of _ (m_oR h1), ob_of _ (m_sl (q := 4) (k := 4) h1 rfl rfl (by omega) (by omega)), upd_n _ _ (by omega), e4, ob_of _ (m_oR h1), ob_of _ q2]
      exact ⟨_, rfl, by omega, nI_1 _, h2⟩) (st, 0) ⟨rfl, by rw [agM_0]; exact h⟩
  exact ⟨b, g1, g2⟩
end MPASS
section CPASS
variable {st : DSt} {ad : Nat → Nat} {day : Int32} {nb ns nx : Nat} {gB wB : Nat → Int32} {cB sS bX : Nat → Nat → Int32} {f6 f7 g8 g9 : Nat → Int32} {Q : Nat → Option DCel} {i j : Nat} {p : Int32}
theorem c_dayBloom (h : NH st ad (CT ad day nb ns nx gB wB cB sS bX f6 f7 g8 g9 Q)) (hi : i < ns) (a : Int32) : fX3_bloomOfADay st (ad (60 + i)) a = some (moreV (sS i 2) a) := by
  unfold fX3_bloomOfADay
  rw [ob_of _ (q_s0 h hi), ob_of _ (oD_of (by decide))]
  rfl
theorem c_stand (a n : Int32) (h : NH st ad (CT ad day nb ns nx gB wB cB sS bX f6 f7 g8 g9 Q)) (hi : i < ns) : ∃ st', fX3_standFor st (ad (60 + i)) n a = some st' ∧ NH st' ad (CT ad day nb ns nx gB wB cB (va_up sS i (ageF a n (sS i))) bX f6 f7 g8 g9 Q) := by
  obtain ⟨s1, e1, h1⟩ := w_s3 h hi (jmin 100 (sS i 3 + (n * moreV (sS i 2) a)))
  obtain ⟨s2, e2, h2⟩ := w_s4 h1 hi (sS i 4 + n)
  rw [bx_uu, va_up_s] at h2
  unfold fX3_standFor
  rw [ob_of _ (q_s3 h hi), ob_of _ (q_so h hi), ob_of _ (c_dayBloom h hi a), ob_of _ e1, ob_of _ (q_s4 h1 hi), va_up_s, upd_n _ _ (by decide), ob_of _ e2]
  exact ⟨_, rfl, h2⟩
theorem c_passL (a n : Int32) (h : NH st ad (CT ad day nb ns nx gB wB cB sS bX f6 f7 g8 g9 Q)) (hs : ns ≤ 8) : ∃ b, dlp (fX4_pass_L37 a n (some (ad 2)) 8) (st, 0) = some b ∧ NH b.1 ad (CT ad day nb ns nx gB wB cB (agC a n sS ns 8) bX f6 f7 g8 g9 Q) := by
  obtain ⟨b, g1, g2⟩ := dlp_run (fX4_pass_L37 a n (some (ad 2)) 8) (fun k z => z.2 = nI k ∧ NH z.1 ad (CT ad day nb ns nx gB wB cB (agC a n sS ns k) bX f6 f7 g8 g9 Q)) (fun b => NH b.1 ad (CT ad day nb ns nx gB wB cB (agC a n sS ns 8) bX f6 f7 g8 g9 Q)) 8 (fun k z hk hz => by
    obtain ⟨z1, z2⟩ := z
    obtain ⟨rfl, hz⟩ := hz
    dsimp only at hz
    unfold fX4_pass_L37
    dsimp only
    by_cases h5 : k = 8
    · subst h5
      exact Or.inr ⟨_, if_pos (show (8 : Int32) ≤ nI 8 by decide), hz⟩
    · refine Or.inl ?_
      rw [if_neg (show ¬ (8 : Int32) ≤ nI k from nI_ge (b := 8) (by omega) (by omega)), ob_of _ (q_aRs hz rfl (by omega))]
      by_cases hi : k < ns
      · obtain ⟨s1, e1, h1⟩ := c_stand a n hz hi
        rw [if_pos hi]
        show ∃ s', (oB (oR z1 (some (ad (60 + k))) 3) _) = _ ∧ _
        rw [ob_of _ (q_so hz hi), ob_of _ e1]
        refine ⟨_, rfl, by omega, nI_1 _, ?_⟩
        have e : va_up (agC a n sS ns k) k (ageF a n (agC a n sS ns k k)) = agC a n sS ns (k + 1) := by
          funext j
          have ek : agC a n sS ns k k = sS k := if_neg (by omega)
          by_cases hj : j = k
          · rw [hj, va_up_s, ek]
            exact (if_pos ⟨by omega, hi⟩).symm
          · rw [va_up_n _ _ hj]
            by_cases h3 : j < k ∧ j < ns
            · exact (if_pos h3).trans (if_pos ⟨by omega, h3.2⟩).symm
            · exact (if_neg h3).trans (if_neg (by omega)).symm
        rw [e] at h1
        exact h1
      · rw [if_neg hi]
        refine ⟨_, rfl, by omega, nI_1 _, ?_⟩
        have e : agC a n sS ns k = agC a n sS ns (k + 1) := by
          funext j
          by_cases h3 : j < k ∧ j < ns
          · exact (if_pos h3).trans (if_pos ⟨by omega, h3.2⟩).symm
          · exact (if_neg h3).trans (if_neg (by omega)).symm
        rw [← e]
        exact hz) (st, 0) ⟨rfl, by
          have e : agC a n sS ns 0 = sS := by funext j; exact if_neg (by omega)
          dsimp only
          rw [e]; exact h⟩
  exact ⟨b, g1, g2⟩
end CPASS
section OPS2
variable {st : DSt} {ad : Nat → Nat} {day : Int32} {nb ns nx : Nat} {gB wB : Nat → Int32} {cB sS bX : Nat → Nat → Int32} {f6 f7 g8 g9 : Nat → Int32} {Q : Nat → Option DCel} {l : Nat → Int64} {thr md : Int32} {pb ps px : Nat} {mB mS mX k15 k16 t17 t18 : Nat → Int32}
theorem op_told (h : NH st ad (CT ad day nb ns nx gB wB cB sS bX f6 f7 g8 g9 ((MQT ad l thr day nb ns nx mB mS mX k15 k16 t17 t18)))) (hR : RELS nb ns nx gB wB cB sS bX mB mS mX) (p q : Int32) : JOp st cd3 (ad 0) (ad 10) (ad 11) (fX4_told st (ad 0) p q) (fun u => fX5_told u (ad 11) p q) := by
  obtain ⟨hb, hs, hx, rB, rS, rX, rZ⟩ := id hR
  rcases hp : ixO p nb with _ | i
  · have e : fX4_told st (ad 0) p q = some (.inl ("java/lang/IndexOutOfBoundsException", st.2)) := by
      unfold fX4_told
      rw [ob_of _ (q_oR h), xt_of _ (c_bowlAt_f h hp)]
    refine ⟨_, e, JOr_bad k3_io (by decide) h hR fun u hu => ?_⟩
    obtain ⟨s1, e1, h1⟩ := x_thr hu 0
    obtain ⟨s2, e2, h2⟩ := x_fail h1 1
    unfold fX5_told
    rw [ob_of _ e1, ob_of _ (m_oR h1), ob_of _ (m_isBowl_f h1 hp hb), if_pos rfl, ob_of _ (m_oR h1), ob_of _ e2]
    exact ⟨_, _, rfl, h2⟩
  · obtain ⟨hi, hpe⟩ := ixO_some hp
    by_cases hq : q < 0 ∨ 7 < q
    · have e : fX4_told st (ad 0) p q = some (.inl ("java/lang/IndexOutOfBoundsException", st.2)) := by
        unfold fX4_told
        rw [ob_of _ (q_oR h), xb_of _ (c_bowlAt_t h hp hb), xt_of _ (c_what_f hq)]
      refine ⟨_, e, JOr_bad k3_io (by decide) h hR fun u hu => ?_⟩
      obtain ⟨s1, e1, h1⟩ := x_thr hu 0
      obtain ⟨s2, e2, h2⟩ := x_fail h1 1
      unfold fX5_told
      rw [ob_of _ e1, ob_of _ (m_oR h1), ob_of _ (m_isBowl_t h1 hp hb), if_neg n10, ob_of _ (isIn_f hq), if_pos rfl, ob_of _ (m_oR h1), ob_of _ e2]
      exact ⟨_, _, rfl, h2⟩
    · rw [not_or] at hq
      obtain ⟨k, hk, rfl, -⟩ := toN (x := q) 7 (by rw [i_lt, toInt_0] at hq; omega) (by rw [i_lt, i_lt, show (7 : Int32).toInt = 7 by decide] at hq; omega) (by omega)
      refine ⟨_, c_told h hp hb hk, JOr_good h rfl rfl rfl fun u l' hu => ?_⟩
      obtain ⟨s1, e1, h1⟩ := x_thr hu 0
      obtain ⟨s2, t, e2, h2⟩ := m_bowlTold h1 hpe (by omega) hk
      unfold fX5_told
      rw [ob_of _ e1, ob_of _ (m_oR h1), ob_of _ (m_isBowl_t h1 hp hb), if_neg n10, ob_of _ (isIn_t hq.1 hq.2), if_neg n10, ob_of _ (m_oR h1), ob_of _ e2, toldV_eq (rB i hi)]
      exact ⟨_, rfl, _, _, _, _, _, _, _, h2, hR⟩
theorem op_about (h : NH st ad (CT ad day nb ns nx gB wB cB sS bX f6 f7 g8 g9 ((MQT ad l thr day nb ns nx mB mS mX k15 k16 t17 t18)))) (hR : RELS nb ns nx gB wB cB sS bX mB mS mX) (p q : Int32) : JOp st cd3 (ad 0) (ad 10) (ad 11) (fX4_about st (ad 0) p q) (fun u => fX5_about u (ad 11) p q) := by
  obtain ⟨hb, hs, hx, rB, rS, rX, rZ⟩ := id hR
  rcases hp : ixO p ns with _ | i
  · have e : fX4_about st (ad 0) p q = some (.inl ("java/lang/IndexOutOfBoundsException", st.2)) := by
      unfold fX4_about
      rw [ob_of _ (q_oR h), xt_of _ (c_slabAt_f h hp)]
    refine ⟨_, e, JOr_bad k3_io (by decide) h hR fun u hu => ?_⟩
    obtain ⟨s1, e1, h1⟩ := x_thr hu 0
    obtain ⟨s2, e2, h2⟩ := x_fail h1 1
    unfold fX5_about
    rw [ob_of _ e1, ob_of _ (m_oR h1), ob_of _ (m_isSlab_f h1 hp hs), if_pos rfl, ob_of _ (m_oR h1), ob_of _ e2]
    exact ⟨_, _, rfl, h2⟩
  · obtain ⟨hi, hpe⟩ := ixO_some hp
    by_cases hq : q < 0 ∨ 6 < q
    · have e : fX4_about st (ad 0) p q = some (.inl ("java/lang/IndexOutOfBoundsException", st.2)) := by
        unfold fX4_about
        rw [ob_of _ (q_oR h), xb_of _ (c_slabAt_t h hp hs), xt_of _ (c_what_f hq)]
      refine ⟨_, e, JOr_bad k3_io (by decide) h hR fun u hu => ?_⟩
      obtain ⟨s1, e1, h1⟩ := x_thr hu 0
      obtain ⟨s2, e2, h2⟩ := x_fail h1 1
      unfold fX5_about
      rw [ob_of _ e1, ob_of _ (m_oR h1), ob_of _ (m_isSlab_t h1 hp hs), if_neg n10, ob_of _ (isIn_f hq), if_pos rfl, ob_of _ (m_oR h1), ob_of _ e2]
      exact ⟨_, _, rfl, h2⟩
    · rw [not_or] at hq
      obtain ⟨k, hk, rfl, -⟩ := toN (x := q) 6 (by rw [i_lt, toInt_0] at hq; omega) (by rw [i_lt, i_lt, show (6 : Int32).toInt = 6 by decide] at hq; omega) (by omega)
      refine ⟨_, c_about h hp hs hx hk, JOr_good h rfl rfl rfl fun u l' hu => ?_⟩
      obtain ⟨s1, e1, h1⟩ := x_thr hu 0
      unfold fX5_about
      rw [ob_of _ e1, ob_of _ (m_oR h1), ob_of _ (m_isSlab_t h1 hp hs), if_neg n10, ob_of _ (isIn_t hq.1 hq.2), if_neg n10, ob_of _ (m_oR h1), ob_of _ (m_slabTold h1 hpe (by omega) hx hk), aboutV_eq (rS i hi) rX]
      exact ⟨_, rfl, _, _, _, _, _, _, _, h1, hR⟩
theorem op_order (h : NH st ad (CT ad day nb ns nx gB wB cB sS bX f6 f7 g8 g9 ((MQT ad l thr day nb ns nx mB mS mX k15 k16 t17 t18)))) (hR : RELS nb ns nx gB wB cB sS bX mB mS mX) (p q : Int32) : JOp st cd3 (ad 0) (ad 10) (ad 11) (fX4_order st (ad 0) p q) (fun u => fX5_order u (ad 11) p q) := by
  obtain ⟨hb, hs, hx, rB, rS, rX, rZ⟩ := id hR
  rcases hp : ixO p nx with _ | i
  · have e : fX4_order st (ad 0) p q = some (.inl ("java/lang/IndexOutOfBoundsException", st.2)) := by
      unfold fX4_order
      rw [ob_of _ (q_oR h), xt_of _ (c_boxAt_f h hp)]
    refine ⟨_, e, JOr_bad k3_io (by decide) h hR fun u hu => ?_⟩
    obtain ⟨s1, e1, h1⟩ := x_thr hu 0
    obtain ⟨s2, e2, h2⟩ := x_fail h1 1
    unfold fX5_order
    rw [ob_of _ e1, ob_of _ (m_nx h1), ob_of _ (in_no hp (by omega)), if_pos rfl, ob_of _ (m_oR h1), ob_of _ e2]
    exact ⟨_, _, rfl, h2⟩
  · obtain ⟨hi, hpe⟩ := ixO_some hp
    by_cases hq : q < 0 ∨ 4 < q
    · have e : fX4_order st (ad 0) p q = some (.inl ("java/lang/IndexOutOfBoundsException", st.2)) := by
        unfold fX4_order
        rw [ob_of _ (q_oR h), xb_of _ (c_boxAt_t h hp hx), xt_of _ (c_what_f hq)]
      refine ⟨_, e, JOr_bad k3_io (by decide) h hR fun u hu => ?_⟩
      obtain ⟨s1, e1, h1⟩ := x_thr hu 0
      obtain ⟨s2, e2, h2⟩ := x_fail h1 1
      unfold fX5_order
      rw [ob_of _ e1, ob_of _ (m_nx h1), ob_of _ (in_ix hp (by omega)), if_neg n10, ob_of _ (isIn_f hq), if_pos rfl, ob_of _ (m_oR h1), ob_of _ e2]
      exact ⟨_, _, rfl, h2⟩
    · rw [not_or] at hq
      obtain ⟨k, hk, rfl, -⟩ := toN (x := q) 4 (by rw [i_lt, toInt_0] at hq; omega) (by rw [i_lt, i_lt, show (4 : Int32).toInt = 4 by decide] at hq; omega) (by omega)
      refine ⟨_, c_order h hp hx (rX i hi).2 hk, JOr_good h rfl rfl rfl fun u l' hu => ?_⟩
      obtain ⟨s1, e1, h1⟩ := x_thr hu 0
      unfold fX5_order
      rw [ob_of _ e1, ob_of _ (m_nx h1), ob_of _ (in_ix hp (by omega)), if_neg n10, ob_of _ (isIn_t hq.1 hq.2), if_neg n10, ob_of _ (m_oR h1), ob_of _ (m_bx h1 hpe rfl (by omega) (by omega)), (rX i hi).1 k (by omega)]
      exact ⟨_, rfl, _, _, _, _, _, _, _, h1, hR⟩
theorem op_count (h : NH st ad (CT ad day nb ns nx gB wB cB sS bX f6 f7 g8 g9 ((MQT ad l thr day nb ns nx mB mS mX k15 k16 t17 t18)))) (hR : RELS nb ns nx gB wB cB sS bX mB mS mX) (q : Int32) : JOp st cd3 (ad 0) (ad 10) (ad 11) (fX4_count st (ad 0) q) (fun u => fX5_count u (ad 11) q) := by
  obtain ⟨hb, hs, hx, rB, rS, rX, rZ⟩ := id hR
  by_cases hq : q < 0 ∨ 7 < q
  · have e : fX4_count st (ad 0) q = some (.inl ("java/lang/IndexOutOfBoundsException", st.2)) := by
      unfold fX4_count
      rw [xt_of _ (c_what_f hq)]
    refine ⟨_, e, JOr_bad k3_io (by decide) h hR fun u hu => ?_⟩
    obtain ⟨s1, e1, h1⟩ := x_thr hu 0
    obtain ⟨s2, e2, h2⟩ := x_fail h1 1
    unfold fX5_count
    rw [ob_of _ e1, ob_of _ (isIn_f hq), if_pos rfl, ob_of _ (m_oR h1), ob_of _ e2]
    exact ⟨_, _, rfl, h2⟩
  · rw [not_or] at hq
    obtain ⟨k, hk, rfl, -⟩ := toN (x := q) 7 (by rw [i_lt, toInt_0] at hq; omega) (by rw [i_lt, i_lt, show (7 : Int32).toInt = 7 by decide] at hq; omega) (by omega)
    refine ⟨_, c_count h hb hs hx hk, JOr_good h rfl rfl rfl fun u l' hu => ?_⟩
    obtain ⟨s1, e1, h1⟩ := x_thr hu 0
    unfold fX5_count
    rw [ob_of _ e1, ob_of _ (isIn_t hq.1 hq.2), if_neg n10, ob_of _ (m_oR h1), ob_of _ (m_counted h1 hb hs hx (fun i hi => by have := rX i hi; rw [← this.1 2 (by omega)]; exact this.2) hk), countV_eq hR]
    exact ⟨_, rfl, _, _, _, _, _, _, _, h1, hR⟩
theorem op_until (h : NH st ad (CT ad day nb ns nx gB wB cB sS bX f6 f7 g8 g9 ((MQT ad l thr day nb ns nx mB mS mX k15 k16 t17 t18)))) (hR : RELS nb ns nx gB wB cB sS bX mB mS mX) (p a : Int32) : JOp st cd1 (ad 0) (ad 10) (ad 11) (fX4_until st (ad 0) p a) (fun u => fX5_until u (ad 11) p a) := by
  obtain ⟨hb, hs, hx, rB, rS, rX, rZ⟩ := id hR
  rcases hp : ixO p ns with _ | i
  · have e : fX4_until st (ad 0) p a = some (.inl ("java/lang/IndexOutOfBoundsException", st.2)) := by
      unfold fX4_until
      rw [ob_of _ (q_oR h), xt_of _ (c_slabAt_f h hp)]
    refine ⟨_, e, JOr_bad k1_io (by decide) h hR fun u hu => ?_⟩
    obtain ⟨s1, e1, h1⟩ := x_thr hu 0
    obtain ⟨s2, e2, h2⟩ := x_fail h1 1
    unfold fX5_until
    rw [ob_of _ e1, ob_of _ (m_oR h1), ob_of _ (m_isSlab_f h1 hp hs), if_pos rfl, ob_of _ (m_oR h1), ob_of _ e2]
    exact ⟨_, _, rfl, h2⟩
  · obtain ⟨hi, hpe⟩ := ixO_some hp
    by_cases hq : a < 10 ∨ 40 < a
    · have e : fX4_until st (ad 0) p a = some (.inl ("java/lang/IllegalArgumentException", st.2)) := by
        unfold fX4_until
        rw [ob_of _ (q_oR h), xb_of _ (c_slabAt_t h hp hs), xt_of _ (c_room_f hq)]
      refine ⟨_, e, JOr_bad k1_ia (by decide) h hR fun u hu => ?_⟩
      obtain ⟨s1, e1, h1⟩ := x_thr hu 0
      obtain ⟨s2, e2, h2⟩ := x_fail h1 2
      unfold fX5_until
      rw [ob_of _ e1, ob_of _ (m_oR h1), ob_of _ (m_isSlab_t h1 hp hs), if_neg n10, ob_of _ (isIn_f hq), if_pos rfl, ob_of _ (m_oR h1), ob_of _ e2]
      exact ⟨_, _, rfl, h2⟩
    · rw [not_or] at hq
      obtain ⟨r1, r2, r3, r4, r5⟩ := rS i hi
      have a1 : 10 ≤ a.toInt := by have := hq.1; rw [i_lt, show (10 : Int32).toInt = 10 by decide] at this; omega
      have a2 : a.toInt ≤ 40 := by have := hq.2; rw [i_lt, show (40 : Int32).toInt = 40 by decide] at this; omega
      have hm := moreV_in r4.1 r4.2 a1 a2
      have t20 : (20 : Int32).toInt = 20 := by decide
      have t21 : (21 : Int32).toInt = 21 := by decide
      have t1 : (1 : Int32).toInt = 1 := by decide
      have eM : ∀ u l', NH u ad (CT ad day nb ns nx gB wB cB sS bX f6 f7 g8 g9 ((MQT ad (l') thr day nb ns nx mB mS mX k15 k16 t17 t18))) → ∃ s', fX5_until u (ad 11) p a = some (if 0 < (21 - sS i 3) then (if moreV (sS i 2) a = 0 then -1 else (((21 - sS i 3) + moreV (sS i 2) a) - 1) / moreV (sS i 2) a) else 0, s') ∧ NH s' ad (CT ad day nb ns nx gB wB cB sS bX f6 f7 g8 g9 ((MQT ad (l') (0) day nb ns nx mB mS mX k15 k16 t17 t18))) := fun u l' hu => by
        obtain ⟨s1, e1, h1⟩ := x_thr hu 0
        unfold fX5_until
        rw [ob_of _ e1, ob_of _ (m_oR h1), ob_of _ (m_isSlab_t h1 hp hs), if_neg n10, ob_of _ (isIn_t hq.1 hq.2), if_neg n10, ob_of _ (m_oR h1), ob_of _ (m_sl (q := 3) (k := 3) h1 hpe rfl (by omega) (by omega)), ob_of _ (m_oR h1), ob_of _ (m_more h1 hpe (by omega) a), ← r1 3 (by omega), ← r1 2 (by omega)]
        by_cases c1 : 0 < (21 - sS i 3)
        · rw [if_pos c1, if_pos c1]
          by_cases c2 : moreV (sS i 2) a = 0
          · rw [if_pos c2, if_pos c2]; exact ⟨_, rfl, h1⟩
          · rw [if_neg c2, if_neg c2, ob_of _ (oD_of c2)]; exact ⟨_, rfl, h1⟩
        · rw [if_neg c1, if_neg c1]; exact ⟨_, rfl, h1⟩
      have eC : fX4_until st (ad 0) p a = some (.inr (if 0 < (21 - sS i 3) then (if moreV (sS i 2) a = 0 then -1 else (((21 - sS i 3) + moreV (sS i 2) a) - 1) / moreV (sS i 2) a) else 0)) := by
        have d21 : (21 - sS i 3).toInt = 21 - (sS i 3).toInt := by rw [i_sub] <;> rw [t21] <;> omega
        have d20 : (20 - sS i 3).toInt = 20 - (sS i 3).toInt := by rw [i_sub] <;> rw [t20] <;> omega
        have c0 : (0 < (21 - sS i 3)) ↔ sS i 3 ≤ 20 := by rw [i_lt, i_le, d21, t20, toInt_0]; omega
        unfold fX4_until
        rw [ob_of _ (q_oR h), xb_of _ (c_slabAt_t h hp hs), xb_of _ (c_room_t hq.1 hq.2), ob_of _ (q_so h hi)]
        by_cases c1 : sS i 3 ≤ 20
        · rw [ob_of _ (show fX3_isBloomed st (ad (60 + i)) = some 0 by unfold fX3_isBloomed; rw [ob_of _ (q_s3 h hi), if_pos c1]; rfl), if_pos rfl, if_pos (c0.mpr c1), ob_of _ (q_so h hi), ob_of _ (c_dayBloom h hi a)]
          by_cases c2 : moreV (sS i 2) a = 0
          · rw [if_pos c2, if_neg (by rw [c2]; decide)]
          · have c3 : 0 < moreV (sS i 2) a := by
              rw [i_lt, toInt_0]
              rw [i_eq, toInt_0] at c2
              omega
            have c4 := c3
            rw [i_lt, toInt_0] at c4
            rw [i_le, t20] at c1
            rw [if_neg c2, if_pos c3, ob_of _ (q_s3 h hi), ob_of _ (oD_of c2)]
            congr 2
            have f1 : ((20 - sS i 3) / moreV (sS i 2) a).toInt = (20 - (sS i 3).toInt) / (moreV (sS i 2) a).toInt := by rw [i_div] <;> (try rw [d20]) <;> omega
            have f2 : ((21 - sS i 3) + moreV (sS i 2) a).toInt = 21 - (sS i 3).toInt + (moreV (sS i 2) a).toInt := by rw [i_add] <;> rw [d21] <;> omega
            have f3 : (((21 - sS i 3) + moreV (sS i 2) a) - 1).toInt = 20 - (sS i 3).toInt + 1 * (moreV (sS i 2) a).toInt := by rw [i_sub] <;> rw [f2, t1] <;> omega
            have f4 : ((((21 - sS i 3) + moreV (sS i 2) a) - 1) / moreV (sS i 2) a).toInt = (20 - (sS i 3).toInt + 1 * (moreV (sS i 2) a).toInt) / (moreV (sS i 2) a).toInt := by rw [i_div] <;> (try rw [f3]) <;> omega
            have f5 := Int.ediv_nonneg (a := 20 - (sS i 3).toInt) (b := (moreV (sS i 2) a).toInt) (by omega) (by omega)
            have f6 := Int.ediv_le_self (moreV (sS i 2) a).toInt (a := 20 - (sS i 3).toInt) (by omega)
            rw [i_eq, f4, Int.add_mul_ediv_right _ _ (by omega), i_add, f1, t1] <;> rw [f1, t1] <;> omega
        · rw [ob_of _ (show fX3_isBloomed st (ad (60 + i)) = some 1 by unfold fX3_isBloomed; rw [ob_of _ (q_s3 h hi), if_neg c1]; rfl), if_neg n10, if_neg (fun q => c1 (c0.mp q))]
      refine ⟨_, eC, JOr_good h rfl rfl rfl fun u l' hu => ?_⟩
      obtain ⟨s', e', h'⟩ := eM u l' hu
      exact ⟨_, e', _, _, _, _, _, _, _, h', hR⟩
theorem op_pass (h : NH st ad (CT ad day nb ns nx gB wB cB sS bX f6 f7 g8 g9 ((MQT ad l thr day nb ns nx mB mS mX k15 k16 t17 t18)))) (hR : RELS nb ns nx gB wB cB sS bX mB mS mX) (a n : Int32) : JO cd5 (ad 0) (ad 10) (ad 11) (fX4_pass st (ad 0) a n) (fun u => fX5_pass u (ad 11) a n) := by
  obtain ⟨hb, hs, hx, rB, rS, rX, rZ⟩ := id hR
  by_cases hq : a < 10 ∨ 40 < a
  · have e : fX4_pass st (ad 0) a n = some (.inl ("java/lang/IllegalArgumentException", st.2)) := by
      unfold fX4_pass
      rw [xt_of _ (c_room_f hq)]
    refine ⟨_, e, JOr_bad k5_ia (by decide) h hR fun u hu => ?_⟩
    obtain ⟨s1, e1, h1⟩ := x_thr hu 0
    obtain ⟨s2, e2, h2⟩ := x_fail h1 1
    unfold fX5_pass
    rw [ob_of _ e1, ob_of _ (isIn_f hq), if_pos rfl, ob_of _ (m_oR h1), ob_of _ e2]
    exact ⟨_, _, rfl, h2⟩
  · rw [not_or] at hq
    have bad : ∀ u, (n < 1 ∨ 60 < n) → NH u ad (CT ad day nb ns nx gB wB cB sS bX f6 f7 g8 g9 ((MQT ad l thr day nb ns nx mB mS mX k15 k16 t17 t18))) → ∃ y s', fX5_pass u (ad 11) a n = some (y, s') ∧ NH s' ad (CT ad day nb ns nx gB wB cB sS bX f6 f7 g8 g9 ((MQT ad l (1) day nb ns nx mB mS mX k15 k16 t17 t18))) := fun u hw hu => by
      obtain ⟨s1, e1, h1⟩ := x_thr hu 0
      obtain ⟨s2, e2, h2⟩ := x_fail h1 1
      unfold fX5_pass
      rw [ob_of _ e1, ob_of _ (isIn_t hq.1 hq.2), if_neg n10, ob_of _ (isIn_f hw), if_pos rfl, ob_of _ (m_oR h1), ob_of _ e2]
      exact ⟨_, _, rfl, h2⟩
    unfold fX4_pass
    rw [xb_of _ (c_room_t hq.1 hq.2)]
    by_cases w1 : n < 1
    · rw [if_pos w1]
      exact ⟨_, rfl, JOr_bad k5_ia (by decide) h hR fun u hu => bad u (Or.inl w1) hu⟩
    rw [if_neg w1]
    by_cases w2 : n ≤ 60
    · obtain ⟨b, e1, h1⟩ := c_passL a n h hs
      obtain ⟨s2, e2, h2⟩ := w_day h1 (day + n)
      rw [if_pos w2, ob_of _ (q_rs h), ob_of _ (q_aNs h), ob_of _ e1, ob_of _ (q_day h1), ob_of _ e2, ob_of _ (q_oR h2), ob_of _ (c_bloomed h2 hs)]
      have hR' : RELS nb ns nx gB wB cB (agC a n sS ns 8) bX mB (agM a n mS ns) mX := by
        refine ⟨hb, hs, hx, rB, fun i hi => ?_, rX, rZ⟩
        obtain ⟨r1, r2, r3, r4, r5⟩ := rS i hi
        have e : agC a n sS ns 8 i = ageF a n (sS i) := if_pos ⟨by omega, hi⟩
        unfold ROWS
        rw [e]
        refine ⟨fun k hk => ?_, r2, r3, r4, ?_⟩
        · rw [agM_i a n mS hi hk]
          unfold ageF
          by_cases k4 : k = 4
          · rw [k4, upd_s, upd_s, r1 4 (by omega)]; rfl
          · rw [upd_n _ _ k4, upd_n _ _ k4]
            by_cases k3 : k = 3
            · rw [k3, upd_s, upd_s, r1 3 (by omega), r1 2 (by omega)]; rfl
            · rw [upd_n _ _ k3, upd_n _ _ k3]; exact r1 k hk
        · show 0 ≤ (jmin 100 (sS i 3 + (n * moreV (sS i 2) a))).toInt ∧ (jmin 100 (sS i 3 + (n * moreV (sS i 2) a))).toInt ≤ 100
          have a1 : 10 ≤ a.toInt := by have := hq.1; rw [i_lt, show (10 : Int32).toInt = 10 by decide] at this; omega
          have a2 : a.toInt ≤ 40 := by have := hq.2; rw [i_lt, show (40 : Int32).toInt = 40 by decide] at this; omega
          have hm := moreV_in r4.1 r4.2 a1 a2
          rw [i_lt, show (1 : Int32).toInt = 1 by decide] at w1
          rw [i_le, show (60 : Int32).toInt = 60 by decide] at w2
          have m1 := Int.mul_nonneg (show 0 ≤ n.toInt by omega) hm.1
          have m2 := Int.mul_le_mul (show n.toInt ≤ 60 by omega) hm.2 hm.1 (by omega)
          have e1 : (n * moreV (sS i 2) a).toInt = n.toInt * (moreV (sS i 2) a).toInt := i_mul (by omega) (by omega)
          have e2 : (sS i 3 + (n * moreV (sS i 2) a)).toInt = (sS i 3).toInt + n.toInt * (moreV (sS i 2) a).toInt := by rw [i_add] <;> rw [e1] <;> omega
          rw [i_min, toInt_100, e2]
          omega
      refine ⟨_, rfl, JOr_good h2 rfl rfl rfl fun u l' hu => ?_⟩
      obtain ⟨s1, e1, h1⟩ := x_thr hu 0
      obtain ⟨b3, e3, h3⟩ := m_passL a n h1 hs
      obtain ⟨s4, e4, h4⟩ := x_day h3 (day + n)
      have eb : foldN (cntB (rowS (agM a n mS ns))) ns 0 = foldN (cntB (agC a n sS ns 8)) ns 0 := foldN_congr fun k hk a => by
        unfold cntB
        rw [(hR'.2.2.2.2.1 k hk).1 3 (by omega)]
        rfl
      unfold fX5_pass
      rw [ob_of _ e1, ob_of _ (isIn_t hq.1 hq.2), if_neg n10, ob_of _ (isIn_t w1 (Int32.not_lt.mpr w2)), if_neg n10, ob_of _ e3, ob_of _ (m_day h3), ob_of _ e4, ob_of _ (m_oR h4), ob_of _ (m_bloomed h4 hs), eb]
      exact ⟨_, rfl, _, _, _, _, _, _, _, h4, hR'⟩
    · rw [if_neg w2]
      exact ⟨_, rfl, JOr_bad k5_ia (by decide) h hR fun u hu => bad u (Or.inr (Int32.not_le.mp w2)) hu⟩
end OPS2
