/-! ADVISE -/
theorem fitB_eq3 {b s b' s' : Nat → Int32} {bl bl' : Int32} (hb : ∀ k, k < 3 → b k = b' k) (hs : ∀ k, k < 3 → s k = s' k) (h : bl = bl') : fitB b s bl = fitB b' s' bl' := by
  unfold fitB suitB
  rw [hb 0 (by omega), hb 1 (by omega), hb 2 (by omega), hs 0 (by omega), hs 1 (by omega), hs 2 (by omega), h]
def adS (cn : Nat → Int32) (k : Nat) (s : Int32 × Int32) : Int32 × Int32 := if s.2 < cn k then (nI k, cn k) else s
section CADV
variable {st : DSt} {ad : Nat → Nat} {day : Int32} {nb ns nx : Nat} {gB wB : Nat → Int32} {cB sS bX : Nat → Nat → Int32} {f6 f7 g8 g9 : Nat → Int32} {Q : Nat → Option DCel}
theorem c_advise (h : NH st ad (CT ad day nb ns nx gB wB cB sS bX f6 f7 g8 g9 Q)) (hx : nx ≤ 6) (hs : ns ≤ 8) : ∃ st' g8' g9', fX4_advise st (ad 0) = some ((foldN (adS (fun k => (PL (pF nx bX sS (nI k)) ns 6).2.2.1)) ns (-1, (PL (pF nx bX sS (-1)) ns 6).2.2.1)).1, st') ∧ NH st' ad (CT ad day nb ns nx gB wB cB sS bX f6 f7 (g8') (g9') Q) := by
  obtain ⟨s2, ga, gb, e2, h2, -⟩ := c_planFilling h hx hs (-1)
  obtain ⟨b, g1, g2, gc, gd, g3⟩ := dlp_run (fX4_advise_L10 (ad 0)) (fun k z => z.2.2.2 = nI k ∧ (z.2.1, z.2.2.1) = foldN (adS (fun k => (PL (pF nx bX sS (nI k)) ns 6).2.2.1)) k (-1, (PL (pF nx bX sS (-1)) ns 6).2.2.1) ∧ ∃ g8' g9', NH z.1 ad (CT ad day nb ns nx gB wB cB sS bX f6 f7 (g8') (g9') Q)) (fun z => (z.2.1, z.2.2.1) = foldN (adS (fun k => (PL (pF nx bX sS (nI k)) ns 6).2.2.1)) ns (-1, (PL (pF nx bX sS (-1)) ns 6).2.2.1) ∧ ∃ g8' g9', NH z.1 ad (CT ad day nb ns nx gB wB cB sS bX f6 f7 (g8') (g9') Q)) ns (fun k z hk hz => by
    obtain ⟨z1, z2, z3, z4⟩ := z
    obtain ⟨e4, es, ga, gb, hz⟩ := hz
    dsimp only at e4 es hz
    subst e4
    unfold fX4_advise_L10
    dsimp only
    rw [ob_of _ (q_ns hz)]
    by_cases hn : k = ns
    · rw [if_pos (show nI ns ≤ nI k by rw [hn]; exact Int32.le_refl _)]
      rw [hn] at es
      exact Or.inr ⟨_, rfl, es, ga, gb, hz⟩
    · obtain ⟨s5, gc, gd, e5, h5, -⟩ := c_planFilling hz hx hs (nI k)
      rw [if_neg (nI_ge (by omega) (by omega)), ob_of _ (q_oR hz), ob_of _ e5]
      refine Or.inl ?_
      by_cases q : (PL (pF nx bX sS (nI k)) ns 6).2.2.1 ≤ z3
      · rw [if_pos q]
        refine ⟨_, rfl, by omega, nI_1 _, ?_, gc, gd, h5⟩
        rw [foldN_s, ← es]
        exact (if_neg (Int32.not_lt.mpr q)).symm
      · rw [if_neg q]
        refine ⟨_, rfl, by omega, nI_1 _, ?_, gc, gd, h5⟩
        rw [foldN_s, ← es]
        exact (if_pos (Int32.not_le.mp q)).symm) (s2, -1, (PL (pF nx bX sS (-1)) ns 6).2.2.1, 0) ⟨rfl, rfl, ga, gb, h2⟩
  refine ⟨b.1, gc, gd, ?_, g3⟩
  unfold fX4_advise
  rw [ob_of _ (q_oR h), ob_of _ e2, ob_of _ g1]
  rw [← g2]
end CADV
section MADV
variable {st : DSt} {ad : Nat → Nat} {l : Nat → Int64} {thr day : Int32} {nb ns nx : Nat} {mB mS mX k15 k16 t17 t18 : Nat → Int32} {r0 r2 r3 r4 r5 r6 : Nat → Option DCel} {p : Int32}
theorem m_filledBy (h : NH st ad (MT ad l thr day nb ns nx mB mS mX k15 k16 t17 t18 r0 r2 r3 r4 r5 r6)) (hs : ns ≤ 8) (hx : nx ≤ 6) {a0 : Int32} {mS1 : Nat → Int32} (ha : (a0 = -1 ∧ mS1 = mS) ∨ ∃ i, i < ns ∧ a0 = nI i ∧ mS1 = upd mS (5 * i + 3) (jmax 0 (mS (5 * i + 3) - 15))) : ∃ st' mS'' mX'' k15' k16', fX5_filledBy st (ad 11) a0 = some ((PL (pM nx mX mS1) ns 6).2.2.1, st') ∧ NH st' ad (MT ad l thr day nb ns nx mB (mS'') (mX'') (k15') (k16') t17 t18 r0 r2 r3 r4 r5 r6) ∧ (∀ d, d < 40 → mS'' d = mS d) ∧ ∀ d, d < 30 → mX'' d = mX d := by
  have e1 := l_cp h (c0 := 13) (c1 := 15) m_c13 m_c15 (sp := 0) (dp := 0) (n := Int32.ofNat 40) 0 0 40 rfl rfl rfl (by omega) (by omega) (by omega) (by omega)
  have h1 := x_15 _ (h.set (c := 15) m_c15 (ARR 40 (va_cpy mS k15 0 0 40)))
  generalize setN st (ad 15) _ = s1 at e1 h1
  have e2 := l_cp h1 (c0 := 14) (c1 := 16) m_c14 m_c16 (sp := 0) (dp := 0) (n := Int32.ofNat 30) 0 0 30 rfl rfl rfl (by omega) (by omega) (by omega) (by omega)
  have h2 := x_16 _ (h1.set (c := 16) m_c16 (ARR 30 (va_cpy mX k16 0 0 30)))
  generalize setN s1 (ad 16) _ = s2 at e2 h2
  rcases ha with ⟨rfl, hm1⟩ | ⟨i, hi, rfl, rfl⟩
  · rw [hm1]
    obtain ⟨s5, mS', mX', e5, h5, -, -⟩ := m_fillAll h2 hs hx
    obtain ⟨s6, e6, h6⟩ := x_ns h5 (v := nI ns) ns rfl
    have e7 := l_cp h6 (c0 := 15) (c1 := 13) m_c15 m_c13 (sp := 0) (dp := 0) (n := Int32.ofNat 40) 0 0 40 rfl rfl rfl (by omega) (by omega) (by omega) (by omega)
    have h7 := x_13 _ (h6.set (c := 13) m_c13 (ARR 40 (va_cpy (va_cpy mS k15 0 0 40) mS' 0 0 40)))
    generalize setN s6 (ad 13) _ = s7 at e7 h7
    have e8 := l_cp h7 (c0 := 16) (c1 := 14) m_c16 m_c14 (sp := 0) (dp := 0) (n := Int32.ofNat 30) 0 0 30 rfl rfl rfl (by omega) (by omega) (by omega) (by omega)
    have h8 := x_14 _ (h7.set (c := 14) m_c14 (ARR 30 (va_cpy (va_cpy mX k16 0 0 30) mX' 0 0 30)))
    generalize setN s7 (ad 14) _ = s8 at e8 h8
    refine ⟨s8, _, _, _, _, ?_, h8, fun d hd => ?_, fun d hd => ?_⟩
    · unfold fX5_filledBy
      rw [ob_of _ (m_ns h), ob_of _ (m_r6 h), ob_of _ (m_r8 h), ob_of _ (m_r6 h), ob_of _ (l_aN (c := 13) h m_c13), ob_of _ e1, ob_of _ (m_r7 h1), ob_of _ (m_r9 h1), ob_of _ (m_r7 h1), ob_of _ (l_aN (c := 14) h1 m_c14), ob_of _ e2, if_pos rfl, ob_of _ (m_oR h2), ob_of _ e5, ob_of _ e6, ob_of _ (m_r8 h6), ob_of _ (m_r6 h6), ob_of _ (m_r6 h6), ob_of _ (l_aN (c := 13) h6 m_c13), ob_of _ e7, ob_of _ (m_r9 h7), ob_of _ (m_r7 h7), ob_of _ (m_r7 h7), ob_of _ (l_aN (c := 14) h7 m_c14), ob_of _ e8]
    · refine (if_pos ⟨by omega, by omega⟩).trans ((if_pos ⟨by omega, by omega⟩).trans ?_)
      congr 1
      omega
    · refine (if_pos ⟨by omega, by omega⟩).trans ((if_pos ⟨by omega, by omega⟩).trans ?_)
      congr 1
      omega
  · obtain ⟨s4, e4, h4⟩ := x_sl h2 (p := nI i) (i := i) (q := 3) (k := 3) rfl rfl (by omega) (by omega) (jmax 0 (mS (5 * i + 3) - 15))
    obtain ⟨s5, mS', mX', e5, h5, -, -⟩ := m_fillAll h4 hs hx
    obtain ⟨s6, e6, h6⟩ := x_ns h5 (v := nI ns) ns rfl
    have e7 := l_cp h6 (c0 := 15) (c1 := 13) m_c15 m_c13 (sp := 0) (dp := 0) (n := Int32.ofNat 40) 0 0 40 rfl rfl rfl (by omega) (by omega) (by omega) (by omega)
    have h7 := x_13 _ (h6.set (c := 13) m_c13 (ARR 40 (va_cpy (va_cpy mS k15 0 0 40) mS' 0 0 40)))
    generalize setN s6 (ad 13) _ = s7 at e7 h7
    have e8 := l_cp h7 (c0 := 16) (c1 := 14) m_c16 m_c14 (sp := 0) (dp := 0) (n := Int32.ofNat 30) 0 0 30 rfl rfl rfl (by omega) (by omega) (by omega) (by omega)
    have h8 := x_14 _ (h7.set (c := 14) m_c14 (ARR 30 (va_cpy (va_cpy mX k16 0 0 30) mX' 0 0 30)))
    generalize setN s7 (ad 14) _ = s8 at e8 h8
    refine ⟨s8, _, _, _, _, ?_, h8, fun d hd => ?_, fun d hd => ?_⟩
    · unfold fX5_filledBy
      rw [ob_of _ (m_ns h), ob_of _ (m_r6 h), ob_of _ (m_r8 h), ob_of _ (m_r6 h), ob_of _ (l_aN (c := 13) h m_c13), ob_of _ e1, ob_of _ (m_r7 h1), ob_of _ (m_r9 h1), ob_of _ (m_r7 h1), ob_of _ (l_aN (c := 14) h1 m_c14), ob_of _ e2, if_neg (show ¬ nI i = -1 from fun z => by rw [i_eq, i_nI (by omega), show (-1 : Int32).toInt = -1 by decide] at z; omega), ob_of _ (m_oR h2), ob_of _ (m_sl (q := 3) (k := 3) h2 rfl rfl (by omega) (by omega)), ob_of _ (m_oR h2), ob_of _ e4, ob_of _ (m_oR h4), ob_of _ e5, ob_of _ e6, ob_of _ (m_r8 h6), ob_of _ (m_r6 h6), ob_of _ (m_r6 h6), ob_of _ (l_aN (c := 13) h6 m_c13), ob_of _ e7, ob_of _ (m_r9 h7), ob_of _ (m_r7 h7), ob_of _ (m_r7 h7), ob_of _ (l_aN (c := 14) h7 m_c14), ob_of _ e8]
    · refine (if_pos ⟨by omega, by omega⟩).trans ((if_pos ⟨by omega, by omega⟩).trans ?_)
      congr 1
      omega
    · refine (if_pos ⟨by omega, by omega⟩).trans ((if_pos ⟨by omega, by omega⟩).trans ?_)
      congr 1
      omega
end MADV
section OPADV
variable {st : DSt} {ad : Nat → Nat} {day : Int32} {nb ns nx : Nat} {gB wB : Nat → Int32} {cB sS bX : Nat → Nat → Int32} {f6 f7 g8 g9 : Nat → Int32} {Q : Nat → Option DCel} {l : Nat → Int64} {thr md : Int32} {pb ps px : Nat} {mB mS mX k15 k16 t17 t18 : Nat → Int32}
theorem pMA {nb ns nx : Nat} {gB wB : Nat → Int32} {cB sS bX : Nat → Nat → Int32} {mB mS mX mS0 mX0 mS1 : Nat → Int32} (hR : RELS nb ns nx gB wB cB sS bX mB mS mX) (hS : ∀ d, d < 40 → mS0 d = mS d) (hX : ∀ d, d < 30 → mX0 d = mX d) {a0 : Int32} (ha : (a0 = -1 ∧ mS1 = mS0) ∨ ∃ i, i < ns ∧ a0 = nI i ∧ mS1 = upd mS0 (5 * i + 3) (jmax 0 (mS0 (5 * i + 3) - 15))) (b j : Nat) (hj : j < ns) : pM nx mX0 mS1 b j = pF nx bX sS a0 b j := by
  obtain ⟨hb, hs, hx, rB, rS, rX, rZ⟩ := hR
  unfold pM pF
  by_cases q : b < nx
  · rw [decide_eq_true q, Bool.true_and, Bool.true_and]
    have e3 : mS0 (5 * j + 3) = sS j 3 := (hS _ (by omega)).trans ((rS j hj).1 3 (by omega)).symm
    refine fitB_eq3 (fun k hk => (hX _ (by omega)).trans ((rX b q).1 k (by omega)).symm) (fun k hk => ?_) ?_
    · have : mS1 (5 * j + k) = mS0 (5 * j + k) := by
        rcases ha with ⟨-, rfl⟩ | ⟨i, hi, -, rfl⟩
        · rfl
        · exact upd_n _ _ (by omega)
      exact this.trans ((hS _ (by omega)).trans ((rS j hj).1 k (by omega)).symm)
    · rcases ha with ⟨rfl, rfl⟩ | ⟨i, hi, rfl, rfl⟩
      · have e : blo (-1) sS j = sS j 3 := if_neg (fun z => by rw [i_eq, i_nI (by omega), show (-1 : Int32).toInt = -1 by decide] at z; omega)
        rw [e]
        exact e3
      · unfold blo
        by_cases c : j = i
        · rw [c, if_pos rfl, upd_s, ← c, e3]
        · rw [if_neg (fun z => c ((nI_eq (by omega) (by omega)).mp z)), upd_n _ _ (by omega)]
          exact e3
  · rw [decide_eq_false q, Bool.false_and, Bool.false_and]
theorem op_advise (h : NH st ad (CT ad day nb ns nx gB wB cB sS bX f6 f7 g8 g9 ((MQT ad l thr day nb ns nx mB mS mX k15 k16 t17 t18)))) (hR : RELS nb ns nx gB wB cB sS bX mB mS mX) : ∃ y s1 s2, fX4_advise st (ad 0) = some (y, s1) ∧ oR s1 (some (ad 11)) 5 = some (ad 11) ∧ fX5_advise s1 (ad 11) = some (y, s2) ∧ ∃ thr v, INV (ad 0) (ad 10) (ad 11) thr v s2 := by
  obtain ⟨hb, hs, hx, rB, rS, rX, rZ⟩ := id hR
  obtain ⟨s1, g8', g9', e1, h1⟩ := c_advise h hx hs
  have hm : NH s1 ad (MT ad l thr day nb ns nx mB mS mX k15 k16 t17 t18 (T0 ad day nb ns nx f6 f7 g8' g9') (T2 ad nb gB wB) (T3 ad nb) (T4 nb cB) (T5 nx bX) (T6 ns sS)) := h1
  obtain ⟨s2, e2, h2⟩ := x_thr hm 0
  obtain ⟨s3, mSa, mXa, ka, kb, e3, h3, qS, qX⟩ := m_filledBy h2 hs hx (a0 := -1) (Or.inl ⟨rfl, rfl⟩)
  rw [PL_ext (p' := pF nx bX sS (-1)) (fun b j hj => pMA hR (fun _ _ => rfl) (fun _ _ => rfl) (Or.inl ⟨rfl, rfl⟩) b j hj) 6] at e3
  obtain ⟨b, g1, g2, mSb, mXb, kc, kd, g3, pS, pX⟩ := dlp_run (fX5_advise_L15 (ad 11)) (fun k z => z.2.2.2 = nI k ∧ (z.2.1, z.2.2.1) = foldN (adS (fun k => (PL (pF nx bX sS (nI k)) ns 6).2.2.1)) k (-1, (PL (pF nx bX sS (-1)) ns 6).2.2.1) ∧ ∃ mS' mX' k15' k16', NH z.1 ad (MT ad l (0) day nb ns nx mB (mS') (mX') (k15') (k16') t17 t18 (T0 ad day nb ns nx f6 f7 g8' g9') (T2 ad nb gB wB) (T3 ad nb) (T4 nb cB) (T5 nx bX) (T6 ns sS)) ∧ (∀ d, d < 40 → mS' d = mS d) ∧ ∀ d, d < 30 → mX' d = mX d) (fun z => (z.2.1, z.2.2.1) = foldN (adS (fun k => (PL (pF nx bX sS (nI k)) ns 6).2.2.1)) ns (-1, (PL (pF nx bX sS (-1)) ns 6).2.2.1) ∧ ∃ mS' mX' k15' k16', NH z.1 ad (MT ad l (0) day nb ns nx mB (mS') (mX') (k15') (k16') t17 t18 (T0 ad day nb ns nx f6 f7 g8' g9') (T2 ad nb gB wB) (T3 ad nb) (T4 nb cB) (T5 nx bX) (T6 ns sS)) ∧ (∀ d, d < 40 → mS' d = mS d) ∧ ∀ d, d < 30 → mX' d = mX d) ns (fun k z hk hz => by
    obtain ⟨z1, z2, z3, z4⟩ := z
    obtain ⟨e4, es, mS', mX', k15', k16', hz, qS, qX⟩ := hz
    dsimp only at e4 es hz
    subst e4
    unfold fX5_advise_L15
    dsimp only
    rw [ob_of _ (m_ns hz)]
    by_cases hn : k = ns
    · rw [if_pos (show nI ns ≤ nI k by rw [hn]; exact Int32.le_refl _)]
      rw [hn] at es
      exact Or.inr ⟨_, rfl, es, mS', mX', k15', k16', hz, qS, qX⟩
    · obtain ⟨s5, mS2, mX2, kc, kd, e5, h5, pS, pX⟩ := m_filledBy hz hs hx (a0 := nI k) (Or.inr ⟨k, by omega, rfl, rfl⟩)
      rw [PL_ext (p' := pF nx bX sS (nI k)) (fun b j hj => pMA hR qS qX (Or.inr ⟨k, by omega, rfl, rfl⟩) b j hj) 6] at e5
      rw [if_neg (nI_ge (by omega) (by omega)), ob_of _ (m_oR hz), ob_of _ e5]
      refine Or.inl ?_
      by_cases q : z3 < (PL (pF nx bX sS (nI k)) ns 6).2.2.1
      · rw [if_pos q]
        refine ⟨_, rfl, by omega, nI_1 _, ?_, _, _, _, _, h5, fun d hd => (pS d hd).trans (qS d hd), fun d hd => (pX d hd).trans (qX d hd)⟩
        rw [foldN_s, ← es]
        exact (if_pos q).symm
      · rw [if_neg q]
        refine ⟨_, rfl, by omega, nI_1 _, ?_, _, _, _, _, h5, fun d hd => (pS d hd).trans (qS d hd), fun d hd => (pX d hd).trans (qX d hd)⟩
        rw [foldN_s, ← es]
        exact (if_neg q).symm) (s3, -1, (PL (pF nx bX sS (-1)) ns 6).2.2.1, 0) ⟨rfl, rfl, mSa, mXa, ka, kb, h3, qS, qX⟩
  refine ⟨_, s1, b.1, e1, m_oR hm, ?_, 0, l 0, _, _, _, _, _, _, _, _, _, _, _, _, _, _, _, _, _, _, _, _, _, _, rfl, rfl, rfl, rfl, g3, hb, hs, hx, rB, fun i hi => ⟨fun k hk => ((rS i hi).1 k hk).trans (pS _ (by omega)).symm, (rS i hi).2⟩, fun i hi => ⟨fun k hk => ((rX i hi).1 k hk).trans (pX _ (by omega)).symm, (rX i hi).2⟩, rZ⟩
  unfold fX5_advise
  rw [ob_of _ e2, ob_of _ (m_oR h2), ob_of _ e3, ob_of _ g1]
  rw [← g2]
end OPADV
