/-! FILL, MEAN, DIGEST ON BOTH SIDES -/
section OPFILL
variable {st : DSt} {ad : Nat → Nat} {day : Int32} {nb ns nx : Nat} {gB wB : Nat → Int32} {cB sS bX : Nat → Nat → Int32} {f6 f7 g8 g9 : Nat → Int32} {Q : Nat → Option DCel} {l : Nat → Int64} {thr md : Int32} {pb ps px : Nat} {mB mS mX k15 k16 t17 t18 : Nat → Int32}
theorem pMF {nb ns nx : Nat} {gB wB : Nat → Int32} {cB sS bX : Nat → Nat → Int32} {mB mS mX : Nat → Int32} (hR : RELS nb ns nx gB wB cB sS bX mB mS mX) (b j : Nat) (hj : j < ns) : pM nx mX mS b j = pF nx bX sS (-1) b j := by
  obtain ⟨hb, hs, hx, rB, rS, rX, rZ⟩ := hR
  unfold pM pF
  by_cases q : b < nx
  · rw [decide_eq_true q, Bool.true_and, Bool.true_and]
    refine fitB_eq (fun k hk => ((rX b q).1 k hk).symm) (fun k hk => ((rS j hj).1 k hk).symm) ?_
    have e : blo (-1) sS j = sS j 3 := if_neg (fun z => by rw [i_eq, i_nI (by omega), show (-1 : Int32).toInt = -1 by decide] at z; omega)
    rw [e]
    exact ((rS j hj).1 3 (by omega)).symm
  · rw [decide_eq_false q, Bool.false_and, Bool.false_and]
theorem op_fill (h : NH st ad (CT ad day nb ns nx gB wB cB sS bX f6 f7 g8 g9 ((MQT ad l thr day nb ns nx mB mS mX k15 k16 t17 t18)))) (hR : RELS nb ns nx gB wB cB sS bX mB mS mX) : ∃ y s1 s2, fX4_fill st (ad 0) = some (y, s1) ∧ oR s1 (some (ad 11)) 5 = some (ad 11) ∧ fX5_fill s1 (ad 11) = some (y, s2) ∧ ∃ thr v, INV (ad 0) (ad 10) (ad 11) thr v s2 := by
  obtain ⟨hb, hs, hx, rB, rS, rX, rZ⟩ := id hR
  obtain ⟨s1, g8', g9', e1, h1⟩ := c_fill h hb hx hs
  have hP : PL (pM nx mX mS) ns 6 = PL (pF nx bX sS (-1)) ns 6 := PL_ext (fun b j hj => pMF hR b j hj) 6
  have hE := PL_EN (pF nx bX sS (-1)) ns 6
  have hF := PL_fit (p := pF nx bX sS (-1)) (ns := ns) 6
  rw [← MQT_same (ad' := rnA ad (PL (pF nx bX sS (-1)) ns 6).2.2.2.2) (fun c hc => rnA_lt (by omega))] at h1
  have r0 : rnA ad (PL (pF nx bX sS (-1)) ns 6).2.2.2.2 0 = ad 0 := rnA_lt (by omega)
  have r10 : rnA ad (PL (pF nx bX sS (-1)) ns 6).2.2.2.2 10 = ad 10 := rnA_lt (by omega)
  have r11 : rnA ad (PL (pF nx bX sS (-1)) ns 6).2.2.2.2 11 = ad 11 := rnA_lt (by omega)
  obtain ⟨s2, e2, h2⟩ := x_thr h1 0
  obtain ⟨s3, mS', mX', e3, h3, k1, k2⟩ := m_fillAll h2 hs hx
  rw [hP] at e3 h3 k1 k2
  have g11 := m_oR h1
  rw [r11] at g11 e2 e3
  refine ⟨_, s1, s3, e1, g11, ?_, 0, l 0, ?_⟩
  · unfold fX5_fill
    have g2 := m_oR h2
    rw [r11] at g2
    rw [ob_of _ e2, ob_of _ g2, ob_of _ e3]
  · rw [← r0, ← r10, ← r11]
    have h3' : NH s3 (rnA ad (PL (pF nx bX sS (-1)) ns 6).2.2.2.2) (CT (rnA ad (PL (pF nx bX sS (-1)) ns 6).2.2.2.2) day nb ((PL (pF nx bX sS (-1)) ns 6).2.2.2.1) nx gB wB cB (fun t => sS ((PL (pF nx bX sS (-1)) ns 6).2.2.2.2 t)) (filX (PL (pF nx bX sS (-1)) ns 6).2.1 bX sS 6) f6 f7 (g8') (g9') ((MQT (rnA ad (PL (pF nx bX sS (-1)) ns 6).2.2.2.2) l (0) day nb ((PL (pF nx bX sS (-1)) ns 6).2.2.2.1) nx mB (mS') (mX') k15 k16 t17 t18))) := h3
    refine ⟨_, _, _, _, _, _, _, _, _, _, _, _, _, _, _, _, _, _, _, _, _, _, rfl, rfl, rfl, rfl, h3', ?_⟩
    have hR1 := hR.E (m := (PL (pF nx bX sS (-1)) ns 6).2.2.2.1) (e := (PL (pF nx bX sS (-1)) ns 6).2.2.2.2) (mS' := mS') (by have := hE.1; omega) (fun t ht => (hE.2.1 t ht).1) k1
    obtain ⟨a1, a2, a3, a4, a5, a6, a7⟩ := hR1
    refine ⟨a1, a2, a3, a4, a5, fun b hb' => ?_, a7⟩
    have e6 : ∀ (X Y : Nat → Nat → Int32), filX (PL (pF nx bX sS (-1)) ns 6).2.1 X Y 6 b = (match (PL (pF nx bX sS (-1)) ns 6).2.1 b with | none => X b | some j => takX (X b) (Y j)) := fun X Y => if_pos (by omega)
    have k2b := k2 b
    rw [e6] at k2b
    unfold ROWX
    rw [e6]
    rcases hA : (PL (pF nx bX sS (-1)) ns 6).2.1 b with _ | j
    · rw [hA] at k2b
      exact ⟨fun k hk => by rw [k2b k hk]; exact (rX b hb').1 k hk, (rX b hb').2⟩
    · rw [hA] at k2b
      have hj := (hF b j hA).1
      refine ⟨fun k hk => ?_, Or.inr rfl⟩
      rw [k2b k hk]
      show takX (bX b) (sS j) k = takX (rowS mX b) (rowS mS j) k
      have hbk := (rX b hb').1 k hk
      have hs2 := (rS j hj).1 2 (by omega)
      have hs3 := (rS j hj).1 3 (by omega)
      unfold takX upd
      by_cases c4 : k = 4
      · rw [if_pos c4, if_pos c4]; exact hs3
      · rw [if_neg c4, if_neg c4]
        by_cases c3 : k = 3
        · rw [if_pos c3, if_pos c3]; exact hs2
        · rw [if_neg c3, if_neg c3]
          by_cases c2 : k = 2
          · rw [if_pos c2, if_pos c2]
          · rw [if_neg c2, if_neg c2]; exact hbk
theorem op_mean (h : NH st ad (CT ad day nb ns nx gB wB cB sS bX f6 f7 g8 g9 ((MQT ad l thr day nb ns nx mB mS mX k15 k16 t17 t18)))) (hR : RELS nb ns nx gB wB cB sS bX mB mS mX) : ∃ y s2, fX4_mean st (ad 0) = some y ∧ oR st (some (ad 11)) 5 = some (ad 11) ∧ fX5_mean st (ad 11) = some (y, s2) ∧ ∃ thr v, INV (ad 0) (ad 10) (ad 11) thr v s2 := by
  obtain ⟨hb, hs, hx, rB, rS, rX, rZ⟩ := id hR
  have e1 := c_mean h hs (fun i hi => (rS i hi).2.2.2.2)
  have hm : NH st ad (MT ad l thr day nb ns nx mB mS mX k15 k16 t17 t18 (T0 ad day nb ns nx f6 f7 g8 g9) (T2 ad nb gB wB) (T3 ad nb) (T4 nb cB) (T5 nx bX) (T6 ns sS)) := h
  obtain ⟨s2, e2, h2⟩ := m_mean hm hs (fun i hi => by
    have := (rS i hi).1 3 (by omega)
    show 0 ≤ (mS (5 * i + 3)).toInt ∧ (mS (5 * i + 3)).toInt ≤ 100
    rw [← this]
    exact (rS i hi).2.2.2.2)
  have ee : foldN (cntM (rowS mS)) ns 0 = foldN (cntM sS) ns 0 := foldN_congr fun k hk a => by
    unfold cntM
    rw [(rS k hk).1 3 (by omega)]
    rfl
  rw [ee] at e2
  exact ⟨_, s2, e1, m_oR hm, e2, 0, l 0, _, _, _, _, _, _, _, _, _, _, _, _, _, _, _, _, _, _, _, _, _, _, rfl, rfl, rfl, rfl, h2, hR⟩
theorem op_digest (h : NH st ad (CT ad day nb ns nx gB wB cB sS bX f6 f7 g8 g9 ((MQT ad l thr day nb ns nx mB mS mX k15 k16 t17 t18)))) (hR : RELS nb ns nx gB wB cB sS bX mB mS mX) : ∃ y s2, fX4_digest st (ad 0) = some y ∧ oR st (some (ad 11)) 5 = some (ad 11) ∧ fX5_digest st (ad 11) = some (y, s2) ∧ ∃ thr v, INV (ad 0) (ad 10) (ad 11) thr v s2 := by
  obtain ⟨hb, hs, hx, rB, rS, rX, rZ⟩ := id hR
  have e1 := c_digest h hb hs hx (fun i hi => (rX i hi).2)
  have hm : NH st ad (MT ad l thr day nb ns nx mB mS mX k15 k16 t17 t18 (T0 ad day nb ns nx f6 f7 g8 g9) (T2 ad nb gB wB) (T3 ad nb) (T4 nb cB) (T5 nx bX) (T6 ns sS)) := h
  obtain ⟨s2, t, e2, h2⟩ := m_digest hm hb hs hx (fun i hi => by
    have := (rX i hi).1 2 (by omega)
    rw [← this]
    exact (rX i hi).2)
  rw [← digV_eq hR] at e2
  exact ⟨_, s2, e1, m_oR hm, e2, 0, l 0, _, _, _, _, _, _, _, _, _, _, _, _, _, _, _, _, _, _, _, _, _, _, rfl, rfl, rfl, rfl, h2, hR⟩
end OPFILL
