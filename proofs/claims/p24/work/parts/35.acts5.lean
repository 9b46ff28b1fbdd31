/-! ONE THING DONE TO BOTH: filling, days; all things -/
theorem takX_0 {x s : Nat → Int32} : takX x s 0 = x 0 := rfl
theorem takX_1 {x s : Nat → Int32} : takX x s 1 = x 1 := rfl
theorem takX_2 {x s : Nat → Int32} : takX x s 2 = 1 := rfl
theorem takX_3 {x s : Nat → Int32} : takX x s 3 = s 2 := rfl
theorem takX_4 {x s : Nat → Int32} : takX x s 4 = s 3 := rfl
theorem pF_true {nx : Nat} {bX sS : Nat → Nat → Int32} {b j : Nat} (h : pF nx bX sS (-1) b j = true) (hj : j < 1000) : b < nx ∧ bX b 2 = 0 ∧ sS j 0 * sS j 1 = bX b 0 ∧ ¬ sS j 2 < bX b 1 ∧ ¬ 20 < sS j 3 := by
  unfold pF at h
  rw [Bool.and_eq_true, blo_n hj] at h
  obtain ⟨h1, h2⟩ := h
  unfold fitB suitB at h2
  rw [Bool.and_eq_true] at h2
  obtain ⟨h3, h4⟩ := h2
  exact ⟨of_decide_eq_true h1, of_decide_eq_true h3, of_decide_eq_true h4⟩
section ACTS5
variable {st : DSt} {ad : Nat → Nat} {day : Int32} {nb ns nx : Nat} {gB wB : Nat → Int32} {cB sS bX : Nat → Nat → Int32} {f6 f7 g8 g9 : Nat → Int32} {a2 : Int32} {D : Int} {i j : Nat}
theorem TT_fill (hR : RV D day nb ns nx gB wB cB sS bX) : ∀ b, b ≤ 6 → sumI (fun t => (sS ((PL (pF nx bX sS (-1)) ns b).2.2.2.2 t) 0).toInt * (sS ((PL (pF nx bX sS (-1)) ns b).2.2.2.2 t) 1).toInt) (PL (pF nx bX sS (-1)) ns b).2.2.2.1 + sumI (fun c => (filX (PL (pF nx bX sS (-1)) ns b).2.1 bX sS b c 2).toInt * (filX (PL (pF nx bX sS (-1)) ns b).2.1 bX sS b c 0).toInt) nx = sumI (fun t => (sS t 0).toInt * (sS t 1).toInt) ns + sumI (fun c => (bX c 2).toInt * (bX c 0).toInt) nx
  | 0, _ => by
    have e0 : filX (PL (pF nx bX sS (-1)) ns 0).2.1 bX sS 0 = bX := by
      funext c
      exact if_neg (by omega)
    rw [e0]
    rfl
  | b + 1, hb => by
    have ih := TT_fill hR b (by omega)
    have hE := PL_EN (pF nx bX sS (-1)) ns b
    rcases hf : firstN (fun j => !((PL (pF nx bX sS (-1)) ns b).1 j) && pF nx bX sS (-1) b j) ns with _ | j
    · have e0 := PL_n hf
      rw [e0, filX_s, PL_later b b (Nat.le_refl _)]
      exact ih
    · have e0 := PL_s hf
      obtain ⟨j1, j2, -⟩ := firstN_some hf
      rw [Bool.and_eq_true, Bool.not_eq_true'] at j2
      obtain ⟨t0, t1, t2⟩ := hE.2.2.2 j j1 j2.1
      have hns := hR.2.1
      obtain ⟨p1, p2, p3, p4, p5⟩ := pF_true j2.2 (by omega)
      obtain ⟨q0, q1, -⟩ := hR.2.2.2.2.2.1 j j1
      obtain ⟨eab, -, -, -⟩ := sq_in q0 q1
      have dr := (hE.drop t1).2
      rw [t2] at dr
      obtain ⟨m, hm⟩ : ∃ m, (PL (pF nx bX sS (-1)) ns b).2.2.2.1 = m + 1 := ⟨(PL (pF nx bX sS (-1)) ns b).2.2.2.1 - 1, by omega⟩
      have d1 := sumI_del (f := fun t => (sS ((PL (pF nx bX sS (-1)) ns b).2.2.2.2 t) 0).toInt * (sS ((PL (pF nx bX sS (-1)) ns b).2.2.2.2 t) 1).toInt) (i := t0) (n := m) (by omega)
      rw [t2] at d1
      have d2 : sumI (fun t => (sS (if (PL (pF nx bX sS (-1)) ns b).2.2.2.2 t < j then (PL (pF nx bX sS (-1)) ns b).2.2.2.2 t else (PL (pF nx bX sS (-1)) ns b).2.2.2.2 (t + 1)) 0).toInt * (sS (if (PL (pF nx bX sS (-1)) ns b).2.2.2.2 t < j then (PL (pF nx bX sS (-1)) ns b).2.2.2.2 t else (PL (pF nx bX sS (-1)) ns b).2.2.2.2 (t + 1)) 1).toInt) m = sumI (fun t => (sS ((PL (pF nx bX sS (-1)) ns b).2.2.2.2 (if t < t0 then t else t + 1)) 0).toInt * (sS ((PL (pF nx bX sS (-1)) ns b).2.2.2.2 (if t < t0 then t else t + 1)) 1).toInt) m := sumI_congr fun t ht => by rw [dr t (by omega)]
      have u1 := sumI_upd (f := fun c => (filX (PL (pF nx bX sS (-1)) ns b).2.1 bX sS b c 2).toInt * (filX (PL (pF nx bX sS (-1)) ns b).2.1 bX sS b c 0).toInt) (g := fun c => (va_up (filX (PL (pF nx bX sS (-1)) ns b).2.1 bX sS b) b (takX (bX b) (sS j)) c 2).toInt * (va_up (filX (PL (pF nx bX sS (-1)) ns b).2.1 bX sS b) b (takX (bX b) (sS j)) c 0).toInt) p1 (fun c _ hc => by rw [va_up_n _ _ hc])
      rw [va_up_s, filX_b, takX_2, takX_0, p2, i1, toInt_0, ← p3, eab] at u1
      rw [filX_s, filX_keep, show (PL (pF nx bX sS (-1)) ns (b + 1)).2.1 b = some j from by rw [e0]; exact va_up_s _ _ _]
      rw [hm] at ih
      rw [e0]
      dsimp only
      rw [hm, Nat.add_sub_cancel, u1, d2, d1]
      omega
theorem a_fill (h : NH st ad (CT ad day nb ns nx gB wB cB sS bX f6 f7 g8 g9 (SQ ad day nb ns nx nb ns nx gB wB cB sS bX none none))) (hR : RV D day nb ns nx gB wB cB sS bX) : ACT (ad 0) (ad 10) D nb ns nx gB sS bX (fL_act_p803 st (some (ad 0)) (some (ad 10))) := by
  obtain ⟨hb, hs, hx, hd, rB, rS, rX⟩ := id hR
  have hE := PL_EN (pF nx bX sS (-1)) ns 6
  have hT := TT_fill hR 6 (Nat.le_refl _)
  have hF := PL_fit (p := pF nx bX sS (-1)) (ns := ns) 6
  obtain ⟨s1, g8', g9', e1, h1⟩ := c_fill h hb hx hs
  rw [← SQ_ad (ad := ad) (ad' := rnA ad (PL (pF nx bX sS (-1)) ns 6).2.2.2.2) (fun c hc => rnA_lt (by omega))] at h1
  obtain ⟨s2, ad2, e2, k2, h2⟩ := z_fill h1 hb (show (PL (pF nx bX sS (-1)) ns 6).2.2.2.1 ≤ 8 by have := hE.1; omega) hx rfl hs hb hb rfl hx
  rw [rnA_lt (by omega)] at e2
  have o2 := z_oR h1
  rw [rnA_lt (by omega)] at o2
  have er : fL_act_p803 st (some (ad 0)) (some (ad 10)) = some (1, s2) := by
    unfold fL_act_p803
    rw [ob_of _ (q_oR h), ob_of _ e1, ob_of _ o2, ob_of _ e2]
    exact e_ok rfl
  rw [er]
  have key : ∀ c, c < nx → RX (filX (PL (pF nx bX sS (-1)) ns 6).2.1 bX sS 6 c) ∧ (bX c 2).toInt ≤ (filX (PL (pF nx bX sS (-1)) ns 6).2.1 bX sS 6 c 2).toInt := fun c hc => by
    have r := rX c hc
    unfold filX
    rw [if_pos (show c < 6 by omega)]
    rcases hA : (PL (pF nx bX sS (-1)) ns 6).2.1 c with _ | j
    · exact ⟨r, Int.le_refl _⟩
    · obtain ⟨f1, f2, -⟩ := hF c j hA
      obtain ⟨p1, p2, p3, p4, p5⟩ := pF_true f2 (by omega)
      obtain ⟨q0, q1, q2, q3, q4⟩ := rS j f1
      have e20 : (20 : Int32).toInt = 20 := by decide
      rw [i_lt] at p4
      rw [i_lt, e20] at p5
      refine ⟨⟨r.1, r.2.1, Or.inr ⟨rfl, ?_, ?_, ?_⟩⟩, ?_⟩
      · show (bX c 1).toInt ≤ (sS j 2).toInt
        omega
      · exact q3.1
      · show (sS j 3).toInt ≤ 20
        omega
      · show (bX c 2).toInt ≤ (1 : Int32).toInt
        rw [p2]
        decide
  have hm := hE.1
  refine ⟨s2, _, _, _, _, _, _, _, _, _, rfl, ⟨ad2, _, _, _, _, (k2 0 (by omega) (by omega) (by omega)).trans (rnA_lt (by omega)), (k2 10 (by omega) (by omega) (by omega)).trans (rnA_lt (by omega)), h2⟩, ⟨hb, by omega, hx, ⟨hd.1, by have := hd.2; omega⟩, rB, fun t ht => rS _ (hE.2.1 t ht).1, fun c hc => (key c hc).1⟩, ⟨Nat.le_refl _, Nat.le_succ _⟩, sumI_le fun c hc => (key c hc).2, ?_⟩
  rw [if_pos rfl]
  unfold TT
  dsimp only
  omega
theorem ageF_s {a : Int32} {x : Nat → Int32} {k : Nat} (hk : k ≤ 10) (x2 : 0 ≤ (x 2).toInt ∧ (x 2).toInt ≤ 100) (x3 : 0 ≤ (x 3).toInt ∧ (x 3).toInt ≤ 100) (a1 : 10 ≤ a.toInt) (a2 : a.toInt ≤ 40) : ageF a 1 (ageF a (nI k) x) = ageF a (nI (k + 1)) x ∧ 0 ≤ (jmin 100 (x 3 + (nI k * moreV (x 2) a))).toInt ∧ (jmin 100 (x 3 + (nI k * moreV (x 2) a))).toInt ≤ 100 := by
  have hm := moreV_in x2.1 x2.2 a1 a2
  have key : ∀ k : Nat, k ≤ 11 → (x 3 + (nI k * moreV (x 2) a)).toInt = (x 3).toInt + (k : Int) * (moreV (x 2) a).toInt ∧ 0 ≤ (k : Int) * (moreV (x 2) a).toInt := fun k hk => by
    have ik : (nI k).toInt = k := i_nI (by omega)
    have m1 := Int.mul_nonneg (show 0 ≤ (k : Int) by omega) hm.1
    have m2 := Int.mul_le_mul (show (k : Int) ≤ 11 by omega) hm.2 hm.1 (by omega)
    have e1 : (nI k * moreV (x 2) a).toInt = (k : Int) * (moreV (x 2) a).toInt := by rw [i_mul] <;> rw [ik] <;> omega
    exact ⟨by rw [i_add] <;> rw [e1] <;> omega, m1⟩
  obtain ⟨k1, k2⟩ := key k (by omega)
  obtain ⟨k3, k4⟩ := key (k + 1) (by omega)
  have e3 : (jmin 100 (x 3 + (nI k * moreV (x 2) a))).toInt = min 100 ((x 3).toInt + (k : Int) * (moreV (x 2) a).toInt) := by rw [i_min, k1, toInt_100]
  refine ⟨?_, by omega, by omega⟩
  have y2 : ageF a (nI k) x 2 = x 2 := rfl
  have y3 : ageF a (nI k) x 3 = jmin 100 (x 3 + (nI k * moreV (x 2) a)) := rfl
  have y4 : ageF a (nI k) x 4 = x 4 + nI k := rfl
  funext j
  show upd (upd (ageF a (nI k) x) 3 (jmin 100 (ageF a (nI k) x 3 + (1 * moreV (ageF a (nI k) x 2) a)))) 4 (ageF a (nI k) x 4 + 1) j = upd (upd x 3 (jmin 100 (x 3 + (nI (k + 1) * moreV (x 2) a)))) 4 (x 4 + nI (k + 1)) j
  rw [y2, y3, y4]
  by_cases j4 : j = 4
  · rw [j4, upd_s, upd_s, Int32.add_assoc, nI_1]
  · rw [upd_n _ _ j4, upd_n _ _ j4]
    by_cases j3 : j = 3
    · rw [j3, upd_s, upd_s, Int32.one_mul]
      have e5 : ((k + 1 : Nat) : Int) * (moreV (x 2) a).toInt = (k : Int) * (moreV (x 2) a).toInt + (moreV (x 2) a).toInt := by
        rw [show ((k + 1 : Nat) : Int) = (k : Int) + 1 by omega, Int.add_mul, Int.one_mul]
      have e6 : (jmin 100 (x 3 + (nI k * moreV (x 2) a)) + moreV (x 2) a).toInt = min 100 ((x 3).toInt + (k : Int) * (moreV (x 2) a).toInt) + (moreV (x 2) a).toInt := by
        rw [i_add] <;> rw [e3] <;> omega
      rw [i_eq, i_min, i_min, k3, toInt_100, e6, e5]
      omega
    · rw [upd_n _ _ j3, upd_n _ _ j3]
      show upd (upd x 3 _) 4 _ j = x j
      rw [upd_n _ _ j4, upd_n _ _ j3]
theorem ageF_0 {a : Int32} {x : Nat → Int32} (x3 : (x 3).toInt ≤ 100) : ageF a 0 x = x := by
  funext j
  show upd (upd x 3 (jmin 100 (x 3 + (0 * moreV (x 2) a)))) 4 (x 4 + 0) j = x j
  rw [Int32.zero_mul, Int32.add_zero, Int32.add_zero]
  have e : jmin 100 (x 3) = x 3 := by rw [i_eq, i_min, toInt_100]; omega
  rw [e, upd_id, upd_id]
theorem a_pass (h : NH st ad (CT ad day nb ns nx gB wB cB sS bX f6 f7 g8 g9 (SQ ad day nb ns nx nb ns nx gB wB cB sS bX none none))) (hR : RV D day nb ns nx gB wB cB sS bX) (hD : D ≤ 1000000) : ACT (ad 0) (ad 10) D nb ns nx gB sS bX (fL_act_p827 st (some (ad 0)) (some (ad 10)) a2) := by
  obtain ⟨hb, hs, hx, hd, rB, rS, rX⟩ := id hR
  obtain ⟨r, r1, r2⟩ := b_below (st := st) (a2 >>> (3 &&& 31)) (n := 31) (m := 31) rfl (by omega) (by omega)
  obtain ⟨r5, r51, r52⟩ := b_below (st := st) (a2 >>> (5 &&& 31)) (n := 5) (m := 5) rfl (by omega) (by omega)
  have e10 : 10 + nI r = nI (10 + r) := nI_add 10 r
  have e15 : 1 + nI r5 = nI (1 + r5) := nI_add 1 r5
  have ia : (nI (10 + r)).toInt = 10 + r := by rw [i_nI (by omega)]; omega
  have iN : (nI (1 + r5)).toInt = 1 + r5 := by rw [i_nI (by omega)]; omega
  have a1 : 10 ≤ (nI (10 + r)).toInt := by omega
  have a2' : (nI (10 + r)).toInt ≤ 40 := by omega
  have e00 : ∀ i, i < ns → sS i = agS (nI (10 + r)) (nI 0) sS ns i := fun i hi => by
    have := ageF_0 (a := nI (10 + r)) (x := sS i) (rS i hi).2.2.2.1.2
    exact this.symm.trans (if_pos hi).symm
  obtain ⟨b, g1, g2⟩ := dlp_run (fL_act_L854 (some (ad 10)) (nI r) (nI r5)) (fun k z => z.2 = nI k ∧ NH z.1 ad (CT ad day nb ns nx gB wB cB sS bX f6 f7 g8 g9 ((SQ ad (day + nI k) nb ns nx nb ns nx gB wB cB (agS (nI (10 + r)) (nI k) sS ns) bX none none)))) (fun b => NH b.1 ad (CT ad day nb ns nx gB wB cB sS bX f6 f7 g8 g9 ((SQ ad (day + nI (1 + r5)) nb ns nx nb ns nx gB wB cB (agS (nI (10 + r)) (nI (1 + r5)) sS ns) bX none none)))) (1 + r5) (fun k z hk hz => by
    obtain ⟨z1, z2⟩ := z
    obtain ⟨rfl, hz⟩ := hz
    dsimp only at hz
    unfold fL_act_L854
    dsimp only
    rw [e15, e10]
    by_cases h5 : k = 1 + r5
    · subst h5
      rw [if_pos (Int32.le_refl _)]
      exact Or.inr ⟨_, rfl, hz⟩
    · refine Or.inl ?_
      obtain ⟨s2, e2, h2⟩ := z_pass1 hz hs rfl hs a1 a2'
      rw [if_neg (nI_ge (by omega) (by omega)), ob_of _ (z_oR hz), ob_of _ e2]
      refine ⟨_, rfl, by omega, nI_1 _, ?_⟩
      have eg : agS (nI (10 + r)) 1 (agS (nI (10 + r)) (nI k) sS ns) ns = agS (nI (10 + r)) (nI (k + 1)) sS ns := by
        funext j
        unfold agS
        by_cases j1 : j < ns
        · rw [if_pos j1, if_pos j1, if_pos j1]
          exact (ageF_s (by omega) (rS j j1).2.2.1 (rS j j1).2.2.2.1 a1 a2').1
        · rw [if_neg j1, if_neg j1, if_neg j1]
      rw [eg, Int32.add_assoc, nI_1] at h2
      exact h2) (st, 0) ⟨rfl, by
        show NH st ad (CT ad day nb ns nx gB wB cB sS bX f6 f7 g8 g9 ((SQ ad (day + nI 0) nb ns nx nb ns nx gB wB cB (agS (nI (10 + r)) (nI 0) sS ns) bX none none)))
        rw [← z_extS e00, show day + nI 0 = day from Int32.add_zero day]
        exact h⟩
  obtain ⟨s2, e2, h2⟩ := t_pass g2 hs (a := nI (10 + r)) (n := nI (1 + r5)) (by rw [i_lt, i10]; omega) (by rw [i_lt, i40]; omega) (by rw [i_lt, i1]; omega) (by rw [i_le, i60]; omega)
  have eC : agC (nI (10 + r)) (nI (1 + r5)) sS ns 8 = agS (nI (10 + r)) (nI (1 + r5)) sS ns := by
    funext j
    unfold agC agS
    by_cases q : j < ns
    · rw [if_pos q, if_pos ⟨by omega, q⟩]
    · rw [if_neg q, if_neg (fun y => q y.2)]
  rw [eC] at e2 h2
  have er : fL_act_p827 st (some (ad 0)) (some (ad 10)) a2 = some (1, s2) := by
    unfold fL_act_p827
    rw [ob_of _ r2, ob_of _ r52, ob_of _ g1, ob_of _ (q_oR g2), e10, e15, ob_of _ (nxo e2), ob_of _ (z_oR h2), ob_of _ (z_bloomed h2 hs rfl hs)]
    exact e_ok rfl
  rw [er]
  have ed : (day + nI (1 + r5)).toInt = day.toInt + (1 + r5) := by rw [i_add] <;> rw [iN] <;> omega
  refine ⟨s2, _, _, _, _, _, _, _, _, _, rfl, ⟨ad, _, _, _, _, rfl, rfl, h2⟩, ⟨hb, hs, hx, ⟨by omega, by omega⟩, rB, fun t ht => ?_, rX⟩, ⟨Nat.le_refl _, Nat.le_succ _⟩, Int.le_refl _, ?_⟩
  · obtain ⟨q0, q1, q2, q3, q4, q5⟩ := rS t ht
    have e : agS (nI (10 + r)) (nI (1 + r5)) sS ns t = ageF (nI (10 + r)) (nI (1 + r5)) (sS t) := if_pos ht
    rw [e]
    have e4 : (sS t 4 + nI (1 + r5)).toInt = (sS t 4).toInt + (1 + r5) := by rw [i_add] <;> rw [iN] <;> omega
    refine ⟨q0, q1, q2, (ageF_s (by omega) q2 q3 a1 a2').2, ?_, ?_⟩
    · show 0 ≤ (sS t 4 + nI (1 + r5)).toInt
      omega
    · show (sS t 4 + nI (1 + r5)).toInt ≤ _
      omega
  · rw [if_pos rfl]
    unfold TT
    rw [sumI_congr (n := ns) (g := fun i => (sS i 0).toInt * (sS i 1).toInt) fun t ht => by
      rw [show agS (nI (10 + r)) (nI (1 + r5)) sS ns t = ageF (nI (10 + r)) (nI (1 + r5)) (sS t) from if_pos ht]
      rfl]
    omega
theorem a_69 (h : NH st ad (CT ad day nb ns nx gB wB cB sS bX f6 f7 g8 g9 (SQ ad day nb ns nx nb ns nx gB wB cB sS bX none none))) (hR : RV D day nb ns nx gB wB cB sS bX) : ACT (ad 0) (ad 10) D nb ns nx gB sS bX (fL_act_p69 st (some (ad 0)) (some (ad 10)) a2 (nI nb)) := by
  have hb := hR.1
  unfold fL_act_p69
  by_cases c : nI nb = 5
  · rw [if_pos c]
    exact ACT_same h hR
  · rw [if_neg c]
    exact a_bowl h hR (by
      rcases Nat.lt_or_ge nb 5 with q | q
      · exact q
      · exact absurd (show nI nb = 5 by rw [show nb = 5 by omega]; rfl) c)
theorem a_689 (h : NH st ad (CT ad day nb ns nx gB wB cB sS bX f6 f7 g8 g9 (SQ ad day nb ns nx nb ns nx gB wB cB sS bX none none))) (hR : RV D day nb ns nx gB wB cB sS bX) : ACT (ad 0) (ad 10) D nb ns nx gB sS bX (fL_act_p689 st (some (ad 0)) (some (ad 10)) a2) := by
  have hb := hR.2.2.1
  unfold fL_act_p689
  rw [ob_of _ (z_r3 h), ob_of _ (z_n3 h)]
  by_cases c : nI nx = 6
  · rw [if_pos c]
    exact ACT_same h hR
  · rw [if_neg c]
    exact a_box h hR (by
      rcases Nat.lt_or_ge nx 6 with q | q
      · exact q
      · exact absurd (show nI nx = 6 by rw [show nx = 6 by omega]; rfl) c)
theorem n8 (hs : ns ≤ 8) (c : ¬ nI ns = 8) : ns < 8 := by
  rcases Nat.lt_or_ge ns 8 with q | q
  · exact q
  · exact absurd (show nI ns = 8 by rw [show ns = 8 by omega]; rfl) c
theorem a_546 (h : NH st ad (CT ad day nb ns nx gB wB cB sS bX f6 f7 g8 g9 (SQ ad day nb ns nx nb ns nx gB wB cB sS bX none none))) (hR : RV D day nb ns nx gB wB cB sS bX) (hi : i < nb) : ACT (ad 0) (ad 10) D nb ns nx gB sS bX (fL_act_p546 st (some (ad 0)) (some (ad 10)) a2 (nI ns) (nI i) (some (ad (100 + i)))) := by
  obtain ⟨hb, hs, hx, hd, rB, rS, rX⟩ := id hR
  obtain ⟨r, r1, r2⟩ := b_below (st := st) (a2 >>> (3 &&& 31)) (n := 6) (m := 6) rfl (by omega) (by omega)
  obtain ⟨r5, r51, r52⟩ := b_below (st := st) (a2 >>> (6 &&& 31)) (n := 6) (m := 6) rfl (by omega) (by omega)
  have e10 : 1 + nI r = nI (1 + r) := nI_add 1 r
  have e15 : 1 + nI r5 = nI (1 + r5) := nI_add 1 r5
  unfold fL_act_p546
  rw [ob_of _ r2, ob_of _ r52]
  by_cases c : nI ns = 8
  · rw [if_pos c]
    exact ACT_same h hR
  · rw [if_neg c]
    unfold fL_act_p578
    rw [ob_of _ (z_bg h hi hb hs)]
    by_cases c2 : ((10 * (1 + nI r)) * (1 + nI r5)) ≤ gB i
    · rw [if_pos c2]
      rw [e10, e15] at c2
      exact a_cast h hR hi (n8 hs c) (by omega) (by omega) (by omega) (by omega) e10 e15 c2
    · rw [if_neg c2]
      exact ACT_same h hR
theorem a_342 (h : NH st ad (CT ad day nb ns nx gB wB cB sS bX f6 f7 g8 g9 (SQ ad day nb ns nx nb ns nx gB wB cB sS bX none none))) (hR : RV D day nb ns nx gB wB cB sS bX) (hi : i < nb) : ACT (ad 0) (ad 10) D nb ns nx gB sS bX (fL_act_p342 st (some (ad 0)) (some (ad 10)) a2 (nI nb) (nI i) (some (ad (100 + i)))) := by
  obtain ⟨hb, hs, hx, hd, rB, rS, rX⟩ := id hR
  obtain ⟨r, r1, r2⟩ := b_below (st := st) (a2 >>> (4 &&& 31)) (n := nI nb) (m := nb) rfl (by omega) (by omega)
  unfold fL_act_p342
  rw [ob_of _ r2, ob_of _ (z_r1 h), ob_of _ (z_a1 h (i := r) rfl r1 hb), ob_of _ (z_bg h hi hb hs), ob_of _ (z_bg h r1 hb hs)]
  by_cases c : nI r = nI i
  · rw [if_pos c]
    exact ACT_same h hR
  · rw [if_neg c]
    unfold fL_act_p380
    by_cases c2 : gB i + gB r = 0
    · rw [if_pos c2]
      exact ACT_same h hR
    · rw [if_neg c2]
      unfold fL_act_p385
      by_cases c3 : gB i + gB r ≤ 2000
      · rw [if_pos c3]
        exact a_pour h hR hi r1 (fun q => c (by rw [q])) c2 c3
      · rw [if_neg c3]
        exact ACT_same h hR
theorem a_901 (h : NH st ad (CT ad day nb ns nx gB wB cB sS bX f6 f7 g8 g9 (SQ ad day nb ns nx nb ns nx gB wB cB sS bX none none))) (hR : RV D day nb ns nx gB wB cB sS bX) (hi : i < nb) (hj : j < ns) (q11 : Int32) : ACT (ad 0) (ad 10) D nb ns nx gB sS bX (fL_act_p901 st (some (ad 0)) (some (ad 10)) a2 (nI ns) (nI i) (nI j) q11 (some (ad (100 + i)))) := by
  obtain ⟨hb, hs, hx, hd, rB, rS, rX⟩ := id hR
  unfold fL_act_p901
  rw [ob_of _ (z_r2 h), ob_of _ (z_a2 h (i := j) rfl hj hs)]
  by_cases c : q11 = 16
  · rw [if_pos c]
    exact a_polish h hR hj
  · rw [if_neg c]
    unfold fL_act_p960
    by_cases c2 : q11 = 17
    · rw [if_pos c2]
      unfold fL_act_p967
      rw [ob_of _ (z_bg h hi hb hs), ob_of _ (z_sa h hj hs hs (p := 0) (k := 0) rfl (by omega)), ob_of _ (z_sa h hj hs hs (p := 1) (k := 1) rfl (by omega))]
      by_cases c3 : (gB i + ((10 * sS j 0) * sS j 1)) ≤ 2000
      · rw [if_pos c3]
        exact a_melt h hR hi hj c3
      · rw [if_neg c3]
        exact ACT_same h hR
    · rw [if_neg c2]
      unfold fL_act_p1050
      obtain ⟨r, r1, r2⟩ := b_below (st := st) (a2 >>> (3 &&& 31)) (n := 2) (m := 2) rfl (by omega) (by omega)
      rw [ob_of _ r2]
      have hw : ∃ (w : Nat) (z j81 : Int32), ((w = 0 ∧ z = 0 ∧ j81 = 0) ∨ (w = 1 ∧ z = 1 ∧ j81 = 1)) ∧ w < 2 ∧ j81 = nI w ∧ (if nI r = 0 then some (1 : Int32) else some (0 : Int32)) = some z ∧ (if z = 0 then some (0 : Int32) else some (1 : Int32)) = some j81 := by
        by_cases c4 : nI r = 0
        · exact ⟨1, 1, 1, Or.inr ⟨rfl, rfl, rfl⟩, by omega, rfl, if_pos c4, if_neg (by decide)⟩
        · exact ⟨0, 0, 0, Or.inl ⟨rfl, rfl, rfl⟩, by omega, rfl, if_neg c4, if_pos rfl⟩
      obtain ⟨w, z, j81, w1, w2, w3, w4, w5⟩ := hw
      rw [ob_of _ w4, ob_of _ w5, ob_of _ (z_sa h hj hs hs (p := j81) (k := w) w3 (by omega))]
      by_cases c5 : sS j w = 1
      · rw [if_pos c5]
        exact ACT_same h hR
      · rw [if_neg c5]
        unfold fL_act_p1088
        by_cases c6 : nI ns = 8
        · rw [if_pos c6]
          exact ACT_same h hR
        · rw [if_neg c6]
          exact a_split h hR hj (n8 hs c6) w1 c5
theorem a_165 (h : NH st ad (CT ad day nb ns nx gB wB cB sS bX f6 f7 g8 g9 (SQ ad day nb ns nx nb ns nx gB wB cB sS bX none none))) (hR : RV D day nb ns nx gB wB cB sS bX) (hD : D ≤ 1000000) (hi : i < nb) (hj : ¬ nI ns = 0 → j < ns) (q11 : Int32) : ACT (ad 0) (ad 10) D nb ns nx gB sS bX (fL_act_p165 st (some (ad 0)) (some (ad 10)) a2 (nI nb) (nI ns) (nI i) (nI j) q11) := by
  obtain ⟨hb, hs, hx, hd, rB, rS, rX⟩ := id hR
  unfold fL_act_p165
  rw [ob_of _ (z_r1 h), ob_of _ (z_a1 h (i := i) rfl hi hb)]
  by_cases c : 5 ≤ q11
  · rw [if_pos c]
    unfold fL_act_p269
    by_cases c1 : 7 ≤ q11
    · rw [if_pos c1]
      unfold fL_act_p335
      by_cases c2 : q11 = 7
      · rw [if_pos c2]
        exact a_342 h hR hi
      · rw [if_neg c2]
        unfold fL_act_p539
        by_cases c3 : 12 ≤ q11
        · rw [if_pos c3]
          unfold fL_act_p675
          by_cases c4 : q11 = 12
          · rw [if_pos c4]
            exact a_689 h hR
          · rw [if_neg c4]
            unfold fL_act_p682
            by_cases c5 : q11 = 13
            · rw [if_pos c5]
              exact a_689 h hR
            · rw [if_neg c5]
              unfold fL_act_p796
              by_cases c6 : q11 = 14
              · rw [if_pos c6]
                exact a_fill h hR
              · rw [if_neg c6]
                unfold fL_act_p820
                by_cases c7 : q11 = 15
                · rw [if_pos c7]
                  exact a_pass h hR hD
                · rw [if_neg c7]
                  unfold fL_act_p894
                  by_cases c8 : nI ns = 0
                  · rw [if_pos c8]
                    exact ACT_same h hR
                  · rw [if_neg c8]
                    exact a_901 h hR hi (hj c8) q11
        · rw [if_neg c3]
          exact a_546 h hR hi
    · rw [if_neg c1]
      exact a_seed h hR hi
  · rw [if_neg c]
    exact a_warm h hR hi q11
theorem act_ok {a0 a10 : Nat} (hI : IV a0 a10 day nb ns nx gB wB cB sS bX st) (hR : RV D day nb ns nx gB wB cB sS bX) (hD : D ≤ 1000000) (x : Int32) : ACT a0 a10 D nb ns nx gB sS bX (fL_act st (some a0) (some a10) x) := by
  obtain ⟨ad, f6, f7, g8, g9, rfl, rfl, h⟩ := hI
  obtain ⟨hb, hs, hx, hd, rB, rS, rX⟩ := id hR
  have pick : ∀ (n : Nat) (v : Int32), n ≤ 8 → ∃ i, (¬ nI n = 0 → i < n) ∧ (if nI n = 0 then some (0 : Int32) else oB (fL_below st v (nI n)) fun q7 => some q7) = some (nI i) := fun n v hn => by
    by_cases c : nI n = 0
    · exact ⟨0, fun q => absurd c q, by rw [if_pos c]; rfl⟩
    · have n0 : 0 < n := by
        rcases Nat.eq_zero_or_pos n with q | q
        · exact absurd (show nI n = 0 by rw [q]; rfl) c
        · exact q
      obtain ⟨r, r1, r2⟩ := b_below (st := st) v (n := nI n) (m := n) rfl n0 (by omega)
      exact ⟨r, fun _ => r1, by rw [if_neg c, ob_of _ r2]⟩
  obtain ⟨i, i1', i2'⟩ := pick nb (x >>> (1 &&& 31)) (by omega)
  obtain ⟨j, j1', j2'⟩ := pick ns (x >>> (2 &&& 31)) hs
  obtain ⟨r, r1, r2⟩ := b_below (st := st) (x >>> (9 &&& 31)) (n := 22) (m := 22) rfl (by omega) (by omega)
  unfold fL_act
  rw [ob_of _ (z_r1 h), ob_of _ (z_n1 h), ob_of _ (z_r2 h), ob_of _ (z_n2 h), ob_of _ i2', ob_of _ j2', ob_of _ r2]
  by_cases c : nI nb = 0
  · rw [if_pos c]
    exact a_69 h hR
  · rw [if_neg c]
    unfold fL_act_p64
    by_cases c2 : nI r = 0
    · rw [if_pos c2]
      exact a_69 h hR
    · rw [if_neg c2]
      exact a_165 h hR hD (i1' c) j1' (nI r)
end ACTS5
