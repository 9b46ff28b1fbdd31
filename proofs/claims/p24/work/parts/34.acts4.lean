/-! ONE THING DONE TO BOTH: splitting, a new bowl, filling, days -/
section ACTS4
variable {st : DSt} {ad : Nat → Nat} {day : Int32} {nb ns nx : Nat} {gB wB : Nat → Int32} {cB sS bX : Nat → Nat → Int32} {f6 f7 g8 g9 : Nat → Int32} {a2 : Int32} {D : Int} {i j : Nat}
theorem l_cl {st : DSt} {ad : Nat → Nat} {ct : Nat → Option DCel} {c n : Nat} {f : Nat → Int32} (h : NH st ad ct) (hc : ct c = some (ARR n f)) {cap : Nat} (hn : n ≤ cap) : clI st (some (ad c)) cap = some (nC st (ARR n f)) := by
  unfold clI
  rw [l_gAI h hc]
  show (if n ≤ cap then _ else _) = _
  rw [if_pos hn]
theorem a_split (h : NH st ad (CT ad day nb ns nx gB wB cB sS bX f6 f7 g8 g9 (SQ ad day nb ns nx nb ns nx gB wB cB sS bX none none))) (hR : RV D day nb ns nx gB wB cB sS bX) (hi : i < ns) (h8 : ns < 8) {w : Nat} {z j81 : Int32} (hw : (w = 0 ∧ z = 0 ∧ j81 = 0) ∨ (w = 1 ∧ z = 1 ∧ j81 = 1)) (hne : ¬ sS i w = 1) : ACT (ad 0) (ad 10) D nb ns nx gB sS bX (fL_act_p1097 st (some (ad 0)) (some (ad 10)) a2 (nI ns) (nI i) (some (ad (130 + i))) z j81) := by
  obtain ⟨hb, hs, hx, hd, rB, rS, rX⟩ := id hR
  obtain ⟨q0, q1, q2, q3, q4⟩ := id (rS i hi)
  have hw2 : w < 2 ∧ j81 = nI w := by
    rcases hw with ⟨rfl, -, rfl⟩ | ⟨rfl, -, rfl⟩
    · exact ⟨by omega, rfl⟩
    · exact ⟨by omega, rfl⟩
  obtain ⟨w2, rfl⟩ := hw2
  have qw : 1 ≤ (sS i w).toInt ∧ (sS i w).toInt ≤ 6 := by
    rcases (show w = 0 ∨ w = 1 by omega) with rfl | rfl
    · exact q0
    · exact q1
  have qw2 : 2 ≤ (sS i w).toInt := by
    rw [i_eq, i1] at hne
    omega
  obtain ⟨s, s1, s2, s3⟩ := toN (x := sS i w) 6 (by omega) qw.2 (by omega)
  have es1 : sS i w - 1 = nI (s - 1) := by
    rw [s2]
    obtain ⟨l, rfl⟩ : ∃ l, s = l + 1 := ⟨s - 1, by omega⟩
    exact nI_pred l
  have aw := z_sa h hi hs hs (p := nI w) (k := w) rfl (by omega)
  obtain ⟨r, r1, r2⟩ := b_below (st := st) (a2 >>> (4 &&& 31)) (n := nI (s - 1)) (m := s - 1) rfl (by omega) (by omega)
  have e15 : 1 + nI r = nI (1 + r) := nI_add 1 r
  have ir : (nI (1 + r)).toInt = 1 + r := by rw [i_nI (by omega)]; omega
  obtain ⟨ad1, hA1, a1, h2⟩ := z_newS h hb hs hx h8 hb hb (Nat.le_refl _) hx (sS i)
  obtain ⟨t2, n2⟩ : ∃ t2, nC st (ARR 5 (sS i)) = t2 := ⟨_, rfl⟩
  have ecl := l_cl h (z_s hi hs hs) (cap := 8) (by omega)
  rw [n2] at h2 ecl
  have ai : isAI t2 (some st.1) = some () := by
    unfold isAI
    rw [← a1, l_gAI h2 (z_s (i := ns) (by omega) (show ns + 1 ≤ 8 by omega) hs)]
    rfl
  have bw := z_sa h2 (i := ns) (by omega) (show ns + 1 ≤ 8 by omega) hs (p := nI w) (k := w) rfl (by omega)
  rw [va_up_s, a1] at bw
  obtain ⟨t3, e3, h3⟩ := zs_s h2 (i := ns) (by omega) (show ns + 1 ≤ 8 by omega) hs (p := nI w) (k := w) rfl (by omega) (sS i w - nI (1 + r))
  obtain ⟨t4, e4, h4⟩ := zs_s h3 (i := i) (by omega) (show ns + 1 ≤ 8 by omega) hs (p := nI w) (k := w) rfl (by omega) (nI (1 + r))
  rw [bx_uu, va_up_s, va_up_n _ _ (show i ≠ ns by omega)] at h4
  rw [a1] at e3
  rw [hA1 (130 + i) (by omega)] at e4
  have g4 := z_r2 h4
  rw [hA1 10 (by omega), hA1 12 (by omega)] at g4
  obtain ⟨s8, ad8, e8, hA8, h8'⟩ := z_withS h4 hb hs hx (Nat.lt_succ_self ns) (show ns + 1 ≤ 8 by omega)
  rw [a1, hA1 12 (by omega)] at e8
  obtain ⟨s9, ad9, e9, hA9, h9⟩ := z_move2 (n := ns + 1) (e := fun t => t) h8' hb hs hx (show ns + 1 ≤ 8 by omega) (by omega) hb hb hx (fun t ht => ht) (fun t t' h1 h2 q => q)
  have k9 : ∀ c, c < 12 ∨ (14 < c ∧ c < 130) → ad9 c = ad c := fun c hc => (hA9 c (by omega) (by omega)).trans ((hA8 c (by omega)).trans (hA1 c (by omega)))
  rw [(hA8 10 (by omega)).trans (hA1 10 (by omega))] at e9
  have hlt : nI (1 + r) < sS i w := by rw [i_lt, ir]; omega
  have hge : ¬ nI (1 + r) < 1 := by rw [i_lt, i1, ir]; omega
  have hc : ∃ s10 ad10, fX4_split s9 (ad9 0) (nI i) (nI (1 + r)) z = some (.inr (nI ns, s10)) ∧ (∀ c, c < 20 ∨ 100 ≤ c → ad10 c = ad9 c) ∧ NH s10 ad10 (CT ad10 day nb (ns + 1) nx gB wB cB (va_up (va_up sS ns (upd (sS i) w (sS i w - nI (1 + r)))) i (upd (sS i) w (nI (1 + r)))) bX f6 f7 g8 g9 ((SQ ad9 day nb (ns + 1) nx nb (ns + 1) nx gB wB cB (va_up (va_up sS ns (upd (sS i) w (sS i w - nI (1 + r)))) i (upd (sS i) w (nI (1 + r)))) bX none none))) := by
    rcases hw with ⟨rfl, rfl, -⟩ | ⟨rfl, rfl, -⟩
    · exact t_split0 h9 hb h8 hx (i := i) (p := nI i) (ixO_nI hi (by omega)) hge hlt
    · exact t_split1 h9 hb h8 hx (i := i) (p := nI i) (ixO_nI hi (by omega)) hge hlt
  obtain ⟨s10, ad10, e10, hA10, h10⟩ := hc
  rw [← SQ_ad (ad := ad9) (ad' := ad10) (fun c hc => hA10 c (by omega))] at h10
  have o9 := q_oR h9
  rw [k9 0 (by omega)] at o9 e10
  have er : fL_act_p1097 st (some (ad 0)) (some (ad 10)) a2 (nI ns) (nI i) (some (ad (130 + i))) z (nI w) = some (1, s10) := by
    unfold fL_act_p1097
    rw [ob_of _ aw, es1, ob_of _ r2, ob_of _ ecl, ob_of _ ai, ob_of _ bw, e15, ob_of _ e3, ob_of _ e4, ob_of _ g4, ob_of _ e8, ob_of _ e9, ob_of _ o9, ob_of _ (nxo e10)]
    exact e_ok rfl
  rw [er]
  have esub : (sS i w - nI (1 + r)).toInt = (sS i w).toInt - (1 + r) := by rw [i_sub] <;> rw [ir] <;> omega
  have RSw : ∀ v : Int32, 1 ≤ v.toInt → v.toInt ≤ 6 → RS day (upd (sS i) w v) := fun v v1 v2 => by
    rcases (show w = 0 ∨ w = 1 by omega) with rfl | rfl
    · exact ⟨by rw [upd_s]; exact ⟨v1, v2⟩, q1, q2, q3, q4⟩
    · exact ⟨q0, by rw [upd_s]; exact ⟨v1, v2⟩, q2, q3, q4⟩
  have hR1 := ((hR.mono (D' := D + 5) (by omega)).slabN h8 (f := upd (sS i) w (sS i w - nI (1 + r))) (RSw _ (by omega) (by omega))).slab (i := i) (f := upd (sS i) w (nI (1 + r))) (RSw _ (by omega) (by omega))
  refine ⟨s10, _, _, _, _, _, _, _, _, _, rfl, ⟨ad10, _, _, _, _, (hA10 0 (by omega)).trans (k9 0 (by omega)), (hA10 10 (by omega)).trans (k9 10 (by omega)), h10⟩, hR1, ⟨Nat.le_refl _, Nat.le_succ _⟩, Int.le_refl _, ?_⟩
  rw [if_pos rfl, TT_s (show i < ns + 1 by omega), TT_sn, va_up_n _ _ (show i ≠ ns by omega)]
  rcases (show w = 0 ∨ w = 1 by omega) with rfl | rfl
  · rw [upd_s, upd_s, upd_n _ _ (by omega), upd_n _ _ (by omega), esub, ir, Int.sub_mul]
    omega
  · rw [upd_s, upd_s, upd_n _ _ (by omega), upd_n _ _ (by omega), esub, ir, Int.mul_sub]
    omega
theorem a_bowl (h : NH st ad (CT ad day nb ns nx gB wB cB sS bX f6 f7 g8 g9 (SQ ad day nb ns nx nb ns nx gB wB cB sS bX none none))) (hR : RV D day nb ns nx gB wB cB sS bX) (h5 : nb < 5) : ACT (ad 0) (ad 10) D nb ns nx gB sS bX (fL_act_p76 st (some (ad 0)) (some (ad 10)) a2 (nI nb)) := by
  obtain ⟨hb, hs, hx, hd, rB, rS, rX⟩ := id hR
  obtain ⟨ad1, hA1, a1, h1⟩ := z_new4 h hb hs hx (ARO 5 (nb + 1) (fun _ => none))
  have loop : ∃ b, dlp (fL_act_L87 st (some (ad 10)) (nI nb)) (nC st (ARO 5 (nb + 1) (fun _ => none)), 0) = some b ∧ NH b.1 ad1 (CT ad1 day nb ns nx gB wB cB sS bX f6 f7 g8 g9 ((SQ ad1 day nb ns nx nb ns nx gB wB cB sS bX (some (ARO 5 (nb + 1) (fun j => if j < nb then some (ad1 (100 + j)) else none))) none))) := by
    obtain ⟨b, g1, g2⟩ := dlp_run (fL_act_L87 st (some (ad 10)) (nI nb)) (fun k z => z.2 = nI k ∧ NH z.1 ad1 (CT ad1 day nb ns nx gB wB cB sS bX f6 f7 g8 g9 ((SQ ad1 day nb ns nx nb ns nx gB wB cB sS bX (some (ARO 5 (nb + 1) (fun j => if j < k then some (ad1 (100 + j)) else none))) none)))) (fun b => NH b.1 ad1 (CT ad1 day nb ns nx gB wB cB sS bX f6 f7 g8 g9 ((SQ ad1 day nb ns nx nb ns nx gB wB cB sS bX (some (ARO 5 (nb + 1) (fun j => if j < nb then some (ad1 (100 + j)) else none))) none)))) nb (fun k z hk hz => by
      obtain ⟨z1, z2⟩ := z
      obtain ⟨rfl, hz⟩ := hz
      dsimp only at hz
      unfold fL_act_L87
      dsimp only
      by_cases e : k = nb
      · subst e
        rw [if_pos (Int32.le_refl _)]
        exact Or.inr ⟨_, rfl, hz⟩
      · refine Or.inl ?_
        have r1 := z_r1 hz
        rw [hA1 10 (by omega)] at r1
        obtain ⟨s2, e2, h2⟩ := z_set4R (ci := 5) hz (p := nI k) (k := k) rfl (by omega) (by omega) (okR_of hz (z_b (i := k) (by omega) hb hs))
        rw [a1] at e2
        rw [if_neg (nI_ge (by omega) (by omega)), ob_of _ r1, ob_of _ (z_a1 hz (i := k) rfl (by omega) hb), ob_of _ e2]
        refine ⟨_, rfl, by omega, nI_1 _, ?_⟩
        have eg : va_up (fun j => if j < k then some (ad1 (100 + j)) else none) k (some (ad1 (100 + k))) = fun j => if j < k + 1 then some (ad1 (100 + j)) else none := by
          funext j
          by_cases j1 : j = k
          · rw [j1, va_up_s, if_pos (by omega)]
          · rw [va_up_n _ _ j1]
            by_cases j2 : j < k
            · rw [if_pos j2, if_pos (by omega)]
            · rw [if_neg j2, if_neg (by omega)]
        rw [eg] at h2
        exact h2) (nC st (ARO 5 (nb + 1) (fun _ => none)), 0) ⟨rfl, by
          have eg : (fun j => if j < 0 then some (ad1 (100 + j)) else none) = (fun _ => none : Nat → Option Nat) := by
            funext j
            exact if_neg (by omega)
          dsimp only
          rw [eg]
          exact h1⟩
    exact ⟨b, g1, g2⟩
  obtain ⟨⟨b1, b2⟩, g1, g2⟩ := loop
  dsimp only at g2
  obtain ⟨s3, ad3, e3, a3, hA3, h3⟩ := z_newB g2 hb hs hx h5 (Nat.le_refl _) hs hx
  obtain ⟨s3', n3⟩ : ∃ s3', nC b1 (.inr (5, [DI 0, DI 0, DR none])) = s3' := ⟨_, rfl⟩
  rw [n3] at e3
  have eq4 : (fun j => if j < nb then some (ad1 (100 + j)) else none) = (fun j => if j < nb then some (ad3 (100 + j)) else none : Nat → Option Nat) := by
    funext j
    by_cases q : j < nb
    · rw [if_pos q, if_pos q, hA3 _ (by omega) (by omega)]
    · rw [if_neg q, if_neg q]
  rw [eq4] at h3
  obtain ⟨s4, e4, h4⟩ := z_set4R (ci := 5) h3 (p := nI nb) (k := nb) rfl (by omega) (by omega) (okR_of h3 (z_b (i := nb) (by omega) (show nb + 1 ≤ 5 by omega) hs))
  have eg : va_up (fun j => if j < nb then some (ad3 (100 + j)) else none) nb (some (ad3 (100 + nb))) = fun j => if j < nb + 1 then some (ad3 (100 + j)) else none := by
    funext j
    by_cases j1 : j = nb
    · rw [j1, va_up_s, if_pos (by omega)]
    · rw [va_up_n _ _ j1]
      by_cases j2 : j < nb
      · rw [if_pos j2, if_pos (by omega)]
      · rw [if_neg j2, if_neg (by omega)]
  rw [eg] at h4
  have a14 : ad3 14 = st.1 := (hA3 14 (by omega) (by omega)).trans a1
  rw [a3, a14] at e4
  have e5 := z_get4 h4 (p := nI nb) (k := nb) rfl (by omega) (by omega)
  rw [if_pos (by omega), a14] at e5
  obtain ⟨r, r1, r2⟩ := b_below (st := s4) (a2 >>> (1 &&& 31)) (n := 2001) (m := 2001) rfl (by omega) (by omega)
  have ir : (nI r).toInt = r := i_nI (by omega)
  obtain ⟨s6, e6, h6⟩ := zw_g h4 (i := nb) (by omega) (show nb + 1 ≤ 5 by omega) hs (nI r)
  have ug : upd (upd gB nb 0) nb (nI r) = upd gB nb (nI r) := by
    funext j
    by_cases q : j = nb
    · rw [q, upd_s, upd_s]
    · rw [upd_n _ _ q, upd_n _ _ q, upd_n _ _ q]
  rw [ug] at h6
  obtain ⟨s7, ad7, e7, hA7, a11, h7⟩ := z_move1 (n := nb + 1) h6 hb hs hx
  rw [a14, hA3 10 (by omega) (by omega), hA1 10 (by omega)] at e7
  have e8 := z_a1 h7 (p := nI nb) (i := nb) rfl (by omega) (show nb + 1 ≤ 5 by omega)
  rw [a11, a14] at e8
  have e9 := z_bg h7 (i := nb) (by omega) (show nb + 1 ≤ 5 by omega) hs
  rw [upd_s] at e9
  have k7 : ∀ c, c < 11 ∨ (14 < c ∧ c < 100) → ad7 c = ad c := fun c hc => (hA7 c (by omega)).trans ((hA3 c (by omega) (by omega)).trans (hA1 c (by omega)))
  have o7 := q_oR h7
  obtain ⟨s10, ad10, e10, hA10, h10⟩ := c_newBowl h7 h5 hs hx (g := nI r) (by rw [i_lt, toInt_0]; omega) (by rw [i_le, i2000]; omega)
  rw [← SQ_ad (ad := ad7) (ad' := ad10) (fun c hc => hA10 c (by omega))] at h10
  rw [k7 0 (by omega)] at o7 e10
  have er : fL_act_p76 st (some (ad 0)) (some (ad 10)) a2 (nI nb) = some (1, s10) := by
    unfold fL_act_p76
    rw [ob_of _ (nQ_ok (m := nb + 1) (nI_1 _) (by omega) (by omega)), ob_of _ g1, ob_of _ (congrArg some n3), ob_of _ e3, ob_of _ e4, ob_of _ e5, ob_of _ r2, ob_of _ e6, ob_of _ e7, ob_of _ e8, ob_of _ e9, ob_of _ o7, ob_of _ (nxo e10)]
    exact e_ok rfl
  rw [er]
  obtain ⟨m1, m2, m3, m4, m5, m6, m7⟩ := hR.mono (D' := D + 5) (by omega)
  refine ⟨s10, _, _, _, _, _, _, _, _, _, rfl, ⟨ad10, _, _, _, _, (hA10 0 (by omega)).trans (k7 0 (by omega)), (hA10 10 (by omega)).trans (k7 10 (by omega)), h10⟩, ⟨by omega, m2, m3, m4, fun t ht => ?_, m6, m7⟩, ⟨by omega, Nat.le_refl _⟩, Int.le_refl _, ?_⟩
  · by_cases e : t = nb
    · rw [e, upd_s, upd_s, va_up_s]
      exact ⟨⟨by omega, by omega⟩, by decide, BC.of (by decide) (by decide) (by decide) (by decide) (by decide) (by decide)⟩
    · rw [upd_n _ _ e, upd_n _ _ e, va_up_n _ _ e]
      exact m5 t (by omega)
  · rw [if_neg (by omega), TT_gn, upd_s]
end ACTS4
