/-! ONE THING DONE TO BOTH, more -/
section SUMS
variable {nb ns nx i : Nat} {gB : Nat → Int32} {sS bX : Nat → Nat → Int32} {v : Int32} {f : Nat → Int32}
theorem TT_g (hi : i < nb) : TT nb ns nx (upd gB i v) sS bX = TT nb ns nx gB sS bX - (gB i).toInt + v.toInt := by
  have t := sumI_upd (f := fun k => (gB k).toInt) (g := fun k => (upd gB i v k).toInt) hi (fun k hk hn => by rw [upd_n _ _ hn])
  rw [upd_s] at t
  unfold TT
  rw [t]
  omega
theorem TT_gn : TT (nb + 1) ns nx (upd gB nb v) sS bX = TT nb ns nx gB sS bX + v.toInt := by
  have t : sumI (fun k => (upd gB nb v k).toInt) (nb + 1) = sumI (fun k => (gB k).toInt) nb + v.toInt := by
    show sumI (fun k => (upd gB nb v k).toInt) nb + (upd gB nb v nb).toInt = _
    rw [upd_s, sumI_congr fun k hk => by rw [upd_n _ _ (by omega)]]
  unfold TT
  rw [t]
  omega
theorem TT_s (hi : i < ns) : TT nb ns nx gB (va_up sS i f) bX = TT nb ns nx gB sS bX - 10 * ((sS i 0).toInt * (sS i 1).toInt) + 10 * ((f 0).toInt * (f 1).toInt) := by
  have t := sumI_upd (f := fun k => (sS k 0).toInt * (sS k 1).toInt) (g := fun k => (va_up sS i f k 0).toInt * (va_up sS i f k 1).toInt) hi (fun k hk hn => by rw [va_up_n _ _ hn])
  rw [va_up_s] at t
  unfold TT
  rw [t]
  omega
theorem TT_sn : TT nb (ns + 1) nx gB (va_up sS ns f) bX = TT nb ns nx gB sS bX + 10 * ((f 0).toInt * (f 1).toInt) := by
  have t : sumI (fun k => (va_up sS ns f k 0).toInt * (va_up sS ns f k 1).toInt) (ns + 1) = sumI (fun k => (sS k 0).toInt * (sS k 1).toInt) ns + (f 0).toInt * (f 1).toInt := by
    show sumI (fun k => (va_up sS ns f k 0).toInt * (va_up sS ns f k 1).toInt) ns + (va_up sS ns f ns 0).toInt * (va_up sS ns f ns 1).toInt = _
    rw [va_up_s, sumI_congr fun k hk => by rw [va_up_n _ _ (by omega)]]
  unfold TT
  rw [t]
  omega
theorem TT_sd (hi : i < ns) : TT nb (ns - 1) nx gB (fun t => sS (if t < i then t else t + 1)) bX = TT nb ns nx gB sS bX - 10 * ((sS i 0).toInt * (sS i 1).toInt) := by
  obtain ⟨n, rfl⟩ : ∃ n, ns = n + 1 := ⟨ns - 1, by omega⟩
  have t := sumI_del (f := fun k => (sS k 0).toInt * (sS k 1).toInt) hi
  unfold TT
  rw [Nat.add_sub_cancel, t]
  omega
theorem TT_xn : TT nb ns (nx + 1) gB sS (va_up bX nx f) = TT nb ns nx gB sS bX + 10 * ((f 2).toInt * (f 0).toInt) := by
  have t : sumI (fun k => (va_up bX nx f k 2).toInt * (va_up bX nx f k 0).toInt) (nx + 1) = sumI (fun k => (bX k 2).toInt * (bX k 0).toInt) nx + (f 2).toInt * (f 0).toInt := by
    show sumI (fun k => (va_up bX nx f k 2).toInt * (va_up bX nx f k 0).toInt) nx + (va_up bX nx f nx 2).toInt * (va_up bX nx f nx 0).toInt = _
    rw [va_up_s, sumI_congr fun k hk => by rw [va_up_n _ _ (by omega)]]
  unfold TT
  rw [t]
  omega
theorem FF_xn : FF (nx + 1) (va_up bX nx f) = FF nx bX + (f 2).toInt := by
  show sumI (fun k => (va_up bX nx f k 2).toInt) nx + (va_up bX nx f nx 2).toInt = _
  rw [va_up_s, sumI_congr fun k hk => by rw [va_up_n _ _ (by omega)]]
  rfl
end SUMS
section ACTS2
variable {st : DSt} {ad : Nat → Nat} {day : Int32} {nb ns nx : Nat} {gB wB : Nat → Int32} {cB sS bX : Nat → Nat → Int32} {f6 f7 g8 g9 : Nat → Int32} {a2 : Int32} {D : Int} {i j : Nat}
theorem RV.slab (h : RV D day nb ns nx gB wB cB sS bX) {f : Nat → Int32} (hn : RS day f) : RV D day nb ns nx gB wB cB (va_up sS i f) bX := by
  obtain ⟨h1, h2, h3, h4, h5, h6, h7⟩ := h
  refine ⟨h1, h2, h3, h4, h5, fun k hk => ?_, h7⟩
  by_cases e : k = i
  · rw [e, va_up_s]
    exact hn
  · rw [va_up_n _ _ e]
    exact h6 k hk
theorem RV.slabN (h : RV D day nb ns nx gB wB cB sS bX) (h8 : ns < 8) {f : Nat → Int32} (hn : RS day f) : RV D day nb (ns + 1) nx gB wB cB (va_up sS ns f) bX := by
  obtain ⟨h1, h2, h3, h4, h5, h6, h7⟩ := h
  refine ⟨h1, by omega, h3, h4, h5, fun k hk => ?_, h7⟩
  by_cases e : k = ns
  · rw [e, va_up_s]
    exact hn
  · rw [va_up_n _ _ e]
    exact h6 k (by omega)
theorem a_pour (h : NH st ad (CT ad day nb ns nx gB wB cB sS bX f6 f7 g8 g9 (SQ ad day nb ns nx nb ns nx gB wB cB sS bX none none))) (hR : RV D day nb ns nx gB wB cB sS bX) (hi : i < nb) (hj : j < nb) (hij : i ≠ j) (c2 : ¬ gB i + gB j = 0) (c3 : gB i + gB j ≤ 2000) : ACT (ad 0) (ad 10) D nb ns nx gB sS bX (fL_act_p395 st (some (ad 0)) (nI i) (some (ad (100 + i))) (nI j) (some (ad (100 + j))) (gB i) (gB j)) := by
  obtain ⟨hb, hs, hx, hd, rB, rS, rX⟩ := id hR
  obtain ⟨gi, wi, ki⟩ := rB i hi
  obtain ⟨gj, wj, kj⟩ := rB j hj
  obtain ⟨b1, e1, h1⟩ := p_loop1 h hR hi hj hij c2
  obtain ⟨s2, e2, h2⟩ := zw_w h1 hi hb hs (mixV (wB i) (wB j) (gB i) (gB j))
  obtain ⟨s3, e3, h3⟩ := zw_g h2 hi hb hs (gB i + gB j)
  obtain ⟨s4, e4, h4⟩ := zw_g h3 hj hb hs 0
  obtain ⟨b5, e5, h5⟩ := p_loop2 h4 hb hs hj
  rw [va_up_n _ _ (Ne.symm hij)] at h5
  have es : (gB i + gB j).toInt = (gB i).toInt + (gB j).toInt := i_add (by omega) (by omega)
  have c3' : (gB i).toInt + (gB j).toInt ≤ 2000 := by rw [i_le, es, i2000] at c3; exact c3
  have c2' : 0 < (gB i).toInt + (gB j).toInt := by rw [i_eq, es, toInt_0] at c2; omega
  obtain ⟨s6, e6, h6⟩ := t_pour h5 hb (i := j) (j := i) (p := nI j) (q := nI i) (ixO_nI hj (by omega)) (ixO_nI hi (by omega)) (fun q => hij ((nI_eq (by omega) (by omega)).mp q).symm) (by rw [Int32.add_comm]; exact c2) (by rw [Int32.add_comm]; exact c3) gj gi
  have er : fL_act_p395 st (some (ad 0)) (nI i) (some (ad (100 + i))) (nI j) (some (ad (100 + j))) (gB i) (gB j) = some (1, s6) := by
    unfold fL_act_p395
    rw [ob_of _ e1, ob_of _ (z_bw h1 hi hb hs), ob_of _ (z_bg h1 hi hb hs), ob_of _ (z_bw h1 hj hb hs), ob_of _ (z_bg h1 hj hb hs), ob_of _ (oD_of c2)]
    show (oB (pV b1.1 (some (ad (100 + i))) 5 1 (DI (mixV (wB i) (wB j) (gB i) (gB j)))) _) = _
    rw [ob_of _ e2, ob_of _ e3, ob_of _ e4, ob_of _ e5, ob_of _ (q_oR h5), ob_of _ (nxo e6)]
    exact e_ok rfl
  rw [er]
  have ai := mixV_w wi.1 wi.2 wj.1 wj.2 gi.1 gi.2 gj.1 gj.2 c2'
  have hm := (BC.mix ki kj gi.1 gi.2 gj.1 gj.2 c2').congr (likN_5 (cB i) (fun m => mixV (cB i m) (cB j m) (gB i) (gB j)))
  have hz : BC (likN (cB j) (fun _ => 0) 5) := (BC.of (f := fun _ => 0) (by decide) (by decide) (by decide) (by decide) (by decide) (by decide)).congr (likN_5 (cB j) (fun _ => 0))
  have hR1 := (hR.mono (D' := D + 5) (by omega)).bowl (i := i) (g := gB i + gB j) (w := mixV (wB i) (wB j) (gB i) (gB j)) (c := likN (cB i) (fun m => mixV (cB i m) (cB j m) (gB i) (gB j)) 5) ⟨⟨by omega, by omega⟩, ai, hm⟩
  have hR2 := hR1.bowl (i := j) (g := 0) (w := upd wB i (mixV (wB i) (wB j) (gB i) (gB j)) j) (c := likN (cB j) (fun _ => 0) 5) ⟨by decide, by rw [upd_n _ _ (Ne.symm hij)]; exact wj, hz⟩
  rw [upd_id] at hR2
  refine ⟨s6, _, _, _, _, _, _, _, _, _, rfl, ⟨ad, _, _, _, _, rfl, rfl, h6⟩, hR2, ⟨Nat.le_refl _, Nat.le_succ _⟩, Int.le_refl _, ?_⟩
  rw [if_pos rfl, TT_g hj, TT_g hi, upd_n _ _ (Ne.symm hij), es, toInt_0]
  omega
theorem a_polish (h : NH st ad (CT ad day nb ns nx gB wB cB sS bX f6 f7 g8 g9 (SQ ad day nb ns nx nb ns nx gB wB cB sS bX none none))) (hR : RV D day nb ns nx gB wB cB sS bX) (hi : i < ns) : ACT (ad 0) (ad 10) D nb ns nx gB sS bX (fL_act_p917 st (some (ad 0)) (nI i) (some (ad (130 + i)))) := by
  obtain ⟨hb, hs, hx, hd, rB, rS, rX⟩ := id hR
  obtain ⟨q0, q1, q2, q3, q4⟩ := rS i hi
  have a3 := z_sa h hi hs hs (p := 3) (k := 3) rfl (by omega)
  have e15 : (sS i 3 - 15).toInt = (sS i 3).toInt - 15 := by rw [i_sub] <;> rw [i15] <;> omega
  have ep : (if 15 ≤ sS i 3 then oB (aI st (some (ad (130 + i))) 0 3) fun v124 => some (v124 - 15) else some (0 : Int32)) = some (jmax 0 (sS i 3 - 15)) := by
    by_cases c : 15 ≤ sS i 3
    · rw [if_pos c, ob_of _ a3]
      congr 1
      rw [i_eq, i_max, e15, toInt_0]
      rw [i_le, i15] at c
      omega
    · rw [if_neg c]
      congr 1
      rw [i_eq, i_max, e15, toInt_0]
      rw [i_le, i15] at c
      omega
  obtain ⟨s1, e1, h1⟩ := zs_s h hi hs hs (p := 3) (k := 3) rfl (by omega) (jmax 0 (sS i 3 - 15))
  obtain ⟨s2, e2, h2⟩ := t_polish h1 hs (p := nI i) (ixO_nI hi (by omega))
  have b3 := z_sa h2 hi hs hs (p := 3) (k := 3) rfl (by omega)
  rw [va_up_s, upd_s] at b3
  have er : fL_act_p917 st (some (ad 0)) (nI i) (some (ad (130 + i))) = some (1, s2) := by
    unfold fL_act_p917
    rw [ob_of _ a3, ob_of _ ep, ob_of _ e1, ob_of _ (q_oR h1), ob_of _ (nxo e2), ob_of _ b3]
    exact e_ok rfl
  rw [er]
  have hm : (jmax 0 (sS i 3 - 15)).toInt = max 0 ((sS i 3).toInt - 15) := by rw [i_max, e15, toInt_0]
  have hR' := (hR.mono (D' := D + 5) (by omega)).slab (i := i) (f := upd (sS i) 3 (jmax 0 (sS i 3 - 15))) ⟨q0, q1, q2, by rw [upd_s]; omega, q4⟩
  refine ⟨s2, _, _, _, _, _, _, _, _, _, rfl, ⟨ad, _, _, _, _, rfl, rfl, h2⟩, hR', ⟨Nat.le_refl _, Nat.le_succ _⟩, Int.le_refl _, ?_⟩
  rw [if_pos rfl, TT_s hi, upd_n _ _ (by omega), upd_n _ _ (by omega)]
  omega
theorem m10 (a b : Int32) : (10 * a) * b = a * b * 10 := by rw [Int32.mul_assoc, Int32.mul_comm]
theorem sq_in {a b : Int32} (a1 : 1 ≤ a.toInt ∧ a.toInt ≤ 6) (b1 : 1 ≤ b.toInt ∧ b.toInt ≤ 6) : (a * b).toInt = a.toInt * b.toInt ∧ (a * b * 10).toInt = a.toInt * b.toInt * 10 ∧ 0 ≤ a.toInt * b.toInt ∧ a.toInt * b.toInt ≤ 36 := by
  have ab0 := Int.mul_nonneg (show 0 ≤ a.toInt by omega) (show 0 ≤ b.toInt by omega)
  have ab6 := Int.mul_le_mul a1.2 b1.2 (by omega) (by omega)
  have eab : (a * b).toInt = a.toInt * b.toInt := i_mul (by omega) (by omega)
  exact ⟨eab, by rw [i_mul] <;> rw [eab, i10] <;> omega, ab0, by omega⟩
theorem a_melt (h : NH st ad (CT ad day nb ns nx gB wB cB sS bX f6 f7 g8 g9 (SQ ad day nb ns nx nb ns nx gB wB cB sS bX none none))) (hR : RV D day nb ns nx gB wB cB sS bX) (hi : i < nb) (hj : j < ns) (w : gB i + (10 * sS j 0) * sS j 1 ≤ 2000) : ACT (ad 0) (ad 10) D nb ns nx gB sS bX (fL_act_p993 st (some (ad 0)) (some (ad 10)) (nI i) (nI j) (some (ad (100 + i))) (some (ad (130 + j)))) := by
  obtain ⟨hb, hs, hx, hd, rB, rS, rX⟩ := id hR
  obtain ⟨gi, wi, ki⟩ := rB i hi
  obtain ⟨q0, q1, q2, q3, q4⟩ := rS j hj
  rw [m10] at w
  obtain ⟨eab, eabt, ab0, ab6⟩ := sq_in q0 q1
  obtain ⟨s1, e1, h1⟩ := zw_g h hi hb hs (gB i + sS j 0 * sS j 1 * 10)
  obtain ⟨s4, ad4, e4', hA4, h4⟩ := z_without h1 hb hs hx (Nat.le_refl _) hs hj
  obtain ⟨s5, ad5, e5', hA5, h5⟩ := z_move2 (n := ns - 1) (e := fun t => if t < j then t else t + 1) h4 hb hs hx hs (by omega) hb hb hx (fun t ht => by split <;> omega) (fun t t' h1 h2 q => by split at q <;> split at q <;> omega)
  rw [hA4 10 (by omega)] at e5'
  obtain ⟨s6, e6, h6⟩ := t_melt h5 hb hs hx (i := j) (j := i) (p := nI j) (q := nI i) (ixO_nI hj (by omega)) (ixO_nI hi (by omega)) w
  have k5 : ∀ c, c < 12 ∨ (14 < c ∧ c < 130) → ad5 c = ad c := fun c hc => (hA5 c (by omega) (by omega)).trans (hA4 c (by omega))
  rw [← SQ_ad (ad := ad5) (ad' := rnA ad5 (fun t => if t < j then t else t + 1)) (fun c hc => rnA_lt (by omega))] at h6
  have k6 : ∀ c, c < 12 ∨ (100 ≤ c ∧ c < 130) → rnA ad5 (fun t => if t < j then t else t + 1) c = ad c := fun c hc => (rnA_lt (by omega)).trans (k5 c (by omega))
  have g6 := z_bg h6 hi hb (show ns - 1 ≤ 8 by omega)
  rw [k6 _ (by omega), upd_s] at g6
  have o5 := q_oR h5
  rw [k5 0 (by omega)] at o5 e6
  have er : fL_act_p993 st (some (ad 0)) (some (ad 10)) (nI i) (nI j) (some (ad (100 + i))) (some (ad (130 + j))) = some (1, s6) := by
    unfold fL_act_p993
    rw [ob_of _ (z_bg h hi hb hs), ob_of _ (z_sa h hj hs hs (p := 0) (k := 0) rfl (by omega)), ob_of _ (z_sa h hj hs hs (p := 1) (k := 1) rfl (by omega)), m10, ob_of _ e1, ob_of _ (z_r2 h1), ob_of _ e4', ob_of _ e5', ob_of _ o5, ob_of _ (nxo e6), ob_of _ g6]
    exact e_ok rfl
  rw [er]
  have esum : (gB i + sS j 0 * sS j 1 * 10).toInt = (gB i).toInt + (sS j 0).toInt * (sS j 1).toInt * 10 := by rw [i_add] <;> rw [eabt] <;> omega
  rw [i_le, esum, i2000] at w
  have hR1 := (hR.mono (D' := D + 5) (by omega)).bowl (i := i) (g := gB i + sS j 0 * sS j 1 * 10) (w := wB i) (c := cB i) ⟨⟨by omega, by omega⟩, wi, ki⟩
  rw [upd_id, up2_id] at hR1
  obtain ⟨m1, m2, m3, m4, m5, m6, m7⟩ := hR1
  refine ⟨s6, _, _, _, _, _, _, _, _, _, rfl, ⟨_, _, _, _, _, k6 0 (by omega), k6 10 (by omega), h6⟩, ⟨m1, by omega, m3, m4, m5, fun t ht => m6 _ (by split <;> omega), m7⟩, ⟨Nat.le_refl _, Nat.le_succ _⟩, Int.le_refl _, ?_⟩
  rw [if_pos rfl, TT_sd hj, TT_g hi, esum]
  omega
end ACTS2
